/-! ===== filling a row ===== -/
theorem ol_fill {c N : Nat} {v : Int32} (hN : N ≤ 200) {kt : xM → Option (Int32 × xM)} {Q : Int32 → xM → Prop} : ∀ (m i n : Nat) (s : xM), i + m = N → m < n → (∀ j, j < i → gi s c j = v) → (∀ s', Fr (fun d j => d = c ∧ j < N) s s' → (∀ j, j < N → gi s' c j = v) → Ok (kt s') Q) → Ok (fJ7_fill_53178_L5 kt c N v (nI N) n (nI i) s) Q := by
  intro m
  induction m with
  | zero =>
    intro i n s hi hn hv kk
    obtain ⟨n, rfl⟩ : ∃ n', n = n' + 1 := ⟨n - 1, by omega⟩
    unfold fJ7_fill_53178_L5
    refine ok_T (nI_le (by omega) (by omega)) ?_
    exact kk s Fr_rf (fun j hj => hv j (by omega))
  | succ m ih =>
    intro i n s hi hn hv kk
    obtain ⟨n, rfl⟩ : ∃ n', n = n' + 1 := ⟨n - 1, by omega⟩
    unfold fJ7_fill_53178_L5
    refine ok_F (nI_ge (by omega) (by omega)) ?_
    refine ok_G (inb_n (by omega) (by omega)) ?_
    refine ok_lz.mpr ?_
    rw [nI_1, nI_clamp (by omega)]
    refine ih (i + 1) n _ (by omega) (by omega) ?_ ?_
    · intro j hj
      rw [gi_si]
      by_cases e : j = i
      · rw [if_pos ⟨rfl, e⟩]
      · rw [if_neg (fun h => e h.2)]
        exact hv j (by omega)
    · intro s' f h
      exact kk s' (Fr_tr (Fr_si Fr_rf _ ⟨rfl, by omega⟩) f) h
theorem of_fill {c N : Nat} {v : Int32} (hN : N ≤ 200) {s : xM} {Q : Int32 → xM → Prop} (kk : ∀ s', Fr (fun d j => d = c ∧ j < N) s s' → (∀ j, j < N → gi s' c j = v) → Q 0 s') : Ok (fJ7_fill_53178 c N v s) Q := by
  obtain ⟨f, hf⟩ := fu_big
  unfold fJ7_fill_53178
  rw [hf]
  refine ok_lz.mpr ?_
  exact ol_fill hN N 0 _ s (by omega) (by omega) (fun j h => absurd h (by omega)) (fun s' f h => ok_R (kk s' f h))
/-! ===== what measure leaves ===== -/
def mes1 (σ : xM) (T : xTw) (n : Nat) : Prop := ∀ p, p < n → gi σ 28 p = nI (carS T p) ∧ gi σ 29 p = nI (secS T p)
def mes3 (σ : xM) (T : xTw) (t n : Nat) : Prop := ∀ p, p < n → gi σ (32 + t) p = nI (wkS T (T 10 t) (T 4 p) (T 13 t)) ∧ gi σ (41 + t) p = nI (wkS T (T 4 p) (T 11 t) (T 13 t))
def mes2 (σ : xM) (T : xTw) (n : Nat) : Prop := ∀ t, t < n → gi σ 30 t = nI (dirS T t) ∧ mes3 σ T t (T 0 4)
def Meas (σ : xM) (T : xTw) : Prop := mes1 σ T (T 0 4) ∧ mes2 σ T (T 0 12)
def frS (c _i : Nat) : Prop := 28 ≤ c ∧ c ≤ 48 ∧ c ≠ 31 ∧ c ≠ 40
theorem frS_off {c i : Nat} (h : frS c i) : xoff c i := by
  unfold frS at h
  unfold xoff
  omega
theorem xKA_fr {P : Nat → Nat → Prop} {σ σ' : xM} {T : xTw} (h : xKA σ T) (f : Fr P σ σ') (hp : ∀ c i, P c i → c < 11 ∨ 18 < c) : xKA σ' T := fun p hp8 => by
  rw [(f _ _ (fun q => by have := hp _ _ q; omega)).1]
  exact h p hp8
theorem xCl_fr {P : Nat → Nat → Prop} {σ σ' : xM} {T : xTw} (h : xCl σ T) (f : Fr P σ σ') (hp : ∀ c i, P c i → c ≠ 3 ∧ c ≠ 4) : xCl σ' T := fun p hp8 => by
  rw [(f _ _ (fun q => (hp _ _ q).1 rfl)).1, (f _ _ (fun q => (hp _ _ q).2 rfl)).1]
  exact h p hp8
/-- the class's town -/
def xCT (σ : xM) (T : xTw) : Prop := xTn σ T ∧ xKA σ T ∧ xCl σ T
theorem xCT_fr {P : Nat → Nat → Prop} {σ σ' : xM} {T : xTw} (h : xCT σ T) (f : Fr P σ σ') (hp : ∀ c i, P c i → 27 ≤ c) : xCT σ' T := ⟨xTn_fr h.1 f (fun c i q => Or.inr (Or.inl (hp c i q))), xKA_fr h.2.1 f (fun c i q => Or.inr (by have := hp c i q; omega)), xCl_fr h.2.2 f (fun c i q => by have := hp c i q; omega)⟩
theorem frS_27 {c i : Nat} (h : frS c i) : 27 ≤ c := by
  unfold frS at h
  omega
theorem ol_meas2 {T : xTw} (hR : rgT T) {kt : xM → Option (Int32 × xM)} {Q : Int32 → xM → Prop} : ∀ (m p n : Nat) (s : xM), p + m = T 0 4 → m < n → xCT s T → mes1 s T p → (∀ s', Fr frS s s' → mes1 s' T (T 0 4) → Ok (kt s') Q) → Ok (fX8_measure_L2 kt n (nI p) s) Q := by
  have h8 := rg_stops hR
  intro m
  induction m with
  | zero =>
    intro p n s hp hn hT hm kk
    obtain ⟨n, rfl⟩ : ∃ n', n = n' + 1 := ⟨n - 1, by omega⟩
    have : p = T 0 4 := by omega
    unfold fX8_measure_L2
    refine ok_T (by rw [xT_stops hT.1]; exact nI_le (by omega) (by omega)) ?_
    rw [this] at hm
    exact kk s Fr_rf hm
  | succ m ih =>
    intro p n s hp hn hT hm kk
    obtain ⟨n, rfl⟩ : ∃ n', n = n' + 1 := ⟨n - 1, by omega⟩
    have hp8 : p < 8 := by omega
    have g := rg_pattern hR hp8
    have w := rg_wanted hR hp8
    unfold fX8_measure_L2
    refine ok_F (by rw [xT_stops hT.1]; exact nI_ge (by omega) (by omega)) ?_
    simp (disch := omega) only [inb_n, gd_t, nI_clamp, xT_pattern hT.1, e_carsBy hR hT.1 hT.2.1 hp8, bd_some, lz]
    have f1 : Fr frS s (si s 28 p (nI (carP (srvS T p) (T 9 p)))) := Fr_si Fr_rf _ (by unfold frS; omega)
    have hT1 := xCT_fr hT f1 (fun _ _ => frS_27)
    rw [xT_wanted hT1.1 hp8, e_secondsIf hR hT1.1 hp8 w, bd_some, nI_1]
    have f2 : Fr frS s (si (si s 28 p (nI (carP (srvS T p) (T 9 p)))) 29 p (nI (secB T p (T 8 p)))) := Fr_si f1 _ (by unfold frS; omega)
    refine ih (p + 1) n _ (by omega) (by omega) (xCT_fr hT f2 (fun _ _ => frS_27)) ?_ (fun s' f => kk s' (Fr_tr f2 f))
    intro q hq
    by_cases e : q = p
    · subst e
      exact ⟨by rw [gi_si, if_neg (by omega), gi_same]; rfl, gi_same _ _ _ _⟩
    · rw [gi_si, if_neg (by omega), gi_si, if_neg (by omega), gi_si, if_neg (by omega), gi_si, if_neg (by omega)]
      exact hm q (by omega)
