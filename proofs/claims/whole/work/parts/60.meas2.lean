theorem mes3_keep {σ σ' : xM} {T : xTw} {t n : Nat} (h : mes3 σ T t n) (f : Fr (fun c i => (c = 32 + t ∨ c = 41 + t) ∧ n ≤ i) σ σ') : mes3 σ' T t n := fun p hp => by
  rw [(f _ _ (by omega)).1, (f _ _ (by omega)).1]
  exact h p hp
theorem ol_meas129 {T : xTw} (hR : rgT T) {t : Nat} (ht : t < 8) {kt : xM → Option (Int32 × xM)} {Q : Int32 → xM → Prop} : ∀ (m p n : Nat) (s : xM), p + m = T 0 4 → m < n → xCT s T → mes3 s T t p → (∀ s', Fr (fun c _ => c = 32 + t ∨ c = 41 + t) s s' → mes3 s' T t (T 0 4) → Ok (kt s') Q) → Ok (fX8_measure_L129 kt (nI t) t n (nI p) s) Q := by
  have h8 := rg_stops hR
  have a := rg_from hR ht
  have b := rg_to hR ht
  have e := rg_tsort hR ht
  intro m
  induction m with
  | zero =>
    intro p n s hp hn hT hm kk
    obtain ⟨n, rfl⟩ : ∃ n', n = n' + 1 := ⟨n - 1, by omega⟩
    have : p = T 0 4 := by omega
    unfold fX8_measure_L129
    refine ok_T (by rw [xT_stops hT.1]; exact nI_le (by omega) (by omega)) ?_
    rw [this] at hm
    exact kk s Fr_rf hm
  | succ m ih =>
    intro p n s hp hn hT hm kk
    obtain ⟨n, rfl⟩ : ∃ n', n = n' + 1 := ⟨n - 1, by omega⟩
    have hp8 : p < 8 := by omega
    have c := rg_cell hR hp8
    unfold fX8_measure_L129
    refine ok_F (by rw [xT_stops hT.1]; exact nI_ge (by omega) (by omega)) ?_
    simp (disch := omega) only [ok_gd, inb_n, nI_clamp, xT_from hT.1 ht, xT_cell hT.1 hp8, xT_tsort hT.1 ht, true_and]
    refine ok_B (of_walkSeconds hR hT.1 hT.2.2 (by omega) (by omega) (by omega) ?_)
    simp (disch := omega) only [ok_gd, ok_lz, inb_n, true_and]
    have f1 : Fr (fun c _ => c = 32 + t ∨ c = 41 + t) s (si s (32 + t) p (nI (wkS T (T 10 t) (T 4 p) (T 13 t)))) := Fr_si Fr_rf _ (Or.inl rfl)
    have hT1 := xCT_fr hT f1 (fun c i q => by omega)
    rw [xT_cell hT1.1 hp8, xT_to hT1.1 ht, xT_tsort hT1.1 ht]
    refine ok_B (of_walkSeconds hR hT1.1 hT1.2.2 (by omega) (by omega) (by omega) ?_)
    simp (disch := omega) only [ok_gd, ok_lz, inb_n, true_and]
    rw [nI_1]
    have f2 : Fr (fun c _ => c = 32 + t ∨ c = 41 + t) s (si (si s (32 + t) p (nI (wkS T (T 10 t) (T 4 p) (T 13 t)))) (41 + t) p (nI (wkS T (T 4 p) (T 11 t) (T 13 t)))) := Fr_si f1 _ (Or.inr rfl)
    refine ih (p + 1) n _ (by omega) (by omega) (xCT_fr hT f2 (fun c i q => by omega)) ?_ (fun s' f => kk s' (Fr_tr f2 f))
    intro q hq
    by_cases e : q = p
    · subst e
      exact ⟨by rw [gi_si, if_neg (by omega), gi_same], gi_same _ _ _ _⟩
    · rw [gi_si, if_neg (by omega), gi_si, if_neg (by omega), gi_si, if_neg (by omega), gi_si, if_neg (by omega)]
      exact hm q (by omega)
def frS2 (c _i : Nat) : Prop := c = 30 ∨ (32 ≤ c ∧ c ≤ 39) ∨ (41 ≤ c ∧ c ≤ 48)
theorem ol_meas81 {T : xTw} (hR : rgT T) {kt : xM → Option (Int32 × xM)} {Q : Int32 → xM → Prop} : ∀ (m t n : Nat) (s : xM), t + m = T 0 12 → m < n → xCT s T → mes2 s T t → (∀ s', Fr frS2 s s' → mes2 s' T (T 0 12) → Ok (kt s') Q) → Ok (fX8_measure_L81 kt n (nI t) s) Q := by
  have h8 := rg_trips hR
  have g8 := rg_stops hR
  intro m
  induction m with
  | zero =>
    intro t n s ht hn hT hm kk
    obtain ⟨n, rfl⟩ : ∃ n', n = n' + 1 := ⟨n - 1, by omega⟩
    have : t = T 0 12 := by omega
    unfold fX8_measure_L81
    refine ok_T (by rw [xT_trips hT.1]; exact nI_le (by omega) (by omega)) ?_
    rw [this] at hm
    exact kk s Fr_rf hm
  | succ m ih =>
    intro t n s ht0 hn hT hm kk
    obtain ⟨n, rfl⟩ : ∃ n', n = n' + 1 := ⟨n - 1, by omega⟩
    obtain ⟨f, hf⟩ := fu_big
    have ht : t < 8 := by omega
    have a := rg_from hR ht
    have b := rg_to hR ht
    have e := rg_tsort hR ht
    unfold fX8_measure_L81
    refine ok_F (by rw [xT_trips hT.1]; exact nI_ge (by omega) (by omega)) ?_
    simp (disch := omega) only [ok_gd, inb_n, nI_clamp, xT_from hT.1 ht, xT_to hT.1 ht, xT_tsort hT.1 ht, true_and]
    refine ok_B (of_walkSeconds hR hT.1 hT.2.2 (by omega) (by omega) (by omega) ?_)
    simp (disch := omega) only [ok_gd, ok_lz, inb_n, true_and]
    have f1 : Fr frS2 s (si s 30 t (nI (wkS T (T 10 t) (T 11 t) (T 13 t)))) := Fr_si Fr_rf _ (Or.inl rfl)
    have hT1 := xCT_fr hT f1 (fun c i q => by unfold frS2 at q; omega)
    rw [hf]
    refine ol_meas129 hR ht (T 0 4) 0 (f + 4000) _ (by omega) (by omega) hT1 (fun p hp => absurd hp (by omega)) (fun s' f2 h3 => ?_)
    rw [nI_1]
    have f3 : Fr frS2 s s' := Fr_tr f1 (Fr_mono f2 (fun c i q => by unfold frS2; omega))
    refine ih (t + 1) n s' (by omega) (by omega) (xCT_fr hT f3 (fun c i q => by unfold frS2 at q; omega)) ?_ (fun s2 f4 => kk s2 (Fr_tr f3 f4))
    intro u hu
    by_cases e : u = t
    · subst e
      exact ⟨by rw [(f2 30 u (by omega)).1, gi_same]; rfl, h3⟩
    · have h := hm u (by omega)
      refine ⟨?_, fun p hp => ?_⟩
      · rw [(f2 30 u (by omega)).1, gi_si, if_neg (by omega)]
        exact h.1
      · rw [(f2 (32 + u) p (by omega)).1, (f2 (41 + u) p (by omega)).1, gi_si, if_neg (by omega), gi_si, if_neg (by omega)]
        exact h.2 p hp
theorem of_measure {T : xTw} (hR : rgT T) {s : xM} {Q : Int32 → xM → Prop} (hT : xCT s T) (kk : ∀ s', Fr frS s s' → Meas s' T → Q 0 s') : Ok (fX8_measure s) Q := by
  have g8 := rg_stops hR
  have h8 := rg_trips hR
  obtain ⟨f, hf⟩ := fu_big
  unfold fX8_measure
  rw [hf]
  refine ol_meas2 hR (T 0 4) 0 (f + 4000) s (by omega) (by omega) hT (fun p hp => absurd hp (by omega)) (fun s1 f1 m1 => ?_)
  refine ol_meas81 hR (T 0 12) 0 (f + 4000) s1 (by omega) (by omega) (xCT_fr hT f1 (fun _ _ => frS_27)) (fun p hp => absurd hp (by omega)) (fun s2 f2 m2 => ok_R ?_)
  refine kk s2 (Fr_tr f1 (Fr_mono f2 (fun c i q => by unfold frS2 at q; unfold frS; omega))) ⟨fun p hp => ?_, m2⟩
  rw [(f2 28 p (by unfold frS2; omega)).1, (f2 29 p (by unfold frS2; omega)).1]
  exact m1 p hp
