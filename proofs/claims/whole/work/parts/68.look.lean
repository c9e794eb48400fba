/-! ===== a look at a set ===== -/
/-- what the loop over trips stands on -/
def onL (s : xM) (T : xTw) : Prop := xTk s T ∧ memS s (memL T (T 0 4)) ∧ mes2 s T (T 0 12) ∧ (∀ p q, p < T 0 4 → q < T 0 4 → p ≠ q → T 7 p = 1 → T 7 q = 1 → good s T p q)
theorem onL_B {s : xM} {T : xTw} {t : Nat} (h : onL s T) (ht : t < T 0 12) : onB s T t := ⟨h.1, h.2.1, (h.2.2.1 t ht).1, (h.2.2.1 t ht).2, h.2.2.2⟩
def frK (c _i : Nat) : Prop := 71 ≤ c ∧ c ≤ 76
theorem frD_K {t c i : Nat} (h : frD t c i) : frK c i := ⟨h.1, h.2.1⟩
theorem onL_fr {s s' : xM} {T : xTw} (h : onL s T) (f : Fr frK s s') (h8 : T 0 4 ≤ 8) (h12 : T 0 12 ≤ 8) : onL s' T := by
  refine ⟨xTk_fr h.1 f (fun c i q => ?_), ⟨?_, fun i hi => ?_⟩, fun t ht => ⟨?_, fun p hp => ?_⟩, fun p q hp hq hpq op oq => ?_⟩
  · unfold frK at q
    unfold xoff
    omega
  · rw [(f 27 7 (by unfold frK; omega)).1]
    exact h.2.1.1
  · rw [(f 49 i (by unfold frK; omega)).1]
    exact h.2.1.2 i hi
  · rw [(f 30 t (by unfold frK; omega)).1]
    exact (h.2.2.1 t ht).1
  · rw [(f (32 + t) p (by unfold frK; omega)).1, (f (41 + t) p (by unfold frK; omega)).1]
    exact (h.2.2.1 t ht).2 p hp
  · have g := h.2.2.2 p q hp hq hpq op oq
    unfold good
    rw [(f (54 + p) q (by unfold frK; omega)).1, (f (63 + p) q (by unfold frK; omega)).1]
    exact g
theorem lookT_fr {s s' : xM} {T : xTw} {t u : Nat} (h : lookT s T u) (f : Fr (frD t) s s') (hu : u ≠ t) : lookT s' T u := by
  unfold lookT bstX at h ⊢
  rw [(f 71 u (by unfold frD; omega)).1, (f 72 u (by unfold frD; omega)).1, (f 73 u (by unfold frD; omega)).1, (f 74 u (by unfold frD; omega)).1, (f 75 u (by unfold frD; omega)).1, (f 76 u (by unfold frD; omega)).1]
  exact h
def lookS (s : xM) (T : xTw) : Prop := ∀ t, t < T 0 12 → lookT s T t
theorem ol_look118 {T : xTw} (hR : rgT T) {kt : xM → Option (Int32 × xM)} {Q : Int32 → xM → Prop} : ∀ (m t n : Nat) (s : xM), t + m = T 0 12 → m < n → onL s T → (∀ u, u < t → lookT s T u) → (∀ s', Fr frK s s' → lookS s' T → Ok (kt s') Q) → Ok (fX8_look_L118 kt n (nI t) s) Q := by
  have h8 := rg_stops hR
  have h12 := rg_trips hR
  intro m
  induction m with
  | zero =>
    intro t n s ht hn hO hx kk
    obtain ⟨n, rfl⟩ : ∃ n', n = n' + 1 := ⟨n - 1, by omega⟩
    unfold fX8_look_L118
    refine ok_T (by rw [xK_trips hO.1]; exact nI_le (by omega) (by omega)) ?_
    exact kk s Fr_rf (fun u hu => hx u (by omega))
  | succ m ih =>
    intro t n s ht hn hO hx kk
    obtain ⟨n, rfl⟩ : ∃ n', n = n' + 1 := ⟨n - 1, by omega⟩
    unfold fX8_look_L118
    refine ok_F (by rw [xK_trips hO.1]; exact nI_ge (by omega) (by omega)) ?_
    refine ok_B (of_findBest hR (by omega) (onL_B hO (by omega)) (fun s' f w => ?_))
    rw [nI_1]
    have f2 : Fr frK s s' := Fr_mono f (fun c i q => frD_K q)
    refine ih (t + 1) n s' (by omega) (by omega) (onL_fr hO f2 h8 h12) (fun u hu => ?_) (fun s2 f3 => kk s2 (Fr_tr f2 f3))
    by_cases e : u = t
    · rw [e]
      exact w
    · exact lookT_fr (hx u (by omega)) f e
/-- what a look writes -/
def frL (c i : Nat) : Prop := (c = 27 ∧ i = 7) ∨ c = 49 ∨ c = 51 ∨ c = 52 ∨ (54 ≤ c ∧ c ≤ 61) ∨ (63 ≤ c ∧ c ≤ 76)
theorem of_look {T : xTw} (hR : rgT T) {s : xM} {Q : Int32 → xM → Prop} (hK : xTk s T) (hM : Meas s T) {a1 a2 : Int32} (ha : a2 = nI (T 0 2)) (hb : ∀ p, p < T 0 4 → (a1 &&& ((1 : Int32) <<< (nI p &&& 31)) = 0 ↔ ¬ T 7 p = 1)) (kk : ∀ s', Fr frL s s' → lookS s' T → Q 0 s') : Ok (fX8_look a1 a2 s) Q := by
  have h8 := rg_stops hR
  have h12 := rg_trips hR
  have hl := memL_len T (T 0 4)
  obtain ⟨f, hf⟩ := fu_big
  subst ha
  unfold fX8_look
  refine ok_lz.mpr ?_
  have f0 : Fr frL s (si s 27 7 0) := Fr_si Fr_rf _ (Or.inl ⟨rfl, rfl⟩)
  have frLx : ∀ c i, frL c i → xoff c i := fun c i q => by unfold frL at q; unfold xoff; omega
  have hK0 := xTk_fr hK f0 frLx
  rw [hf]
  refine ol_look7 hR hb (T 0 4) 0 (f + 4000) _ (by omega) (by omega) (xK_stops hK0) ⟨gi_same _ _ _ _, fun i hi => absurd hi (Nat.not_lt_zero _)⟩ (fun s1 f1 m1 => ?_)
  have g1 : Fr frL s s1 := Fr_tr f0 (Fr_mono f1 (fun c i q => by unfold frB at q; unfold frL; omega))
  have mes : ∀ s', Fr frL s s' → mes1 s' T (T 0 4) := fun s' g p hp => by
    rw [(g 28 p (by unfold frL; omega)).1, (g 29 p (by unfold frL; omega)).1]
    exact hM.1 p hp
  refine ok_B (of_stood hR (c := 0) (by omega) (xTk_fr hK g1 frLx) m1 (mes s1 g1) (fun s2 f2 x2 => ?_))
  have g2 : Fr frL s s2 := Fr_tr g1 (Fr_mono f2 (fun c i q => by unfold frL; omega))
  have m2 : memS s2 (memL T (T 0 4)) := ⟨by rw [(f2 27 7 (by omega)).1]; exact m1.1, fun i hi => by rw [(f2 49 i (by omega)).1]; exact m1.2 i hi⟩
  refine ok_B (of_stood hR (c := 1) (by omega) (xTk_fr hK g2 frLx) m2 (mes s2 g2) (fun s3 f3 x3 => ?_))
  have g3 : Fr frL s s3 := Fr_tr g2 (Fr_mono f3 (fun c i q => by unfold frL; omega))
  have m3 : memS s3 (memL T (T 0 4)) := ⟨by rw [(f3 27 7 (by omega)).1]; exact m2.1, fun i hi => by rw [(f3 49 i (by omega)).1]; exact m2.2 i hi⟩
  have sx : stdX s3 T := by
    intro c hc x hx
    rcases (show c = 0 ∨ c = 1 by omega) with e | e
    · subst e
      rw [(f3 51 x (by omega)).1]
      exact x2 x hx
    · subst e
      exact x3 x hx
  rw [show (0 : Int32) = nI 0 from rfl]
  refine ol_look64 hR rfl (memL T (T 0 4)).length 0 (f + 4000) s3 (by omega) (by omega) ⟨xTk_fr hK g3 frLx, sx, mes s3 g3, m3⟩ (fun a b hab hb2 hc => absurd hc (by omega)) (fun s4 f4 w4 => ?_)
  have g4 : Fr frL s s4 := Fr_tr g3 (Fr_mono f4 (fun c i q => by unfold frQ at q; unfold frL; omega))
  refine ol_look118 hR (T 0 12) 0 (f + 4000) s4 (by omega) (by omega) ⟨xTk_fr hK g4 frLx, ⟨?_, fun i hi => ?_⟩, fun t ht => ⟨?_, fun p hp => ?_⟩, w4⟩ (fun u hu => absurd hu (Nat.not_lt_zero _)) (fun s5 f5 w5 => ok_R (kk s5 (Fr_tr g4 (Fr_mono f5 (fun c i q => by unfold frK at q; unfold frL; omega))) w5))
  · rw [(f4 27 7 (by unfold frQ; omega)).1]
    exact m3.1
  · rw [(f4 49 i (by unfold frQ; omega)).1]
    exact m3.2 i hi
  · rw [(g4 30 t (by unfold frL; omega)).1]
    exact (hM.2 t ht).1
  · rw [(g4 (32 + t) p (by unfold frL; omega)).1, (g4 (41 + t) p (by unfold frL; omega)).1]
    exact (hM.2 t ht).2 p hp
