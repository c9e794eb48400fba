/-! ===== who stays home ===== -/
def nmT (T : xTw) (t : Nat) : Nat → Int32 := fun k => if k = 0 then nI (bstS T t).1 else if k = 1 then nI (wayW T t (bstS T t)) else if k = 2 then nI (wayA T (bstS T t)) else if k = 3 then nI (wayR T (bstS T t)) else if k = 4 then nI (T 12 t) else nI (T 13 t)
def hmB (K E : Nat → Nat) (T : xTw) (t : Nat) : Nat := if vS K E 0 (nmT T t) = 0 then 0 else 1
theorem hmB_le (K E : Nat → Nat) (T : xTw) (t : Nat) : hmB K E T t ≤ 1 := by
  unfold hmB
  split <;> omega
/-- those who stay home, as bits -/
def hmS (K E : Nat → Nat) (T : xTw) (n : Nat) : Nat := sumN (fun t => hmB K E T t * 2 ^ t) n
theorem bits_lt {b : Nat → Nat} : ∀ n, (∀ p, p < n → b p ≤ 1) → sumN (fun p => b p * 2 ^ p) n < 2 ^ n
  | 0, _ => Nat.one_pos
  | n + 1, h => by
    have h1 := bits_lt n (fun p hp => h p (by omega))
    have h2 : b n * 2 ^ n ≤ 1 * 2 ^ n := Nat.mul_le_mul (h n (by omega)) (Nat.le_refl _)
    show sumN (fun p => b p * 2 ^ p) n + b n * 2 ^ n < 2 ^ (n + 1)
    rw [Nat.pow_succ]
    omega
theorem hmS_lt (K E : Nat → Nat) (T : xTw) (n : Nat) : hmS K E T n < 2 ^ n := bits_lt n (fun p _ => hmB_le K E T p)
/-- at another EVERY -/
def evT (T : xTw) (e : Nat) : xTw := up T 0 2 e
theorem evT_rg {T : xTw} (hR : rgT T) {e : Nat} (h1 : 1 ≤ e) (h2 : e ≤ 3600) : rgT (evT T e) := rgT_up hR (show e ≤ 3600 from h2) (fun _ _ => h1)
theorem evT_ne {T : xTw} {e c i : Nat} (h : ¬ (c = 0 ∧ i = 2)) : evT T e c i = T c i := up_ne h
theorem evT_self {T : xTw} : evT T (T 0 2) = T := up_id rfl
theorem like_ev (T : xTw) (e : Nat) : likeM T (evT T e) := ⟨evT_ne (by omega), evT_ne (by omega), fun c i h _ => evT_ne (by omega)⟩
def frN (c i : Nat) : Prop := frL c i ∨ c = 91 ∨ (97 ≤ c ∧ c ≤ 120 ∧ c % 4 = 0)
theorem frN_ask {c i : Nat} (h : frN c i) : xAsk c i := by
  unfold frN frL at h
  unfold xAsk
  omega
def frZ (c _i : Nat) : Prop := c = 91 ∨ (97 ≤ c ∧ c ≤ 120 ∧ c % 4 = 0)
theorem xMe_frN {σ σ' : xM} {T : xTw} (h : xMe σ T) (hR : rgT T) (f : Fr frN σ σ') : xMe σ' T := by
  have h8 := rg_stops hR
  have h12 := rg_trips hR
  refine ⟨xCT_fr h.1 f (fun c i q => by unfold frN frL at q; omega), fun p hp => ?_, fun t ht => ⟨?_, fun p hp => ?_⟩⟩
  · rw [(f 28 p (by unfold frN frL; omega)).1, (f 29 p (by unfold frN frL; omega)).1]
    exact h.2.1 p hp
  · rw [(f 30 t (by unfold frN frL; omega)).1]
    exact (h.2.2 t ht).1
  · rw [(f (32 + t) p (by unfold frN frL; omega)).1, (f (41 + t) p (by unfold frN frL; omega)).1]
    exact (h.2.2 t ht).2 p hp
theorem lookS_frZ {s s' : xM} {T : xTw} (h : lookS s T) (f : Fr frZ s s') : lookS s' T := fun t ht => by
  have q := h t ht
  unfold lookT bstX at q ⊢
  rw [(f 71 t (by unfold frZ; omega)).1, (f 72 t (by unfold frZ; omega)).1, (f 73 t (by unfold frZ; omega)).1, (f 74 t (by unfold frZ; omega)).1, (f 75 t (by unfold frZ; omega)).1, (f 76 t (by unfold frZ; omega)).1]
  exact q
theorem ol_homes19 {K E : Nat → Nat} (hK : txK K E) {w : Nat} (hw : w < 6) {T : xTw} (hR : rgT T) {σ0 : xM} (hX0 : txX σ0 w K E) (hk0 : xTk σ0 T) (hL0 : lookS σ0 T) {Q : Int32 → xM → Prop} (kk : ∀ σ', Fr frZ σ0 σ' → Q (nI (hmS K E T (T 0 12))) σ') : ∀ (m t n : Nat) (s : xM), t + m = T 0 12 → m < n → Fr frZ σ0 s → Ok (fX9_homesIf_L19 (fun x7 s8 => some (x7, s8)) n (nI (hmS K E T t)) (nI t) s) Q := by
  have h12 := rg_trips hR
  intro m
  induction m with
  | zero =>
    intro t n s ht hn f
    obtain ⟨n, rfl⟩ : ∃ n', n = n' + 1 := ⟨n - 1, by omega⟩
    have hk := xTk_fr hk0 f (fun c i q => by unfold frZ at q; unfold xoff; omega)
    unfold fX9_homesIf_L19
    refine ok_T (by rw [xK_trips hk]; exact nI_le (by omega) (by omega)) (ok_R ?_)
    rw [show t = T 0 12 by omega]
    exact kk s f
  | succ m ih =>
    intro t n s ht hn f
    obtain ⟨n, rfl⟩ : ∃ n', n = n' + 1 := ⟨n - 1, by omega⟩
    have ht8 : t < 8 := by omega
    have fo : ∀ c i, frZ c i → xoff c i := fun c i q => by unfold frZ at q; unfold xoff; omega
    have ff : ∀ c i, frZ c i → xFree c i := fun c i q => by unfold frZ at q; unfold xFree; omega
    have hk := xTk_fr hk0 f fo
    have h128 : 2 ^ t ≤ 2 ^ 7 := Nat.pow_le_pow_right (by omega) (by omega)
    have hl := hmS_lt K E T t
    unfold fX9_homesIf_L19
    refine ok_F (by rw [xK_trips hk]; exact nI_ge (by omega) (by omega)) ?_
    simp (disch := omega) only [ok_gd, ok_lz, inb_n, true_and, nI_clamp, nI_1]
    have z : ∀ (s1 : xM) (i c j : Nat) (v : Int32), c ≠ 91 → gi (si s1 91 i v) c j = gi s1 c j := fun s1 i c j v q => by rw [gi_si, if_neg (by omega)]
    simp (disch := omega) only [z]
    obtain ⟨⟨l71, l72, l73⟩, l74, l75, l76⟩ := lookS_frZ hL0 f t (by omega)
    rw [l71, l74, l75, l76, xK_many hk ht8, xK_tsort hk ht8]
    have f2 : Fr frZ σ0 (si (si (si (si (si (si s 91 0 (nI (bstS T t).1)) 91 1 (nI (wayW T t (bstS T t)))) 91 2 (nI (wayA T (bstS T t)))) 91 3 (nI (wayR T (bstS T t)))) 91 4 (nI (T 12 t))) 91 5 (nI (T 13 t))) := by
      refine Fr_si (Fr_si (Fr_si (Fr_si (Fr_si (Fr_si f _ ?_) _ ?_) _ ?_) _ ?_) _ ?_) _ ?_
      all_goals exact Or.inl rfl
    have hN : ∀ k, k < 6 → gi (si (si (si (si (si (si s 91 0 (nI (bstS T t).1)) 91 1 (nI (wayW T t (bstS T t)))) 91 2 (nI (wayA T (bstS T t)))) 91 3 (nI (wayR T (bstS T t)))) 91 4 (nI (T 12 t))) 91 5 (nI (T 13 t))) 91 k = nmT T t k := by
      intro k hk
      rcases (show k = 0 ∨ k = 1 ∨ k = 2 ∨ k = 3 ∨ k = 4 ∨ k = 5 by omega) with rfl | rfl | rfl | rfl | rfl | rfl <;> rfl
    have hX2 := txX_fr hX0 f2 ff
    have e6 := (txX_fr hX0 f ff).1
    rw [e6]
    simp (disch := omega) only [inb_n, true_and, nI_clamp]
    refine ok_B (of_valueOf hK hw (q := 0) (by omega) hX2 hN (fun s3 f3 => ?_))
    have f4 : Fr frZ σ0 s3 := Fr_tr f2 (Fr_mono f3 (fun c i q => Or.inr (by omega)))
    have go := ih (t + 1) n s3 (by omega) (by omega) f4
    have es : hmS K E T (t + 1) = hmS K E T t + hmB K E T t * 2 ^ t := rfl
    rw [es] at go
    by_cases c : vS K E 0 (nmT T t) = 0
    · have e0 : hmB K E T t = 0 := if_pos c
      rw [e0, Nat.zero_mul, Nat.add_zero] at go
      exact ok_T c go
    · have e1 : hmB K E T t = 1 := if_neg c
      rw [e1] at go
      refine ok_F c ?_
      rw [q1, tab_or t ht8 _ (by omega) 1 (by omega) hl]
      exact go
theorem of_homesIf {K E : Nat → Nat} (hK : txK K E) {w : Nat} (hw : w < 6) {T : xTw} (hR : rgT T) {e : Nat} (e1 : 1 ≤ e) (e2 : e ≤ 3600) {σ : xM} (hX : txX σ w K E) (hx : xMe σ T) {Q : Int32 → xM → Prop} (kk : ∀ σ', Fr frN σ σ' → Q (nI (hmS K E (evT T e) (T 0 12))) σ') : Ok (fX9_homesIf (nI e) σ) Q := by
  have h12 := rg_trips hR
  have hR' := evT_rg hR e1 e2
  obtain ⟨f, hf⟩ := fu_big
  unfold fX9_homesIf
  rw [hf, e_openSet hR hx.1.1, bd_some]
  have e12 : evT T e 0 12 = T 0 12 := evT_ne (by omega)
  have sb : ∀ q, q < evT T e 0 4 → (nI (setN T (T 0 4)) &&& ((1 : Int32) <<< (nI q &&& 31)) = 0 ↔ ¬ evT T e 7 q = 1) := by
    intro q hq
    rw [evT_ne (by omega)] at hq
    rw [evT_ne (by omega)]
    exact set_bits hR q hq
  have kS : xTk σ (evT T e) := xTk_like (xTk_of hx.1.1) (like_ev T e) (evT_ne (by omega))
  refine ok_B (of_look hR' kS (Meas_cg hx.2 (like_ev T e)) (show nI e = nI (evT T e 0 2) by unfold evT; rw [up_same]) sb (fun s1 f1 l1 => ?_))
  have hX1 := txX_fr hX f1 (fun c i q => by unfold frL at q; unfold xFree; omega)
  have k1 : xTk s1 (evT T e) := xTk_fr kS f1 (fun c i q => by unfold frL at q; unfold xoff; omega)
  have go := ol_homes19 hK hw hR' hX1 k1 l1 (Q := Q) (fun s2 f2 => by
    rw [e12]
    exact kk s2 (Fr_tr (Fr_mono f1 (fun _ _ q => Or.inl q)) (Fr_mono f2 (fun _ _ q => Or.inr q)))) (evT T e 0 12) 0 (f + 4000) s1 (by omega) (by rw [e12]; omega) Fr_rf
  rw [show (0 : Int32) = nI 0 from rfl]
  exact go
/-! the model's -/
def frQ2 (c i : Nat) : Prop := frW c i ∨ c = 28 ∨ c = 29
theorem frQ2_ask {c i : Nat} (h : frQ2 c i) : mAsk c i := by
  unfold frQ2 frW at h
  unfold mAsk
  omega
theorem ol_homes4 {K E : Nat → Nat} (hK : txK K E) {w : Nat} (hw : w < 6) {T : xTw} (hR : rgT T) {τ0 : xM} (hX0 : txM τ0 w K E) (hM0 : mTn τ0 T) {Q : Int32 → xM → Prop} (kk : ∀ τ', Fr frQ2 τ0 τ' → Q (nI (hmS K E T (T 0 12))) τ') : ∀ (m t n : Nat) (s : xM), t + m = T 0 12 → m < n → Fr frQ2 τ0 s → Ok (fX10_homesNow_L4 (fun x1 s2 => some (x1, s2)) n (nI (hmS K E T t)) (nI t) s) Q := by
  have h12 := rg_trips hR
  intro m
  induction m with
  | zero =>
    intro t n s ht hn f
    obtain ⟨n, rfl⟩ : ∃ n', n = n' + 1 := ⟨n - 1, by omega⟩
    have hM := mTn_fr hM0 f (fun c i q => mAsk_off (frQ2_ask q))
    unfold fX10_homesNow_L4
    refine ok_T (by rw [hM 0 12 (vt0 (by omega))]; exact nI_le (by omega) (by omega)) (ok_R ?_)
    rw [show t = T 0 12 by omega]
    exact kk s f
  | succ m ih =>
    intro t n s ht hn f
    obtain ⟨n, rfl⟩ : ∃ n', n = n' + 1 := ⟨n - 1, by omega⟩
    have ht8 : t < 8 := by omega
    have hM := mTn_fr hM0 f (fun c i q => mAsk_off (frQ2_ask q))
    have h128 : 2 ^ t ≤ 2 ^ 7 := Nat.pow_le_pow_right (by omega) (by omega)
    have hl := hmS_lt K E T t
    unfold fX10_homesNow_L4
    refine ok_F (by rw [hM 0 12 (vt0 (by omega))]; exact nI_ge (by omega) (by omega)) ?_
    refine ok_B (of_finds hR hM ht8 (fun s1 f1 w1 => ?_))
    obtain ⟨w37, -, -, w40, w41, w42⟩ := w1
    have g1 : Fr frQ2 τ0 s1 := Fr_tr f (Fr_mono f1 (fun _ _ q => Or.inl q))
    rw [w37, w40, w41, w42]
    unfold fX10_names
    simp only [lz, bd_some]
    have g2 : Fr frQ2 τ0 (si (si (si (si s1 29 0 (nI (bstS T t).1)) 29 1 (nI (wayW T t (bstS T t)))) 29 2 (nI (wayA T (bstS T t)))) 29 3 (nI (wayR T (bstS T t)))) := by
      refine Fr_si (Fr_si (Fr_si (Fr_si g1 _ ?_) _ ?_) _ ?_) _ ?_
      all_goals exact Or.inr (Or.inr rfl)
    have hM2 := mTn_fr hM0 g2 (fun c i q => mAsk_off (frQ2_ask q))
    have hX2 := txM_fr hX0 g2 (fun c i q => mAsk_free (frQ2_ask q))
    simp (disch := omega) only [ok_gd, inb_n, true_and, nI_clamp, hM2 12 t (vt3 (by omega) (by omega) ht8), hM2 13 t (vt3 (by omega) (by omega) ht8), nI_1]
    have hN : ∀ k, k < 4 → gi (si (si (si (si s1 29 0 (nI (bstS T t).1)) 29 1 (nI (wayW T t (bstS T t)))) 29 2 (nI (wayA T (bstS T t)))) 29 3 (nI (wayR T (bstS T t)))) 29 k = nmT T t k := by
      intro k hk
      rcases (show k = 0 ∨ k = 1 ∨ k = 2 ∨ k = 3 by omega) with rfl | rfl | rfl | rfl <;> rfl
    refine ok_B (of_says hK hw (q := 0) (nm := nmT T t) (by omega) hX2 hN (fun s3 f3 => ?_))
    have g4 : Fr frQ2 τ0 s3 := Fr_tr g2 (Fr_mono f3 (fun c i q => Or.inr q))
    have go := ih (t + 1) n s3 (by omega) (by omega) g4
    have es : hmS K E T (t + 1) = hmS K E T t + hmB K E T t * 2 ^ t := rfl
    rw [es] at go
    by_cases c : vS K E 0 (nmT T t) = 0
    · have e0 : hmB K E T t = 0 := if_pos c
      rw [e0, Nat.zero_mul, Nat.add_zero] at go
      refine ok_T c ?_
      show Ok (fX10_homesNow_L4 _ n (nI (hmS K E T t) ||| 0) (nI (t + 1)) s3) Q
      rw [Int32.or_zero]
      exact go
    · have e1 : hmB K E T t = 1 := if_neg c
      rw [e1] at go
      refine ok_F c ?_
      show Ok (fX10_homesNow_L4 _ n (nI (hmS K E T t) ||| ((1 : Int32) <<< (nI t &&& 31))) (nI (t + 1)) s3) Q
      rw [q1, tab_or t ht8 _ (by omega) 1 (by omega) hl]
      exact go
theorem of_homesNow {K E : Nat → Nat} (hK : txK K E) {w : Nat} (hw : w < 6) {T : xTw} (hR : rgT T) {τ : xM} (hX : txM τ w K E) (hM : mTn τ T) {Q : Int32 → xM → Prop} (kk : ∀ τ', Fr frQ2 τ τ' → Q (nI (hmS K E T (T 0 12))) τ') : Ok (fX10_homesNow τ) Q := by
  have h12 := rg_trips hR
  obtain ⟨f, hf⟩ := fu_big
  unfold fX10_homesNow
  rw [hf, show (0 : Int32) = nI 0 from rfl]
  exact ol_homes4 hK hw hR hX hM kk (T 0 12) 0 (f + 4000) τ (by omega) (by omega) Fr_rf
theorem sim_homes : xs_homes RR := by
  intro σ τ h
  refine sim_of ?_
  obtain ⟨T, n, h⟩ := h
  have hR := h.1
  have hX := h.2.2.1
  have hM := h.2.2.2.1
  obtain ⟨w, K, E, hw, hK, tX, tM⟩ := tx_of h.2.2.2.2.2.1
  unfold fX9_homes fX10_homes
  refine rl_B (of_measure hR hX (fun s1 f1 m1 => ?_))
  have f1' : Fr xAsk σ s1 := Fr_mono f1 (fun _ _ => frS_ask)
  have hX1 := xCT_fr hX f1' (fun _ _ => xAsk_27)
  rw [xT_every hX1.1]
  refine rl_B (of_homesIf hK hw hR hR.2 (rg_every hR) (txX_fr tX f1' (fun _ _ => xAsk_free)) ⟨hX1, m1⟩ (fun s2 f2 => ?_))
  rw [evT_self]
  refine rr_B (of_homesNow hK hw hR tM hM (fun t2 g2 => ?_))
  exact sim_R (RT_ask h (Fr_tr f1' (Fr_mono f2 (fun _ _ => frN_ask))) (Fr_mono g2 (fun _ _ => frQ2_ask))) rfl
/-! ===== rounds ===== -/
def pplB (T : xTw) (x t : Nat) : Nat := if bitN x t = 1 then 0 else T 12 t
/-- the people of all but those -/
def pplS (T : xTw) (x : Nat) : Nat := sumN (pplB T x) (T 0 12)
theorem pplN_le {T : xTw} (hR : rgT T) (x : Nat) {n : Nat} (hn : n ≤ 8) : sumN (pplB T x) n ≤ n * 99 := sumN_le n (fun i hi => by
  have := rg_many hR (i := i) (by omega)
  unfold pplB
  split <;> omega)
theorem pplS_le {T : xTw} (hR : rgT T) (x : Nat) : pplS T x ≤ 792 := by
  have h12 := rg_trips hR
  have := pplN_le hR x h12
  unfold pplS
  omega
theorem e_peopleBut {T : xTw} (hR : rgT T) {s : xM} (hT : xTn s T) {x : Nat} (hx : x < 256) : fX6_peopleBut (nI x) s = some (nI (pplS T x), s) := by
  have h12 := rg_trips hR
  obtain ⟨f, hf⟩ := fu_big
  have key : ∀ (m t n : Nat), t + m = T 0 12 → m < n → fX6_peopleBut_L4 (fun x1 s2 => some (x1, s2)) (nI x) n (nI (sumN (pplB T x) t)) (nI t) s = some (nI (pplS T x), s) := by
    intro m
    induction m with
    | zero =>
      intro t n ht hn
      obtain ⟨n, rfl⟩ : ∃ n', n = n' + 1 := ⟨n - 1, by omega⟩
      unfold fX6_peopleBut_L4
      rw [xT_trips hT, if_pos (nI_le (by omega) (by omega)), show t = T 0 12 by omega]
      rfl
    | succ m ih =>
      intro t n ht hn
      obtain ⟨n, rfl⟩ : ∃ n', n = n' + 1 := ⟨n - 1, by omega⟩
      have ht8 : t < 8 := by omega
      have g := ih (t + 1) n (by omega) (by omega)
      have es : sumN (pplB T x) (t + 1) = sumN (pplB T x) t + pplB T x t := rfl
      rw [es] at g
      unfold fX6_peopleBut_L4
      rw [xT_trips hT, if_neg (nI_ge (by omega) (by omega))]
      simp (disch := omega) only [inb_n, gd_t, nI_clamp, lz, xT_many hT, nI_add, nI_1]
      by_cases c : bitN x t = 1
      · rw [if_neg (fun q => (tab_bit x hx t ht8).mp q c)]
        rw [show pplB T x t = 0 from if_pos c, Nat.add_zero] at g
        rw [show nI (sumN (pplB T x) t) + (0 : Int32) = nI (sumN (pplB T x) t) from Int32.add_zero _]
        exact g
      · rw [if_pos ((tab_bit x hx t ht8).mpr c)]
        rw [show pplB T x t = T 12 t from if_neg c] at g
        exact g
  unfold fX6_peopleBut
  rw [hf]
  exact key (T 0 12) 0 (f + 4000) (by omega) (by omega)
/-- EVERY of the next round -/
def evS (T : xTw) (x : Nat) : Nat := if T 0 2 * pplS T 0 / (if 1 < pplS T x then pplS T x else 1) < 1 then 1 else if 3600 < T 0 2 * pplS T 0 / (if 1 < pplS T x then pplS T x else 1) then 3600 else T 0 2 * pplS T 0 / (if 1 < pplS T x then pplS T x else 1)
theorem evS_in (T : xTw) (x : Nat) : 1 ≤ evS T x ∧ evS T x ≤ 3600 := by
  unfold evS
  repeat' split
  all_goals omega
/-- those who stay home behind k rounds -/
def hrS (K E : Nat → Nat) (T : xTw) : Nat → Nat
  | 0 => 0
  | k + 1 => hmS K E (evT T (evS T (hrS K E T k))) (T 0 12)
theorem hrS_lt {T : xTw} (hR : rgT T) (K E : Nat → Nat) : ∀ k, hrS K E T k < 256
  | 0 => by
    show 0 < 256
    omega
  | k + 1 => Nat.lt_of_lt_of_le (hmS_lt K E _ _) (pow_256 (rg_trips hR))
theorem e_atB {v : Nat} (hv : v < 2 ^ 31) {m : Nat} (hm : m < 2 ^ 31) {l : Nat} (hl : l ≤ m) (s : xM) : fX9_atBounds (nI v) (nI l) (nI m) s = some (nI (if v < l then l else if m < v then m else v), s) := by
  unfold fX9_atBounds
  by_cases c1 : v < m
  · rw [if_pos (nI_lt c1 hm)]
    by_cases c2 : l < v
    · rw [if_pos (nI_lt c2 hv), if_neg (by omega), if_neg (by omega)]
    · rw [if_neg (nI_nlt (by omega) (by omega))]
      by_cases c3 : v < l
      · rw [if_pos c3]
      · rw [if_neg c3, if_neg (by omega), show l = v by omega]
  · rw [if_neg (nI_nlt (by omega) (by omega))]
    by_cases c2 : l < m
    · rw [if_pos (nI_lt c2 hm), if_neg (by omega)]
      by_cases c3 : m < v
      · rw [if_pos c3]
      · rw [if_neg c3, show m = v by omega]
    · rw [if_neg (nI_nlt (by omega) (by omega))]
      by_cases c3 : v < l
      · rw [if_pos c3]
      · rw [if_neg c3]
        by_cases c4 : m < v
        · rw [if_pos c4, show l = m by omega]
        · rw [if_neg c4, show l = v by omega]
def frRd (c i : Nat) : Prop := frN c i ∨ c = 93
theorem frRd_ask {c i : Nat} (h : frRd c i) : xAsk c i := by
  unfold frRd frN frL at h
  unfold xAsk
  omega
theorem xMe_ask {σ σ' : xM} {T : xTw} (h : xMe σ T) (hR : rgT T) {P : Nat → Nat → Prop} (f : Fr P σ σ') (hp : ∀ c i, P c i → 27 ≤ c ∧ ¬ (28 ≤ c ∧ c ≤ 30) ∧ ¬ (32 ≤ c ∧ c ≤ 39) ∧ ¬ (41 ≤ c ∧ c ≤ 48)) : xMe σ' T := by
  have h8 := rg_stops hR
  have h12 := rg_trips hR
  have z : ∀ c i, ((28 ≤ c ∧ c ≤ 30) ∨ (32 ≤ c ∧ c ≤ 39) ∨ (41 ≤ c ∧ c ≤ 48)) → gi σ' c i = gi σ c i := fun c i q => (f c i (fun y => by have := hp c i y; omega)).1
  refine ⟨xCT_fr h.1 f (fun c i q => (hp c i q).1), fun p hp => ?_, fun t ht => ⟨?_, fun p hp => ?_⟩⟩
  · rw [z _ _ (by omega), z _ _ (by omega)]
    exact h.2.1 p hp
  · rw [z _ _ (by omega)]
    exact (h.2.2 t ht).1
  · rw [z _ _ (by omega), z _ _ (by omega)]
    exact (h.2.2 t ht).2 p hp
theorem ol_rounds {K E : Nat → Nat} (hK : txK K E) {w : Nat} (hw : w < 6) {T : xTw} (hR : rgT T) {N : Nat} (hN : N ≤ 20) {σ0 : xM} (hX0 : txX σ0 w K E) (hx0 : xMe σ0 T) {Q : Int32 → xM → Prop} (kk : ∀ σ', Fr frRd σ0 σ' → (∀ k, k ≤ N → gi σ' 93 k = nI (hrS K E T k)) → Q 0 σ') : ∀ (m r n : Nat) (s : xM), r + m = N + 1 → 1 ≤ r → m < n → Fr frRd σ0 s → (∀ k, k < r → gi s 93 k = nI (hrS K E T k)) → Ok (fX9_goRounds_L25 (fun s9 => some (0, s9)) (nI N) (nI (pplS T 0)) n (nI r) s) Q := by
  have h12 := rg_trips hR
  have p0 := pplS_le hR 0
  have ev := rg_every hR
  have frd : ∀ c i, frRd c i → 27 ≤ c ∧ ¬ (28 ≤ c ∧ c ≤ 30) ∧ ¬ (32 ≤ c ∧ c ≤ 39) ∧ ¬ (41 ≤ c ∧ c ≤ 48) := fun c i q => by unfold frRd frN frL at q; omega
  intro m
  induction m with
  | zero =>
    intro r n s hr hr1 hn f hd
    obtain ⟨n, rfl⟩ : ∃ n', n = n' + 1 := ⟨n - 1, by omega⟩
    unfold fX9_goRounds_L25
    exact ok_T (nI_lt (by omega) (by omega)) (ok_R (kk s f (fun k hk => hd k (by omega))))
  | succ m ih =>
    intro r n s hr hr1 hn f hd
    obtain ⟨n, rfl⟩ : ∃ n', n = n' + 1 := ⟨n - 1, by omega⟩
    obtain ⟨k, rfl⟩ : ∃ k, r = k + 1 := ⟨r - 1, by omega⟩
    have hx := xMe_ask hx0 hR f frd
    have hXs := txX_fr hX0 f (fun c i q => xAsk_free (frRd_ask q))
    have pk := pplS_le hR (hrS K E T k)
    have ei := evS_in T (hrS K E T k)
    unfold fX9_goRounds_L25
    refine ok_F (nI_nlt (by omega) (by omega)) (ok_F (nI_nlt (a := 20) (by omega) (by omega)) ?_)
    rw [nI_pred]
    refine ok_G (inb_n (by omega) (by omega)) ?_
    rw [nI_clamp (n := k) (by omega), hd k (by omega), e_peopleBut hR hx.1.1 (hrS_lt hR K E k), bd_some]
    refine ok_lz.mpr ?_
    have em : (if (1 : Int32) < nI (pplS T (hrS K E T k)) then nI (pplS T (hrS K E T k)) else 1) = nI (if 1 < pplS T (hrS K E T k) then pplS T (hrS K E T k) else 1) := by
      by_cases c : 1 < pplS T (hrS K E T k)
      · rw [if_pos c, if_pos (show (1 : Int32) < nI (pplS T (hrS K E T k)) from nI_lt (a := 1) c (by omega))]
      · rw [if_neg c, if_neg (show ¬ (1 : Int32) < nI (pplS T (hrS K E T k)) from nI_nlt (b := pplS T (hrS K E T k)) (a := 1) (by omega) (by omega))]
        rfl
    rw [em]
    have mx : 1 ≤ (if 1 < pplS T (hrS K E T k) then pplS T (hrS K E T k) else 1) ∧ (if 1 < pplS T (hrS K E T k) then pplS T (hrS K E T k) else 1) ≤ 792 := by
      split <;> omega
    generalize hg : (if 1 < pplS T (hrS K E T k) then pplS T (hrS K E T k) else 1) = G at mx
    have vb : T 0 2 * pplS T 0 ≤ 3600 * 792 := mul_le2 ev p0
    have vd : T 0 2 * pplS T 0 / G ≤ T 0 2 * pplS T 0 := Nat.div_le_self _ _
    refine ok_G (decide_eq_true (by rw [nI_n0 (by omega)]; omega)) ?_
    rw [xT_every hx.1.1, pk_mul, pk_div (by omega) (by omega) (by omega), q1, show (3600 : Int32) = nI 3600 from rfl, e_atB (by omega) (by omega) (by omega), bd_some]
    have ee : (if T 0 2 * pplS T 0 / G < 1 then 1 else if 3600 < T 0 2 * pplS T 0 / G then 3600 else T 0 2 * pplS T 0 / G) = evS T (hrS K E T k) := by
      unfold evS
      rw [hg]
    rw [ee]
    refine ok_B (of_homesIf hK hw hR ei.1 ei.2 hXs hx (fun s1 f1 => ?_))
    refine ok_G (inb_n (by omega) (by omega)) (ok_lz.mpr ?_)
    rw [nI_clamp (n := k + 1) (by omega), nI_add]
    have f2 : Fr frRd σ0 s1 := Fr_tr f (Fr_mono f1 (fun _ _ q => Or.inl q))
    have f3 := Fr_si f2 (c := 93) (i := k + 1) (nI (hmS K E (evT T (evS T (hrS K E T k))) (T 0 12))) (Or.inr rfl)
    refine ih (k + 2) n _ (by omega) (by omega) (by omega) f3 (fun j hj => ?_)
    rw [gi_si]
    by_cases e : j = k + 1
    · rw [if_pos ⟨rfl, e⟩, e]
      rfl
    · rw [if_neg (by omega), (f1 93 j (by unfold frN frL; omega)).1]
      exact hd j (by omega)
theorem of_goRounds {K E : Nat → Nat} (hK : txK K E) {w : Nat} (hw : w < 6) {T : xTw} (hR : rgT T) {N : Nat} (hN : N ≤ 20) {σ : xM} (hX : txX σ w K E) (hx : xCT σ T) {Q : Int32 → xM → Prop} (kk : ∀ σ', Fr xAsk σ σ' → (∀ k, k ≤ N → gi σ' 93 k = nI (hrS K E T k)) → Q 0 σ') : Ok (fX9_goRounds (nI N) σ) Q := by
  obtain ⟨f, hf⟩ := fu_big
  unfold fX9_goRounds
  refine ok_B (of_measure hR hx (fun s1 f1 m1 => ?_))
  have f1' : Fr xAsk σ s1 := Fr_mono f1 (fun _ _ => frS_ask)
  have f2 : Fr xAsk σ (si s1 93 0 0) := Fr_si f1' _ (Or.inr (Or.inr (Or.inl ⟨by omega, by omega⟩)))
  have hx1 : xMe (si s1 93 0 0) T := xMe_ask ⟨xCT_fr hx f1' (fun _ _ => xAsk_27), m1⟩ hR (Fr_si (P := fun c _ => c = 93) Fr_rf _ rfl) (fun c i q => by omega)
  refine ok_lz.mpr ?_
  have e0 := e_peopleBut hR hx1.1.1 (x := 0) (by omega)
  rw [show (0 : Int32) = nI 0 from rfl] at hx1 f2 ⊢
  rw [show (0 : Int32) = nI 0 from rfl] at e0
  rw [e0, bd_some, hf]
  exact ol_rounds hK hw hR hN (txX_fr hX f2 (fun _ _ => xAsk_free)) hx1 (fun s3 f3 d3 => kk s3 (Fr_tr f2 (Fr_mono f3 (fun _ _ => frRd_ask))) d3) N 1 (f + 4000) _ (by omega) (by omega) (by omega) Fr_rf (fun k hk => by
    rw [show k = 0 by omega, gi_same]
    rfl)
/-! the model's round -/
theorem of_roundFrom {K E : Nat → Nat} (hK : txK K E) {w : Nat} (hw : w < 6) {T : xTw} (hR : rgT T) {k : Nat} {τ : xM} (hX : txM τ w K E) (hM : mTn τ T) {Q : Int32 → xM → Prop} (kk : ∀ τ', Fr (fun c i => frQ2 c i ∨ (c = 0 ∧ i = 2)) τ τ' → mTn τ' T → Q (nI (hrS K E T (k + 1))) τ') : Ok (fX10_roundFrom (nI (hrS K E T k)) τ) Q := by
  have h12 := rg_trips hR
  have x256 := hrS_lt hR K E k
  have p0 := pplS_le hR 0
  have pk := pplS_le hR (hrS K E T k)
  have ei := evS_in T (hrS K E T k)
  have ev := rg_every hR
  obtain ⟨f, hf⟩ := fu_big
  have a0 : ∀ t, pplB T 0 t = T 12 t := fun t => by
    unfold pplB bitN
    rw [Nat.zero_div, if_neg (by omega)]
  -- behind the bounds
  have fin : ∀ e, e = evS T (hrS K E T k) → Ok (fX10_roundFrom_J120 (nI (T 0 2)) (nI e) τ) Q := by
    rintro e rfl
    unfold fX10_roundFrom_J120
    refine ok_lz.mpr ?_
    have M1 : mTn (si τ 0 2 (nI (evS T (hrS K E T k)))) (evT T (evS T (hrS K E T k))) := mTn_up hM _
    have X1 := txM_fr hX (Fr_si (P := fun c i => c = 0 ∧ i = 2) Fr_rf (nI (evS T (hrS K E T k))) ⟨rfl, rfl⟩) (fun c i q => by unfold mFree; omega)
    refine ok_B (of_homesNow hK hw (evT_rg hR ei.1 ei.2) X1 M1 (fun s1 f1 => ok_lz.mpr (ok_R ?_)))
    rw [evT_ne (by omega)]
    refine kk _ (Fr_si (Fr_tr (Fr_si Fr_rf _ (Or.inr ⟨rfl, rfl⟩)) (Fr_mono f1 (fun _ _ q => Or.inl q))) _ (Or.inr ⟨rfl, rfl⟩)) (mTn_cg (mTn_up (mTn_fr M1 f1 (fun c i q => mAsk_off (frQ2_ask q))) (T 0 2)) ?_)
    funext c i
    unfold evT
    by_cases e : c = 0 ∧ i = 2
    · rw [e.1, e.2, up_same]
    · rw [up_ne e, up_ne e]
  have fin2 : ∀ G, G = (if 1 < pplS T (hrS K E T k) then pplS T (hrS K E T k) else 1) → Ok (fX10_roundFrom_J81 (lN G) (((gi τ 0 2).toInt64) * lN (pplS T 0)) τ) Q := by
    intro G hG
    have mx : 1 ≤ G ∧ G ≤ 792 := by
      rw [hG]
      split <;> omega
    have vb : T 0 2 * pplS T 0 ≤ 3600 * 792 := mul_le2 ev p0
    have vd : T 0 2 * pplS T 0 / G ≤ T 0 2 * pplS T 0 := Nat.div_le_self _ _
    have ee : evS T (hrS K E T k) = (if T 0 2 * pplS T 0 / G < 1 then 1 else if 3600 < T 0 2 * pplS T 0 / G then 3600 else T 0 2 * pplS T 0 / G) := by
      unfold evS
      rw [← hG]
    unfold fX10_roundFrom_J81
    have g0 : ¬ lN G = 0 := by
      intro q
      have q2 : lN G = lN 0 := q
      rw [lN_eq (by omega) (by omega)] at q2
      omega
    refine ok_G (decide_eq_true g0) ?_
    simp only [ok_lz]
    rw [hM 0 2 (vt0 (by omega)), nI_l (by omega), lN_mul, pk_lDiv (by omega) (by omega) (by omega), show (1 : Int64) = lN 1 from rfl, show (3600 : Int64) = lN 3600 from rfl]
    by_cases c1 : 1 ≤ T 0 2 * pplS T 0 / G
    · refine ok_T ((cmp_ge (by omega) (by omega)).mpr c1) ?_
      by_cases c2 : T 0 2 * pplS T 0 / G ≤ 3600
      · refine ok_T ((cmp_le (by omega) (by omega)).mpr c2) ?_
        rw [lN_i]
        exact fin _ (by rw [ee, if_neg (by omega), if_neg (by omega)])
      · refine ok_F (fun q => c2 ((cmp_le (by omega) (by omega)).mp q)) ?_
        exact fin 3600 (by rw [ee, if_neg (by omega), if_pos (by omega)])
    · refine ok_F (fun q => c1 ((cmp_ge (by omega) (by omega)).mp q)) ?_
      exact fin 1 (by rw [ee, if_pos (by omega)])
  have key : ∀ (m t n : Nat), t + m = T 0 12 → m < n → Ok (fX10_roundFrom_L8 (fun x1 x2 s3 => if 0 ≤ (lg_cmp x2 (1 : Int64)) then fX10_roundFrom_J81 x2 (((gi s3 0 2).toInt64) * x1) s3 else fX10_roundFrom_J81 (1 : Int64) (((gi s3 0 2).toInt64) * x1) s3) (nI (hrS K E T k)) n (lN (sumN (pplB T 0) t)) (lN (sumN (pplB T (hrS K E T k)) t)) (nI t) τ) Q := by
    intro m
    induction m with
    | zero =>
      intro t n ht hn
      obtain ⟨n, rfl⟩ : ∃ n', n = n' + 1 := ⟨n - 1, by omega⟩
      unfold fX10_roundFrom_L8
      refine ok_T (by rw [hM 0 12 (vt0 (by omega))]; exact nI_le (by omega) (by omega)) ?_
      rw [show t = T 0 12 by omega]
      show Ok (if 0 ≤ lg_cmp (lN (pplS T (hrS K E T k))) (1 : Int64) then fX10_roundFrom_J81 (lN (pplS T (hrS K E T k))) (((gi τ 0 2).toInt64) * lN (pplS T 0)) τ else fX10_roundFrom_J81 (1 : Int64) (((gi τ 0 2).toInt64) * lN (pplS T 0)) τ) Q
      rw [show (1 : Int64) = lN 1 from rfl]
      by_cases c : 1 ≤ pplS T (hrS K E T k)
      · refine ok_T ((cmp_ge (by omega) (by omega)).mpr c) (fin2 _ ?_)
        by_cases c2 : 1 < pplS T (hrS K E T k)
        · rw [if_pos c2]
        · rw [if_neg c2]
          omega
      · refine ok_F (fun q => c ((cmp_ge (by omega) (by omega)).mp q)) (fin2 _ ?_)
        rw [if_neg (by omega)]
    | succ m ih =>
      intro t n ht hn
      obtain ⟨n, rfl⟩ : ∃ n', n = n' + 1 := ⟨n - 1, by omega⟩
      have ht8 : t < 8 := by omega
      have mn := rg_many hR ht8
      have go := ih (t + 1) n (by omega) (by omega)
      have e1 : sumN (pplB T 0) (t + 1) = sumN (pplB T 0) t + pplB T 0 t := rfl
      have e2 : sumN (pplB T (hrS K E T k)) (t + 1) = sumN (pplB T (hrS K E T k)) t + pplB T (hrS K E T k) t := rfl
      rw [e1, e2, a0] at go
      unfold fX10_roundFrom_L8
      refine ok_F (by rw [hM 0 12 (vt0 (by omega))]; exact nI_ge (by omega) (by omega)) ?_
      simp (disch := omega) only [ok_gd, ok_lz, inb_n, true_and, nI_clamp, hM 12 t (vt3 (by omega) (by omega) ht8), nI_l, lN_add, nI_1, tab_shr _ x256 t ht8]
      have hb : (nI (bitN (hrS K E T k) t) = 1) ↔ bitN (hrS K E T k) t = 1 := by
        have := bitN_le (hrS K E T k) t
        rw [q1, nI_eq (by omega) (by omega)]
      by_cases c : bitN (hrS K E T k) t = 1
      · refine ok_T (hb.mpr c) ?_
        rw [show pplB T (hrS K E T k) t = 0 from if_pos c, Nat.add_zero] at go
        show Ok (fX10_roundFrom_L8 _ _ n _ (lN (sumN (pplB T (hrS K E T k)) t) + 0) _ τ) Q
        rw [Int64.add_zero]
        exact go
      · refine ok_F (fun q => c (hb.mp q)) ?_
        rw [show pplB T (hrS K E T k) t = T 12 t from if_neg c] at go
        exact go
  unfold fX10_roundFrom
  rw [hf]
  exact key (T 0 12) 0 (f + 4000) (by omega) (by omega)
def frR2 (c i : Nat) : Prop := frQ2 c i ∨ (c = 0 ∧ i = 2) ∨ c = 33
theorem frR2_free {c i : Nat} (h : frR2 c i) : mFree c i := by
  unfold frR2 frQ2 frW at h
  unfold mFree
  omega
theorem ol_mround {K E : Nat → Nat} (hK : txK K E) {w : Nat} (hw : w < 6) {T : xTw} (hR : rgT T) {N : Nat} (hN : N ≤ 20) {τ0 : xM} (hX0 : txM τ0 w K E) {Q : Int32 → xM → Prop} (kk : ∀ τ', Fr frR2 τ0 τ' → mTn τ' T → Q (nI (hrS K E T N)) τ') : ∀ (m k n : Nat) (s : xM), k + m = N → m < n → Fr frR2 τ0 s → mTn s T → Ok (fX10_round_L17 (fun x5 s6 => some (x5, s6)) (nI N) n (nI (hrS K E T k)) (nI k) s) Q := by
  intro m
  induction m with
  | zero =>
    intro k n s hk hn f hM
    obtain ⟨n, rfl⟩ : ∃ n', n = n' + 1 := ⟨n - 1, by omega⟩
    unfold fX10_round_L17
    refine ok_T (nI_le (by omega) (by omega)) (ok_R ?_)
    rw [show k = N by omega]
    exact kk s f hM
  | succ m ih =>
    intro k n s hk hn f hM
    obtain ⟨n, rfl⟩ : ∃ n', n = n' + 1 := ⟨n - 1, by omega⟩
    unfold fX10_round_L17
    refine ok_F (nI_ge (by omega) (by omega)) (ok_B (of_roundFrom hK hw hR (txM_fr hX0 f (fun _ _ => frR2_free)) hM (fun s1 f1 M1 => ?_)))
    rw [nI_1]
    exact ih (k + 1) n s1 (by omega) (by omega) (Fr_tr f (Fr_mono f1 (fun c i q => q.elim Or.inl (fun z => Or.inr (Or.inl z))))) M1
theorem sim_round : xs_round RR := by
  intro σ τ h a0
  refine sim_of ?_
  obtain ⟨T, n, h⟩ := h
  have hR := h.1
  obtain ⟨w, K, E, hw, hK, tX, tM⟩ := tx_of h.2.2.2.2.2.1
  obtain ⟨f, hf⟩ := fu_big
  unfold fX9_round fX10_round
  simp only [e_isWithin, e_in, bd_some]
  rcases rcase a0 (M := 20) (n := 20) rfl with d | ⟨d, N, hN, rfl⟩
  · simp only [d, ↓reduceIte]
    exact sim_R h rfl
  simp only [d, n10, ↓reduceIte]
  refine rl_B (of_goRounds hK hw hR hN tX h.2.2.1 (fun s1 f1 d1 => ?_))
  refine rl_G (inb_n (by omega) (by omega)) ?_
  rw [nI_clamp (by omega), d1 N (Nat.le_refl _), hf, show (0 : Int32) = nI 0 from rfl]
  refine rr_O (ol_mround hK hw hR hN tM (fun t2 g2 M2 => ok_R ⟨rfl, T, n, RT_end h f1 (Fr_mono g2 (fun _ _ => frR2_free)) M2⟩) N 0 (f + 4000) τ (by omega) (by omega) Fr_rf h.2.2.2.1)
/-! ===== rest ===== -/
theorem rest_inner {K E : Nat → Nat} {T : xTw} (hR : rgT T) {k1 k3 : Int32 → xM → Option (Int32 × xM)} {k2 k4 : xM → Option (Int32 × xM)} {a : Int32} {σ τ : xM} {r : Nat} (hr : r ≤ 20) (hσ : ∀ k, k ≤ 20 → gi σ 93 k = nI (hrS K E T k)) (hτ : ∀ k, k ≤ r → gi τ 33 k = nI (hrS K E T k)) {Q : Int32 → xM → Int32 → xM → Prop} (no : (∀ k, k < r → ¬ hrS K E T k = hrS K E T r) → Rel (k2 σ) (k4 τ) Q) (yes : ∀ k, k < r → hrS K E T k = hrS K E T r → Rel (k1 (nI k) σ) (k3 (nI k) τ) Q) : ∀ (m k f g : Nat), k + m = r → m < f → m < g → (∀ j, j < k → ¬ hrS K E T j = hrS K E T r) → Rel (fX9_rest_L28 k1 k2 a (nI r) f (nI k) σ) (fX10_rest_L47 k3 k4 a (nI r) g (nI k) τ) Q := by
  intro m
  induction m with
  | zero =>
    intro k f g hk hf hg hd
    obtain ⟨f, rfl⟩ : ∃ n', f = n' + 1 := ⟨f - 1, by omega⟩
    obtain ⟨g, rfl⟩ : ∃ n', g = n' + 1 := ⟨g - 1, by omega⟩
    unfold fX9_rest_L28 fX10_rest_L47
    have e : nI r ≤ nI k := nI_le (by omega) (by omega)
    exact rl_T e (rr_T e (no (fun j hj => hd j (by omega))))
  | succ m ih =>
    intro k f g hk hf hg hd
    obtain ⟨f, rfl⟩ : ∃ n', f = n' + 1 := ⟨f - 1, by omega⟩
    obtain ⟨g, rfl⟩ : ∃ n', g = n' + 1 := ⟨g - 1, by omega⟩
    unfold fX9_rest_L28 fX10_rest_L47
    have e : ¬ nI r ≤ nI k := nI_ge (by omega) (by omega)
    refine rl_F e (rr_F e ?_)
    have x1 := hrS_lt hR K E k
    have x2 := hrS_lt hR K E r
    simp (disch := omega) only [rl_gd, rr_gd, inb_n, true_and, nI_clamp, hσ k (by omega), hσ r hr, hτ k (by omega), hτ r (Nat.le_refl _), nI_1]
    by_cases c : hrS K E T k = hrS K E T r
    · have c2 : nI (hrS K E T k) = nI (hrS K E T r) := by rw [c]
      exact rl_T c2 (rr_T c2 (yes k (by omega) c))
    · have c2 : ¬ nI (hrS K E T k) = nI (hrS K E T r) := by
        rw [nI_eq (by omega) (by omega)]
        exact c
      refine rl_F c2 (rr_F c2 ?_)
      refine ih (k + 1) f g (by omega) (by omega) (by omega) (fun j hj => ?_)
      by_cases e : j = k
      · rw [e]; exact c
      · exact hd j (by omega)
theorem rest_loop {K E : Nat → Nat} (hK : txK K E) {w : Nat} (hw : w < 6) {T : xTw} (hR : rgT T) {n0 : Nat} {σ0 τ0 σ : xM} (h : RT σ0 τ0 T n0) (hX0 : txM τ0 w K E) (fσ : Fr xAsk σ0 σ) (hσ : ∀ k, k ≤ 20 → gi σ 93 k = nI (hrS K E T k)) (a0 : Int32) : ∀ (m r f g : Nat) (τ : xM), r + m = 21 → 1 ≤ r → m < f → m < g → Fr frR2 τ0 τ → mTn τ T → (∀ k, k < r → gi τ 33 k = nI (hrS K E T k)) → Rel (fX9_rest_L20 (fun x8 x9 s10 => if a0 = 0 then gd (inb x9 21) <| some ((gi s10 93 x9.toNatClampNeg), s10) else if a0 = (1 : Int32) then some (x9, s10) else some ((x8 - x9), s10)) (fun s14 => some ((-3 : Int32), s14)) a0 f (nI r) σ) (fX10_rest_L21 (fun x7 x8 s9 => if a0 = 0 then gd (inb x7 21) <| some ((gi s9 33 x7.toNatClampNeg), s9) else if a0 = (1 : Int32) then some (x8, s9) else some ((x7 - x8), s9)) (fun s13 => some ((-3 : Int32), s13)) a0 g (nI r) τ) SimP := by
  obtain ⟨fu', hfu⟩ := fu_big
  intro m
  induction m with
  | zero =>
    intro r f g τ hr hr1 hf hg gτ hM hd
    obtain ⟨f, rfl⟩ : ∃ n', f = n' + 1 := ⟨f - 1, by omega⟩
    obtain ⟨g, rfl⟩ : ∃ n', g = n' + 1 := ⟨g - 1, by omega⟩
    unfold fX9_rest_L20 fX10_rest_L21
    have e : (20 : Int32) < nI r := nI_lt (a := 20) (by omega) (by omega)
    exact rl_T e (rr_T e (sim_R (RT_end h fσ (Fr_mono gτ (fun _ _ => frR2_free)) hM) rfl))
  | succ m ih =>
    intro r f g τ hr hr1 hf hg gτ hM hd
    obtain ⟨f, rfl⟩ : ∃ n', f = n' + 1 := ⟨f - 1, by omega⟩
    obtain ⟨g, rfl⟩ : ∃ n', g = n' + 1 := ⟨g - 1, by omega⟩
    obtain ⟨k, rfl⟩ : ∃ k, r = k + 1 := ⟨r - 1, by omega⟩
    unfold fX9_rest_L20 fX10_rest_L21
    have e : ¬ (20 : Int32) < nI (k + 1) := nI_nlt (a := 20) (by omega) (by omega)
    refine rl_F e (rr_F e ?_)
    rw [nI_pred]
    refine rr_G (inb_n (by omega) (by omega)) ?_
    rw [nI_clamp (n := k) (by omega), hd k (by omega)]
    refine rr_B (of_roundFrom hK hw hR (txM_fr hX0 gτ (fun _ _ => frR2_free)) hM (fun τ1 g1 M1 => ?_))
    refine rr_G (inb_n (by omega) (by omega)) (rr_lz.mpr ?_)
    rw [nI_clamp (n := k + 1) (by omega), hfu, nI_1]
    have g2 : Fr frR2 τ0 (si τ1 33 (k + 1) (nI (hrS K E T (k + 1)))) := Fr_si (Fr_tr gτ (Fr_mono g1 (fun c i q => q.elim Or.inl (fun z => Or.inr (Or.inl z))))) _ (Or.inr (Or.inr rfl))
    have M2 : mTn (si τ1 33 (k + 1) (nI (hrS K E T (k + 1)))) T := mTn_off M1 _ (by unfold vT; omega)
    have d2 : ∀ j, j < k + 2 → gi (si τ1 33 (k + 1) (nI (hrS K E T (k + 1)))) 33 j = nI (hrS K E T j) := fun j hj => by
      rw [gi_si]
      by_cases e : j = k + 1
      · rw [if_pos ⟨rfl, e⟩, e]
      · rw [if_neg (by omega), (g1 33 j (by unfold frQ2 frW; omega)).1]
        exact hd j (by omega)
    have hh := RT_end h fσ (Fr_mono g2 (fun _ _ => frR2_free)) M2
    refine rest_inner hR (by omega) hσ (fun j hj => d2 j (by omega)) (fun _ => ?_) (fun j hj ej => ?_) (k + 1) 0 (fu' + 4000) (fu' + 4000) (by omega) (by omega) (by omega) (fun j hj => absurd hj (Nat.not_lt_zero _))
    · exact ih (k + 2) f g _ (by omega) (by omega) (by omega) (by omega) g2 M2 d2
    · by_cases b0 : a0 = 0
      · simp (disch := omega) only [b0, ↓reduceIte, rl_gd, rr_gd, inb_n, true_and, nI_clamp]
        rw [hσ j (by omega), d2 (k + 1) (by omega), ej]
        exact sim_R hh rfl
      · simp only [b0, ↓reduceIte]
        by_cases b1 : a0 = 1
        · simp only [b1, ↓reduceIte]
          exact sim_R hh rfl
        · simp only [b1, ↓reduceIte]
          exact sim_R hh rfl
theorem sim_rest : xs_rest RR := by
  intro σ τ h a0
  refine sim_of ?_
  obtain ⟨T, n, h⟩ := h
  have hR := h.1
  obtain ⟨w, K, E, hw, hK, tX, tM⟩ := tx_of h.2.2.2.2.2.1
  obtain ⟨f, hf⟩ := fu_big
  unfold fX9_rest fX10_rest
  simp only [e_isWithin, e_in, bd_some]
  by_cases d : a0 < 0 ∨ 2 < a0
  · simp only [d, ↓reduceIte]
    exact sim_R h rfl
  simp only [d, n10, ↓reduceIte]
  refine rl_B (of_goRounds hK hw hR (N := 20) (by omega) tX h.2.2.1 (fun s1 f1 d1 => ?_))
  refine rr_lz.mpr ?_
  rw [hf]
  have g1 : Fr frR2 τ (si τ 33 0 0) := Fr_si Fr_rf _ (Or.inr (Or.inr rfl))
  exact rest_loop hK hw hR h tM f1 d1 a0 20 1 (f + 4000) (f + 4000) (si τ 33 0 0) (by omega) (by omega) (by omega) (by omega) g1 (mTn_off h.2.2.2.1 _ (by unfold vT; omega)) (fun k hk => by
    rw [show k = 0 by omega, gi_same]
    rfl)
