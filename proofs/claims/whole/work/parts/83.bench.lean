/-! ===== one stop more or less: sets ===== -/
def flpN (x p : Nat) : Nat := if bitN x p = 1 then x - 2 ^ p else x + 2 ^ p
def clrN (x p : Nat) : Nat := if bitN x p = 1 then x - 2 ^ p else x
set_option maxRecDepth 20000 in
theorem tab_xor : ∀ x, x < 256 → ∀ p, p < 8 → nI x ^^^ ((1 : Int32) <<< (nI p &&& 31)) = nI (flpN x p) := by decide +kernel
set_option maxRecDepth 20000 in
theorem tab_clr : ∀ x, x < 256 → ∀ p, p < 8 → nI x &&& (((1 : Int32) <<< (nI p &&& 31)) ^^^ (-1 : Int32)) = nI (clrN x p) := by decide +kernel
set_option maxRecDepth 20000 in
theorem tab_flb : ∀ x, x < 256 → ∀ p, p < 8 → flpN x p < 256 ∧ ∀ q, q < 8 → bitN (flpN x p) q = if q = p then 1 - bitN x p else bitN x q := by decide +kernel
set_option maxRecDepth 20000 in
theorem tab_clb : ∀ x, x < 256 → ∀ p, p < 8 → clrN x p ≤ x ∧ ∀ q, q < 8 → bitN (clrN x p) q = if q = p then 0 else bitN x q := by decide +kernel
theorem wO_flp {T : xTw} (hR : rgT T) {x p : Nat} (hx : x < 256) (hp : p < T 0 4) : wO T (flpN x p) = up (wO T x) 7 p (1 - bitN x p) := by
  have h8 := rg_stops hR
  funext c i
  by_cases e : c = 7 ∧ i = p
  · rw [e.1, e.2, up_same, wO_at hp, (tab_flb x hx p (by omega)).2 p (by omega), if_pos rfl]
  · rw [up_ne e]
    by_cases q : c = 7 ∧ i < T 0 4
    · rw [q.1, wO_at q.2, wO_at q.2, (tab_flb x hx p (by omega)).2 i (by omega), if_neg (fun z => e ⟨q.1, z⟩)]
    · unfold wO
      rw [if_neg q, if_neg q]
theorem wO_clr {T : xTw} (hR : rgT T) {x p : Nat} (hx : x < 256) (hp : p < T 0 4) : wO T (clrN x p) = up (wO T x) 7 p 0 := by
  have h8 := rg_stops hR
  funext c i
  by_cases e : c = 7 ∧ i = p
  · rw [e.1, e.2, up_same, wO_at hp, (tab_clb x hx p (by omega)).2 p (by omega), if_pos rfl]
  · rw [up_ne e]
    by_cases q : c = 7 ∧ i < T 0 4
    · rw [q.1, wO_at q.2, wO_at q.2, (tab_clb x hx p (by omega)).2 i (by omega), if_neg (fun z => e ⟨q.1, z⟩)]
    · unfold wO
      rw [if_neg q, if_neg q]
/-! who pays more, less; the most -/
def payS (A B : Nat → Nat) (T : xTw) (t : Nat) : Nat := if A t < B t then T 12 t else 0
theorem payN_le {T : xTw} (hR : rgT T) (A B : Nat → Nat) {n : Nat} (hn : n ≤ 8) : sumN (payS A B T) n ≤ n * 99 := sumN_le n (fun i hi => by
  have := rg_many hR (i := i) (by omega)
  unfold payS
  split <;> omega)
/-- the most that one is above the other -/
def mstS (A B : Nat → Nat) : Nat → Nat
  | 0 => 0
  | n + 1 => if mstS A B n < B n - A n then B n - A n else mstS A B n
theorem mst_le {A B : Nat → Nat} {b : Nat} : ∀ n, (∀ t, t < n → B t ≤ b) → mstS A B n ≤ b
  | 0, _ => Nat.zero_le _
  | n + 1, h => by
    have h1 := mst_le (A := A) n (fun t ht => h t (by omega))
    have h2 := h n (by omega)
    unfold mstS
    split <;> omega
theorem sub_le0 {a b : Nat} (ha : a < 2 ^ 30) (hb : b < 2 ^ 30) : nI a - nI b ≤ 0 ↔ a ≤ b := by
  rw [Int32.le_iff_toInt_le, pk_sub_toInt ha hb, show (0 : Int32).toInt = 0 from rfl]
  omega
theorem sub_ge0 {a b : Nat} (ha : a < 2 ^ 30) (hb : b < 2 ^ 30) : 0 ≤ nI a - nI b ↔ b ≤ a := by
  rw [Int32.le_iff_toInt_le, pk_sub_toInt ha hb, show (0 : Int32).toInt = 0 from rfl]
  omega
theorem lt_sub {a b m : Nat} (ha : a < 2 ^ 30) (hb : b < 2 ^ 30) (hm : m < 2 ^ 30) : nI m < nI a - nI b ↔ m < a - b := by
  rw [Int32.lt_iff_toInt_lt, pk_sub_toInt ha hb, nI_toInt (by omega)]
  omega
theorem e_payMore {T : xTw} (hR : rgT T) {s : xM} (hK : xTk s T) {A B : Nat → Nat} (hA : ∀ t, t < T 0 12 → gi s 92 t = nI (A t) ∧ A t < 2 ^ 30) (hB : ∀ t, t < T 0 12 → gi s 71 t = nI (B t) ∧ B t < 2 ^ 30) : fX9_peopleWhoPayMore 1 s = some (nI (sumN (payS A B T) (T 0 12)), s) ∧ fX9_peopleWhoPayMore (-1) s = some (nI (sumN (payS B A T) (T 0 12)), s) := by
  have h12 := rg_trips hR
  obtain ⟨f, hf⟩ := fu_big
  have key : ∀ (d : Int32) (P : Nat → Nat), (∀ t, t < T 0 12 → ((nI (B t) - nI (A t)) * d ≤ 0 → P t = 0) ∧ (¬ (nI (B t) - nI (A t)) * d ≤ 0 → P t = T 12 t)) → ∀ (m t n : Nat), t + m = T 0 12 → m < n → fX9_peopleWhoPayMore_L4 (fun x1 s2 => some (x1, s2)) d n (nI (sumN P t)) (nI t) s = some (nI (sumN P (T 0 12)), s) := by
    intro d P hP m
    induction m with
    | zero =>
      intro t n ht hn
      obtain ⟨n, rfl⟩ : ∃ n', n = n' + 1 := ⟨n - 1, by omega⟩
      unfold fX9_peopleWhoPayMore_L4
      rw [xK_trips hK, if_pos (nI_le (by omega) (by omega)), show t = T 0 12 by omega]
    | succ m ih =>
      intro t n ht hn
      obtain ⟨n, rfl⟩ : ∃ n', n = n' + 1 := ⟨n - 1, by omega⟩
      have g := ih (t + 1) n (by omega) (by omega)
      have es : sumN P (t + 1) = sumN P t + P t := rfl
      rw [es] at g
      have p := hP t (by omega)
      unfold fX9_peopleWhoPayMore_L4
      rw [xK_trips hK, if_neg (nI_ge (by omega) (by omega))]
      simp (disch := omega) only [inb_n, gd_t, nI_clamp, lz, (hA t (by omega)).1, (hB t (by omega)).1, xK_many hK, nI_add, nI_1]
      by_cases c : (nI (B t) - nI (A t)) * d ≤ 0
      · rw [if_pos c]
        rw [p.1 c] at g
        exact g
      · rw [if_neg c]
        rw [p.2 c] at g
        exact g
  have k1 := key 1 (payS A B T) (fun t ht => by
    rw [Int32.mul_one, sub_le0 (hB t ht).2 (hA t ht).2]
    unfold payS
    exact ⟨fun q => if_neg (by omega), fun q => if_pos (by omega)⟩) (T 0 12) 0 (f + 4000) (by omega) (by omega)
  have k2 := key (-1) (payS B A T) (fun t ht => by
    have e : (nI (B t) - nI (A t)) * (-1) = nI (A t) - nI (B t) := by
      rw [Int32.mul_neg, Int32.mul_one, Int32.neg_sub]
    rw [e, sub_le0 (hA t ht).2 (hB t ht).2]
    unfold payS
    exact ⟨fun q => if_neg (by omega), fun q => if_pos (by omega)⟩) (T 0 12) 0 (f + 4000) (by omega) (by omega)
  unfold fX9_peopleWhoPayMore
  rw [hf]
  exact ⟨k1, k2⟩
theorem e_mostPaid {T : xTw} (hR : rgT T) {s : xM} (hK : xTk s T) {A B : Nat → Nat} (hA : ∀ t, t < T 0 12 → gi s 92 t = nI (A t) ∧ A t < 2 ^ 30) (hB : ∀ t, t < T 0 12 → gi s 71 t = nI (B t) ∧ B t ≤ 501000) : fX9_mostPaidMore s = some (nI (mstS A B (T 0 12)), s) := by
  have h12 := rg_trips hR
  obtain ⟨f, hf⟩ := fu_big
  have key : ∀ (m t n : Nat), t + m = T 0 12 → m < n → fX9_mostPaidMore_L4 (fun x1 s2 => some (x1, s2)) n (nI (mstS A B t)) (nI t) s = some (nI (mstS A B (T 0 12)), s) := by
    intro m
    induction m with
    | zero =>
      intro t n ht hn
      obtain ⟨n, rfl⟩ : ∃ n', n = n' + 1 := ⟨n - 1, by omega⟩
      unfold fX9_mostPaidMore_L4
      rw [xK_trips hK, if_pos (nI_le (by omega) (by omega)), show t = T 0 12 by omega]
    | succ m ih =>
      intro t n ht hn
      obtain ⟨n, rfl⟩ : ∃ n', n = n' + 1 := ⟨n - 1, by omega⟩
      have g := ih (t + 1) n (by omega) (by omega)
      have es : mstS A B (t + 1) = if mstS A B t < B t - A t then B t - A t else mstS A B t := rfl
      rw [es] at g
      have a := (hA t (by omega)).2
      have b := (hB t (by omega)).2
      have ml := mst_le (A := A) (B := B) (b := 501000) t (fun u hu => (hB u (by omega)).2)
      unfold fX9_mostPaidMore_L4
      rw [xK_trips hK, if_neg (nI_ge (by omega) (by omega))]
      simp (disch := omega) only [inb_n, gd_t, nI_clamp, lz, (hA t (by omega)).1, (hB t (by omega)).1, nI_1]
      by_cases c : mstS A B t < B t - A t
      · rw [if_pos ((lt_sub (by omega) a (by omega)).mpr c), pk_sub (by omega)]
        rw [if_pos c] at g
        exact g
      · rw [if_neg (fun q => c ((lt_sub (by omega) a (by omega)).mp q))]
        rw [if_neg c] at g
        exact g
  unfold fX9_mostPaidMore
  rw [hf]
  exact key (T 0 12) 0 (f + 4000) (by omega) (by omega)
/-! the model's three -/
theorem e_bench104 {T : xTw} (hR : rgT T) {s : xM} (hM : mTn s T) {A B : Nat → Nat} (hA : ∀ t, t < T 0 12 → gi s 31 t = nI (A t) ∧ A t < 2 ^ 30) (hB : ∀ t, t < T 0 12 → gi s 25 t = nI (B t) ∧ B t ≤ 501000) {kt : Int32 → Int32 → Int32 → xM → Option (Int64 × xM)} {a2 : Int32} {a3 a5 : Int64} : ∀ (m t n : Nat), t + m = T 0 12 → m < n → fX10_bench_L104 kt a2 a3 a5 n (nI (sumN (payS A B T) t)) (nI (sumN (payS B A T) t)) (nI (mstS A B t)) (nI t) s = kt (nI (sumN (payS A B T) (T 0 12))) (nI (sumN (payS B A T) (T 0 12))) (nI (mstS A B (T 0 12))) s := by
  have h12 := rg_trips hR
  have e12 := hM 0 12 (vt0 (by omega))
  intro m
  induction m with
  | zero =>
    intro t n ht hn
    obtain ⟨n, rfl⟩ : ∃ n', n = n' + 1 := ⟨n - 1, by omega⟩
    unfold fX10_bench_L104
    rw [e12, if_pos (nI_le (by omega) (by omega)), show t = T 0 12 by omega]
  | succ m ih =>
    intro t n ht hn
    obtain ⟨n, rfl⟩ : ∃ n', n = n' + 1 := ⟨n - 1, by omega⟩
    have g := ih (t + 1) n (by omega) (by omega)
    have es : mstS A B (t + 1) = if mstS A B t < B t - A t then B t - A t else mstS A B t := rfl
    have e1 : sumN (payS A B T) (t + 1) = sumN (payS A B T) t + payS A B T t := rfl
    have e2 : sumN (payS B A T) (t + 1) = sumN (payS B A T) t + payS B A T t := rfl
    rw [es, e1, e2] at g
    have a := (hA t (by omega)).2
    have b := (hB t (by omega)).2
    have ml := mst_le (A := A) (B := B) (b := 501000) t (fun u hu => (hB u (by omega)).2)
    have emn := hM 12 t (vt3 (by omega) (by omega) (by omega))
    unfold fX10_bench_L104 fX10_bench_J148 fX10_bench_J169
    rw [e12, if_neg (nI_ge (by omega) (by omega))]
    simp (disch := omega) only [inb_n, gd_t, nI_clamp, lz, (hA t (by omega)).1, (hB t (by omega)).1, sub_le0, sub_ge0, emn, nI_1, nI_add]
    have z0 : ∀ y, nI y + (0 : Int32) = nI (y + 0) := fun y => nI_add y 0
    simp only [z0]
    have cmp : (nI (B t) - nI (A t) ≤ nI (mstS A B t)) ↔ ¬ mstS A B t < B t - A t := by
      rw [Int32.le_iff_toInt_le, pk_sub_toInt (by omega) a, nI_toInt (by omega)]
      omega
    simp only [cmp]
    by_cases c1 : B t ≤ A t
    · have p1 : payS A B T t = 0 := if_neg (by omega)
      have c3 : ¬ mstS A B t < B t - A t := by omega
      rw [p1, if_neg c3] at g
      rw [if_pos c1]
      by_cases c2 : A t ≤ B t
      · have p2 : payS B A T t = 0 := if_neg (by omega)
        rw [p2] at g
        rw [if_pos c2, if_pos c3]
        exact g
      · have p2 : payS B A T t = T 12 t := if_pos (by omega)
        rw [p2] at g
        rw [if_neg c2, if_pos c3]
        exact g
    · have p1 : payS A B T t = T 12 t := if_pos (by omega)
      have p2 : payS B A T t = 0 := if_neg (by omega)
      rw [p1, p2] at g
      rw [if_neg c1, if_pos (show A t ≤ B t by omega)]
      by_cases c3 : mstS A B t < B t - A t
      · rw [if_pos c3] at g
        rw [if_neg (fun q => q c3), pk_sub (by omega)]
        exact g
      · rw [if_neg c3] at g
        rw [if_pos c3]
        exact g
theorem ol_bench29 {T : xTw} (hR : rgT T) {τ0 : xM} (hM : mTn τ0 T) {a1 a2 : Int32} {a3 : Int64} {kt : xM → Option (Int64 × xM)} {Q : Int64 → xM → Prop} {A : Nat → Nat} : ∀ (m t k : Nat) (s : xM), t + m = T 0 12 → m < k → Fr (fun c i => frV c i ∨ c = 31) τ0 s → (∀ u, u < T 0 12 → gi s 25 u = nI (A u)) → (∀ u, u < t → gi s 31 u = nI (A u)) → (∀ s', Fr (fun c i => frV c i ∨ c = 31) τ0 s' → (∀ u, u < T 0 12 → gi s' 31 u = nI (A u)) → Ok (kt s') Q) → Ok (fX10_bench_L29 kt a1 a2 a3 k (nI t) s) Q := by
  have h12 := rg_trips hR
  have frX : ∀ c i, (frV c i ∨ c = 31) → ¬ vT c i := fun c i q => by
    unfold frV at q
    unfold vT
    omega
  intro m
  induction m with
  | zero =>
    intro t k s ht hk g h25 h31 kk
    obtain ⟨k, rfl⟩ : ∃ n', k = n' + 1 := ⟨k - 1, by omega⟩
    unfold fX10_bench_L29
    refine ok_T (by rw [mTn_fr hM g frX 0 12 (vt0 (by omega))]; exact nI_le (by omega) (by omega)) ?_
    exact kk s g (fun u hu => h31 u (by omega))
  | succ m ih =>
    intro t k s ht hk g h25 h31 kk
    obtain ⟨k, rfl⟩ : ∃ n', k = n' + 1 := ⟨k - 1, by omega⟩
    unfold fX10_bench_L29
    refine ok_F (by rw [mTn_fr hM g frX 0 12 (vt0 (by omega))]; exact nI_ge (by omega) (by omega)) ?_
    simp (disch := omega) only [ok_gd, ok_lz, inb_n, true_and, nI_clamp, nI_1, h25]
    refine ih (t + 1) k _ (by omega) (by omega) (Fr_si g _ (Or.inr rfl)) (fun u hu => ?_) (fun u hu => ?_) kk
    · rw [gi_si, if_neg (by omega)]
      exact h25 u hu
    · rw [gi_si]
      by_cases e : u = t
      · rw [if_pos ⟨rfl, e⟩, e]
      · rw [if_neg (by omega)]
        exact h31 u (by omega)
theorem mTn_cg {s : xM} {T T' : xTw} (h : mTn s T) (e : T' = T) : mTn s T' := by
  rw [e]
  exact h
theorem sim_bench : xs_bench RR := by
  intro σ τ h a0 a1
  refine sim_of ?_
  obtain ⟨T, n, h⟩ := h
  have hR := h.1
  have hX := h.2.2.1
  have hM := h.2.2.2.1
  have h8 := rg_stops hR
  have h12 := rg_trips hR
  have p8 := pow_256 h8
  have s256 := setN_256 hR
  obtain ⟨f, hf⟩ := fu_big
  unfold fX9_bench fX10_bench
  simp only [e_isStop9, e_isStop10, e_isWithin, e_in, bd_some, xT_stops hX.1, hM 0 4 (vt0 (by omega))]
  rcases rcaseN a0 (N := T 0 4) (by omega) with c | ⟨c, p, hp, rfl⟩
  · simp only [c, ↓reduceIte]
    exact sim_R h rfl
  simp only [c, n10, ↓reduceIte]
  by_cases d : a1 < 0 ∨ 3 < a1
  · simp only [d, ↓reduceIte]
    exact sim_R h rfl
  simp only [d, n10, ↓reduceIte]
  rw [hf]
  have o := rg_open hR (i := p) (by omega)
  have bp : bitN (setN T (T 0 4)) p = T 7 p := bitN_setN _ (fun q hq => rg_open hR (by omega)) p hp
  -- the class
  refine rl_B (of_lookAtNow hR hX (fun s1 f1 m1 l1 => ?_))
  have hX1 := xCT_fr hX f1 (fun _ _ => xAsk_27)
  unfold fX9_keepCosts
  rw [gd_of (show cpb 0 0 8 8 8 = true from by decide)]
  show Rel (bd (some ((0 : Int32), scp s1 71 0 92 0 8)) _) _ _
  rw [bd_some]
  have f2 : Fr xAsk s1 (scp s1 71 0 92 0 8) := Fr_scp Fr_rf (fun i _ _ => Or.inr (Or.inr (Or.inl ⟨by omega, by omega⟩)))
  have f3 := Fr_tr f1 f2
  have g92 : ∀ c i, c ≠ 92 → gi (scp s1 71 0 92 0 8) c i = gi s1 c i := fun c i q => by rw [gi_scp, if_neg (by omega)]
  have ms : Meas (scp s1 71 0 92 0 8) T := by
    refine ⟨fun p hp => ?_, fun t ht => ⟨?_, fun p hp => ?_⟩⟩
    · rw [g92 _ _ (by omega), g92 _ _ (by omega)]
      exact m1.1 p hp
    · rw [g92 _ _ (by omega)]
      exact (m1.2 t ht).1
    · rw [g92 _ _ (by omega), g92 _ _ (by omega)]
      exact (m1.2 t ht).2 p hp
  have ls : lookS (scp s1 71 0 92 0 8) T := fun t ht => by
    have q := l1 t ht
    unfold lookT bstX at q ⊢
    rw [g92 _ _ (by omega), g92 _ _ (by omega), g92 _ _ (by omega), g92 _ _ (by omega), g92 _ _ (by omega), g92 _ _ (by omega)]
    exact q
  have k92 : ∀ t, t < T 0 12 → gi (scp s1 71 0 92 0 8) 92 t = nI (bstS T t).1 := fun t ht => by
    rw [gi_scp, if_pos (by omega), Nat.zero_add, Nat.sub_zero]
    exact (l1 t ht).1.1
  have hX3 := xCT_fr hX f3 (fun _ _ => xAsk_27)
  generalize scp s1 71 0 92 0 8 = S at *
  rw [e_total9 hR (xTk_of hX3.1) ls, bd_some, e_openSet hR hX3.1, bd_some, tab_xor _ s256 p (by omega)]
  have hT' : wO T (flpN (setN T (T 0 4)) p) = up T 7 p (1 - T 7 p) := by rw [wO_flp hR s256 hp, wO_set hR, bp]
  refine rl_B (of_lookAt hR ((tab_flb _ s256 p (by omega)).1) ⟨hX3, ms⟩ (xT_every hX3.1) (fun s4 f4 m4 k4 l4 => ?_))
  have hR' := wO_rg hR (flpN (setN T (T 0 4)) p)
  rw [hT'] at k4 l4 hR'
  -- the model
  refine rr_B (of_total hR hM (fun t1 g1 w1 => ?_))
  refine rr_O (ol_bench29 hR hM (A := fun t => (bstS T t).1) (T 0 12) 0 (f + 4000) t1 (by omega) (by omega) (Fr_mono g1 (fun _ _ q => Or.inl q)) (fun u hu => w1.1 u hu) (fun u hu => absurd hu (Nat.not_lt_zero _)) (fun t2 g2 h31 => rr_U ?_))
  have frX : ∀ c i, (frV c i ∨ c = 31) → ¬ vT c i := fun c i q => by
    unfold frV at q
    unfold vT
    omega
  have m2 := mTn_fr hM g2 frX
  have e7 := m2 7 p (vt3 (by omega) (by omega) (by omega))
  simp (disch := omega) only [rr_gd, rr_lz, inb_n, true_and, nI_clamp, e7]
  rw [q1, pk_sub o]
  have m3 : mTn (si t2 7 p (nI (1 - T 7 p))) (up T 7 p (1 - T 7 p)) := mTn_up m2 _
  refine rr_B (of_total hR' m3 (fun t4 g4 w4 => ?_))
  have u12 : up T 7 p (1 - T 7 p) 0 12 = T 0 12 := up_ne (by omega)
  rw [u12] at w4
  have m4' := mTn_fr m3 g4 (fun _ _ => frV_off)
  have e7' := m4' 7 p (vt3 (by omega) (by omega) (by omega))
  rw [up_same] at e7'
  simp (disch := omega) only [rr_gd, rr_lz, inb_n, true_and, nI_clamp, e7']
  rw [pk_sub (by omega), show 1 - (1 - T 7 p) = T 7 p by omega]
  have m5 : mTn (si t4 7 p (nI (T 7 p))) T := by
    refine mTn_cg (mTn_up m4' (T 7 p)) ?_
    funext c i
    by_cases e : c = 7 ∧ i = p
    · rw [e.1, e.2, up_same]
    · rw [up_ne e, up_ne e]
  have hA : ∀ t, t < T 0 12 → gi (si t4 7 p (nI (T 7 p))) 31 t = nI (bstS T t).1 ∧ (bstS T t).1 < 2 ^ 30 := fun t ht => by
    refine ⟨?_, by have := cost_le hR (t := t) (by omega); omega⟩
    rw [gi_si, if_neg (by omega), (g4 31 t (by unfold frV; omega)).1, gi_si, if_neg (by omega)]
    exact h31 t ht
  have hB : ∀ t, t < T 0 12 → gi (si t4 7 p (nI (T 7 p))) 25 t = nI (bstS (up T 7 p (1 - T 7 p)) t).1 ∧ (bstS (up T 7 p (1 - T 7 p)) t).1 ≤ 501000 := fun t ht => by
    refine ⟨?_, cost_le hR' (by omega)⟩
    rw [gi_si, if_neg (by omega)]
    exact w4.1 t ht
  have eb := e_bench104 hR m5 hA hB (a2 := a1) (a3 := lN (totS T)) (a5 := lN (totS (up T 7 p (1 - T 7 p)))) (kt := fun x24 x25 x26 s27 => if a1 = 0 then some ((lN (totS (up T 7 p (1 - T 7 p))) - lN (totS T)), s27) else if a1 = (1 : Int32) then some ((x24.toInt64), s27) else if a1 = (2 : Int32) then some ((x25.toInt64), s27) else some ((x26.toInt64), s27)) (T 0 12) 0 (f + 4000) (by omega) (by omega)
  have hh : RT s4 (si t4 7 p (nI (T 7 p))) T n := by
    refine RT_end h (Fr_tr f3 (Fr_mono f4 (fun _ _ => frL_ask))) (Fr_si (Fr_tr (Fr_si (Fr_mono g2 (fun c i q => ?_)) _ ?_) (Fr_mono g4 (fun _ _ q => mAsk_free (frV_ask q)))) _ ?_) m5
    · unfold frV at q
      unfold mFree
      omega
    · unfold mFree
      omega
    · unfold mFree
      omega
  have kA : ∀ t, t < T 0 12 → gi s4 92 t = nI (bstS T t).1 ∧ (bstS T t).1 < 2 ^ 30 := fun t ht => by
    refine ⟨?_, (hA t ht).2⟩
    rw [(f4 92 t (by unfold frL; omega)).1]
    exact k92 t ht
  have kB : ∀ t, t < T 0 12 → gi s4 71 t = nI (bstS (up T 7 p (1 - T 7 p)) t).1 ∧ (bstS (up T 7 p (1 - T 7 p)) t).1 ≤ 501000 := fun t ht => ⟨(l4 t (by rw [u12]; exact ht)).1.1, (hB t ht).2⟩
  have hK4 := xTk_of m4.1.1
  have pm := e_payMore hR hK4 kA (fun t ht => ⟨(kB t ht).1, by have := (kB t ht).2; omega⟩)
  have mp := e_mostPaid hR hK4 kA kB
  refine Eq.mp (congrArg (fun o => Rel _ o SimP) eb.symm) ?_
  rw [show nI 1 = (1 : Int32) from rfl, e_total9 hR' k4 l4, pm.1, pm.2, mp]
  simp only [bd_some]
  by_cases b0 : a1 = 0
  · simp only [b0, ↓reduceIte]
    exact sim_R hh rfl
  simp only [b0, ↓reduceIte]
  by_cases b1 : a1 = 1
  · simp only [b1, ↓reduceIte]
    exact sim_R hh rfl
  simp only [b1, ↓reduceIte]
  by_cases b2 : a1 = 2
  · simp only [b2, ↓reduceIte]
    exact sim_R hh rfl
  simp only [b2, ↓reduceIte]
  exact sim_R hh rfl
/-! ===== across ===== -/
theorem sim_across : xs_across RR := by
  intro σ τ h a0
  refine sim_of ?_
  obtain ⟨T, n, h⟩ := h
  have hR := h.1
  have hX := h.2.2.1
  have hM := h.2.2.2.1
  have h8 := rg_stops hR
  have h12 := rg_trips hR
  unfold fX9_across fX10_across
  simp only [e_isStop9, e_isStop10, bd_some, xT_stops hX.1, hM 0 4 (vt0 (by omega))]
  rcases rcaseN a0 (N := T 0 4) (by omega) with c | ⟨c, p, hp, rfl⟩
  · simp only [c, ↓reduceIte]
    exact sim_R h rfl
  have hp8 : p < 8 := by omega
  have dk := rg_kind hR hp8
  have e3 := hM 3 p (vt3 (by omega) (by omega) hp8)
  simp (disch := omega) only [c, n10, ↓reduceIte, rl_gd, rr_gd, inb_n, true_and, nI_clamp, xT_kind hX.1, e3]
  by_cases k3 : T 3 p = 3
  rotate_left
  · have nk : ¬ nI (T 3 p) = 3 := by
      rw [q3, nI_eq (by omega) (by omega)]
      exact k3
    simp only [nk, ↓reduceIte]
    exact sim_R h rfl
  have yk : nI (T 3 p) = 3 := by
    rw [k3]
    rfl
  simp only [yk, ↓reduceIte]
  -- with kind 0
  have hR' : rgT (up T 3 p 0) := rgT_up hR (Nat.zero_le _) (fun q => absurd q (by omega))
  have cs : ∀ q, carS (up T 3 p 0) q = carS T q := by
    intro q
    unfold carS srvS
    rw [up_ne (show ¬ (6 = 3 ∧ q = p) by omega), up_ne (show ¬ (9 = 3 ∧ q = p) by omega)]
    by_cases e : q = p
    · rw [e, up_same, k3, if_neg (by omega), if_neg (by omega), if_neg (by omega), if_neg (by omega)]
    · rw [up_ne (by omega)]
  have ss : ∀ q, q ≠ p → secS (up T 3 p 0) q = secS T q := by
    intro q e
    unfold secS secB
    rw [up_ne (show ¬ (3 = 3 ∧ q = p) by omega), up_ne (show ¬ (5 = 3 ∧ q = p) by omega), up_ne (show ¬ (6 = 3 ∧ q = p) by omega), up_ne (show ¬ (8 = 3 ∧ q = p) by omega)]
  have sp : secS (up T 3 p 0) p = T 5 p := by
    unfold secS secB
    rw [up_same, up_ne (show ¬ (5 = 3 ∧ p = p) by omega), if_neg (by omega), if_neg (by omega), if_neg (by omega), if_neg (by omega), if_neg (by omega)]
  have ws : ∀ a b k, wkS (up T 3 p 0) a b k = wkS T a b k := wkS_cg (fun i => up_ne (by omega)) (fun i => up_ne (by omega))
  have u4 : up T 3 p 0 0 4 = T 0 4 := up_ne (by omega)
  have u12 : up T 3 p 0 0 12 = T 0 12 := up_ne (by omega)
  -- the class
  refine rl_B (of_lookAtNow hR hX (fun s1 f1 m1 l1 => ?_))
  have hX1 := xCT_fr hX f1 (fun _ _ => xAsk_27)
  rw [e_total9 hR (xTk_of hX1.1) l1, bd_some]
  simp (disch := omega) only [rl_gd, rl_lz, inb_n, true_and, nI_clamp, xT_takes hX1.1]
  have f2 : Fr xAsk s1 (si s1 29 p (nI (T 5 p))) := Fr_si Fr_rf _ (Or.inl ⟨by omega, by omega⟩)
  have f3 := Fr_tr f1 f2
  have hX3 := xCT_fr hX f3 (fun _ _ => xAsk_27)
  have ms : Meas (si s1 29 p (nI (T 5 p))) (up T 3 p 0) := by
    refine ⟨fun q hq => ?_, fun t ht => ⟨?_, fun q hq => ?_⟩⟩
    · rw [u4] at hq
      have z := m1.1 q hq
      rw [cs, gi_si, if_neg (by omega), gi_si]
      by_cases e : q = p
      · rw [if_pos ⟨rfl, e⟩, e, sp]
        rw [e] at z
        exact ⟨z.1, rfl⟩
      · rw [if_neg (by omega), ss q e]
        exact z
    · rw [u12] at ht
      unfold dirS
      rw [ws, up_ne (show ¬ (10 = 3 ∧ t = p) by omega), up_ne (show ¬ (11 = 3 ∧ t = p) by omega), up_ne (show ¬ (13 = 3 ∧ t = p) by omega), gi_si, if_neg (by omega)]
      exact (m1.2 t ht).1
    · rw [u12] at ht
      rw [u4] at hq
      rw [ws, ws, up_ne (show ¬ (10 = 3 ∧ t = p) by omega), up_ne (show ¬ (11 = 3 ∧ t = p) by omega), up_ne (show ¬ (13 = 3 ∧ t = p) by omega), up_ne (show ¬ (4 = 3 ∧ q = p) by omega), gi_si, if_neg (by omega), gi_si, if_neg (by omega)]
      exact (m1.2 t ht).2 q hq
  have kS : xTk (si s1 29 p (nI (T 5 p))) (up T 3 p 0) := xTk_cg (xTk_of hX3.1) (fun c i hv => up_ne (by unfold vK at hv; omega))
  generalize si s1 29 p (nI (T 5 p)) = S at *
  rw [e_openSet hR hX3.1, bd_some]
  unfold fX9_totalOf
  have sb : ∀ q, q < up T 3 p 0 0 4 → (nI (setN T (T 0 4)) &&& ((1 : Int32) <<< (nI q &&& 31)) = 0 ↔ ¬ up T 3 p 0 7 q = 1) := by
    intro q hq
    rw [u4] at hq
    rw [up_ne (by omega)]
    exact set_bits hR q hq
  refine rl_B (ok_B (of_look hR' kS ms (by rw [up_ne (by omega)]; exact xT_every hX3.1) sb (fun s4 f4 l4 => ?_)))
  have k4 : xTk s4 (up T 3 p 0) := xTk_fr kS f4 (fun c i q => by unfold frL at q; unfold xoff; omega)
  rw [e_total9 hR' k4 l4, bd_some]
  refine ok_R ?_
  -- the model
  refine rr_B (of_total hR hM (fun t1 g1 w1 => ?_))
  have hM1 := mTn_fr hM g1 (fun _ _ => frV_off)
  simp (disch := omega) only [rr_gd, rr_lz, inb_n, true_and, nI_clamp]
  have m3 : mTn (si t1 3 p 0) (up T 3 p 0) := mTn_up hM1 0
  refine rr_B (of_total hR' m3 (fun t4 g4 w4 => ?_))
  have m4 := mTn_fr m3 g4 (fun _ _ => frV_off)
  simp (disch := omega) only [rr_gd, rr_lz, inb_n, true_and, nI_clamp]
  refine sim_R (RT_end h (Fr_tr f3 (Fr_mono f4 (fun _ _ => frL_ask))) (Fr_si (Fr_tr (Fr_si (Fr_mono g1 (fun _ _ q => mAsk_free (frV_ask q))) _ ?_) (Fr_mono g4 (fun _ _ q => mAsk_free (frV_ask q)))) _ ?_) ?_) rfl
  · unfold mFree
    omega
  · unfold mFree
    omega
  · refine mTn_cg (mTn_up m4 3) ?_
    funext c i
    by_cases e : c = 3 ∧ i = p
    · rw [e.1, e.2, up_same, k3]
    · rw [up_ne e, up_ne e]
