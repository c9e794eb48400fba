/-! ===== patterns ===== -/
def pD (v ch p : Nat) : Nat := ch / 3 ^ (v - 1 - p) % 3
def pO (T : xTw) (v ch : Nat) : xTw := fun c i => if c = 9 ∧ i < v then pD v ch i else T c i
theorem pO_ne {T : xTw} {v ch c i : Nat} (h : ¬ (c = 9 ∧ i < v)) : pO T v ch c i = T c i := if_neg h
theorem pO_at {T : xTw} {v ch i : Nat} (h : i < v) : pO T v ch 9 i = pD v ch i := if_pos ⟨rfl, h⟩
theorem pD_le (v ch p : Nat) : pD v ch p ≤ 2 := by
  unfold pD
  omega
theorem pO_rg {T : xTw} (hR : rgT T) (v ch : Nat) : rgT (pO T v ch) := by
  refine ⟨fun c i hv => ?_, ?_⟩
  · by_cases e : c = 9 ∧ i < v
    · rw [e.1, pO_at e.2]
      exact pD_le v ch i
    · rw [pO_ne e]
      exact hR.1 c i hv
  · rw [pO_ne (by omega)]
    exact hR.2
/-- the digits of the first k -/
def dgS (ch k : Nat) : Nat := sumN (fun i => ch / 3 ^ i % 3 * 10 ^ i) k
theorem dgS_le {ch k : Nat} (hk : k ≤ 5) : dgS ch k ≤ 100000 := by
  have h := sumN_le (f := fun i => ch / 3 ^ i % 3 * 10 ^ i) (b := 20000) k (fun i hi => by
    have a : ch / 3 ^ i % 3 ≤ 2 := by omega
    have b : 10 ^ i ≤ 10 ^ 4 := Nat.pow_le_pow_right (by omega) (by omega)
    have c : ch / 3 ^ i % 3 * 10 ^ i ≤ 2 * 10 ^ 4 := mul_le2 a b
    omega)
  unfold dgS
  omega
theorem div3 (ch k : Nat) : ch / 3 ^ k / 3 = ch / 3 ^ (k + 1) := by
  rw [Nat.div_div_eq_div_mul, Nat.pow_succ]
/-- measured, but for the cars of the first v -/
def MeasV (σ : xM) (T : xTw) (v : Nat) : Prop := (∀ p, p < T 0 4 → gi σ 29 p = nI (secS T p) ∧ (v ≤ p → gi σ 28 p = nI (carS T p))) ∧ mes2 σ T (T 0 12)
theorem MeasV_fr {σ σ' : xM} {T : xTw} {v : Nat} (h : MeasV σ T v) (hR : rgT T) {P : Nat → Nat → Prop} (f : Fr P σ σ') (hp : ∀ c i, P c i → c ≠ 29 ∧ c ≠ 30 ∧ ¬ (32 ≤ c ∧ c ≤ 39) ∧ ¬ (41 ≤ c ∧ c ≤ 48) ∧ (c = 28 → i < v)) : MeasV σ' T v := by
  have h8 := rg_stops hR
  have h12 := rg_trips hR
  have z : ∀ c i, (c = 29 ∨ c = 30 ∨ (32 ≤ c ∧ c ≤ 39) ∨ (41 ≤ c ∧ c ≤ 48) ∨ (c = 28 ∧ v ≤ i)) → gi σ' c i = gi σ c i := fun c i q => (f c i (fun y => by have := hp c i y; omega)).1
  refine ⟨fun p hp => ⟨?_, fun hv => ?_⟩, fun t ht => ⟨?_, fun p hp => ?_⟩⟩
  · rw [z _ _ (by omega)]
    exact (h.1 p hp).1
  · rw [z _ _ (by omega)]
    exact (h.1 p hp).2 hv
  · rw [z _ _ (by omega)]
    exact (h.2 t ht).1
  · rw [z _ _ (by omega), z _ _ (by omega)]
    exact (h.2 t ht).2 p hp
theorem ol_takeP {T : xTw} (hR : rgT T) {v : Nat} (hv : v ≤ 5) (ch : Nat) {kt : Int32 → xM → Option (Int32 × xM)} {Q : Int32 → xM → Prop} : ∀ (m k n : Nat) (s : xM), k + m = v → m < n → ch < 243 → xCT s T → (∀ p, v ≤ p + k → p < v → gi s 28 p = nI (carP (srvS T p) (pD v ch p))) → (∀ s', Fr (fun c i => c = 28 ∧ i < v) s s' → (∀ p, p < v → gi s' 28 p = nI (carP (srvS T p) (pD v ch p))) → Ok (kt (nI (dgS ch v)) s') Q) → Ok (fX9_takePatterns_L13 kt n (nI (dgS ch k)) (nI (10 ^ k)) (nI (ch / 3 ^ k)) (nI m - 1) s) Q := by
  intro m
  induction m with
  | zero =>
    intro k n s hk hn hc hX hd kk
    obtain ⟨n, rfl⟩ : ∃ n', n = n' + 1 := ⟨n - 1, by omega⟩
    unfold fX9_takePatterns_L13
    refine ok_T (by decide) ?_
    rw [show k = v by omega]
    exact kk s Fr_rf (fun p hp => hd p (by omega) hp)
  | succ m ih =>
    intro k n s hk hn hc hX hd kk
    obtain ⟨n, rfl⟩ : ∃ n', n = n' + 1 := ⟨n - 1, by omega⟩
    have hle : ch / 3 ^ k ≤ ch := Nat.div_le_self _ _
    have h10 : 10 ^ k ≤ 10 ^ 5 := Nat.pow_le_pow_right (by omega) (by omega)
    have dg := dgS_le (ch := ch) (k := k) (by omega)
    have m8 : m < 8 := by omega
    rw [nI_pred]
    unfold fX9_takePatterns_L13
    refine ok_F (nI_pos (by omega)) ?_
    rw [q3, q10, pk_rem (by omega) (by omega) (by omega), pk_div (by omega) (by omega) (by omega)]
    simp (disch := omega) only [ok_lz, ok_gd, inb_n, true_and, nI_clamp, e_carsBy hR hX.1 hX.2.1 m8, ok_bd, ok_some, pk_mul, nI_add]
    have em : nI m + (-1 : Int32) = nI m - 1 := by rw [Int32.sub_eq_add_neg]
    rw [em, div3, ← Nat.pow_succ]
    have ed : dgS ch k + ch / 3 ^ k % 3 * 10 ^ k = dgS ch (k + 1) := rfl
    rw [ed]
    have ep : pD v ch m = ch / 3 ^ k % 3 := by
      unfold pD
      rw [show v - 1 - m = k by omega]
    rw [← ep]
    have f1 : Fr (fun c i => c = 28 ∧ i < v) s (si s 28 m (nI (carP (srvS T m) (pD v ch m)))) := Fr_si Fr_rf _ ⟨rfl, by omega⟩
    refine ih (k + 1) n _ (by omega) (by omega) hc (xCT_fr hX f1 (fun c i q => by omega)) (fun p h1 h2 => ?_) (fun s' f => kk s' (Fr_tr f1 f))
    rw [gi_si]
    by_cases e : p = m
    · rw [if_pos ⟨rfl, e⟩, e]
    · rw [if_neg (by omega)]
      exact hd p (by omega) h2
/-- the model's town but for the first v patterns -/
def mTp (s : xM) (T : xTw) (v : Nat) : Prop := ∀ c i, vT c i → ¬ (c = 9 ∧ i < v) → gi s c i = nI (T c i)
theorem ol_mpat108 {T : xTw} {v : Nat} (hv : v ≤ 5) (ch : Nat) (hc : ch < 243) {kt : Int64 → xM → Option (Int64 × xM)} {Q : Int64 → xM → Prop} {a1 a2 a3 a8 : Int32} {a4 a6 : Int64} : ∀ (m k n : Nat) (s : xM), k + m = v → m < n → mTp s T v → (∀ p, v ≤ p + k → p < v → gi s 9 p = nI (pD v ch p)) → (∀ s', Fr (fun c _ => c = 9) s s' → mTn s' (pO T v ch) → Ok (kt (lN (dgS ch v)) s') Q) → Ok (fX10_patterns_L108 kt a1 a2 a3 a4 a6 a8 n (nI (ch / 3 ^ k)) (lN (dgS ch k)) (lN (10 ^ k)) (nI m - 1) s) Q := by
  intro m
  induction m with
  | zero =>
    intro k n s hk hn hT hd kk
    obtain ⟨n, rfl⟩ : ∃ n', n = n' + 1 := ⟨n - 1, by omega⟩
    unfold fX10_patterns_L108
    refine ok_T (by decide) ?_
    rw [show k = v by omega]
    refine kk s Fr_rf (fun c i h => ?_)
    by_cases e : c = 9 ∧ i < v
    · rw [e.1, pO_at e.2]
      exact hd i (by omega) e.2
    · rw [pO_ne e]
      exact hT c i h e
  | succ m ih =>
    intro k n s hk hn hT hd kk
    obtain ⟨n, rfl⟩ : ∃ n', n = n' + 1 := ⟨n - 1, by omega⟩
    have hle : ch / 3 ^ k ≤ ch := Nat.div_le_self _ _
    rw [nI_pred]
    unfold fX10_patterns_L108
    refine ok_F (nI_pos (by omega)) ?_
    rw [q3, pk_rem (by omega) (by omega) (by omega), pk_div (by omega) (by omega) (by omega)]
    simp (disch := omega) only [ok_lz, ok_gd, inb_n, true_and, nI_clamp, gi_same]
    have ep : pD v ch m = ch / 3 ^ k % 3 := by
      unfold pD
      rw [show v - 1 - m = k by omega]
    rw [nI_l (by omega), lN_mul, lN_add, show (10 : Int64) = lN 10 from rfl, lN_mul]
    have em : nI m + (-1 : Int32) = nI m - 1 := by rw [Int32.sub_eq_add_neg]
    rw [em, div3, ← Nat.pow_succ, Nat.mul_comm (10 ^ k)]
    have ed : dgS ch k + ch / 3 ^ k % 3 * 10 ^ k = dgS ch (k + 1) := rfl
    rw [ed, ← ep]
    have f1 : Fr (fun c _ => c = 9) s (si s 9 m (nI (pD v ch m))) := Fr_si Fr_rf _ rfl
    refine ih (k + 1) n _ (by omega) (by omega) (fun c i h q => ?_) (fun p h1 h2 => ?_) (fun s' f => kk s' (Fr_tr f1 f))
    · rw [gi_si, if_neg (by omega)]
      exact hT c i h q
    · rw [gi_si]
      by_cases e : p = m
      · rw [if_pos ⟨rfl, e⟩, e]
      · rw [if_neg (by omega)]
        exact hd p (by omega) h2
def keptP (s : xM) (T : xTw) : Prop := ∀ p, p < 8 → gi s 32 p = nI (T 9 p)
theorem ol_mpat35 {T : xTw} {v : Nat} (hv : v ≤ 5) {τ0 : xM} (hM : mTn τ0 T) {a1 : Int32} {kt : Int32 → xM → Option (Int64 × xM)} {Q : Int64 → xM → Prop} : ∀ (m p n : Nat) (s : xM), p + m = 8 → m < n → Fr (fun c _ => c = 32) τ0 s → (∀ i, i < p → gi s 32 i = nI (T 9 i)) → (∀ s', Fr (fun c _ => c = 32) τ0 s' → keptP s' T → Ok (kt (nI (3 ^ v)) s') Q) → Ok (fX10_patterns_L35 kt a1 (nI v) n (nI (3 ^ (if p < v then p else v))) (nI p) s) Q := by
  intro m
  induction m with
  | zero =>
    intro p n s hp hn g hd kk
    obtain ⟨n, rfl⟩ : ∃ n', n = n' + 1 := ⟨n - 1, by omega⟩
    unfold fX10_patterns_L35
    refine ok_T (nI_le (a := 8) (by omega) (by omega)) ?_
    rw [if_neg (by omega)]
    exact kk s g (fun i hi => hd i (by omega))
  | succ m ih =>
    intro p n s hp hn g hd kk
    obtain ⟨n, rfl⟩ : ∃ n', n = n' + 1 := ⟨n - 1, by omega⟩
    unfold fX10_patterns_L35
    refine ok_F (nI_ge (b := 8) (by omega) (by omega)) ?_
    simp (disch := omega) only [ok_lz, ok_gd, inb_n, true_and, nI_clamp, nI_1]
    rw [(g 9 p (by omega)).1, hM 9 p (vt3 (by omega) (by omega) (by omega))]
    have gg := fun (x : Nat) (hx : x = 3 ^ (if p + 1 < v then p + 1 else v)) => hx ▸ ih (p + 1) n (si s 32 p (nI (T 9 p))) (by omega) (by omega) (Fr_si g _ rfl) (fun i hi => by
      rw [gi_si]
      by_cases e : i = p
      · rw [if_pos ⟨rfl, e⟩, e]
      · rw [if_neg (by omega)]
        exact hd i (by omega)) kk
    by_cases c : v ≤ p
    · refine ok_T (nI_le c (by omega)) ?_
      rw [q1, pk_mul, Nat.mul_one, if_neg (by omega)]
      exact gg _ (by rw [if_neg (by omega)])
    · refine ok_F (nI_ge (by omega) (by omega)) ?_
      rw [q3, pk_mul, if_pos (by omega), ← Nat.pow_succ]
      refine gg _ ?_
      by_cases d : p + 1 < v
      · rw [if_pos d]
      · rw [if_neg d, show v = p + 1 by omega]
theorem ol_mpat198 {T : xTw} {v : Nat} {a1 : Int32} {a4 a6 : Int64} {kt : xM → Option (Int64 × xM)} {Q : Int64 → xM → Prop} : ∀ (m p n : Nat) (s : xM), p + m = 8 → m < n → mTp s T v → keptP s T → (∀ i, i < p → gi s 9 i = nI (T 9 i)) → (∀ s', Fr (fun c _ => c = 9) s s' → mTn s' T → Ok (kt s') Q) → Ok (fX10_patterns_L198 kt a1 a4 a6 n (nI p) s) Q := by
  intro m
  induction m with
  | zero =>
    intro p n s hp hn hT hk hd kk
    obtain ⟨n, rfl⟩ : ∃ n', n = n' + 1 := ⟨n - 1, by omega⟩
    unfold fX10_patterns_L198
    refine ok_T (nI_le (a := 8) (by omega) (by omega)) ?_
    refine kk s Fr_rf (fun c i h => ?_)
    by_cases e : c = 9
    · subst e
      unfold vT at h
      exact hd i (by omega)
    · exact hT c i h (fun q => e q.1)
  | succ m ih =>
    intro p n s hp hn hT hk hd kk
    obtain ⟨n, rfl⟩ : ∃ n', n = n' + 1 := ⟨n - 1, by omega⟩
    unfold fX10_patterns_L198
    refine ok_F (nI_ge (b := 8) (by omega) (by omega)) ?_
    simp (disch := omega) only [ok_lz, ok_gd, inb_n, true_and, nI_clamp, nI_1]
    rw [hk p (by omega)]
    have f1 : Fr (fun c _ => c = 9) s (si s 9 p (nI (T 9 p))) := Fr_si Fr_rf _ rfl
    refine ih (p + 1) n _ (by omega) (by omega) (fun c i h q => ?_) (fun i hi => ?_) (fun i hi => ?_) (fun s' f => kk s' (Fr_tr f1 f))
    · rw [gi_si]
      by_cases e : c = 9 ∧ i = p
      · rw [if_pos e, e.1, e.2]
      · rw [if_neg e]
        exact hT c i h q
    · rw [gi_si, if_neg (by omega)]
      exact hk i hi
    · rw [gi_si]
      by_cases e : i = p
      · rw [if_pos ⟨rfl, e⟩, e]
      · rw [if_neg (by omega)]
        exact hd i (by omega)
theorem e_pat37 {v : Nat} (hv : v ≤ 5) {a1 : Int32} {kt : Int32 → xM → Option (Int64 × xM)} {s : xM} : ∀ (m p n : Nat), p + m = v → m < n → fX9_patterns_L37 kt a1 (nI v) n (nI (3 ^ p)) (nI p) s = kt (nI (3 ^ v)) s := by
  intro m
  induction m with
  | zero =>
    intro p n hp hn
    obtain ⟨n, rfl⟩ : ∃ n', n = n' + 1 := ⟨n - 1, by omega⟩
    unfold fX9_patterns_L37
    rw [if_pos (nI_le (by omega) (by omega)), show p = v by omega]
  | succ m ih =>
    intro p n hp hn
    obtain ⟨n, rfl⟩ : ∃ n', n = n' + 1 := ⟨n - 1, by omega⟩
    unfold fX9_patterns_L37
    rw [if_neg (nI_ge (by omega) (by omega)), q3, pk_mul, ← Nat.pow_succ, nI_1]
    exact ih (p + 1) n (by omega) (by omega)
theorem lN_no {L : Nat} (h : L < 2 ^ 31) : ¬ lg_cmp (lN L) (-4611686018427387904) = 0 := by
  rw [lg_cmp_eq, ← Int64.toInt_inj, lN_toInt h, show (-4611686018427387904 : Int64).toInt = -4611686018427387904 from rfl]
  omega
def frY (c i : Nat) : Prop := frV c i ∨ c = 9
/-- the best so far of both: none yet, or digits and total -/
def ptI (x : Nat) (c4 c6 m4 m6 : Int64) : Prop := (x = 0 ∧ c6 = -4611686018427387904 ∧ m4 = -1) ∨ (0 < x ∧ ∃ d L, d ≤ 100000 ∧ L ≤ 396792000 ∧ c4 = lN d ∧ m4 = lN d ∧ c6 = lN L ∧ m6 = lN L)
theorem pat_loop {T : xTw} (hR : rgT T) {v : Nat} (hv : v ≤ 5) (hvN : v ≤ T 0 4) {a1 : Int32} {k1 k2 : Int64 → Int64 → xM → Option (Int64 × xM)} {Q : Int64 → xM → Int64 → xM → Prop} : ∀ (m x f g : Nat) (σ τ : xM) (c4 c6 m4 m6 : Int64), x + m = 3 ^ v → m < f → m < g → xCT σ T → MeasV σ T v → mTp τ T v → keptP τ T → ptI x c4 c6 m4 m6 → (∀ σ' τ' d L, Fr (fun c i => frL c i ∨ c = 28) σ σ' → Fr frY τ τ' → mTp τ' T v → keptP τ' T → Rel (k1 (lN d) (lN L) σ') (k2 (lN d) (lN L) τ') Q) → Rel (fX9_patterns_L64 k1 a1 (nI v) (nI (3 ^ v)) f c4 c6 (nI x) σ) (fX10_patterns_L87 k2 a1 (nI v) (nI (3 ^ v)) g m4 m6 (nI x) τ) Q := by
  have h8 := rg_stops hR
  have h12 := rg_trips hR
  have h243 : 3 ^ v ≤ 3 ^ 5 := Nat.pow_le_pow_right (by omega) hv
  have pw : 0 < 3 ^ v := Nat.pow_pos (by omega)
  intro m
  induction m with
  | zero =>
    intro x f g σ τ c4 c6 m4 m6 hx hf hg h1 h2 h3 h4 h5 kk
    obtain ⟨f, rfl⟩ : ∃ n', f = n' + 1 := ⟨f - 1, by omega⟩
    obtain ⟨g, rfl⟩ : ∃ n', g = n' + 1 := ⟨g - 1, by omega⟩
    unfold fX9_patterns_L64 fX10_patterns_L87
    have e : nI (3 ^ v) ≤ nI x := nI_le (by omega) (by omega)
    rcases h5 with q | ⟨-, d, L, -, -, rfl, rfl, rfl, rfl⟩
    · omega
    · exact rl_T e (rr_T e (kk σ τ d L Fr_rf Fr_rf h3 h4))
  | succ m ih =>
    intro x f g σ τ c4 c6 m4 m6 hx hf hg h1 h2 h3 h4 h5 kk
    obtain ⟨f, rfl⟩ : ∃ n', f = n' + 1 := ⟨f - 1, by omega⟩
    obtain ⟨g, rfl⟩ : ∃ n', g = n' + 1 := ⟨g - 1, by omega⟩
    obtain ⟨fu', hfu⟩ := fu_big
    have hR' := pO_rg hR v x
    have t04 : pO T v x 0 4 = T 0 4 := pO_ne (by omega)
    have t012 : pO T v x 0 12 = T 0 12 := pO_ne (by omega)
    have dgl := dgS_le (ch := x) hv
    have tl := totS_le hR'
    unfold fX9_patterns_L64 fX10_patterns_L87 fX9_takePatterns
    have e : ¬ nI (3 ^ v) ≤ nI x := nI_ge (by omega) (by omega)
    refine rl_F e (rr_F e ?_)
    rw [hfu]
    -- the class
    refine rl_B (ok_lz.mpr ?_)
    have go := fun (Q : Int32 → xM → Prop) => ol_takeP (Q := Q) hR hv x (kt := fun x3 s4 => some (x3, s4)) v 0 (fu' + 4000) σ (by omega) (by omega) (by omega) h1 (fun p h1 h2 => absurd h2 (by omega))
    have e0 : dgS x 0 = 0 := rfl
    simp only [e0, Nat.pow_zero, Nat.div_one] at go
    refine go _ (fun σ1 f1 c1 => ok_R ?_)
    have hX1 := xCT_fr h1 f1 (fun c i q => by omega)
    have hV1 := MeasV_fr h2 hR f1 (fun c i q => ⟨by omega, by omega, by omega, by omega, fun _ => q.2⟩)
    rw [e_openSet hR hX1.1, bd_some]
    have wk : ∀ a b k, wkS (pO T v x) a b k = wkS T a b k := wkS_cg (fun i => pO_ne (by omega)) (fun i => pO_ne (by omega))
    have sv : ∀ p, srvS (pO T v x) p = srvS T p := fun p => by
      unfold srvS
      rw [pO_ne (by omega), pO_ne (by omega)]
    have ms : Meas σ1 (pO T v x) := by
      refine ⟨fun p hp => ⟨?_, ?_⟩, fun t ht => ⟨?_, fun p hp => ?_⟩⟩
      · rw [t04] at hp
        unfold carS
        rw [sv]
        by_cases z : p < v
        · rw [pO_at z]
          exact c1 p z
        · rw [pO_ne (by omega)]
          exact (hV1.1 p hp).2 (by omega)
      · rw [t04] at hp
        have : secS (pO T v x) p = secS T p := by
          unfold secS secB
          rw [pO_ne (by omega), pO_ne (by omega), pO_ne (by omega), pO_ne (by omega)]
        rw [this]
        exact (hV1.1 p hp).1
      · rw [t012] at ht
        unfold dirS
        rw [wk, pO_ne (by omega), pO_ne (by omega), pO_ne (by omega)]
        exact (hV1.2 t ht).1
      · rw [t012] at ht
        rw [t04] at hp
        rw [wk, wk, pO_ne (by omega), pO_ne (by omega), pO_ne (by omega), pO_ne (by omega)]
        exact (hV1.2 t ht).2 p hp
    have kS : xTk σ1 (pO T v x) := xTk_cg (xTk_of hX1.1) (fun c i hv => pO_ne (by unfold vK at hv; omega))
    have sb : ∀ q, q < pO T v x 0 4 → (nI (setN T (T 0 4)) &&& ((1 : Int32) <<< (nI q &&& 31)) = 0 ↔ ¬ pO T v x 7 q = 1) := by
      intro q hq
      rw [t04] at hq
      rw [pO_ne (by omega)]
      exact set_bits hR q hq
    unfold fX9_totalOf
    refine rl_B (ok_B (of_look hR' kS ms (by rw [pO_ne (by omega)]; exact xT_every hX1.1) sb (fun σ2 f2 l2 => ?_)))
    have k2' : xTk σ2 (pO T v x) := xTk_fr kS f2 (fun c i q => by unfold frL at q; unfold xoff; omega)
    rw [e_total9 hR' k2' l2, bd_some]
    refine ok_R ?_
    have hX2 := xCT_fr hX1 f2 (fun c i q => by unfold frL at q; omega)
    have hV2 := MeasV_fr hV1 hR f2 (fun c i q => by unfold frL at q; omega)
    have F2 : Fr (fun c i => frL c i ∨ c = 28) σ σ2 := Fr_tr (Fr_mono f1 (fun c i q => Or.inr q.1)) (Fr_mono f2 (fun c i q => Or.inl q))
    -- the model
    refine rr_lz.mpr ?_
    have gm := fun (Q : Int64 → xM → Prop) => ol_mpat108 (Q := Q) (T := T) hv x (by omega) (a1 := a1) (a2 := nI v) (a3 := nI (3 ^ v)) (a8 := nI x) (a4 := m4) (a6 := m6) (kt := fun x4 s5 => bd (fX10_total s5) fun r6 s7 => if (lg_cmp m4 (0 : Int64)) < 0 then fX10_patterns_J181 k2 (fX10_patterns_L87 k2 a1 (nI v) (nI (3 ^ v)) g) a1 (nI v) (nI (3 ^ v)) (nI x) x4 r6 s7 else if 0 ≤ (lg_cmp r6 m6) then fX10_patterns_L87 k2 a1 (nI v) (nI (3 ^ v)) g m4 m6 (nI x + 1) s7 else fX10_patterns_J181 k2 (fX10_patterns_L87 k2 a1 (nI v) (nI (3 ^ v)) g) a1 (nI v) (nI (3 ^ v)) (nI x) x4 r6 s7) v 0 (fu' + 4000) τ (by omega) (by omega) h3 (fun p h1 h2 => absurd h2 (by omega))
    simp only [e0, Nat.pow_zero, Nat.div_one] at gm
    refine rr_O (gm _ (fun τ1 g1 M1 => rr_U ?_))
    refine rr_B (of_total hR' M1 (fun τ2 g2 w2 => ?_))
    have M2 := mTn_fr M1 g2 (fun _ _ => frV_off)
    have P2 : mTp τ2 T v := fun c i h q => by rw [M2 c i h, pO_ne q]
    have G2 : Fr frY τ τ2 := Fr_tr (Fr_mono g1 (fun c i q => Or.inr q)) (Fr_mono g2 (fun c i q => Or.inl q))
    have K2 : keptP τ2 T := fun p hp => by
      rw [(G2 32 p (by unfold frY frV; omega)).1]
      exact h4 p hp
    have take : Rel (fX9_patterns_J109 k1 (fX9_patterns_L64 k1 a1 (nI v) (nI (3 ^ v)) f) a1 (nI v) (nI (3 ^ v)) (nI x) (nI (dgS x v)) (lN (totS (pO T v x))) σ2) (fX10_patterns_J181 k2 (fX10_patterns_L87 k2 a1 (nI v) (nI (3 ^ v)) g) a1 (nI v) (nI (3 ^ v)) (nI x) (lN (dgS x v)) (lN (totS (pO T v x))) τ2) Q := by
      unfold fX9_patterns_J109 fX10_patterns_J181
      refine rl_lz.mpr ?_
      rw [nI_l (by omega), nI_1]
      exact ih (x + 1) f g σ2 τ2 _ _ _ _ (by omega) (by omega) (by omega) hX2 hV2 P2 K2 (Or.inr ⟨by omega, _, _, dgl, tl, rfl, rfl, rfl, rfl⟩) (fun σ' τ' d L q1 q2 => kk σ' τ' d L (Fr_tr F2 q1) (Fr_tr G2 q2))
    rcases h5 with ⟨rfl, rfl, rfl⟩ | ⟨x0, d, L, hd, hL, rfl, rfl, rfl, rfl⟩
    · exact rl_T (by decide) (rr_T (by decide) take)
    · have nd : ¬ lg_cmp (lN d) (0 : Int64) < 0 := by
        rw [show (0 : Int64) = lN 0 from rfl, cmp_lt (by omega) (by omega)]
        omega
      refine rl_F (lN_no (by omega)) (rr_F nd ?_)
      by_cases c : 0 ≤ lg_cmp (lN (totS (pO T v x))) (lN L)
      · refine rl_T c (rr_T c ?_)
        rw [nI_1]
        exact ih (x + 1) f g σ2 τ2 _ _ _ _ (by omega) (by omega) (by omega) hX2 hV2 P2 K2 (Or.inr ⟨by omega, d, L, hd, hL, rfl, rfl, rfl, rfl⟩) (fun σ' τ' d L q1 q2 => kk σ' τ' d L (Fr_tr F2 q1) (Fr_tr G2 q2))
      · exact rl_F c (rr_F c take)
theorem sim_patterns : xs_patterns RR := by
  intro σ τ h a0
  refine sim_of ?_
  obtain ⟨T, n, h⟩ := h
  have hR := h.1
  have hX := h.2.2.1
  have hM := h.2.2.2.1
  have h8 := rg_stops hR
  have h12 := rg_trips hR
  obtain ⟨f, hf⟩ := fu_big
  unfold fX9_patterns fX10_patterns
  simp only [e_isWithin, e_in, bd_some]
  by_cases d : a0 < 0 ∨ 1 < a0
  · simp only [d, ↓reduceIte]
    exact sim_R h rfl
  simp only [d, n10, ↓reduceIte]
  refine rl_B (of_measure hR hX (fun s1 f1 m1 => ?_))
  have hX1 := xCT_fr hX f1 (fun _ _ => frS_27)
  rw [xT_stops hX1.1, hM 0 4 (vt0 (by omega))]
  have main : ∀ v, v ≤ 5 → v ≤ T 0 4 → Rel (lz (nI v) fun v8 => fX9_patterns_L37 (fun x10 s11 => fX9_patterns_L64 (fun x12 x13 s14 => if a0 = 0 then some (x12, s14) else some (x13, s14)) a0 v8 x10 fu (0 : Int64) (-4611686018427387904 : Int64) (0 : Int32) s11) a0 v8 fu (1 : Int32) (0 : Int32) s1) (fX10_patterns_J29 a0 (nI v) τ) SimP := by
    intro v hv hvN
    have h243 : 3 ^ v ≤ 3 ^ 5 := Nat.pow_le_pow_right (by omega) hv
    unfold fX10_patterns_J29
    refine rl_lz.mpr ?_
    rw [hf]
    have e37 := e_pat37 hv (a1 := a0) (s := s1) (kt := fun x10 s11 => fX9_patterns_L64 (fun x12 x13 s14 => if a0 = 0 then some (x12, s14) else some (x13, s14)) a0 (nI v) x10 (f + 4000) (0 : Int64) (-4611686018427387904 : Int64) (0 : Int32) s11) v 0 (f + 4000) (by omega) (by omega)
    rw [Nat.pow_zero] at e37
    refine Eq.mp (congrArg (fun o => Rel o _ SimP) e37.symm) ?_
    have g35 := fun (Q : Int64 → xM → Prop) => ol_mpat35 (Q := Q) (T := T) hv hM (a1 := a0) (kt := fun x1 s2 => fX10_patterns_L87 (fun x3 x4 s5 => fX10_patterns_L198 (fun s6 => if a0 = 0 then some (x3, s6) else some (x4, s6)) a0 x3 x4 (f + 4000) (0 : Int32) s5) a0 (nI v) x1 (f + 4000) (-1 : Int64) (0 : Int64) (0 : Int32) s2) 8 0 (f + 4000) τ (by omega) (by omega) Fr_rf (fun i hi => absurd hi (Nat.not_lt_zero _))
    have e30 : 3 ^ (if 0 < v then 0 else v) = 1 := by
      by_cases z : 0 < v
      · rw [if_pos z]
      · rw [if_neg z, show v = 0 by omega]
    rw [e30] at g35
    refine rr_O (g35 _ (fun τ1 g1 K1 => rr_U ?_))
    have M1 := mTn_fr hM g1 (fun c i q => by unfold vT; omega)
    have mv : MeasV s1 T v := ⟨fun p hp => ⟨(m1.1 p hp).2, fun _ => (m1.1 p hp).1⟩, m1.2⟩
    refine pat_loop hR hv hvN (3 ^ v) 0 (f + 4000) (f + 4000) s1 τ1 0 _ _ 0 (by omega) (by omega) (by omega) hX1 mv (fun c i h _ => M1 c i h) K1 (Or.inl ⟨rfl, rfl, rfl⟩) (fun σ' τ' dd L f2 g2 P2 K2 => ?_)
    refine rr_O (ol_mpat198 (T := T) (v := v) 8 0 (f + 4000) τ' (by omega) (by omega) P2 K2 (fun i hi => absurd hi (Nat.not_lt_zero _)) (fun τ3 g3 M3 => rr_U ?_))
    have hh : RT σ' τ3 T n := by
      refine RT_end h (Fr_tr (Fr_mono f1 (fun _ _ => frS_ask)) (Fr_mono f2 (fun c i q => ?_))) (Fr_tr (Fr_mono g1 (fun c i q => ?_)) (Fr_tr (Fr_mono g2 (fun c i q => ?_)) (Fr_mono g3 (fun c i q => ?_)))) M3
      · rcases q with q | q
        · exact frL_ask q
        · exact Or.inl ⟨by omega, by omega⟩
      · unfold mFree
        omega
      · unfold frY frV at q
        unfold mFree
        omega
      · unfold mFree
        omega
    by_cases b0 : a0 = 0
    · simp only [b0, ↓reduceIte]
      exact sim_R hh rfl
    · simp only [b0, ↓reduceIte]
      exact sim_R hh rfl
  by_cases c : 5 ≤ T 0 4
  · have e1 : ¬ nI (T 0 4) < 5 := nI_nlt (b := 5) c (by omega)
    have e2 : (5 : Int32) ≤ nI (T 0 4) := nI_le (a := 5) c (by omega)
    rw [if_neg e1]
    refine rr_T e2 ?_
    exact main 5 (by omega) c
  · have e1 : nI (T 0 4) < 5 := nI_lt (b := 5) (by omega) (by omega)
    have e2 : ¬ (5 : Int32) ≤ nI (T 0 4) := nI_ge (b := 5) (by omega) (by omega)
    rw [if_pos e1]
    refine rr_F e2 ?_
    exact main (T 0 4) (by omega) (Nat.le_refl _)
