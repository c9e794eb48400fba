/-! ===== sets as bits ===== -/
def bitN (x p : Nat) : Nat := x / 2 ^ p % 2
theorem bitN_le (x p : Nat) : bitN x p ≤ 1 := by
  unfold bitN
  omega
def popN (x : Nat) : Nat := sumN (fun k => bitN x k) 8
theorem popN_le (x : Nat) : popN x ≤ 8 := by
  have := sumN_le (f := fun k => bitN x k) (b := 1) 8 (fun i _ => bitN_le x i)
  unfold popN
  omega
set_option maxRecDepth 20000 in
theorem tab_bit : ∀ x, x < 256 → ∀ p, p < 8 → (nI x &&& ((1 : Int32) <<< (nI p &&& 31)) = 0 ↔ ¬ bitN x p = 1) := by decide +kernel
set_option maxRecDepth 20000 in
theorem tab_shr : ∀ x, x < 256 → ∀ p, p < 8 → (nI x >>> (nI p &&& 31)) &&& (1 : Int32) = nI (bitN x p) := by decide +kernel
set_option maxRecDepth 20000 in
theorem tab_or : ∀ p, p < 8 → ∀ x, x < 128 → ∀ b, b < 2 → x < 2 ^ p → nI x ||| (nI b <<< (nI p &&& 31)) = nI (x + b * 2 ^ p) := by decide +kernel
set_option maxRecDepth 20000 in
theorem tab_pop : ∀ x, x < 256 → ∀ s : xM, fJ6_bitCount_0f7a4 (nI x) s = some (nI (popN x), s) := by
  have h : ∀ x, x < 256 → (match fJ6_bitCount_0f7a4 (nI x) x0 with | some q => decide (q.1 = nI (popN x)) | none => false) = true := by decide +kernel
  intro x hx s
  have e := h x hx
  unfold fJ6_bitCount_0f7a4 lz at e ⊢
  exact congrArg (fun v => some (v, s)) (of_decide_eq_true e)
theorem tab_pop1 (s : xM) : fJ6_bitCount_0f7a4 (-1) s = some (32, s) := by
  have h : (match fJ6_bitCount_0f7a4 (-1) x0 with | some q => decide (q.1 = 32) | none => false) = true := by decide +kernel
  unfold fJ6_bitCount_0f7a4 lz at h ⊢
  exact congrArg (fun v => some (v, s)) (of_decide_eq_true h)
theorem tab_one : ∀ n, n < 9 → (1 : Int32) <<< (nI n &&& 31) = nI (2 ^ n) := by decide +kernel
theorem pow_256 {n : Nat} (h : n ≤ 8) : 2 ^ n ≤ 256 := Nat.pow_le_pow_right (n := 2) (by omega) h
/-- the open stops below n, as bits -/
def setN (T : xTw) (n : Nat) : Nat := sumN (fun p => T 7 p * 2 ^ p) n
theorem setN_lt {T : xTw} : ∀ n, (∀ p, p < n → T 7 p ≤ 1) → setN T n < 2 ^ n
  | 0, _ => Nat.one_pos
  | n + 1, h => by
    have h1 := setN_lt n (fun p hp => h p (by omega))
    have h2 : T 7 n * 2 ^ n ≤ 1 * 2 ^ n := Nat.mul_le_mul (h n (by omega)) (Nat.le_refl _)
    show setN T n + T 7 n * 2 ^ n < 2 ^ (n + 1)
    rw [Nat.pow_succ]
    omega
theorem bitN_top {x b n : Nat} (h : x < 2 ^ n) (hb : b ≤ 1) : bitN (x + b * 2 ^ n) n = b := by
  unfold bitN
  rw [Nat.add_mul_div_right _ _ (Nat.two_pow_pos n), Nat.div_eq_of_lt h]
  omega
theorem bitN_low {x b n p : Nat} (h : p < n) : bitN (x + b * 2 ^ n) p = bitN x p := by
  unfold bitN
  obtain ⟨d, rfl⟩ : ∃ d, n = p + (d + 1) := ⟨n - p - 1, by omega⟩
  rw [Nat.pow_add, ← Nat.mul_assoc, Nat.mul_right_comm, Nat.add_mul_div_right _ _ (Nat.two_pow_pos p), Nat.pow_succ, ← Nat.mul_assoc]
  omega
theorem bitN_setN {T : xTw} : ∀ n, (∀ p, p < n → T 7 p ≤ 1) → ∀ p, p < n → bitN (setN T n) p = T 7 p
  | 0, _, p, hp => absurd hp (Nat.not_lt_zero _)
  | n + 1, h, p, hp => by
    show bitN (setN T n + T 7 n * 2 ^ n) p = T 7 p
    by_cases e : p = n
    · rw [e]
      exact bitN_top (setN_lt n (fun q hq => h q (by omega))) (h n (by omega))
    · rw [bitN_low (by omega)]
      exact bitN_setN n (fun q hq => h q (by omega)) p (by omega)
theorem bitN_lt {x n p : Nat} (h : x < 2 ^ n) (hp : n ≤ p) : bitN x p = 0 := by
  unfold bitN
  rw [Nat.div_eq_of_lt (Nat.lt_of_lt_of_le h (Nat.pow_le_pow_right (by omega) hp))]
theorem popN_set {T : xTw} {n : Nat} (hn : n ≤ 8) (h : ∀ p, p < n → T 7 p ≤ 1) : popN (setN T n) = sumN (fun p => T 7 p) n := by
  have hl := setN_lt n h
  have hb := bitN_setN n h
  have key : ∀ d, n + d ≤ 8 → sumN (fun k => bitN (setN T n) k) (n + d) = sumN (fun p => T 7 p) n := by
    intro d
    induction d with
    | zero =>
      intro _
      exact sumN_congr n (fun i hi => hb i hi)
    | succ d ih =>
      intro hd
      show sumN (fun k => bitN (setN T n) k) (n + d) + bitN (setN T n) (n + d) = _
      rw [ih (by omega), bitN_lt hl (by omega)]
      rfl
  have := key (8 - n) (by omega)
  rw [show n + (8 - n) = 8 by omega] at this
  exact this
/-! the class's set of open stops -/
theorem e_asNumber {b : Nat} (hb : b ≤ 1) (s : xM) : fX9_asNumber (nI b) s = some (nI b, s) := by
  unfold fX9_asNumber
  rcases (show b = 0 ∨ b = 1 by omega) with e | e
  · rw [e, if_pos (by rfl)]
    rfl
  · rw [e, if_neg (by decide)]
    rfl
theorem ol_openSet {T : xTw} (hR : rgT T) {s : xM} (hT : xTn s T) {kt : Int32 → xM → Option (Int32 × xM)} : ∀ (m p n : Nat), p + m = T 0 4 → m < n → fX6_openSet_L4 kt n (nI (setN T p)) (nI p) s = kt (nI (setN T (T 0 4))) s := by
  have h8 := rg_stops hR
  intro m
  induction m with
  | zero =>
    intro p n hp hn
    obtain ⟨n, rfl⟩ : ∃ n', n = n' + 1 := ⟨n - 1, by omega⟩
    have : p = T 0 4 := by omega
    unfold fX6_openSet_L4
    rw [xT_stops hT, if_pos (nI_le (by omega) (by omega)), this]
  | succ m ih =>
    intro p n hp hn
    obtain ⟨n, rfl⟩ : ∃ n', n = n' + 1 := ⟨n - 1, by omega⟩
    have hp8 : p < 8 := by omega
    have o := rg_open hR hp8
    have hl := setN_lt (T := T) p (fun q hq => rg_open hR (by omega))
    have h128 : 2 ^ p ≤ 2 ^ 7 := Nat.pow_le_pow_right (by omega) (by omega)
    unfold fX6_openSet_L4
    rw [xT_stops hT, if_neg (nI_ge (by omega) (by omega))]
    simp (disch := omega) only [inb_n, gd_t, nI_clamp, xT_open hT hp8, e_asNumber o, bd_some, lz, nI_1]
    rw [tab_or p hp8 _ (by omega) _ (by omega) hl]
    exact ih (p + 1) n (by omega) (by omega)
theorem e_openSet {T : xTw} (hR : rgT T) {s : xM} (hT : xTn s T) : fX6_openSet s = some (nI (setN T (T 0 4)), s) := by
  have h8 := rg_stops hR
  obtain ⟨f, hf⟩ := fu_big
  unfold fX6_openSet
  rw [hf]
  exact ol_openSet hR hT (T 0 4) 0 (f + 4000) (by omega) (by omega)
theorem setN_256 {T : xTw} (hR : rgT T) : setN T (T 0 4) < 256 := by
  have h8 := rg_stops hR
  exact Nat.lt_of_lt_of_le (setN_lt _ (fun p hp => rg_open hR (by omega))) (pow_256 h8)
theorem set_bits {T : xTw} (hR : rgT T) : ∀ p, p < T 0 4 → (nI (setN T (T 0 4)) &&& ((1 : Int32) <<< (nI p &&& 31)) = 0 ↔ ¬ T 7 p = 1) := by
  intro p hp
  have h8 := rg_stops hR
  rw [tab_bit _ (setN_256 hR) p (by omega), bitN_setN _ (fun q hq => rg_open hR (by omega)) p hp]
/-- with just the stops of x open -/
def wO (T : xTw) (x : Nat) : xTw := fun c i => if c = 7 ∧ i < T 0 4 then bitN x i else T c i
theorem wO_ne {T : xTw} {x c i : Nat} (h : c ≠ 7) : wO T x c i = T c i := if_neg (fun q => h q.1)
theorem wO_at {T : xTw} {x i : Nat} (h : i < T 0 4) : wO T x 7 i = bitN x i := if_pos ⟨rfl, h⟩
theorem wO_hi {T : xTw} {x i : Nat} (h : ¬ i < T 0 4) : wO T x 7 i = T 7 i := if_neg (fun q => h q.2)
theorem wO_rg {T : xTw} (hR : rgT T) (x : Nat) : rgT (wO T x) := by
  refine ⟨fun c i hv => ?_, ?_⟩
  · by_cases e : c = 7 ∧ i < T 0 4
    · rw [e.1, wO_at e.2]
      exact bitN_le x i
    · unfold wO
      rw [if_neg e]
      exact hR.1 c i hv
  · rw [wO_ne (by omega)]
    exact hR.2
theorem wO_bits {T : xTw} (hR : rgT T) {x : Nat} (hx : x < 256) : ∀ p, p < wO T x 0 4 → (nI x &&& ((1 : Int32) <<< (nI p &&& 31)) = 0 ↔ ¬ wO T x 7 p = 1) := by
  intro p hp
  have h8 := rg_stops hR
  rw [wO_ne (by omega)] at hp
  rw [tab_bit _ hx p (by omega), wO_at hp]
theorem wO_set {T : xTw} (hR : rgT T) : wO T (setN T (T 0 4)) = T := by
  have h8 := rg_stops hR
  funext c i
  by_cases e : c = 7 ∧ i < T 0 4
  · rw [e.1, wO_at e.2, bitN_setN _ (fun q hq => rg_open hR (by omega)) i e.2]
  · unfold wO
    rw [if_neg e]
/-! the same but for what is open, and EVERY -/
theorem ups_cg {T T' : xTw} (e : ∀ i, T' 1 i = T 1 i) : ∀ n, ups T' n = ups T n
  | 0 => rfl
  | n + 1 => by
    show ups T' n + (T' 1 (n + 1) - T' 1 n) = ups T n + (T 1 (n + 1) - T 1 n)
    rw [ups_cg e n, e, e]
theorem dns_cg {T T' : xTw} (e : ∀ i, T' 1 i = T 1 i) : ∀ n, dns T' n = dns T n
  | 0 => rfl
  | n + 1 => by
    show dns T' n + (T' 1 n - T' 1 (n + 1)) = dns T n + (T 1 n - T 1 (n + 1))
    rw [dns_cg e n, e, e]
theorem wkS_cg {T T' : xTw} (e1 : ∀ i, T' 1 i = T 1 i) (e2 : ∀ i, T' 2 i = T 2 i) (a b k : Nat) : wkS T' a b k = wkS T a b k := by
  unfold wkS
  rw [ups_cg e1, ups_cg e1, dns_cg e1, dns_cg e1, e2, e2]
/-- alike in all that a measuring takes -/
def likeM (T T' : xTw) : Prop := T' 0 4 = T 0 4 ∧ T' 0 12 = T 0 12 ∧ (∀ c i, 1 ≤ c → c ≠ 7 → T' c i = T c i)
theorem Meas_cg {σ : xM} {T T' : xTw} (h : Meas σ T) (e : likeM T T') : Meas σ T' := by
  obtain ⟨e4, e12, ec⟩ := e
  have w : ∀ a b k, wkS T' a b k = wkS T a b k := wkS_cg (fun i => ec 1 i (by omega) (by omega)) (fun i => ec 2 i (by omega) (by omega))
  refine ⟨fun p hp => ?_, fun t ht => ⟨?_, fun p hp => ?_⟩⟩
  · rw [e4] at hp
    have c1 : carS T' p = carS T p := by
      unfold carS srvS
      rw [ec 3 p (by omega) (by omega), ec 6 p (by omega) (by omega), ec 9 p (by omega) (by omega)]
    have c2 : secS T' p = secS T p := by
      unfold secS secB
      rw [ec 3 p (by omega) (by omega), ec 5 p (by omega) (by omega), ec 6 p (by omega) (by omega), ec 8 p (by omega) (by omega)]
    rw [c1, c2]
    exact h.1 p hp
  · rw [e12] at ht
    unfold dirS
    rw [w, ec 10 t (by omega) (by omega), ec 11 t (by omega) (by omega), ec 13 t (by omega) (by omega)]
    exact (h.2 t ht).1
  · rw [e12] at ht
    rw [e4] at hp
    rw [w, w, ec 10 t (by omega) (by omega), ec 11 t (by omega) (by omega), ec 13 t (by omega) (by omega), ec 4 p (by omega) (by omega)]
    exact (h.2 t ht).2 p hp
theorem xTk_like {σ : xM} {T T' : xTw} (h : xTk σ T) (e : likeM T T') (e3 : T' 0 3 = T 0 3) : xTk σ T' := xTk_cg h (fun c i hv => by
  obtain ⟨e4, e12, ec⟩ := e
  unfold vK at hv
  by_cases c0 : c = 0
  · subst c0
    rcases (show i = 3 ∨ i = 4 ∨ i = 12 by omega) with d | d | d
    · rw [d]; exact e3
    · rw [d]; exact e4
    · rw [d]; exact e12
  · exact ec c i (by omega) (by omega))
theorem like_wO (T : xTw) (x : Nat) : likeM T (wO T x) := ⟨wO_ne (by omega), wO_ne (by omega), fun c i _ h => wO_ne h⟩
/-! ===== to look now ===== -/
theorem frS_ask {c i : Nat} (h : frS c i) : xAsk c i := by
  unfold frS at h
  unfold xAsk
  omega
theorem frL_ask {c i : Nat} (h : frL c i) : xAsk c i := by
  unfold frL at h
  unfold xAsk
  omega
theorem frL_M {σ σ' : xM} {T : xTw} (h : Meas σ T) (hR : rgT T) (f : Fr frL σ σ') : Meas σ' T := by
  have h8 := rg_stops hR
  have h12 := rg_trips hR
  refine ⟨fun p hp => ?_, fun t ht => ⟨?_, fun p hp => ?_⟩⟩
  · rw [(f 28 p (by unfold frL; omega)).1, (f 29 p (by unfold frL; omega)).1]
    exact h.1 p hp
  · rw [(f 30 t (by unfold frL; omega)).1]
    exact (h.2 t ht).1
  · rw [(f (32 + t) p (by unfold frL; omega)).1, (f (41 + t) p (by unfold frL; omega)).1]
    exact (h.2 t ht).2 p hp
theorem of_lookAtNow {T : xTw} (hR : rgT T) {s : xM} {Q : Int32 → xM → Prop} (hT : xCT s T) (kk : ∀ s', Fr xAsk s s' → Meas s' T → lookS s' T → Q 0 s') : Ok (fX9_lookAtNow s) Q := by
  unfold fX9_lookAtNow
  refine ok_B (of_measure hR hT (fun s1 f1 m1 => ?_))
  have hT1 := xCT_fr hT f1 (fun _ _ => frS_27)
  rw [e_openSet hR hT1.1, bd_some]
  refine ok_B (of_look hR (xTk_of hT1.1) m1 (xT_every hT1.1) (set_bits hR) (fun s2 f2 w2 => ok_R (kk s2 (Fr_tr (Fr_mono f1 (fun _ _ => frS_ask)) (Fr_mono f2 (fun _ _ => frL_ask))) (frL_M m1 hR f2) w2)))
