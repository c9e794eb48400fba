/-! ===== walking ===== -/
def wkS (T : xTw) (a b k : Nat) : Nat := if a < b then (b - a) * T 2 (6 * k) + (ups T b - ups T a) * T 2 (6 * k + 1) else (a - b) * T 2 (6 * k) + (dns T a - dns T b) * T 2 (6 * k + 1)
theorem mul_le2 {a b c d : Nat} (h : a ≤ c) (g : b ≤ d) : a * b ≤ c * d := Nat.mul_le_mul h g
theorem wkS_le {T : xTw} (hR : rgT T) {a b k : Nat} (ha : a < 41) (hb : b < 41) (hk : k < 3) : wkS T a b k ≤ 24000 := by
  have p := rg_sort hR hk (w := 0) (by omega)
  have u := rg_sort hR hk (w := 1) (by omega)
  rw [if_pos (by omega)] at p u
  have a1 := ups_le hR a ha
  have a2 := ups_le hR b hb
  have a3 := dns_le hR a ha
  have a4 := dns_le hR b hb
  have p : T 2 (6 * k) ≤ 60 := p
  unfold wkS
  split
  · have h1 : (b - a) * T 2 (6 * k) ≤ 40 * 60 := mul_le2 (by omega) p
    have h2 : (ups T b - ups T a) * T 2 (6 * k + 1) ≤ 360 * 60 := mul_le2 (by omega) u
    omega
  · have h1 : (a - b) * T 2 (6 * k) ≤ 40 * 60 := mul_le2 (by omega) p
    have h2 : (dns T a - dns T b) * T 2 (6 * k + 1) ≤ 360 * 60 := mul_le2 (by omega) u
    omega
theorem of_walkSeconds {T : xTw} (hR : rgT T) {s : xM} {Q : Int32 → xM → Prop} (hT : xTn s T) (hC : xCl s T) {a b k : Nat} (ha : a < 41) (hb : b < 41) (hk : k < 3) (kk : Q (nI (wkS T a b k)) s) : Ok (fX6_walkSeconds (nI a) (nI b) (nI k) s) Q := by
  have s0 := xT_sort hT hk (w := 0) (by omega)
  have s1 := xT_sort hT hk (w := 1) (by omega)
  unfold fX6_walkSeconds fX6_walkSeconds_J34
  by_cases h : b ≤ a
  · refine ok_T (nI_le h (by omega)) ?_
    have m := dns_mono T h
    have e1 := (hC a ha).2
    have e2 := (hC b hb).2
    have e3 : wkS T a b k = (a - b) * T 2 (6 * k) + (dns T a - dns T b) * T 2 (6 * k + 1) := by
      unfold wkS
      rw [if_neg (by omega)]
    rw [e3] at kk
    have e4 : (if a ≤ b then b - a else a - b) = a - b := by
      split <;> omega
    simp (disch := omega) only [ok_gd, inb_n, nI_clamp, abs_sub, e1, e2, s0, s1, pk_sub, pk_mul, nI_add, true_and, ok_some, e4, Nat.add_zero]
    exact kk
  · refine ok_F (nI_ge (by omega) (by omega)) ?_
    have m := ups_mono T (show a ≤ b by omega)
    have e1 := (hC a ha).1
    have e2 := (hC b hb).1
    have e3 : wkS T a b k = (b - a) * T 2 (6 * k) + (ups T b - ups T a) * T 2 (6 * k + 1) := by
      unfold wkS
      rw [if_pos (by omega)]
    rw [e3] at kk
    have e4 : (if a ≤ b then b - a else a - b) = b - a := by
      split <;> omega
    rw [abs_sub (by omega) (by omega)]
    simp (disch := omega) only [ok_gd, inb_n, nI_clamp, e1, e2, s0, s1, pk_sub, pk_mul, nI_add, true_and, ok_some, e4, Nat.add_zero]
    exact kk
theorem mT {τ : xM} {T : xTw} (h : mTn τ T) {c i : Nat} (hv : vT c i) : gi τ c i = nI (T c i) := h c i hv
theorem mT_sort {τ : xM} {T : xTw} (h : mTn τ T) {k w : Nat} (hk : k < 3) (hw : w < 6) : gi τ 2 (6 * k + w) = nI (T 2 (6 * k + w)) := h 2 _ (vt2 (by omega))
theorem mT_height {τ : xM} {T : xTw} (h : mTn τ T) {i : Nat} (hi : i < 41) : gi τ 1 i = nI (T 1 i) := h 1 i (vt1 hi)
/-- a step's cost: v the step up -/
theorem ok_step {P U x : Nat} {a b : Nat} (ha : a < 2 ^ 30) (hb : b < 2 ^ 30) {α : Type} {f : Int32 → Option (α × xM)} {Q : α → xM → Prop} (h : Ok (f (nI (x + (P + (a - b) * U)))) Q) : Ok (if nI a - nI b ≤ 0 then f (nI x + (nI P + 0)) else f (nI x + (nI P + (nI a - nI b) * nI U))) Q := by
  by_cases c : a ≤ b
  · have e : a - b = 0 := by omega
    rw [e, Nat.zero_mul, ← nI_add, ← nI_add] at h
    refine ok_T ?_ h
    rw [Int32.le_iff_toInt_le, pk_sub_toInt ha hb, show (0 : Int32).toInt = 0 from rfl]
    omega
  · refine ok_F ?_ ?_
    · rw [Int32.le_iff_toInt_le, pk_sub_toInt ha hb, show (0 : Int32).toInt = 0 from rfl]
      omega
    · rw [pk_sub (by omega), pk_mul, nI_add, nI_add]
      exact h
theorem ol_walkU {T : xTw} (hR : rgT T) {s : xM} (hT : mTn s T) {b k : Nat} (hb : b < 41) (hk : k < 3) {kt : Int32 → xM → Option (Int32 × xM)} {Q : Int32 → xM → Prop} : ∀ (m c n x : Nat), c + m = b → m < n → Ok (kt (nI (x + (b - c) * T 2 (6 * k) + (ups T b - ups T c) * T 2 (6 * k + 1))) s) Q → Ok (fX10_walk_L18 kt (nI b) (nI k) 1 n (nI x) (nI c) s) Q := by
  intro m
  induction m with
  | zero =>
    intro c n x hc hn kk
    obtain ⟨n, rfl⟩ : ∃ n', n = n' + 1 := ⟨n - 1, by omega⟩
    have : c = b := by omega
    subst this
    unfold fX10_walk_L18
    refine ok_T rfl ?_
    simp only [Nat.sub_self, Nat.zero_mul, Nat.add_zero] at kk
    exact kk
  | succ m ih =>
    intro c n x hc hn kk
    obtain ⟨n, rfl⟩ : ∃ n', n = n' + 1 := ⟨n - 1, by omega⟩
    unfold fX10_walk_L18 fX10_walk_J78
    refine ok_F (fun e => ?_) ?_
    · rw [nI_eq (by omega) (by omega)] at e
      omega
    have b1 := rg_height hR (i := c) (by omega)
    have b2 := rg_height hR (i := c + 1) (by omega)
    have s0 : gi s 2 (6 * k) = nI (T 2 (6 * k)) := mT_sort hT hk (w := 0) (by omega)
    have s1 := mT_sort hT hk (w := 1) (by omega)
    have m1 := ups_mono T (show c + 1 ≤ b by omega)
    have m2 : ups T (c + 1) = ups T c + (T 1 (c + 1) - T 1 c) := rfl
    simp (disch := omega) only [ok_gd, ok_lz, q1, q6, nI_add, pk_mul, inb_n, nI_clamp, mT_height hT, s0, s1, true_and, lz]
    refine ok_step (f := fun v => fX10_walk_L18 kt (nI b) (nI k) (nI 1) n v (nI (c + 1)) s) (by omega) (by omega) ?_
    refine ih (c + 1) n _ (by omega) (by omega) ?_
    have e1 : (b - c) * T 2 (6 * k) = T 2 (6 * k) + (b - (c + 1)) * T 2 (6 * k) := by
      rw [show b - c = 1 + (b - (c + 1)) by omega, Nat.add_mul, Nat.one_mul]
    have e2 : (ups T b - ups T c) * T 2 (6 * k + 1) = (T 1 (c + 1) - T 1 c) * T 2 (6 * k + 1) + (ups T b - ups T (c + 1)) * T 2 (6 * k + 1) := by
      rw [show ups T b - ups T c = (T 1 (c + 1) - T 1 c) + (ups T b - ups T (c + 1)) by omega, Nat.add_mul]
    rw [e1, e2] at kk
    rw [show x + (T 2 (6 * k) + (T 1 (c + 1) - T 1 c) * T 2 (6 * k + 1)) + (b - (c + 1)) * T 2 (6 * k) + (ups T b - ups T (c + 1)) * T 2 (6 * k + 1) = x + (T 2 (6 * k) + (b - (c + 1)) * T 2 (6 * k)) + ((T 1 (c + 1) - T 1 c) * T 2 (6 * k + 1) + (ups T b - ups T (c + 1)) * T 2 (6 * k + 1)) by omega]
    exact kk
theorem ol_walkD {T : xTw} (hR : rgT T) {s : xM} (hT : mTn s T) {b k : Nat} (hk : k < 3) {kt : Int32 → xM → Option (Int32 × xM)} {Q : Int32 → xM → Prop} : ∀ (m c n x : Nat), c = b + m → c < 41 → m < n → Ok (kt (nI (x + (c - b) * T 2 (6 * k) + (dns T c - dns T b) * T 2 (6 * k + 1))) s) Q → Ok (fX10_walk_L18 kt (nI b) (nI k) (-1) n (nI x) (nI c) s) Q := by
  intro m
  induction m with
  | zero =>
    intro c n x hc hc2 hn kk
    obtain ⟨n, rfl⟩ : ∃ n', n = n' + 1 := ⟨n - 1, by omega⟩
    have : c = b := by omega
    subst this
    unfold fX10_walk_L18
    refine ok_T rfl ?_
    simp only [Nat.sub_self, Nat.zero_mul, Nat.add_zero] at kk
    exact kk
  | succ m ih =>
    intro c n x hc hc2 hn kk
    obtain ⟨n, rfl⟩ : ∃ n', n = n' + 1 := ⟨n - 1, by omega⟩
    obtain ⟨d, rfl⟩ : ∃ d, c = d + 1 := ⟨c - 1, by omega⟩
    unfold fX10_walk_L18 fX10_walk_J78
    refine ok_F (fun e => ?_) ?_
    · rw [nI_eq (by omega) (by omega)] at e
      omega
    have b1 := rg_height hR (i := d) (by omega)
    have b2 := rg_height hR (i := d + 1) (by omega)
    have s0 : gi s 2 (6 * k) = nI (T 2 (6 * k)) := mT_sort hT hk (w := 0) (by omega)
    have s1 := mT_sort hT hk (w := 1) (by omega)
    have m1 := dns_mono T (show b ≤ d by omega)
    have m2 : dns T (d + 1) = dns T d + (T 1 d - T 1 (d + 1)) := rfl
    simp only [ok_gd, ok_lz, pk_m1, lz]
    simp (disch := omega) only [q6, q1, nI_add, pk_mul, inb_n, nI_clamp, mT_height hT, s0, s1, true_and]
    refine ok_step (f := fun v => fX10_walk_L18 kt (nI b) (nI k) (-nI 1) n v (nI d) s) (by omega) (by omega) ?_
    refine ih d n _ (by omega) (by omega) (by omega) ?_
    have e1 : (d + 1 - b) * T 2 (6 * k) = T 2 (6 * k) + (d - b) * T 2 (6 * k) := by
      rw [show d + 1 - b = 1 + (d - b) by omega, Nat.add_mul, Nat.one_mul]
    have e2 : (dns T (d + 1) - dns T b) * T 2 (6 * k + 1) = (T 1 d - T 1 (d + 1)) * T 2 (6 * k + 1) + (dns T d - dns T b) * T 2 (6 * k + 1) := by
      rw [show dns T (d + 1) - dns T b = (T 1 d - T 1 (d + 1)) + (dns T d - dns T b) by omega, Nat.add_mul]
    rw [e1, e2] at kk
    rw [show x + (T 2 (6 * k) + (T 1 d - T 1 (d + 1)) * T 2 (6 * k + 1)) + (d - b) * T 2 (6 * k) + (dns T d - dns T b) * T 2 (6 * k + 1) = x + (T 2 (6 * k) + (d - b) * T 2 (6 * k)) + ((T 1 d - T 1 (d + 1)) * T 2 (6 * k + 1) + (dns T d - dns T b) * T 2 (6 * k + 1)) by omega]
    exact kk
theorem of_walk {T : xTw} (hR : rgT T) {s : xM} {Q : Int32 → xM → Prop} (hT : mTn s T) {a b k : Nat} (ha : a < 41) (hb : b < 41) (hk : k < 3) (kk : Q (nI (wkS T a b k)) s) : Ok (fX10_walk (nI a) (nI b) (nI k) s) Q := by
  obtain ⟨n, hn⟩ := fu_big
  unfold fX10_walk fX10_walk_J10
  rw [hn]
  by_cases h : b ≤ a
  · refine ok_T (nI_le h (by omega)) ?_
    refine ol_walkD hR hT hk (a - b) a _ 0 (by omega) ha (by omega) (ok_R ?_)
    rw [Nat.zero_add]
    unfold wkS at kk
    rw [if_neg (by omega)] at kk
    exact kk
  · refine ok_F (nI_ge (by omega) (by omega)) ?_
    refine ol_walkU hR hT hb hk (b - a) a _ 0 (by omega) (by omega) (ok_R ?_)
    rw [Nat.zero_add]
    unfold wkS at kk
    rw [if_pos (by omega)] at kk
    exact kk
