/-! ===== what holds between two calls ===== -/
/-- the tape -/
def tapR (σ τ : xM) : Prop := ∃ L, L ≤ 160 ∧ gi σ 77 1 = nI L ∧ gi τ 0 18 = nI L ∧ ∀ i, i < L → ∃ b, b < 256 ∧ gi σ 78 i = nI b ∧ gi τ 14 i = nI b
/-- a text's codes: the model's is m, the class's cdX m -/
def sgX (m : Nat) : Nat := if m = 11 then 7 else if m = 12 then 8 else if m = 13 then 9 else if m = 14 then 60 else if m = 15 then 61 else if m = 16 then 43 else if m = 17 then 45 else if m = 18 then 42 else 10
def cdX (m : Nat) : Int32 := if 100000 ≤ m then nI (m - 100000) else if m < 11 then -1 - nI m else -7 - nI (sgX m)
def cdOk (m : Nat) : Prop := (100000 ≤ m ∧ m < 110000) ∨ m < 6 ∨ (11 ≤ m ∧ m ≤ 19)
/-- a code takes a stack of h to one of h' -/
def stH (m h h' : Nat) : Prop := if 100000 ≤ m ∨ m < 11 then h' = h + 1 ∧ h < 40 else if m = 13 ∨ m = 19 then h' = h ∧ 1 ≤ h else h = h' + 1 ∧ 2 ≤ h
def prtW (K : Nat → Nat) (a b : Nat) : Prop := ∃ H : Nat → Nat, H a = 0 ∧ H b = 1 ∧ a ≤ b ∧ ∀ c, a ≤ c → c < b → stH (K c) (H c) (H (c + 1))
def oneT (σ τ : xM) (j : Nat) : Prop := gi σ (97 + 4 * j) 4 = 3 ∧ ∃ K E : Nat → Nat, E 0 = 0 ∧ E 3 ≤ 160 ∧ (∀ q, q < 3 → prtW K (E q) (E (q + 1)) ∧ gi σ (99 + 4 * j) q = nI (E (q + 1))) ∧ (∀ q, q < 4 → gi τ 16 (4 * j + q) = nI (E q)) ∧ (∀ c, c < E 3 → cdOk (K c) ∧ gi σ (98 + 4 * j) c = cdX (K c) ∧ gi τ 15 (200 * j + c) = nI (K c))
/-- n texts, and the law -/
def txtR (σ τ : xM) (n : Nat) : Prop := 1 ≤ n ∧ n ≤ 6 ∧ gi σ 0 5 = nI n ∧ gi τ 0 21 = nI n ∧ (∃ w, w < n ∧ gi σ 0 6 = nI w ∧ gi τ 0 22 = nI w) ∧ ∀ j, j < n → oneT σ τ j
def imgI (σ τ : xM) (I : xTw) : Prop := gi σ 81 4 = nI (I 0 2) ∧ gi τ 0 26 = nI (I 0 2) ∧ gi σ 81 5 = nI (I 0 3) ∧ gi τ 0 27 = nI (I 0 3) ∧ gi σ 81 6 = nI (I 0 4) ∧ gi τ 0 24 = nI (I 0 4) ∧ gi σ 81 10 = nI (I 0 12) ∧ gi τ 0 25 = nI (I 0 12) ∧ (∀ i, i < 41 → gi σ 82 i = nI (I 1 i) ∧ gi τ 17 i = nI (I 1 i)) ∧ (∀ k w, k < 3 → w < 6 → gi σ (84 + k) w = nI (I 2 (6 * k + w)) ∧ gi τ 18 (6 * k + w) = nI (I 2 (6 * k + w))) ∧ (∀ p, p < I 0 4 → gi σ 87 p = nI (I 7 p) ∧ gi τ 19 p = nI (I 7 p) ∧ gi σ 88 p = nI (I 8 p) ∧ gi τ 20 p = nI (I 8 p) ∧ gi σ 89 p = nI (I 9 p) ∧ gi τ 21 p = nI (I 9 p))
/-- the image -/
def imgR (σ τ : xM) (N n : Nat) : Prop := (gi σ 81 0 = 0 ∧ gi τ 0 23 = 0) ∨ (gi σ 81 0 = 1 ∧ gi τ 0 23 = 1 ∧ (∃ w, w < n ∧ gi σ 81 1 = nI w ∧ gi τ 0 28 = nI w) ∧ ∃ I : xTw, rgT I ∧ I 0 4 ≤ N ∧ imgI σ τ I)
/-- the sheets -/
def oneS' (σ τ : xM) (j : Nat) : Prop := ∃ (v : Int32) (m : Nat), (v = -1 ∨ v = 0 ∨ v = 1 ∨ v = 2) ∧ m ≤ 41 ∧ gi σ (121 + 2 * j) 1 = v ∧ gi τ 22 j = v ∧ gi σ (121 + 2 * j) 2 = nI m ∧ gi τ 23 j = nI m ∧ ∀ i, i < 41 → gi σ (122 + 2 * j) i = gi τ 24 (41 * j + i)
def shtR (σ τ : xM) : Prop := ∀ j, j < 4 → oneS' σ τ j
def wrdN : List Nat := [1937006969, 1818326117, 6386539, 1668248436, 2002873451, 2002872692, 1919509605, 1835101817, 1936683636, 28530, 6385252, 7237492]
def wrdR (τ : xM) : Prop := ∀ k, k < 12 → gl τ 26 k = lN (wrdN.getD k 0)
/-- all but the town -/
def rstR (σ τ : xM) (N n : Nat) : Prop := tapR σ τ ∧ txtR σ τ n ∧ imgR σ τ N n ∧ shtR σ τ ∧ wrdR τ
def patZ (T : xTw) : Prop := ∀ p, T 0 4 ≤ p → p < 8 → T 9 p = 0
def RT (σ τ : xM) (T : xTw) (n : Nat) : Prop := rgT T ∧ patZ T ∧ xCT σ T ∧ mTn τ T ∧ rstR σ τ (T 0 4) n
def RR (σ τ : xM) : Prop := ∃ T n, RT σ τ T n
/-- places of the town, and such as calls fill anew -/
def xFree (c i : Nat) : Prop := (1 ≤ c ∧ c ≤ 76) ∨ (c = 77 ∧ 2 ≤ i) ∨ (91 ≤ c ∧ c ≤ 96) ∨ (97 ≤ c ∧ c ≤ 120 ∧ c % 4 = 0)
def mFree (c i : Nat) : Prop := (c = 0 ∧ i ≤ 12) ∨ (c = 0 ∧ 37 ≤ i) ∨ (1 ≤ c ∧ c ≤ 13) ∨ c = 25 ∨ 27 ≤ c
theorem oneT_eq {σ τ σ' τ' : xM} {j : Nat} (h : oneT σ τ j) (a : ∀ i, gi σ' (97 + 4 * j) 4 = gi σ (97 + 4 * j) 4 ∧ gi σ' (98 + 4 * j) i = gi σ (98 + 4 * j) i ∧ gi σ' (99 + 4 * j) i = gi σ (99 + 4 * j) i) (b : ∀ q, q < 4 → gi τ' 16 (4 * j + q) = gi τ 16 (4 * j + q)) (d : ∀ c, c < 160 → gi τ' 15 (200 * j + c) = gi τ 15 (200 * j + c)) : oneT σ' τ' j := by
  obtain ⟨h0, K, E, h1, h2, h3, h4, h5⟩ := h
  refine ⟨by rw [(a 0).1]; exact h0, K, E, h1, h2, fun q hq => ⟨(h3 q hq).1, by rw [(a q).2.2]; exact (h3 q hq).2⟩, fun q hq => by rw [b q hq]; exact h4 q hq, fun c hc => ⟨(h5 c hc).1, by rw [(a c).2.1]; exact (h5 c hc).2.1, by rw [d c (by omega)]; exact (h5 c hc).2.2⟩⟩
theorem tapR_fr {σ τ σ' τ' : xM} (h : tapR σ τ) (a : ∀ i, gi σ' 77 1 = gi σ 77 1 ∧ gi σ' 78 i = gi σ 78 i) (b : ∀ i, gi τ' 0 18 = gi τ 0 18 ∧ gi τ' 14 i = gi τ 14 i) : tapR σ' τ' := by
  obtain ⟨L, h1, h2, h3, h4⟩ := h
  refine ⟨L, h1, by rw [(a 0).1]; exact h2, by rw [(b 0).1]; exact h3, fun i hi => ?_⟩
  rw [(a i).2, (b i).2]
  exact h4 i hi
theorem rstR_fr {P P' : Nat → Nat → Prop} {σ τ σ' τ' : xM} {N N' n : Nat} (h : rstR σ τ N n) (f : Fr P σ σ') (hp : ∀ c i, P c i → xFree c i) (g : Fr P' τ τ') (hp' : ∀ c i, P' c i → mFree c i) (hN : N ≤ N') : rstR σ' τ' N' n := by
  have a : ∀ c i, ¬ xFree c i → gi σ' c i = gi σ c i := fun c i x => (f c i (fun q => x (hp c i q))).1
  have b : ∀ c i, ¬ mFree c i → gi τ' c i = gi τ c i := fun c i x => (g c i (fun q => x (hp' c i q))).1
  have bl : ∀ c i, ¬ mFree c i → gl τ' c i = gl τ c i := fun c i x => (g c i (fun q => x (hp' c i q))).2
  unfold xFree at a
  unfold mFree at b bl
  obtain ⟨h1, h2, h3, h4, h5⟩ := h
  refine ⟨tapR_fr h1 (fun i => ⟨a _ _ (by omega), a _ _ (by omega)⟩) (fun i => ⟨b _ _ (by omega), b _ _ (by omega)⟩), ?_, ?_, fun j hj => ?_, fun k hk => by rw [bl _ _ (by omega)]; exact h5 k hk⟩
  · obtain ⟨x1, x2, x3, x4, ⟨w, x5, x6, x7⟩, x8⟩ := h2
    refine ⟨x1, x2, by rw [a _ _ (by omega)]; exact x3, by rw [b _ _ (by omega)]; exact x4, ⟨w, x5, by rw [a _ _ (by omega)]; exact x6, by rw [b _ _ (by omega)]; exact x7⟩, fun j hj => oneT_eq (x8 j hj) (fun i => ⟨a _ _ (by omega), a _ _ (by omega), a _ _ (by omega)⟩) (fun q hq => b _ _ (by omega)) (fun c hc => b _ _ (by omega))⟩
  · rcases h3 with h3 | ⟨y1, y2, ⟨w, y3, y4, y5⟩, I, y6, y7, z1, z2, z3, z4, z5, z6, z7, z8, z9, z10, z11⟩
    · exact Or.inl ⟨by rw [a _ _ (by omega)]; exact h3.1, by rw [b _ _ (by omega)]; exact h3.2⟩
    · refine Or.inr ⟨by rw [a _ _ (by omega)]; exact y1, by rw [b _ _ (by omega)]; exact y2, ⟨w, y3, by rw [a _ _ (by omega)]; exact y4, by rw [b _ _ (by omega)]; exact y5⟩, I, y6, Nat.le_trans y7 hN, ?_⟩
      refine ⟨by rw [a _ _ (by omega)]; exact z1, by rw [b _ _ (by omega)]; exact z2, by rw [a _ _ (by omega)]; exact z3, by rw [b _ _ (by omega)]; exact z4, by rw [a _ _ (by omega)]; exact z5, by rw [b _ _ (by omega)]; exact z6, by rw [a _ _ (by omega)]; exact z7, by rw [b _ _ (by omega)]; exact z8, fun i hi => ?_, fun k w hk hw => ?_, fun p hq => ?_⟩
      · rw [a _ _ (by omega), b _ _ (by omega)]
        exact z9 i hi
      · rw [a _ _ (by omega), b _ _ (by omega)]
        exact z10 k w hk hw
      · rw [a _ _ (by omega), b _ _ (by omega), a _ _ (by omega), b _ _ (by omega), a _ _ (by omega), b _ _ (by omega)]
        exact z11 p hq
  · obtain ⟨v, m, u1, u2, u3, u4, u5, u6, u7⟩ := h4 j hj
    exact ⟨v, m, u1, u2, by rw [a _ _ (by omega)]; exact u3, by rw [b _ _ (by omega)]; exact u4, by rw [a _ _ (by omega)]; exact u5, by rw [b _ _ (by omega)]; exact u6, fun i hi => by rw [a _ _ (by omega), b _ _ (by omega)]; exact u7 i hi⟩
/-! what an asking call writes -/
def xAsk (c i : Nat) : Prop := (27 ≤ c ∧ c ≤ 76) ∨ (c = 77 ∧ 2 ≤ i) ∨ (91 ≤ c ∧ c ≤ 96) ∨ (97 ≤ c ∧ c ≤ 120 ∧ c % 4 = 0)
def mAsk (c i : Nat) : Prop := (c = 0 ∧ 37 ≤ i) ∨ c = 25 ∨ 27 ≤ c
theorem xAsk_free {c i : Nat} (h : xAsk c i) : xFree c i := by
  unfold xAsk at h
  unfold xFree
  omega
theorem mAsk_free {c i : Nat} (h : mAsk c i) : mFree c i := by
  unfold mAsk at h
  unfold mFree
  omega
theorem mAsk_off {c i : Nat} (h : mAsk c i) : ¬ vT c i := by
  unfold mAsk at h
  unfold vT
  omega
theorem xAsk_27 {c i : Nat} (h : xAsk c i) : 27 ≤ c := by
  unfold xAsk at h
  omega
theorem RT_ask {σ τ σ' τ' : xM} {T : xTw} {n : Nat} (h : RT σ τ T n) (f : Fr xAsk σ σ') (g : Fr mAsk τ τ') : RT σ' τ' T n :=
  ⟨h.1, h.2.1, xCT_fr h.2.2.1 f (fun _ _ => xAsk_27), mTn_fr h.2.2.2.1 g (fun _ _ => mAsk_off), rstR_fr h.2.2.2.2 f (fun _ _ => xAsk_free) g (fun _ _ => mAsk_free) (Nat.le_refl _)⟩
/-- what xs_ asks of a call that gives an int -/
abbrev SimP {α : Type} (r : α) (s : xM) (r' : α) (t : xM) : Prop := r = r' ∧ RR s t
theorem sim_of {α : Type} {o1 o2 : Option (α × xM)} (h : Rel o1 o2 SimP) : ∃ r σ2 τ2, o1 = some (r, σ2) ∧ o2 = some (r, τ2) ∧ RR σ2 τ2 := by
  obtain ⟨r, s, r', t, h1, h2, e, q⟩ := rel_out h
  subst e
  exact ⟨r, s, t, h1, h2, q⟩
theorem sim_R {α : Type} {σ τ : xM} {T : xTw} {n : Nat} {r r' : α} (h : RT σ τ T n) (e : r = r') : Rel (some (r, σ)) (some (r', τ)) SimP := rel_R ⟨e, T, n, h⟩
