/-! ===== drawn ===== -/
theorem and_bits2 : ∀ a, a < 4 → ∀ b, b < 4 → (nI a &&& nI b = nI 2 ↔ ¬ (bitS a 0 = 1 ∧ bitS b 0 = 1) ∧ (bitS a 1 = 1 ∧ bitS b 1 = 1)) := by decide +kernel
def ltN (x : Nat) : Nat := x * 48271 % 2147483647
theorem ltN_lt (x : Nat) : ltN x < 2147483647 := Nat.mod_lt _ (by omega)
theorem lot_e {x : Nat} (h : x < 2147483648) : (lN x * (48271 : Int64)) - (lN x * (48271 : Int64)) / (2147483647 : Int64) * (2147483647 : Int64) = lN (ltN x) := by
  rw [show (48271 : Int64) = lN 48271 from rfl, show (2147483647 : Int64) = lN 2147483647 from rfl, lN_mul, pk_lRem (by omega) (by omega) (by omega)]
  rfl
theorem e_nextLot {x : Nat} (h : x < 2147483648) (s : xM) : fX9_nextLot (lN x) s = some (lN (ltN x), s) := by
  unfold fX9_nextLot
  rw [lot_e h]
theorem l10_e {x : Nat} (h : x < 2147483648) : lN x - lN x / (10 : Int64) * (10 : Int64) = lN (x % 10) := by
  rw [show (10 : Int64) = lN 10 from rfl, pk_lRem (by omega) (by omega) (by omega)]
theorem l2_e {x : Nat} (h : x < 2147483648) : lN x - lN x / (2 : Int64) * (2 : Int64) = lN (x % 2) := by
  rw [show (2 : Int64) = lN 2 from rfl, pk_lRem (by omega) (by omega) (by omega)]
/-- what a stop costs by its lot -/
def drwS (T : xTw) (p x : Nat) : Nat := if T 3 p = 1 ∨ T 3 p = 5 then (if x % 10 < T 8 p then secB T p 10 else 0) else secS T p
theorem drwS_le {T : xTw} (hR : rgT T) {p : Nat} (hp : p < 8) (x : Nat) : drwS T p x ≤ 159 := by
  have a := secB_le hR hp (w := 10) (by omega)
  have b := secS_le hR hp
  unfold drwS
  repeat' split
  all_goals omega
theorem e_secondsDrawn {T : xTw} {s : xM} (hR : rgT T) (hX : xCT s T) {p x : Nat} (hp : p < 8) : fX3_secondsDrawn p (nI (x % 10)) s = some (nI (drwS T p x), s) := by
  have w := rg_wanted hR hp
  unfold fX3_secondsDrawn drwS
  rw [e_isOf1 hR hX.1 hX.2.1 hp, bd_some]
  by_cases c : T 3 p = 1 ∨ T 3 p = 5
  · rw [if_pos c, if_neg n10, if_pos c, xT_wanted hX.1 hp]
    by_cases d : x % 10 < T 8 p
    · rw [if_neg (nI_ge d (by omega)), if_pos d, q10, e_secondsIf hR hX.1 hp (by omega), bd_some]
    · rw [if_pos (nI_le (by omega) (by omega)), if_neg d]
      rfl
  · rw [if_neg c, if_pos rfl, if_neg c, xT_wanted hX.1 hp, e_secondsIf hR hX.1 hp w, bd_some]
    rfl
theorem drawn_loop {σ τ : xM} {T : xTw} (hR : rgT T) (hX : xCT σ T) (hm : mes1 σ T (T 0 4)) (hM : mTn τ T) {p q c : Nat} (hp : p < 8) (hq : q < 8) (hc : c < 2) (w1 : gi τ 0 38 = nI p) (w2 : gi τ 0 39 = nI q) {Q : Int32 → xM → Int32 → xM → Prop} (kk : ∀ r, Q r σ r τ) : ∀ (m o f g x a : Nat), o + m = T 0 4 → m < f → m < g → x < 2147483648 → a ≤ 2400 + 159 * o → Rel (fX9_drawnRide_L135 (fun x11 s12 => some (x11, s12)) (nI c) (nI (loS T p q)) (nI (hgS T p q)) f (lN x) (nI a) (nI o) σ) (fX10_drawn_L218 (fun x3 s4 => some (x3, s4)) (nI c) g (lN x) (nI a) (nI o) τ) Q := by
  have h8 := rg_stops hR
  have hh := hgS_le hR hp hq
  have lh := loS_hgS T p q
  intro m
  induction m with
  | zero =>
    intro o f g x a ho hf hg hx ha
    obtain ⟨f, rfl⟩ : ∃ n', f = n' + 1 := ⟨f - 1, by omega⟩
    obtain ⟨g, rfl⟩ : ∃ n', g = n' + 1 := ⟨g - 1, by omega⟩
    unfold fX9_drawnRide_L135 fX10_drawn_L218
    rw [xT_stops hX.1, hM 0 4 (vt0 (by omega))]
    have e : nI (T 0 4) ≤ nI o := nI_le (by omega) (by omega)
    exact rl_T e (rr_T e (rel_R (kk _)))
  | succ m ih =>
    intro o f g x a ho hf hg hx ha
    obtain ⟨f, rfl⟩ : ∃ n', f = n' + 1 := ⟨f - 1, by omega⟩
    obtain ⟨g, rfl⟩ : ∃ n', g = n' + 1 := ⟨g - 1, by omega⟩
    have ho8 : o < 8 := by omega
    have hoT : o < T 0 4 := by omega
    have b4 := rg_cell hR ho8
    have lx := ltN_lt x
    have dr := drwS_le hR ho8 (ltN x)
    have sl1 := stpS_le T o c
    unfold fX9_drawnRide_L135 fX10_drawn_L218
    rw [xT_stops hX.1, hM 0 4 (vt0 (by omega))]
    have e : ¬ nI (T 0 4) ≤ nI o := nI_ge (by omega) (by omega)
    refine rl_F e (rr_F e ?_)
    rw [e_nextLot hx, bd_some, lot_e hx]
    refine rl_G (inb_n ho8 (by omega)) (rr_lz.mpr (rr_G (inb_n ho8 (by omega)) ?_))
    rw [nI_clamp (by omega), xT_cell hX.1 ho8, hM 4 o (vt3 (by omega) (by omega) ho8), w1, w2, e_isBetween hR hM (by omega) hp hq, bd_some, nI_1]
    have go := fun a2 (ha2 : a2 ≤ 2400 + 159 * (o + 1)) => ih (o + 1) f g (ltN x) a2 (by omega) (by omega) (by omega) (by omega) ha2
    by_cases c1 : T 4 o ≤ loS T p q
    · refine rl_T (nI_le c1 (by omega)) (rr_T (by rw [if_neg (by omega)]; rfl) ?_)
      exact go a (by omega)
    refine rl_F (nI_ge (by omega) (by omega)) ?_
    by_cases c2 : hgS T p q ≤ T 4 o
    · refine rl_T (nI_le c2 (by omega)) (rr_T (by rw [if_neg (by omega)]; rfl) ?_)
      exact go a (by omega)
    refine rl_F (nI_ge (by omega) (by omega)) (rr_F (by rw [if_pos (by omega)]; decide) ?_)
    rw [e_stopsNow hR hX.1 hm hoT hc, bd_some, e_doesStop hR hM ho8 hc, bd_some]
    by_cases c3 : stpS T o c = 1
    rotate_left
    · have s0 : nI (stpS T o c) = 0 := by
        rw [show stpS T o c = 0 by omega]
        rfl
      exact rl_T s0 (rr_T s0 (go a (by omega)))
    have s0 : ¬ nI (stpS T o c) = 0 := by
      rw [c3]
      decide
    refine rl_F s0 (rr_F s0 ?_)
    rw [l10_e (by omega), lN_i, e_secondsDrawn hR hX ho8, bd_some]
    refine rl_lz.mpr ?_
    rw [nI_add, e_isAsked hR hM ho8, bd_some]
    have fin := go (a + drwS T o (ltN x)) (by omega)
    by_cases c4 : T 3 o = 1 ∨ T 3 o = 5
    · rw [if_pos c4]
      have w := rg_wanted hR ho8
      refine rr_F n10 (rr_G (inb_n ho8 (by omega)) ?_)
      rw [hM 8 o (vt3 (by omega) (by omega) ho8), nI_l (by omega)]
      by_cases c5 : ltN x % 10 < T 8 o
      · have ed : drwS T o (ltN x) = secB T o 10 := by
          unfold drwS
          rw [if_pos c4, if_pos c5]
        refine rr_F (fun z => by have := (cmp_ge (by omega) (by omega)).mp z; omega) ?_
        rw [q10, e_secondsBy hR hM ho8 (by omega), bd_some]
        refine rr_lz.mpr ?_
        rw [nI_add, ← ed]
        exact fin
      · have ed : drwS T o (ltN x) = 0 := by
          unfold drwS
          rw [if_pos c4, if_neg c5]
        refine rr_T ((cmp_ge (by omega) (by omega)).mpr (by omega)) (rr_lz.mpr ?_)
        rw [show nI a + (0 : Int32) = nI (a + 0) from nI_add a 0]
        rw [ed] at fin ⊢
        exact fin
    · rw [if_neg c4]
      have ed : drwS T o (ltN x) = secS T o := if_neg c4
      refine rr_T rfl ?_
      rw [e_seconds hR hM ho8, bd_some]
      refine rr_lz.mpr ?_
      rw [nI_add, ← ed]
      exact fin
theorem e_drawn70 {T : xTw} (hR : rgT T) {τ : xM} (hM : mTn τ T) {p q : Nat} (hp : p < 8) (hq : q < 8) (w1 : gi τ 0 38 = nI p) (w2 : gi τ 0 39 = nI q) (a2 t0 : Int32) : fX10_drawn_J70 a2 t0 τ = fX10_drawn_J100 a2 t0 (nI (oneS T p q 1)) τ := by
  have a := stpS_le T p 1
  have b := stpS_le T q 1
  unfold fX10_drawn_J70 fX10_drawn_J99
  rw [w1, q1, e_doesStop hR hM hp (by omega), bd_some]
  by_cases h1 : stpS T p 1 = 1
  · rw [h1, if_neg (by decide), w2, e_doesStop hR hM hq (by omega), bd_some]
    by_cases h2 : stpS T q 1 = 1
    · rw [h2, if_neg (by decide), show oneS T p q 1 = 1 from if_pos ⟨h1, h2⟩]
    · rw [show stpS T q 1 = 0 by omega, if_pos (show nI 0 = 0 from rfl), show oneS T p q 1 = 0 from if_neg (fun c => h2 c.2)]
      rfl
  · rw [show stpS T p 1 = 0 by omega, if_pos (show nI 0 = 0 from rfl), show oneS T p q 1 = 0 from if_neg (fun c => h1 c.1)]
    rfl
theorem sim_drawn : xs_drawn RR := by
  intro σ τ h a0 a1
  refine sim_of ?_
  obtain ⟨T, n, h⟩ := h
  have hR := h.1
  have hX := h.2.2.1
  have hM := h.2.2.2.1
  have h8 := rg_stops hR
  have h12 := rg_trips hR
  have pc := rg_pace hR
  obtain ⟨f, hf⟩ := fu_big
  unfold fX9_drawn fX10_drawn
  simp only [e_isTrip9, e_isTrip10, e_isWithin, e_in, bd_some, xT_trips hX.1, hM 0 12 (vt0 (by omega))]
  rcases rcaseN a0 (N := T 0 12) (by omega) with c | ⟨c, t, ht, rfl⟩
  · simp only [c, ↓reduceIte]
    exact sim_R h rfl
  simp only [c, n10, ↓reduceIte]
  rcases rcase a1 (M := 99999) (n := 99999) rfl with d | ⟨d, seed, hs, rfl⟩
  · simp only [d, ↓reduceIte]
    exact sim_R h rfl
  simp only [d, n10, ↓reduceIte]
  have ht8 : t < 8 := by omega
  refine rl_B (of_lookAtNow hR hX (fun s1 f1 m1 l1 => ?_))
  have hX1 := xCT_fr hX f1 (fun _ _ => xAsk_27)
  refine rr_B (of_finds hR hM ht8 (fun s2 f2 w => ?_))
  have hM2 := mTn_fr hM f2 (fun _ _ => frW_off)
  have hh := RT_ask h f1 (Fr_mono f2 (fun _ _ => frW_ask))
  obtain ⟨⟨l71, l72, l73⟩, l74, l75, l76⟩ := l1 t ht
  obtain ⟨w1, w2, w3, w4, w5, w6⟩ := w
  refine rl_G (inb_n ht8 (by omega)) ?_
  rw [nI_clamp (by omega), l72, e_isStop9, bd_some, xT_stops hX1.1]
  rcases (okC_S hR ht8).2 with z | ⟨z1, z2, z3, z4, z5, z6⟩
  · rw [w2, z.1]
    have m1' : nI 0 - 1 < 0 ∨ nI (T 0 4) - 1 < nI 0 - 1 := Or.inl (by decide)
    rw [if_pos m1']
    exact rl_T rfl (rr_T rfl (sim_R hh rfl))
  obtain ⟨p, hp⟩ : ∃ p, (bstS T t).2.1 = p + 1 := ⟨(bstS T t).2.1 - 1, by omega⟩
  obtain ⟨q, hq⟩ : ∃ q, (bstS T t).2.2 = q + 1 := ⟨(bstS T t).2.2 - 1, by omega⟩
  rw [hp, nI_pred] at w2 l72
  rw [hq, nI_pred] at w3 l73
  have can : canS T p q := by
    rw [hp, hq] at z6
    exact z6
  have op := canS_open can
  have hp8 : p < 8 := by omega
  have hq8 : q < 8 := by omega
  have ins : ∀ x, x < T 0 4 → ¬ (nI x < 0 ∨ nI (T 0 4) - 1 < nI x) := by
    intro x hx
    rintro (y | y)
    · exact nI_pos (by omega) y
    · rw [q1, pk_sub (by omega)] at y
      exact nI_nlt (by omega) (by omega) y
  rw [hp, nI_pred, if_neg (ins p (by omega))]
  refine rl_F n10 (rl_G (inb_n ht8 (by omega)) ?_)
  rw [l73, e_isStop9, bd_some, xT_stops hX1.1, if_neg (ins q (by omega))]
  refine rl_F n10 (rl_G (inb_n ht8 (by omega)) (rl_G (inb_n ht8 (by omega)) ?_))
  rw [l72, l73, w2]
  -- the model comes to its lot
  have e100 : Rel (bd (fX9_drawnRide (nI p) (nI q) (nI seed) s1) fun r24 s25 => some (r24, s25)) (fX10_drawn_J100 (nI seed) (nI (oneS T p q 0)) (nI (oneS T p q 1)) s2) SimP := by
    unfold fX9_drawnRide fX10_drawn_J100 fX10_drawn_J135
    have b4p := rg_cell hR hp8
    have b4q := rg_cell hR hq8
    have cp := carS_le T p
    have cq := carS_le T q
    have hgl := hgS_le hR hp8 hq8
    have lh := loS_hgS T p q
    have es : (nI seed).toInt64 + (1 : Int64) = lN (seed + 1) := by
      rw [nI_l (by omega)]
      exact lN_1 _
    have lx := ltN_lt (seed + 1)
    rw [nI_1, nI_l (by omega), e_nextLot (by omega), bd_some, es, lot_e (by omega)]
    refine rr_lz.mpr ?_
    refine rl_B (ok_G (inb_n hp8 (by omega)) (ok_G (inb_n hq8 (by omega)) (ok_lz.mpr ?_)))
    rw [nI_clamp (n := p) (by omega), nI_clamp (n := q) (by omega), (m1.1 p (by omega)).1, (m1.1 q (by omega)).1]
    have b3 := and_bits3 (carS T p) (by omega) (carS T q) (by omega)
    have b2 := and_bits2 (carS T p) (by omega) (carS T q) (by omega)
    rw [← oneS_bits op.1 op.2, ← oneS_bits op.1 op.2] at b3 b2
    have o0 := oneS_le T p q 0
    have o1 := oneS_le T p q 1
    -- with car c
    have key : ∀ c, c < 2 → Ok (fX9_drawnRide_J57 (nI p) (nI q) (lN (ltN (seed + 1))) (nI c) s1) (fun r s => Rel (some (r, s)) (fX10_drawn_J144 (lN (ltN (seed + 1))) (nI c) s2) SimP) := by
      intro c hc
      unfold fX9_drawnRide_J57 fX10_drawn_J144 fX10_drawn_J212
      have el : (if nI (T 4 q) < nI (T 4 p) then nI (T 4 q) else nI (T 4 p)) = nI (loS T p q) := by
        simp (disch := omega) only [nI_ltI]
        unfold loS
        repeat' split
        all_goals first | rfl | omega | (congr 1; omega)
      have eh : (if nI (T 4 p) < nI (T 4 q) then nI (T 4 q) else nI (T 4 p)) = nI (hgS T p q) := by
        simp (disch := omega) only [nI_ltI]
        unfold hgS
        repeat' split
        all_goals first | rfl | omega
      simp (disch := omega) only [ok_gd, ok_lz, inb_n, true_and, nI_clamp, xT_cell hX1.1, el, eh, xT_pace hX1.1, pk_sub, pk_mul]
      have dist : (hgS T p q - loS T p q) * T 0 3 ≤ 40 * 60 := mul_le2 (by omega) pc
      have lp := drawn_loop (σ := s1) (τ := s2) hR hX1 m1.1 hM2 hp8 hq8 hc w2 w3 (Q := SimP) (fun r => ⟨rfl, T, n, hh⟩) (T 0 4) 0 (f + 4000) (f + 4000) (ltN (seed + 1)) ((hgS T p q - loS T p q) * T 0 3) (by omega) (by omega) (by omega) (by omega) (by omega)
      have e3 := hM2 0 3 (vt0 (by omega))
      have e4p := hM2 4 p (vt3 (by omega) (by omega) hp8)
      have e4q := hM2 4 q (vt3 (by omega) (by omega) hq8)
      rw [hf, show (0 : Int32) = nI 0 from rfl]
      have lp2 : ∀ dd, dd = (hgS T p q - loS T p q) * T 0 3 → Ok (fX9_drawnRide_L135 (fun x11 s12 => some (x11, s12)) (nI c) (nI (loS T p q)) (nI (hgS T p q)) (f + 4000) (lN (ltN (seed + 1))) (nI ((hgS T p q - loS T p q) * T 0 3)) (nI 0) s1) (fun r s => Rel (some (r, s)) (fX10_drawn_L218 (fun x3 s4 => some (x3, s4)) (nI c) (f + 4000) (lN (ltN (seed + 1))) (nI dd) (nI 0) s2) SimP) := by
        rintro dd rfl
        exact ok_mono lp (fun _ _ g => ok_R g)
      rw [w2, w3]
      simp (disch := omega) only [inb_n, gd_t, nI_clamp, e4p, e4q, e3]
      by_cases z : T 4 q ≤ T 4 p
      · rw [if_pos (nI_le z (by omega)), pk_sub z, pk_mul]
        refine lp2 _ ?_
        unfold hgS loS
        rw [if_neg (by omega), if_neg (by omega), Nat.mul_comm]
      · rw [if_neg (nI_ge (by omega) (by omega)), pk_sub (by omega), pk_mul]
        refine lp2 _ ?_
        unfold hgS loS
        rw [if_pos (by omega), if_pos (by omega), Nat.mul_comm]
    rw [q3, q2, l2_e (by omega), lN_i]
    simp only [b3, b2]
    by_cases x0 : oneS T p q 0 = 1
    · have n0 : ¬ nI (oneS T p q 0) = 0 := by
        rw [x0]
        decide
      by_cases x1 : oneS T p q 1 = 1
      · have n1 : ¬ nI (oneS T p q 1) = 0 := by
          rw [x1]
          decide
        refine ok_T ⟨x0, x1⟩ ?_
        rw [if_neg n0, if_neg n1]
        exact key _ (by omega)
      · have n1 : nI (oneS T p q 1) = 0 := by
          rw [show oneS T p q 1 = 0 by omega]
          rfl
        refine ok_F (by omega) (ok_F (by omega) ?_)
        rw [if_neg n0, if_pos n1, if_neg n0]
        exact key 0 (by omega)
    · have n0 : nI (oneS T p q 0) = 0 := by
        rw [show oneS T p q 0 = 0 by omega]
        rfl
      have x1 : oneS T p q 1 = 1 := can.resolve_left x0
      refine ok_F (by omega) (ok_T ⟨x0, x1⟩ ?_)
      rw [if_pos n0, if_pos n0]
      exact key 1 (by omega)
  refine rr_F (nI_m1 (by omega)) ?_
  have a := stpS_le T p 0
  have b := stpS_le T q 0
  unfold fX10_drawn_J69
  rw [show (0 : Int32) = nI 0 from rfl, e_doesStop hR hM2 hp8 (by omega), bd_some]
  by_cases y1 : stpS T p 0 = 1
  · rw [y1]
    refine rr_F (by decide) ?_
    rw [w3, e_doesStop hR hM2 hq8 (by omega), bd_some]
    by_cases y2 : stpS T q 0 = 1
    · rw [y2]
      refine rr_F (by decide) ?_
      rw [show oneS T p q 0 = 1 from if_pos ⟨y1, y2⟩] at e100
      rw [e_drawn70 hR hM2 hp8 hq8 w2 w3]
      exact e100
    · rw [show stpS T q 0 = 0 by omega]
      refine rr_T rfl ?_
      rw [show oneS T p q 0 = 0 from if_neg (fun c => y2 c.2)] at e100
      rw [e_drawn70 hR hM2 hp8 hq8 w2 w3]
      exact e100
  · rw [show stpS T p 0 = 0 by omega]
    refine rr_T rfl ?_
    rw [show oneS T p q 0 = 0 from if_neg (fun c => y1 c.1)] at e100
    rw [e_drawn70 hR hM2 hp8 hq8 w2 w3]
    exact e100
