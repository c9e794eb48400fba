/-! ===== text: its three parts ===== -/
theorem prtW_eq {K K' : Nat → Nat} {a b : Nat} (h : prtW K a b) (e : ∀ c, c < b → K c = K' c) : prtW K' a b := by
  obtain ⟨H, h1, h2, h3, h4⟩ := h
  exact ⟨H, h1, h2, h3, fun c x y => by rw [← e c y]; exact h4 c x y⟩
theorem eff_H : ∀ (X C : List Nat) (h h' : Nat), eff X h h' → ∃ H : Nat → Nat, H C.length = h ∧ H (C.length + X.length) = h' ∧ ∀ c, C.length ≤ c → c < C.length + X.length → stH ((C ++ X).getD c 0) (H c) (H (c + 1)) := by
  intro X
  induction X with
  | nil =>
    intro C h h' e
    have e : h = h' := e
    exact ⟨fun _ => h, rfl, e, fun c a b => absurd b (by show ¬ c < C.length + 0; omega)⟩
  | cons m X ih =>
    rintro C h h' ⟨g, e1, e2⟩
    obtain ⟨H, h1, h2, h3⟩ := ih (C ++ [m]) g h' e2
    have l1 : (C ++ [m]).length = C.length + 1 := by
      rw [List.length_append]
      rfl
    have l2 : (m :: X).length = X.length + 1 := rfl
    rw [l1] at h1 h2 h3
    have ap : C ++ m :: X = C ++ [m] ++ X := by simp
    refine ⟨fun c => if c = C.length then h else H c, if_pos rfl, ?_, fun c a b => ?_⟩
    · show (if C.length + (m :: X).length = C.length then h else H (C.length + (m :: X).length)) = h'
      rw [l2, if_neg (by omega), show C.length + (X.length + 1) = C.length + 1 + X.length by omega]
      exact h2
    · show stH _ (if c = C.length then h else H c) (if c + 1 = C.length then h else H (c + 1))
      rw [if_neg (show ¬ c + 1 = C.length by omega)]
      by_cases e : c = C.length
      · rw [if_pos e, e, h1]
        have : (C ++ m :: X).getD C.length 0 = m := by
          rw [ap, gA1 (by omega), gA2]
        rw [this]
        exact e1
      · rw [if_neg e, ap]
        exact h3 c (by omega) (by omega)
theorem eff_prt {X C : List Nat} (h : eff X 0 1) : prtW (fun c => (C ++ X).getD c 0) C.length (C ++ X).length := by
  obtain ⟨H, h1, h2, h3⟩ := eff_H X C 0 1 h
  rw [List.length_append]
  exact ⟨H, h1, h2, by omega, h3⟩
def xQ (j c i : Nat) : Prop := (c = 77 ∧ 2 ≤ i) ∨ (97 + 4 * j ≤ c ∧ c ≤ 99 + 4 * j)
def mQ (j c i : Nat) : Prop := (c = 0 ∧ 47 ≤ i) ∨ c = 27 ∨ (c = 15 ∧ 200 * j ≤ i ∧ i < 200 * j + 200) ∨ (c = 16 ∧ 4 * j ≤ i ∧ i < 4 * j + 4)
theorem xP_Q {j : Nat} (c i : Nat) (h : xP j c i) : xQ j c i := by
  unfold xP at h
  unfold xQ
  omega
theorem mP_Q {j : Nat} (c i : Nat) (h : mP j c i) : mQ j c i := by
  unfold mP at h
  unfold mQ
  omega
def mdA (B : Nat → Nat) (L j : Nat) (t : xM) (p : Nat) (M : List Nat) : Prop := tpM B L t ∧ wrdR t ∧ gi t 0 47 = nI p ∧ gi t 0 21 = nI j ∧ gi t 0 55 = nI M.length ∧ ∀ i, i < M.length → gi t 15 (200 * j + i) = nI (M.getD i 0)
theorem mdl_A {B : Nat → Nat} {L j : Nat} {t : xM} {p : Nat} {S M : List Nat} (h : mdl B L j t p S M) : mdA B L j t p M := ⟨h.1, h.2.1, h.2.2.1, h.2.2.2.1, h.2.2.2.2.2.2.2.1, h.2.2.2.2.2.2.2.2⟩
theorem mdA_fr {B : Nat → Nat} {L j : Nat} {t t' : xM} {p : Nat} {M : List Nat} {P : Nat → Nat → Prop} (h : mdA B L j t p M) (F : Fr P t t') (hp : ∀ c i, P c i → (c = 0 ∧ (48 ≤ i ∧ i ≤ 54)) ∨ c = 16) : mdA B L j t' p M := by
  have a : ∀ c i, ¬ ((c = 0 ∧ (48 ≤ i ∧ i ≤ 54)) ∨ c = 16) → gi t' c i = gi t c i := fun c i z => (F c i fun y => z (hp c i y)).1
  obtain ⟨h1, h2, h3, h4, h5, h6⟩ := h
  refine ⟨tpM_fr h1 F (fun c i y => by have := hp c i y; omega), fun k hk => ?_, ?_, ?_, ?_, fun i hi => ?_⟩
  · rw [(F 26 k fun y => by have := hp _ _ y; omega).2]
    exact h2 k hk
  · rw [a _ _ (by omega)]
    exact h3
  · rw [a _ _ (by omega)]
    exact h4
  · rw [a _ _ (by omega)]
    exact h5
  · rw [a _ _ (by omega)]
    exact h6 i hi
theorem e_nextA {B : Nat → Nat} {L j p : Nat} (hB : bts B L) {t : xM} {M : List Nat} (hp : p ≤ L) (h : mdA B L j t p M) : ∃ t', fX10_next t = some (0, t') ∧ mdA B L j t' (tN B L p) M ∧ gi t' 0 49 = mkT (tK B L p) ∧ gi t' 0 48 = nI (tS B L p) ∧ (4 ≤ tK B L p → tK B L p ≤ 6 → gi t' 0 50 = nI (tK B L p - 4)) ∧ Fr mTkn t t' := by
  obtain ⟨h1, h2, h3, h4, h5, h6⟩ := h
  have q : Ok (fX10_next t) (fun r t' => r = 0 ∧ mdA B L j t' (tN B L p) M ∧ gi t' 0 49 = mkT (tK B L p) ∧ gi t' 0 48 = nI (tS B L p) ∧ (4 ≤ tK B L p → tK B L p ≤ 6 → gi t' 0 50 = nI (tK B L p - 4)) ∧ Fr mTkn t t') := by
    refine e_next hB hp h1 h2 h3 fun t' F g1 g2 g3 g4 g5 => ⟨rfl, ⟨tpM_fr h1 F (fun c i q => by unfold mTkn at q; omega), fun k hk => ?_, g3, ?_, ?_, fun i hi => ?_⟩, g1, g2, g5, F⟩
    · rw [(F _ _ (by unfold mTkn; omega)).2]
      exact h2 k hk
    · rw [(F _ _ (by unfold mTkn; omega)).1]
      exact h4
    · rw [(F _ _ (by unfold mTkn; omega)).1]
      exact h5
    · rw [(F _ _ (by unfold mTkn; omega)).1]
      exact h6 i hi
  obtain ⟨r, t', e, e0, q⟩ := q
  subst e0
  exact ⟨t', e, q⟩
/-- the parts read so far -/
def prI (j q : Nat) (s t : xM) (C : List Nat) (E : Nat → Nat) : Prop := E 0 = 0 ∧ E q = C.length ∧ (∀ i, i < q → prtW (fun c => C.getD c 0) (E i) (E (i + 1)) ∧ E (i + 1) ≤ C.length ∧ gi s (99 + 4 * j) i = nI (E (i + 1)) ∧ gi t 16 (4 * j + i) = nI (E i)) ∧ (∀ x ∈ C, cdOk x) ∧ gi s (97 + 4 * j) 4 = nI q
theorem prI_fr {j q : Nat} {s s' t t' : xM} {C : List Nat} {E : Nat → Nat} {P P' : Nat → Nat → Prop} (h : prI j q s t C E) (F : Fr P s s') (hp : ∀ c i, P c i → c ≠ 99 + 4 * j ∧ ¬ (c = 97 + 4 * j ∧ i = 4)) (G : Fr P' t t') (hp' : ∀ c i, P' c i → ¬ (c = 16 ∧ i < 4 * j + q)) : prI j q s' t' C E := by
  obtain ⟨h1, h2, h3, h4, h5⟩ := h
  refine ⟨h1, h2, fun i hi => ?_, h4, ?_⟩
  · obtain ⟨a, b, c, d⟩ := h3 i hi
    refine ⟨a, b, ?_, ?_⟩
    · rw [(F _ _ fun y => (hp _ _ y).1 rfl).1]
      exact c
    · rw [(G _ _ fun y => hp' _ _ y ⟨rfl, by omega⟩).1]
      exact d
  · rw [(F _ _ fun y => (hp _ _ y).2 ⟨rfl, rfl⟩).1]
    exact h5
def kF (s : xM) : Option (Int32 × xM) := some ((gi s 77 3), s)
def kE (s : xM) : Option (Int32 × xM) := if (gi s 77 2) = 0 then some ((-1 : Int32), s) else some ((gi s 77 3), s)
def kT (x6 : Int32) (s7 : xM) : Option (Int32 × xM) := if x6 = 0 then fX10_text_J122 x6 s7 else bd (fX10_next s7) fun _ s10 => if (gi s10 0 49) = 0 then fX10_text_J121 (1 : Int32) s10 else fX10_text_J121 (0 : Int32) s10
theorem e_eRead {fz : Nat} (h : fu = fz + 4000) (t1 : xM) : fX10_eRead t1 = LL (fz + 4000) 1 1 (si (si t1 0 53 0) 0 54 0) := by
  unfold fX10_eRead LL
  rw [h]
  simp only [lz]
  have a : (fun s5 => some ((0 : Int32), s5)) = z0 := rfl
  have b : (fun s9 => bd (fX10_unwinds (1 : Int32) s9) fun _ s11 => if (gi s11 0 53) = 0 then some ((1 : Int32), s11) else some ((0 : Int32), s11)) = zE := rfl
  rw [a, b]
theorem RD00 {B : Nat → Nat} {L j : Nat} (hB : bts B L) (hj : j < 6) {s t : xM} {p : Nat} {C : List Nat} (hc : cls B L j s p C) (hm : mdl B L j t p [] C) (hp : p ≤ L) (hl : C.length ≤ p) : Ok (fRL 64 j (0 : Int32) (0 : Int32) s) (out B L j 0 0 1 s t p [] C) := by
  have r0 := RDall hB hj 64 0 0 (by omega) (by omega) (by omega) s t p [] C 1 (fun _ => rfl) (fun z => by omega) hc hm hp rfl (fun x h => (by cases h)) tp_nil hl
  rw [show nI 0 = (0 : Int32) from rfl] at r0
  exact r0
/-- both read the parts from q on -/
theorem PL {B : Nat → Nat} {L j : Nat} (hB : bts B L) (hj : j < 6) : ∀ (d q f g : Nat) (s t : xM) (p : Nat) (C : List Nat) (E : Nat → Nat), d + q = 3 → d + 1 < f → d + 1 < g → cls B L j s p C → mdA B L j t p C → prI j q s t C E → p ≤ L → C.length ≤ p → Ok (fX1_faultOf_L13 kF kE j f (nI (4 + q)) s) (fun r s' => Fr (xQ j) s s' ∧ ((∃ w t', w ≤ 160 ∧ r = nI w ∧ fX10_text_L26 kT g 1 (nI q) t = fX10_text_J122 0 t' ∧ gi t' 0 48 = nI w ∧ Fr (mQ j) t t') ∨ (r = -1 ∧ ∃ t' p' C' E', fX10_text_L26 kT g 1 (nI q) t = fX10_text_J122 1 t' ∧ Fr (mQ j) t t' ∧ cls B L j s' p' C' ∧ mdA B L j t' p' C' ∧ prI j 3 s' t' C' E' ∧ C'.length ≤ 160))) := by
  intro d
  induction d with
  | zero =>
    intro q f g s t p C E hq hf hg hc hm hE hp hl
    obtain rfl : q = 3 := by omega
    have hl1 := hB.1
    have tsl := tS_le (B := B) hp
    obtain ⟨f, rfl⟩ : ∃ n', f = n' + 1 := ⟨f - 1, by omega⟩
    obtain ⟨g, rfl⟩ : ∃ n', g = n' + 1 := ⟨g - 1, by omega⟩
    have t100 := tK_lt B L p
    obtain ⟨t1, e1, q1, g9, g8, _, F1⟩ := e_nextA hB hp hm
    have mk := mkT_e (tK_R B L p)
    have em : fX10_text_L26 kT (g + 1) 1 (nI 3) t = if (gi t1 0 49) = 0 then fX10_text_J121 (1 : Int32) t1 else fX10_text_J121 (0 : Int32) t1 := by
      unfold fX10_text_L26
      rw [if_pos (show (3 : Int32) ≤ nI 3 from by decide)]
      unfold kT
      rw [if_neg n10, e1, bd_some]
    unfold fX1_faultOf_L13
    refine ok_T (by decide) ?_
    unfold kE
    rw [cls_K hc]
    by_cases c : tK B L p = 0
    · refine ok_T (by rw [c]; rfl) (ok_R ⟨Fr_rf, Or.inr ⟨rfl, t1, tN B L p, C, E, ?_, ?_⟩⟩)
      · rw [em, g9, if_pos (mk.2.2.2.2.2.2.2.2.mpr c)]
        rfl
      · refine ⟨Fr_mono F1 fun c i h => mP_Q c i (mTkn_mP c i h), ?_, q1, prI_fr hE (P := fun _ _ => False) Fr_rf (fun c i h => h.elim) F1 (fun c i h => by unfold mTkn at h; omega), by omega⟩
        have k0 : tN B L p = L ∧ tS B L p = L := by
          have ks : L ≤ tS B L p := by
            by_cases z : L ≤ tS B L p
            · exact z
            · exfalso
              unfold tK at c
              rw [if_neg z] at c
              by_cases cL : isL (B (tS B L p)) = true
              · rw [if_pos cL] at c
                unfold kdW at c
                by_cases a : tW B L p < 3
                · rw [if_pos a] at c
                  omega
                rw [if_neg a] at c
                by_cases b : tW B L p < 9
                · rw [if_pos b] at c
                  omega
                rw [if_neg b] at c
                by_cases d : tW B L p < 12
                · rw [if_pos d] at c
                  omega
                · rw [if_neg d] at c
                  omega
              rw [if_neg cL] at c
              by_cases cD : isD (B (tS B L p)) = true
              · rw [if_pos cD] at c
                by_cases y : tN B L p - tS B L p ≤ 4
                · rw [if_pos y] at c
                  omega
                · rw [if_neg y] at c
                  omega
              rw [if_neg cD] at c
              by_cases cS : isS (B (tS B L p)) = true
              · rw [if_pos cS] at c
                unfold isS at cS
                have := of_decide_eq_true cS
                omega
              · rw [if_neg cS] at c
                omega
          refine ⟨?_, by omega⟩
          unfold tN
          rw [if_pos ks]
        obtain ⟨h1, h2, h3, h4, h5, h6, h7⟩ := hc
        have sL : tS B L L = L := by
          unfold tS
          rw [Nat.sub_self]
          rfl
        have kL : tK B L L = 0 := by
          unfold tK
          rw [sL, if_pos (Nat.le_refl _)]
        have nL : tN B L L = L := by
          unfold tN
          rw [sL, if_pos (Nat.le_refl _)]
        rw [k0.1]
        refine ⟨h1, by rw [h2, c, kL], by rw [h3, k0.2, sL], by rw [h4, k0.1, nL], fun z => by omega, h6, h7⟩
    · refine ok_F (fun z => c ((nI_n0 (by omega)).mp z)) (ok_R ⟨Fr_rf, Or.inl ⟨tS B L p, t1, by omega, cls_S hc, ?_, g8, Fr_mono F1 fun c i h => mP_Q c i (mTkn_mP c i h)⟩⟩)
      rw [em, g9, if_neg (fun z => c (mk.2.2.2.2.2.2.2.2.mp z))]
      rfl
  | succ d IH =>
    intro q f g s t p C E hq hf hg hc hm hE hp hl
    have hl1 := hB.1
    have tsl := tS_le (B := B) hp
    obtain ⟨f, rfl⟩ : ∃ n', f = n' + 1 := ⟨f - 1, by omega⟩
    obtain ⟨g, rfl⟩ : ∃ n', g = n' + 2 := ⟨g - 2, by omega⟩
    have t100 := tK_lt B L p
    have tn := tN_le (B := B) hp
    obtain ⟨t1, e1, q1, g9, g8, g5, F1⟩ := e_nextA hB hp hm
    have mk := mkT_e (tK_R B L p)
    -- the model: the part's start is written
    have i16 : (((4 : Int32) * (nI j)) + nI q) = nI (4 * j + q) := by
      rw [show (4 : Int32) = nI 4 from rfl, pk_mul, nI_add]
    have F2 : Fr (fun c i => c = 16 ∧ i = 4 * j + q) t1 (si t1 16 (4 * j + q) (nI C.length)) := Fr_si Fr_rf _ ⟨rfl, rfl⟩
    have j60 : ∀ t0, fX10_text_J60 kT (fX10_text_L26 kT (g + 1)) (nI q) t0 t1 = if t0 = 0 then fX10_text_L26 kT (g + 1) 0 (nI (q + 1)) (si t1 16 (4 * j + q) (nI C.length)) else bd (fX10_eRead (si t1 16 (4 * j + q) (nI C.length))) fun r5 s6 => if r5 = 0 then fX10_text_L26 kT (g + 1) 0 (nI (q + 1)) s6 else fX10_text_L26 kT (g + 1) 1 (nI (q + 1)) s6 := by
      intro t0
      unfold fX10_text_J60
      rw [q1.2.2.2.1, q1.2.2.2.2.1, i16, gd_of (inb_n (by omega) (by omega)), nI_clamp (by omega), nI_1]
      rfl
    have em : fX10_text_L26 kT (g + 2) 1 (nI q) t = if tK B L p = 4 + q then fX10_text_J60 kT (fX10_text_L26 kT (g + 1)) (nI q) 1 t1 else fX10_text_J60 kT (fX10_text_L26 kT (g + 1)) (nI q) 0 t1 := by
      unfold fX10_text_L26 fX10_text_J59
      rw [if_neg (show ¬ (3 : Int32) ≤ nI q from nI_ge (b := 3) (by omega) (by omega)), if_neg n10, e1, bd_some, g9]
      by_cases c : tK B L p = 4 + q
      · rw [if_pos (mk.2.2.2.2.2.2.2.1.mpr (by omega)), g5 (by omega) (by omega), if_pos (by congr 1; omega), if_pos c]
      · rw [if_neg c]
        by_cases c2 : 4 ≤ tK B L p ∧ tK B L p ≤ 6
        · rw [if_pos (mk.2.2.2.2.2.2.2.1.mpr c2), g5 c2.1 c2.2, if_neg (fun z => by have := (nI_eq (by omega) (by omega)).mp z; omega)]
        · rw [if_neg (fun z => c2 (mk.2.2.2.2.2.2.2.1.mp z))]
    have stop : ∀ t', fX10_text_L26 kT (g + 1) 0 (nI (q + 1)) t' = fX10_text_J122 0 t' := by
      intro t'
      unfold fX10_text_L26
      by_cases c : (3 : Int32) ≤ nI (q + 1)
      · rw [if_pos c]
        rfl
      · rw [if_neg c, if_pos rfl]
        rfl
    have F12 : Fr (mQ j) t (si t1 16 (4 * j + q) (nI C.length)) := Fr_tr (Fr_mono F1 fun c i h => mP_Q c i (mTkn_mP c i h)) (Fr_mono F2 fun c i h => by unfold mQ; omega)
    unfold fX1_faultOf_L13 fX1_passes
    refine ok_F (show ¬ (6 : Int32) < nI (4 + q) from nI_nlt (b := 4 + q) (a := 6) (by omega) (by omega)) ?_
    rw [cls_K hc]
    by_cases c : tK B L p = 4 + q
    rotate_left
    · rw [if_neg (fun z => c ((nI_eq (by omega) (by omega)).mp z)), bd_some]
      refine ok_T rfl (ok_R ⟨Fr_rf, Or.inl ⟨tS B L p, si t1 16 (4 * j + q) (nI C.length), by omega, cls_S hc, ?_, ?_, F12⟩⟩)
      · rw [em, if_neg c, j60, if_pos rfl, stop]
      · rw [(F2 _ _ (by omega)).1]
        exact g8
    rw [if_pos (by rw [c])]
    have gt := tN_gt (B := B) (L := L) (p := p) (by omega)
    refine ok_B (ok_B (e_advC hB hp hc fun s1 c1 G1 => ok_R (ok_F n10 (ok_B ?_))))
    -- the model's yard is empty
    have F3 : Fr (fun c i => c = 0 ∧ (i = 53 ∨ i = 54)) (si t1 16 (4 * j + q) (nI C.length)) (si (si (si t1 16 (4 * j + q) (nI C.length)) 0 53 0) 0 54 0) := Fr_si (Fr_si Fr_rf _ (by omega)) _ (by omega)
    have q3 : mdl B L j (si (si (si t1 16 (4 * j + q) (nI C.length)) 0 53 0) 0 54 0) (tN B L p) [] C := by
      obtain ⟨a1, a2, a3, a4, a5, a6⟩ := mdA_fr (mdA_fr q1 F2 (fun c i h => by omega)) F3 (fun c i h => by omega)
      refine ⟨a1, a2, a3, a4, ?_, trivial, gi_same _ _ _ _, a5, a6⟩
      rw [gi_si, if_neg (by omega), gi_same]
      rfl
    obtain ⟨fz, hfz⟩ := fu_big
    have eE := e_eRead hfz (si t1 16 (4 * j + q) (nI C.length))
    have r0 := RD00 hB hj c1 q3 tn (by omega)
    refine ok_mono r0 fun r s2 g2 => ?_
    obtain ⟨G2, g2 | g2⟩ := g2
    · obtain ⟨rfl, ⟨w, hw, ew⟩, g2⟩ := g2
      obtain ⟨t4, e4, w4, F4⟩ := g2 (fz + 4000) (by omega)
      refine ok_T rfl (ok_R ⟨Fr_tr (Fr_mono G1 xP_Q) (Fr_mono G2 xP_Q), Or.inl ⟨w, t4, hw, ew, ?_, by rw [w4, ew], Fr_tr F12 (Fr_tr (Fr_mono F3 fun c i h => by unfold mQ; omega) (Fr_mono F4 mP_Q))⟩⟩)
      rw [em, if_pos c, j60, if_neg n10, eE, e4, bd_some, if_pos rfl, stop]
    · obtain ⟨rfl, t2, p2, X, N, S0, P, M, e1', e2, e3, e4, e5, e6, e7, e8, e9, e10, e11, e12, e13⟩ := g2
      obtain ⟨rfl, rfl⟩ := no19 e1' e2 tp_nil (Nat.le_refl 7)
      rw [List.append_nil] at e7
      have e10' : (C ++ X).length + 0 ≤ p2 := e10
      have lM := congrArg List.length e7
      rw [List.length_append (as := M)] at lM
      have hP : ∀ x ∈ P, x ≤ 19 ∧ 1 ≤ rk x := fun x h => e11 x h
      have t100b := tK_lt B L p2
      refine ok_F n10 (ok_B ?_)
      rw [cls_K e5]
      by_cases c59 : tK B L p2 = 59
      rotate_left
      · have fl := lnk_f e3 (T_bad0 hB hj e9 e6 hP (fun x h => (by cases h)) e12 (by show M.length + P.length + 0 ≤ p2; omega) (Or.inl ⟨rfl, c59⟩))
        obtain ⟨⟨w, hw, ew⟩, g2⟩ := fl
        obtain ⟨t4, e4', w4, F4⟩ := g2 (fz + 4000) (by omega)
        refine ok_F (fun z => c59 ((nI_eq (b := 59) (by omega) (by omega)).mp z)) (ok_R (ok_T rfl (ok_R ⟨Fr_tr (Fr_mono G1 xP_Q) (Fr_mono G2 xP_Q), Or.inl ⟨w, t4, hw, by rw [cls_S e5, ew], ?_, by rw [w4, ew], Fr_tr F12 (Fr_tr (Fr_mono F3 fun c i h => by unfold mQ; omega) (Fr_mono F4 mP_Q))⟩⟩)))
        rw [em, if_pos c, j60, if_neg n10, eE, e4', bd_some, if_pos rfl, stop]
      · obtain ⟨t4, q4, F4, e4'⟩ := T_end hB hj e9 e6 hP (by omega) c59
        obtain ⟨m1, hm1, em1⟩ := e3.2 (fz + 4000) (by omega)
        have em2 := em1.trans (e4' m1 hm1)
        have tn2 := tN_le (B := B) e9
        have gt2 := tN_gt (B := B) (L := L) (p := p2) (by omega)
        refine ok_T (by rw [c59]; rfl) (ok_B (e_advC hB e9 e5 fun s3 c3 G3 => ok_R (ok_F n10 (ok_B ?_))))
        obtain ⟨E0, Eq, EP, EC, Ek⟩ := hE
        have x4 : gi s3 (97 + 4 * j) 4 = nI q := by
          rw [(G3 _ _ (by unfold xP; omega)).1, (G2 _ _ (by unfold xP; omega)).1, (G1 _ _ (by unfold xP; omega)).1]
          exact Ek
        have x3 : gi s3 (97 + 4 * j) 3 = nI (C ++ X).length := c3.2.2.2.2.2.1
        unfold fX5_endPart
        rw [x4]
        refine ok_F (show ¬ (3 : Int32) ≤ nI q from nI_ge (b := 3) (by omega) (by omega)) (ok_G (inb_n (by omega) (by omega)) (ok_lz.mpr (ok_lz.mpr (ok_R ?_))))
        rw [nI_clamp (by omega), x3]
        have x4' : gi (si s3 (99 + 4 * j) q (nI (C ++ X).length)) (97 + 4 * j) 4 = nI q := by
          rw [gi_si, if_neg (by omega)]
          exact x4
        rw [x4', nI_1 q, nI_1 (4 + q)]
        have G4 : Fr (fun c i => c = 99 + 4 * j ∨ (c = 97 + 4 * j ∧ i = 4)) s3 (si (si s3 (99 + 4 * j) q (nI (C ++ X).length)) (97 + 4 * j) 4 (nI (q + 1))) := Fr_si (Fr_si Fr_rf _ (by omega)) _ (by omega)
        have g16 : ∀ i, i < q → gi t4 16 (4 * j + i) = gi t 16 (4 * j + i) := fun i hi => by
          rw [(F4 _ _ (by unfold mP; omega)).1, (e3.1 _ _ (by unfold mP; omega)).1, (F3 _ _ (by omega)).1, (F2 _ _ (by omega)).1, (F1 _ _ (by unfold mTkn; omega)).1]
        have g16q : gi t4 16 (4 * j + q) = nI C.length := by
          rw [(F4 _ _ (by unfold mP; omega)).1, (e3.1 _ _ (by unfold mP; omega)).1, (F3 _ _ (by omega)).1, gi_same]
        have c4 : cls B L j (si (si s3 (99 + 4 * j) q (nI (C ++ X).length)) (97 + 4 * j) 4 (nI (q + 1))) (tN B L p2) (C ++ X) := by
          obtain ⟨b1, b2, b3, b4, b5, b6, b7⟩ := c3
          refine ⟨tpX_fr b1 G4 (fun c i h => by omega), ?_, ?_, ?_, fun z => ?_, ?_, fun i hi => ?_⟩
          · rw [(G4 _ _ (by omega)).1]
            exact b2
          · rw [(G4 _ _ (by omega)).1]
            exact b3
          · rw [(G4 _ _ (by omega)).1]
            exact b4
          · rw [(G4 _ _ (by omega)).1]
            exact b5 z
          · rw [(G4 _ _ (by omega)).1]
            exact b6
          · rw [(G4 _ _ (by omega)).1]
            exact b7 i hi
        have pr : prI j (q + 1) (si (si s3 (99 + 4 * j) q (nI (C ++ X).length)) (97 + 4 * j) 4 (nI (q + 1))) t4 (C ++ X) (fun i => if i = q + 1 then (C ++ X).length else E i) := by
          have lX : C.length ≤ (C ++ X).length := by
            rw [List.length_append]
            omega
          refine ⟨?_, if_pos rfl, fun i hi => ?_, fun x hx => ?_, gi_same _ _ _ _⟩
          · show (if 0 = q + 1 then _ else E 0) = 0
            rw [if_neg (by omega)]
            exact E0
          · show prtW _ (if i = q + 1 then _ else E i) (if i + 1 = q + 1 then _ else E (i + 1)) ∧ (if i + 1 = q + 1 then _ else E (i + 1)) ≤ _ ∧ _ = nI (if i + 1 = q + 1 then _ else E (i + 1)) ∧ _ = nI (if i = q + 1 then _ else E i)
            rw [if_neg (show ¬ i = q + 1 by omega)]
            by_cases ei : i = q
            · rw [ei, if_pos rfl, Eq]
              refine ⟨eff_prt (e13.2 0 (by decide)), Nat.le_refl _, ?_, g16q⟩
              rw [gi_si, if_neg (by omega), gi_same]
            · rw [if_neg (by omega)]
              obtain ⟨a1, a2, a3, a4⟩ := EP i (by omega)
              refine ⟨prtW_eq a1 fun c hc => (gA1 (by omega)).symm, by omega, ?_, by rw [g16 i (by omega)]; exact a4⟩
              rw [gi_si, if_neg (by omega), gi_si, if_neg (by omega), (G3 _ _ (by unfold xP; omega)).1, (G2 _ _ (by unfold xP; omega)).1, (G1 _ _ (by unfold xP; omega)).1]
              exact a3
          · rcases List.mem_append.mp hx with hx | hx
            · exact EC x hx
            · exact e13.1 x hx
        rw [e7] at c4 pr
        have r1 := IH (q + 1) f (g + 1) _ t4 (tN B L p2) (M ++ P) _ (by omega) (by omega) (by omega) c4 (mdl_A q4) pr tn2 (by rw [List.length_append]; omega)
        rw [e7]
        have F34 : Fr (mQ j) t t4 := Fr_tr F12 (Fr_tr (Fr_mono F3 fun c i h => by unfold mQ; omega) (Fr_tr (Fr_mono e3.1 mP_Q) (Fr_mono F4 mP_Q)))
        have emm : fX10_text_L26 kT (g + 2) 1 (nI q) t = fX10_text_L26 kT (g + 1) 1 (nI (q + 1)) t4 := by
          rw [em, if_pos c, j60, if_neg n10, eE, em2, bd_some, if_neg n10]
        rw [emm]
        refine ok_mono r1 fun r s5 g5 => ?_
        obtain ⟨G5, g5⟩ := g5
        rw [e7] at G4
        refine ⟨Fr_tr (Fr_mono G1 xP_Q) (Fr_tr (Fr_mono G2 xP_Q) (Fr_tr (Fr_mono G3 xP_Q) (Fr_tr (Fr_mono G4 fun c i h => by unfold xQ; omega) G5))), ?_⟩
        rcases g5 with ⟨w, t', a, b, c', d', e'⟩ | ⟨a, t', p', C', E', b, c', d'⟩
        · exact Or.inl ⟨w, t', a, b, c', d', Fr_tr F34 e'⟩
        · exact Or.inr ⟨a, t', p', C', E', b, Fr_tr F34 c', d'⟩
