/-! ===== text: the model's tape ===== -/
theorem e_pack {a b : Nat} (ha : a < 2 ^ 32) (hb : b < 256) : (lN a <<< ((8 : Int32).toInt64 &&& 63)) ||| (nI b).toInt64 = lN (a * 256 + b) := by
  rw [nI_l (by omega)]
  apply Int64.toBitVec_inj.mp
  rw [Int64.toBitVec_or, fb_tb]
  have e1 : (lN a <<< ((8 : Int32).toInt64 &&& 63)).toBitVec = (BitVec.ofNat 64 a) <<< (8 : Nat) := by
    show (BitVec.ofNat 64 a) <<< ((((8 : Int32).toInt64 &&& 63)).toBitVec.smod 64) = _
    rw [show (((8 : Int32).toInt64 &&& 63)).toBitVec.smod 64 = 8#64 by decide +kernel]
    rfl
  rw [e1, fb_tb]
  apply BitVec.eq_of_toNat_eq
  rw [BitVec.toNat_or, BitVec.toNat_shiftLeft, BitVec.toNat_ofNat, BitVec.toNat_ofNat, BitVec.toNat_ofNat, Nat.mod_eq_of_lt (a := a) (by omega), Nat.mod_eq_of_lt (a := b) (by omega), Nat.shiftLeft_eq, Nat.mod_eq_of_lt (a := a * 2 ^ 8) (by omega), Nat.mod_eq_of_lt (by omega), ← Nat.shiftLeft_eq, ← Nat.shiftLeft_add_eq_or_of_lt (b := b) (i := 8) (by omega), Nat.shiftLeft_eq]
theorem wdP_lt {B : Nat → Nat} {a : Nat} : ∀ k, (∀ i, i < k → B (a + i) < 256) → wdP B a k < 256 ^ k := by
  intro k
  induction k with
  | zero => exact fun _ => (by decide : 0 < 1)
  | succ k ih =>
    intro h
    have := ih fun i hi => h i (by omega)
    have := h k (by omega)
    show wdP B a k * 256 + B (a + k) < 256 ^ k * 256
    omega
theorem l_blankM {B : Nat → Nat} {L : Nat} (hB : bts B L) {k : xM → Option (Int32 × xM)} {Q : Int32 → xM → Prop} : ∀ n f p s, p + n = L → n < f → tpM B L s → gi s 0 47 = nI p → (∀ s', Fr mAt s s' → gi s' 0 47 = nI (rn isB B n p) → Ok (k s') Q) → Ok (fX10_next_L0 k f s) Q := by
  intro n
  induction n with
  | zero =>
    intro f p s hp hf hs e K
    obtain ⟨f, rfl⟩ : ∃ n', f = n' + 1 := ⟨f - 1, by omega⟩
    unfold fX10_next_L0
    rw [hs.1, e, if_pos (nI_le (by omega) (by have := hB.1; omega))]
    exact K s Fr_rf e
  | succ n ih =>
    intro f p s hp hf hs e K
    obtain ⟨f, rfl⟩ : ∃ n', f = n' + 1 := ⟨f - 1, by omega⟩
    have h1 := hB.1
    have h2 := hB.2 p (by omega)
    unfold fX10_next_L0
    rw [hs.1, e, if_neg (nI_ge (by omega) (by omega)), nI_clamp (by omega), hs.2 p (by omega), show (32 : Int32) = nI 32 from rfl, show (10 : Int32) = nI 10 from rfl]
    refine ok_G (inb_n (by omega) (by omega)) ?_
    unfold rn at K
    have go : isB (B p) = true → Ok (fX10_next_J39 k (fX10_next_L0 k f) s) Q := by
      intro c
      rw [if_pos c] at K
      unfold fX10_next_J39
      refine ok_lz.mpr ?_
      rw [e, nI_1]
      exact ih f (p + 1) _ (by omega) (by omega) (tpM_fr (P := mAt) hs (Fr_si Fr_rf _ ⟨rfl, rfl⟩) (fun c i q => by unfold mAt at q; omega)) (gi_same _ _ _ _) fun s' F g => K s' (Fr_tr (Fr_si Fr_rf _ ⟨rfl, rfl⟩) F) g
    by_cases c1 : B p = 32
    · exact ok_T ((nI_eq (by omega) (by omega)).mpr c1) (go (by unfold isB; exact decide_eq_true (Or.inl c1)))
    refine ok_F (fun z => c1 ((nI_eq (by omega) (by omega)).mp z)) (ok_G (inb_n (by omega) (by omega)) ?_)
    by_cases c2 : B p = 10
    · exact ok_T ((nI_eq (by omega) (by omega)).mpr c2) (go (by unfold isB; exact decide_eq_true (Or.inr c2)))
    refine ok_F (fun z => c2 ((nI_eq (by omega) (by omega)).mp z)) ?_
    have c : ¬ isB (B p) = true := by
      unfold isB
      rw [decide_eq_true_eq]
      omega
    rw [if_neg c] at K
    exact K s Fr_rf e
theorem l_lettersM {B : Nat → Nat} {L st : Nat} (hB : bts B L) {k : Int64 → Int32 → xM → Option (Int64 × xM)} {Q : Int64 → xM → Prop} : ∀ n f p a s, p + n = L → n < f → st ≤ p → tpM B L s → gi s 0 47 = nI p → (p - st ≤ 4 → a = lN (wdP B st (p - st))) → (∀ s' a', Fr mAt s s' → gi s' 0 47 = nI (rn isL B n p) → (rn isL B n p - st ≤ 4 → a' = lN (wdP B st (rn isL B n p - st))) → Ok (k a' (nI (rn isL B n p - st)) s') Q) → Ok (fX10_letters_L4 k f a (nI (p - st)) s) Q := by
  intro n
  induction n with
  | zero =>
    intro f p a s hp hf hst hs e ea K
    obtain ⟨f, rfl⟩ : ∃ n', f = n' + 1 := ⟨f - 1, by omega⟩
    unfold fX10_letters_L4
    rw [hs.1, e, if_pos (nI_le (by omega) (by have := hB.1; omega))]
    exact K s a Fr_rf e ea
  | succ n ih =>
    intro f p a s hp hf hst hs e ea K
    obtain ⟨f, rfl⟩ : ∃ n', f = n' + 1 := ⟨f - 1, by omega⟩
    have h1 := hB.1
    have h2 := hB.2 p (by omega)
    unfold fX10_letters_L4
    rw [hs.1, e, if_neg (nI_ge (by omega) (by omega)), nI_clamp (by omega), hs.2 p (by omega), e_inL h2, bd_some]
    refine ok_G (inb_n (by omega) (by omega)) ?_
    unfold rn at K
    by_cases c : isL (B p) = true
    · rw [if_pos c] at K ⊢
      refine ok_F n10 ?_
      have go : ∀ t0, (p + 1 - st ≤ 4 → t0 = lN (wdP B st (p + 1 - st))) → Ok (fX10_letters_J59 k (fX10_letters_L4 k f) (nI (p - st)) t0 s) Q := by
        intro t0 ht
        unfold fX10_letters_J59
        refine ok_lz.mpr ?_
        rw [e, nI_1, nI_1, show p - st + 1 = p + 1 - st by omega]
        exact ih f (p + 1) t0 _ (by omega) (by omega) (by omega) (tpM_fr (P := mAt) hs (Fr_si Fr_rf _ ⟨rfl, rfl⟩) (fun c i q => by unfold mAt at q; omega)) (gi_same _ _ _ _) ht fun s' a' F g => K s' a' (Fr_tr (Fr_si Fr_rf _ ⟨rfl, rfl⟩) F) g
      rw [show (8 : Int32) = nI 8 from rfl]
      by_cases d : 8 ≤ p - st
      · exact ok_T (nI_le d (by omega)) (go _ fun z => by omega)
      · refine ok_F (nI_ge (by omega) (by omega)) ?_
        rw [e]
        refine ok_G (inb_n (by omega) (by omega)) (go _ fun z => ?_)
        rw [nI_clamp (by omega), hs.2 p (by omega), ea (by omega)]
        have lt := wdP_lt (B := B) (a := st) (p - st) fun i hi => hB.2 _ (by omega)
        have lt2 : 256 ^ (p - st) ≤ 256 ^ 3 := Nat.pow_le_pow_right (by omega) (by omega)
        have q := e_pack (a := wdP B st (p - st)) (b := B p) (by omega) h2
        rw [show p + 1 - st = (p - st) + 1 by omega]
        show _ = lN (wdP B st (p - st) * 256 + B (st + (p - st)))
        rw [show st + (p - st) = p by omega]
        exact q
    · rw [if_neg c] at K ⊢
      exact ok_T rfl (K s a Fr_rf e ea)
theorem l_numM {B : Nat → Nat} {L st : Nat} (hB : bts B L) {k : Int32 → xM → Option (Int32 × xM)} {Q : Int32 → xM → Prop} : ∀ n f p s, p + n = L → n < f → st ≤ p → tpM B L s → gi s 0 47 = nI p → (p - st ≤ 4 → gi s 0 50 = nI (nmB B st (p - st))) → (∀ s', Fr mNm s s' → gi s' 0 47 = nI (rn isD B n p) → (rn isD B n p - st ≤ 4 → gi s' 0 50 = nI (nmB B st (rn isD B n p - st))) → Ok (k (nI (rn isD B n p - st)) s') Q) → Ok (fX10_next_L214 k f (nI (p - st)) s) Q := by
  intro n
  induction n with
  | zero =>
    intro f p s hp hf hst hs e e5 K
    obtain ⟨f, rfl⟩ : ∃ n', f = n' + 1 := ⟨f - 1, by omega⟩
    unfold fX10_next_L214
    rw [hs.1, e, if_pos (nI_le (by omega) (by have := hB.1; omega))]
    exact K s Fr_rf e e5
  | succ n ih =>
    intro f p s hp hf hst hs e e5 K
    obtain ⟨f, rfl⟩ : ∃ n', f = n' + 1 := ⟨f - 1, by omega⟩
    have h1 := hB.1
    have h2 := hB.2 p (by omega)
    unfold fX10_next_L214
    rw [hs.1, e, if_neg (nI_ge (by omega) (by omega)), nI_clamp (by omega), hs.2 p (by omega), e_inD h2, bd_some]
    refine ok_G (inb_n (by omega) (by omega)) ?_
    unfold rn at K
    by_cases c : isD (B p) = true
    · rw [if_pos c] at K ⊢
      refine ok_F n10 ?_
      have c2 : 48 ≤ B p ∧ B p ≤ 57 := by
        unfold isD at c
        exact of_decide_eq_true c
      have go : ∀ t0, (p + 1 - st ≤ 4 → t0 = nI (nmB B st (p + 1 - st))) → Ok (fX10_next_J274 k (fX10_next_L214 k f) (nI (p - st)) t0 s) Q := by
        intro t0 ht
        unfold fX10_next_J274
        refine ok_lz.mpr (ok_lz.mpr ?_)
        have F : Fr mNm s (si (si s 0 50 t0) 0 47 (nI (p + 1))) := Fr_si (Fr_si Fr_rf _ ⟨rfl, Or.inr rfl⟩) _ ⟨rfl, Or.inl rfl⟩
        have e4 : gi (si s 0 50 t0) 0 47 = nI p := by
          rw [gi_si, if_neg (by omega)]
          exact e
        rw [e4, nI_1, nI_1, show p - st + 1 = p + 1 - st by omega]
        refine ih f (p + 1) _ (by omega) (by omega) (by omega) (tpM_fr hs F (fun c i q => by unfold mNm at q; omega)) (gi_same _ _ _ _) (fun h => ?_) fun s' F' g1 g2 => K s' (Fr_tr F F') g1 g2
        rw [gi_si, if_neg (by omega), gi_same]
        exact ht h
      rw [show (4 : Int32) = nI 4 from rfl]
      by_cases d : 4 ≤ p - st
      · rw [if_pos (nI_le d (by omega))]
        exact go _ (fun h => by omega)
      · rw [if_neg (nI_ge (by omega) (by omega)), e]
        refine ok_G (inb_n (by omega) (by omega)) (go _ fun _ => ?_)
        rw [e5 (by omega), nI_clamp (by omega), hs.2 p (by omega), show (10 : Int32) = nI 10 from rfl, show (48 : Int32) = nI 48 from rfl, pk_mul, nI_add, pk_sub (by omega), show p + 1 - st = (p - st) + 1 by omega]
        congr 1
        show _ = nmB B st (p - st) * 10 + (B (st + (p - st)) - 48)
        rw [show st + (p - st) = p by omega]
        omega
    · rw [if_neg c] at K ⊢
      exact ok_T rfl (K s Fr_rf e e5)
theorem wdI_ok : ∀ i, i < 12 → wdI (wrdN.getD i 0) = i ∧ wrdN.getD i 0 < 2 ^ 32 := by decide +kernel
theorem l_wdI {s : xM} (hw : wrdR s) {P : Nat} (hP : P < 2 ^ 63) {k : Int32 → xM → Option (Int32 × xM)} : ∀ n i f, i + n = 12 → n < f → (∀ j, j < i → wrdN.getD j 0 ≠ P) → fX10_next_L111 k (lN P) f (nI i) s = k (nI (wdI P)) s := by
  intro n
  induction n with
  | zero =>
    intro i f hi hf h
    obtain ⟨f, rfl⟩ : ∃ n', f = n' + 1 := ⟨f - 1, by omega⟩
    obtain rfl : i = 12 := by omega
    unfold fX10_next_L111
    rw [if_pos (show (12 : Int32) ≤ nI 12 from by decide)]
    have m : ∀ j, j < 12 → ∀ v, wrdN.getD j 0 = v → ¬ P = v := fun j hj v e z => h j hj (e.trans z.symm)
    have e : wdI P = 12 := by
      unfold wdI
      rw [if_neg (m 0 (by omega) 1937006969 rfl), if_neg (m 1 (by omega) 1818326117 rfl), if_neg (m 2 (by omega) 6386539 rfl), if_neg (m 3 (by omega) 1668248436 rfl), if_neg (m 4 (by omega) 2002873451 rfl), if_neg (m 5 (by omega) 2002872692 rfl), if_neg (m 6 (by omega) 1919509605 rfl), if_neg (m 7 (by omega) 1835101817 rfl), if_neg (m 8 (by omega) 1936683636 rfl), if_neg (m 9 (by omega) 28530 rfl), if_neg (m 10 (by omega) 6385252 rfl), if_neg (m 11 (by omega) 7237492 rfl)]
    rw [e]
  | succ n ih =>
    intro i f hi hf h
    obtain ⟨f, rfl⟩ : ∃ n', f = n' + 1 := ⟨f - 1, by omega⟩
    obtain ⟨u1, u2⟩ := wdI_ok i (by omega)
    unfold fX10_next_L111
    rw [if_neg (show ¬ (12 : Int32) ≤ nI i from nI_ge (b := 12) (by omega) (by omega)), gd_of (inb_n (by omega) (by omega)), nI_clamp (by omega), hw i (by omega), nI_1]
    by_cases c : wrdN.getD i 0 = P
    · rw [if_pos ((cmp_eq (by omega) hP).mpr c), ← c, u1]
    · rw [if_neg (fun z => c ((cmp_eq (by omega) hP).mp z))]
      exact ih (i + 1) f (by omega) (by omega) fun j hj => by
        by_cases z : j = i
        · rw [z]
          exact c
        · exact h j (by omega)
def mkT (k : Nat) : Int32 := if k = 0 then 0 else if k = 1 then -1 else if k = 2 then 1 else if k = 3 then 2 else if k ≤ 6 then 3 else if k ≤ 9 then nI (k - 3) else nI k
theorem wdI_le (P : Nat) : wdI P ≤ 12 := by
  unfold wdI
  repeat' split
  all_goals omega
theorem kdW_a {w : Nat} (h : 4 ≤ kdW w) (h2 : kdW w ≤ 6) : w < 3 ∧ kdW w = 4 + w := by
  unfold kdW at h h2 ⊢
  by_cases a : w < 3
  · rw [if_pos a]
    exact ⟨a, rfl⟩
  · rw [if_neg a] at h h2
    by_cases b : w < 9
    · rw [if_pos b] at h
      omega
    · rw [if_neg b] at h h2
      by_cases c : w < 12
      · rw [if_pos c] at h2
        omega
      · rw [if_neg c] at h
        omega
theorem kdW_b {w : Nat} (h : kdW w = 2 ∨ kdW w = 3) : 3 ≤ w := by
  unfold kdW at h
  by_cases a : w < 3
  · rw [if_pos a] at h
    omega
  · omega
theorem mkT_w {w : Nat} (h : w ≤ 12) : mkT (kdW w) = if 3 ≤ w then if 9 ≤ w then if w = 12 then -1 else nI (w - 5) else 2 else 3 := by
  have : w = 0 ∨ w = 1 ∨ w = 2 ∨ w = 3 ∨ w = 4 ∨ w = 5 ∨ w = 6 ∨ w = 7 ∨ w = 8 ∨ w = 9 ∨ w = 10 ∨ w = 11 ∨ w = 12 := by omega
  rcases this with rfl | rfl | rfl | rfl | rfl | rfl | rfl | rfl | rfl | rfl | rfl | rfl | rfl <;> decide
/-! ===== a step of the model's tape ===== -/
theorem e_next {B : Nat → Nat} {L p : Nat} (hB : bts B L) (hp : p ≤ L) {s : xM} (hs : tpM B L s) (hw : wrdR s) (e4 : gi s 0 47 = nI p) {Q : Int32 → xM → Prop} (K : ∀ s', Fr mTkn s s' → gi s' 0 49 = mkT (tK B L p) → gi s' 0 48 = nI (tS B L p) → gi s' 0 47 = nI (tN B L p) → (tK B L p = 2 ∨ tK B L p = 3 → gi s' 0 50 = nI (tV B L p)) → (4 ≤ tK B L p → tK B L p ≤ 6 → gi s' 0 50 = nI (tK B L p - 4)) → Q 0 s') : Ok (fX10_next s) Q := by
  obtain ⟨f, hf⟩ := fu_big
  have hl := hB.1
  unfold fX10_next
  rw [hf]
  refine l_blankM hB (L - p) (f + 4000) p s (by omega) (by omega) hs e4 fun s1 F1 g4 => ?_
  refine ok_lz.mpr (ok_lz.mpr (ok_lz.mpr ?_))
  have tl := tS_le (B := B) hp
  have t0 : tS B L p = rn isB B (L - p) p := rfl
  rw [← t0] at g4
  rw [g4]
  have F2 : Fr mTkn s (si (si (si s1 0 48 (nI (tS B L p))) 0 49 0) 0 50 0) := Fr_si (Fr_si (Fr_si (Fr_mono F1 fun c i q => by unfold mAt at q; unfold mTkn; omega) _ (by unfold mTkn; omega)) _ (by unfold mTkn; omega)) _ (by unfold mTkn; omega)
  have a3 : gi (si (si (si s1 0 48 (nI (tS B L p))) 0 49 0) 0 50 0) 0 48 = nI (tS B L p) := by
    rw [gi_si, if_neg (by omega), gi_si, if_neg (by omega), gi_same]
  have a4 : gi (si (si (si s1 0 48 (nI (tS B L p))) 0 49 0) 0 50 0) 0 47 = nI (tS B L p) := by
    rw [gi_si, if_neg (by omega), gi_si, if_neg (by omega), gi_si, if_neg (by omega)]
    exact g4
  have a5 : gi (si (si (si s1 0 48 (nI (tS B L p))) 0 49 0) 0 50 0) 0 50 = nI 0 := gi_same _ _ _ _
  have a9 : gi (si (si (si s1 0 48 (nI (tS B L p))) 0 49 0) 0 50 0) 0 49 = nI 0 := by
    rw [gi_si, if_neg (by omega), gi_same]
    rfl
  generalize si (si (si s1 0 48 (nI (tS B L p))) 0 49 0) 0 50 0 = s2 at F2 a3 a4 a5 a9
  have hs2 := tpM_fr hs F2 (fun c i q => by unfold mTkn at q; omega)
  have hw2 : wrdR s2 := fun k hk => by
    rw [(F2 26 k (by unfold mTkn; omega)).2]
    exact hw k hk
  rw [a4, hs2.1]
  by_cases c : L ≤ tS B L p
  · have ce : tS B L p = L := by omega
    refine ok_T (by rw [ce]) (ok_R ?_)
    have k0 : tK B L p = 0 := by
      unfold tK
      rw [if_pos c]
    have n0 : tN B L p = L := by
      unfold tN
      rw [if_pos c]
    exact K _ F2 (by rw [a9, k0]; rfl) a3 (by rw [a4, n0, ce]) (fun z => by omega) (fun z => by omega)
  refine ok_F (fun z => by have := (nI_eq (by omega) (by omega)).mp z; omega) ?_
  have b1 := hB.2 (tS B L p) (by omega)
  have i1 : inb (nI (tS B L p)) 160 = true := inb_n (by omega) (by omega)
  refine ok_G i1 (ok_lz.mpr ?_)
  rw [nI_clamp (by omega), hs2.2 _ (by omega), e_inL b1, bd_some]
  by_cases cL : isL (B (tS B L p)) = true
  · rw [if_pos cL]
    refine ok_F n10 (ok_B ?_)
    have n0 : tN B L p = rn isL B (L - tS B L p) (tS B L p) := by
      unfold tN
      rw [if_neg c, if_pos cL]
    have k0 : tK B L p = kdW (tW B L p) := by
      unfold tK
      rw [if_neg c, if_pos cL]
    have v0 : tV B L p = tW B L p - 3 := by
      unfold tV
      rw [if_pos cL]
    have ge := rn_ge isL B (L - tS B L p) (tS B L p)
    have le := rn_le isL B (L - tS B L p) (tS B L p)
    unfold fX10_letters
    rw [hf, show (0 : Int32) = nI (tS B L p - tS B L p) by rw [Nat.sub_self]; rfl]
    refine l_lettersM (st := tS B L p) hB (L - tS B L p) (f + 4000) (tS B L p) _ s2 (by omega) (by omega) (Nat.le_refl _) hs2 a4 (fun _ => by rw [Nat.sub_self]; rfl) fun s' a' F g1 g2 => ?_
    rw [← n0] at g1 g2 ge le ⊢
    have hw3 : wrdR s' := fun k hk => by
      rw [(F 26 k (by unfold mAt; omega)).2]
      exact hw2 k hk
    have F4 : Fr mTkn s s' := Fr_tr F2 (Fr_mono F fun c i q => by unfold mAt at q; unfold mTkn; omega)
    have g3 : gi s' 0 48 = nI (tS B L p) := by
      rw [(F 0 48 (by unfold mAt; omega)).1]
      exact a3
    have fin : ∀ P, wdI P = tW B L p → P < 2 ^ 63 → Ok (fX10_next_L111 (fun x34 s35 =>
              if (3 : Int32) ≤ x34 then
                if (9 : Int32) ≤ x34 then
                  if x34 = (12 : Int32) then
                    fX10_next_J176 x34 (-1 : Int32) s35
                  else
                    fX10_next_J176 x34 (((4 : Int32) + x34) - (9 : Int32)) s35
                else
                  fX10_next_J176 x34 (2 : Int32) s35
              else
                fX10_next_J176 x34 (3 : Int32) s35) (lN P) (f + 4000) (nI 0) s') Q := by
      intro P eP hP
      rw [l_wdI hw3 hP 12 0 (f + 4000) (by omega) (by omega) (fun j hj => by omega), eP]
      have wl : tW B L p ≤ 12 := by
        rw [← eP]
        exact wdI_le P
      have last : ∀ t0, t0 = mkT (tK B L p) → Ok (fX10_next_J176 (nI (tW B L p)) t0 s') Q := by
        intro t0 e0
        unfold fX10_next_J176 fX10_next_J195
        refine ok_lz.mpr ?_
        have G : ∀ b, Fr mTkn s (si (si s' 0 49 t0) 0 50 b) := fun b => Fr_si (Fr_si F4 _ (by unfold mTkn; omega)) _ (by unfold mTkn; omega)
        have r9 : ∀ b, gi (si (si s' 0 49 t0) 0 50 b) 0 49 = mkT (tK B L p) := fun b => by
          rw [gi_si, if_neg (by omega), gi_same, e0]
        have r8 : ∀ b, gi (si (si s' 0 49 t0) 0 50 b) 0 48 = nI (tS B L p) := fun b => by
          rw [gi_si, if_neg (by omega), gi_si, if_neg (by omega)]
          exact g3
        have r7 : ∀ b, gi (si (si s' 0 49 t0) 0 50 b) 0 47 = nI (tN B L p) := fun b => by
          rw [gi_si, if_neg (by omega), gi_si, if_neg (by omega)]
          exact g1
        rw [show (3 : Int32) = nI 3 from rfl]
        by_cases d : 3 ≤ tW B L p
        · refine ok_T (nI_le d (by omega)) (ok_lz.mpr (ok_R (K _ (G _) (r9 _) (r8 _) (r7 _) (fun z => ?_) (fun z y => ?_))))
          · rw [gi_same, pk_sub d, v0]
          · exfalso
            rw [k0] at z y
            have := kdW_a z y
            omega
        · refine ok_F (nI_ge (by omega) (by omega)) (ok_lz.mpr (ok_R (K _ (G _) (r9 _) (r8 _) (r7 _) (fun z => ?_) (fun z y => ?_))))
          · exfalso
            rw [k0] at z
            have := kdW_b z
            omega
          · rw [k0] at z y ⊢
            rw [gi_same, (kdW_a z y).2]
            congr 1
            omega
      rw [show (3 : Int32) = nI 3 from rfl, show (9 : Int32) = nI 9 from rfl, show (12 : Int32) = nI 12 from rfl]
      have kk : mkT (tK B L p) = if 3 ≤ tW B L p then if 9 ≤ tW B L p then if tW B L p = 12 then -1 else nI (tW B L p - 5) else 2 else 3 := by
        rw [k0]
        exact mkT_w wl
      by_cases d : 3 ≤ tW B L p
      · rw [if_pos d] at kk
        refine ok_T (nI_le d (by omega)) ?_
        by_cases d2 : 9 ≤ tW B L p
        · rw [if_pos d2] at kk
          refine ok_T (nI_le d2 (by omega)) ?_
          by_cases d3 : tW B L p = 12
          · rw [if_pos d3] at kk
            exact ok_T (by rw [d3]) (last _ kk.symm)
          · rw [if_neg d3] at kk
            refine ok_F (fun z => d3 ((nI_eq (by omega) (by omega)).mp z)) (last _ ?_)
            rw [kk, show (4 : Int32) = nI 4 from rfl, nI_add, pk_sub (by omega)]
            congr 1
            omega
        · rw [if_neg d2] at kk
          exact ok_F (nI_ge (by omega) (by omega)) (last _ kk.symm)
      · rw [if_neg d] at kk
        exact ok_F (nI_ge (by omega) (by omega)) (last _ kk.symm)
    by_cases y : tN B L p - tS B L p ≤ 4
    · refine ok_T (show nI _ ≤ (4 : Int32) from nI_le (b := 4) y (by omega)) (ok_R ?_)
      have lt := wdP_lt (B := B) (a := tS B L p) (tN B L p - tS B L p) fun i hi => hB.2 _ (by omega)
      have lt2 : 256 ^ (tN B L p - tS B L p) ≤ 256 ^ 4 := Nat.pow_le_pow_right (by omega) y
      rw [g2 y, Nat.sub_self]
      refine fin _ ?_ (by omega)
      unfold tW wdN
      rw [if_pos y]
    · refine ok_F (show ¬ nI _ ≤ (4 : Int32) from nI_ge (a := 4) (by omega) (by omega)) (ok_R ?_)
      rw [Nat.sub_self]
      refine fin 0 ?_ (by omega)
      unfold tW wdN
      rw [if_neg y]
      rfl
  rw [if_neg cL]
  refine ok_T rfl ?_
  rw [e_inD b1, bd_some]
  by_cases cD : isD (B (tS B L p)) = true
  · rw [if_pos cD]
    refine ok_F n10 ?_
    have n0 : tN B L p = rn isD B (L - tS B L p) (tS B L p) := by
      unfold tN
      rw [if_neg c, if_neg cL, if_pos cD]
    have k0 : tK B L p = if tN B L p - tS B L p ≤ 4 then 2 else 1 := by
      unfold tK
      rw [if_neg c, if_neg cL, if_pos cD]
    have v0 : tV B L p = nmB B (tS B L p) (tN B L p - tS B L p) := by
      unfold tV
      rw [if_neg cL]
    have ge := rn_ge isD B (L - tS B L p) (tS B L p)
    have le := rn_le isD B (L - tS B L p) (tS B L p)
    rw [show (0 : Int32) = nI (tS B L p - tS B L p) by rw [Nat.sub_self]; rfl]
    refine l_numM (st := tS B L p) hB (L - tS B L p) (f + 4000) (tS B L p) s2 (by omega) (by omega) (Nat.le_refl _) hs2 a4 (fun _ => by rw [a5, Nat.sub_self]; rfl) fun s' F g1 g2 => ?_
    rw [← n0] at g1 g2 ge le ⊢
    have F4 : Fr mTkn s s' := Fr_tr F2 (Fr_mono F fun c i q => by unfold mNm at q; unfold mTkn; omega)
    have g3 : gi s' 0 48 = nI (tS B L p) := by
      rw [(F 0 48 (by unfold mNm; omega)).1]
      exact a3
    have fin : ∀ t0, t0 = mkT (tK B L p) → Ok (fX10_next_J304 t0 s') Q := by
      intro t0 e0
      unfold fX10_next_J304
      refine ok_lz.mpr (ok_R (K _ (Fr_si F4 _ (by unfold mTkn; omega)) (by rw [gi_same, e0]) ?_ ?_ (fun z => ?_) fun z y => ?_))
      · rw [gi_si, if_neg (by omega)]
        exact g3
      · rw [gi_si, if_neg (by omega)]
        exact g1
      · rw [gi_si, if_neg (by omega), v0]
        refine g2 ?_
        rw [k0] at z
        by_cases y : tN B L p - tS B L p ≤ 4
        · exact y
        · rw [if_neg y] at z
          omega
      · rw [k0] at z
        by_cases x : tN B L p - tS B L p ≤ 4
        · rw [if_pos x] at z
          omega
        · rw [if_neg x] at z
          omega
    by_cases y : tN B L p - tS B L p ≤ 4
    · exact ok_T (show nI _ ≤ (4 : Int32) from nI_le (b := 4) y (by omega)) (fin 1 (by rw [k0, if_pos y]; rfl))
    · exact ok_F (show ¬ nI _ ≤ (4 : Int32) from nI_ge (a := 4) (by omega) (by omega)) (fin (-1) (by rw [k0, if_neg y]; rfl))
  rw [if_neg cD]
  refine ok_T rfl ?_
  have n0 : tN B L p = tS B L p + 1 := by
    unfold tN
    rw [if_neg c, if_neg cL, if_neg cD]
  have k0 : tK B L p = if isS (B (tS B L p)) = true then B (tS B L p) else 1 := by
    unfold tK
    rw [if_neg c, if_neg cL, if_neg cD]
  generalize hb : B (tS B L p) = b at b1 k0
  have fin : ∀ t0, t0 = mkT (tK B L p) → (tK B L p = 1 ∨ 7 ≤ tK B L p) → Ok (fX10_next_J374 t0 s2) Q := by
    intro t0 e0 hk
    unfold fX10_next_J374
    refine ok_lz.mpr (ok_lz.mpr (ok_R (K _ (Fr_si (Fr_si F2 _ (by unfold mTkn; omega)) _ (by unfold mTkn; omega)) ?_ ?_ ?_ (fun z => by omega) fun z y => by omega)))
    · rw [gi_si, if_neg (by omega), gi_same, e0]
    · rw [gi_si, if_neg (by omega), gi_si, if_neg (by omega)]
      exact a3
    · rw [gi_same, gi_si, if_neg (by omega), a4, nI_1, n0]
  have sg : isS b = true → Ok (fX10_next_J358 (nI b) s2) Q := by
    intro cS
    rw [if_pos cS] at k0
    have q2 : 40 ≤ b := by
      unfold isS at cS
      have := of_decide_eq_true cS
      omega
    unfold fX10_next_J358 fX10_next_J363
    refine ok_F n10 (fin _ ?_ (Or.inr (by omega)))
    rw [k0]
    unfold mkT
    rw [if_neg (by omega), if_neg (by omega), if_neg (by omega), if_neg (by omega), if_neg (by omega), if_neg (by omega)]
  rw [show (40 : Int32) = nI 40 from rfl, show (41 : Int32) = nI 41 from rfl, show (59 : Int32) = nI 59 from rfl, show (43 : Int32) = nI 43 from rfl, show (45 : Int32) = nI 45 from rfl, show (42 : Int32) = nI 42 from rfl, show (60 : Int32) = nI 60 from rfl, show (61 : Int32) = nI 61 from rfl]
  have ne : ∀ v, v < 256 → b ≠ v → ¬ nI b = nI v := fun v hv h z => h ((nI_eq (by omega) (by omega)).mp z)
  by_cases c1 : b = 40
  · exact ok_T (by rw [c1]) (sg (by rw [c1]; decide))
  refine ok_F (ne _ (by omega) c1) ?_
  by_cases c2 : b = 41
  · exact ok_T (by rw [c2]) (sg (by rw [c2]; decide))
  refine ok_F (ne _ (by omega) c2) ?_
  by_cases c3 : b = 59
  · exact ok_T (by rw [c3]) (sg (by rw [c3]; decide))
  refine ok_F (ne _ (by omega) c3) ?_
  by_cases c4 : b = 43
  · exact ok_T (by rw [c4]) (sg (by rw [c4]; decide))
  refine ok_F (ne _ (by omega) c4) ?_
  by_cases c5 : b = 45
  · exact ok_T (by rw [c5]) (sg (by rw [c5]; decide))
  refine ok_F (ne _ (by omega) c5) ?_
  by_cases c6 : b = 42
  · exact ok_T (by rw [c6]) (sg (by rw [c6]; decide))
  refine ok_F (ne _ (by omega) c6) ?_
  by_cases c7 : b = 60
  · exact ok_T (by rw [c7]) (sg (by rw [c7]; decide))
  refine ok_F (ne _ (by omega) c7) ?_
  by_cases c8 : b = 61
  · exact ok_T (by rw [c8]) (sg (by rw [c8]; decide))
  refine ok_F (ne _ (by omega) c8) ?_
  have nS : ¬ isS b = true := by
    unfold isS
    rw [decide_eq_true_eq]
    omega
  rw [if_neg nS] at k0
  unfold fX10_next_J363
  exact ok_T rfl (fin (-1) (by rw [k0]; rfl) (Or.inl k0))
