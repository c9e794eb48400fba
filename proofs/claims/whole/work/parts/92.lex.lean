/-! ===== text: tokens ===== -/
def isB (b : Nat) : Bool := decide (b = 32 ∨ b = 10)
def isL (b : Nat) : Bool := decide (97 ≤ b ∧ b ≤ 122)
def isD (b : Nat) : Bool := decide (48 ≤ b ∧ b ≤ 57)
def isS (b : Nat) : Bool := decide (b = 40 ∨ b = 41 ∨ b = 59 ∨ b = 43 ∨ b = 45 ∨ b = 42 ∨ b = 60 ∨ b = 61)
/-- how far a run goes: n places are left from p on -/
def rn (q : Nat → Bool) (B : Nat → Nat) : Nat → Nat → Nat
  | 0, p => p
  | n + 1, p => if q (B p) = true then rn q B n (p + 1) else p
theorem rn_ge (q : Nat → Bool) (B : Nat → Nat) : ∀ n p, p ≤ rn q B n p := by
  intro n
  induction n with
  | zero => intro p; exact Nat.le_refl _
  | succ n ih =>
    intro p
    unfold rn
    by_cases h : q (B p) = true
    · rw [if_pos h]
      have := ih (p + 1)
      omega
    · rw [if_neg h]
      exact Nat.le_refl _
theorem rn_le (q : Nat → Bool) (B : Nat → Nat) : ∀ n p, rn q B n p ≤ p + n := by
  intro n
  induction n with
  | zero => intro p; exact Nat.le_refl _
  | succ n ih =>
    intro p
    unfold rn
    by_cases h : q (B p) = true
    · rw [if_pos h]
      have := ih (p + 1)
      omega
    · rw [if_neg h]
      omega
theorem rn_all (q : Nat → Bool) (B : Nat → Nat) : ∀ n p i, p ≤ i → i < rn q B n p → q (B i) = true := by
  intro n
  induction n with
  | zero =>
    intro p i h1 h2
    have : i < p := h2
    omega
  | succ n ih =>
    intro p i h1 h2
    unfold rn at h2
    by_cases h : q (B p) = true
    · rw [if_pos h] at h2
      by_cases e : i = p
      · rw [e]
        exact h
      · exact ih (p + 1) i (by omega) h2
    · rw [if_neg h] at h2
      omega
/-- digits' number -/
def nmB (B : Nat → Nat) (st : Nat) : Nat → Nat
  | 0 => 0
  | k + 1 => nmB B st k * 10 + (B (st + k) - 48)
/-- a word of 4 at most as a number -/
def wdP (B : Nat → Nat) (st : Nat) : Nat → Nat
  | 0 => 0
  | k + 1 => wdP B st k * 256 + B (st + k)
def wdI (P : Nat) : Nat := if P = 1937006969 then 0 else if P = 1818326117 then 1 else if P = 6386539 then 2 else if P = 1668248436 then 3 else if P = 2002873451 then 4 else if P = 2002872692 then 5 else if P = 1919509605 then 6 else if P = 1835101817 then 7 else if P = 1936683636 then 8 else if P = 28530 then 9 else if P = 6385252 then 10 else if P = 7237492 then 11 else 12
def wdN (B : Nat → Nat) (st k : Nat) : Nat := if k ≤ 4 then wdI (wdP B st k) else 12
def tS (B : Nat → Nat) (L p : Nat) : Nat := rn isB B (L - p) p
def tN (B : Nat → Nat) (L p : Nat) : Nat := if L ≤ tS B L p then L else if isL (B (tS B L p)) = true then rn isL B (L - tS B L p) (tS B L p) else if isD (B (tS B L p)) = true then rn isD B (L - tS B L p) (tS B L p) else tS B L p + 1
def tW (B : Nat → Nat) (L p : Nat) : Nat := wdN B (tS B L p) (tN B L p - tS B L p)
def kdW (w : Nat) : Nat := if w < 3 then 4 + w else if w < 9 then 3 else if w < 12 then w - 2 else 1
def tK (B : Nat → Nat) (L p : Nat) : Nat := if L ≤ tS B L p then 0 else if isL (B (tS B L p)) = true then kdW (tW B L p) else if isD (B (tS B L p)) = true then (if tN B L p - tS B L p ≤ 4 then 2 else 1) else if isS (B (tS B L p)) = true then B (tS B L p) else 1
def tV (B : Nat → Nat) (L p : Nat) : Nat := if isL (B (tS B L p)) = true then tW B L p - 3 else nmB B (tS B L p) (tN B L p - tS B L p)
theorem tS_ge (B : Nat → Nat) (L p : Nat) : p ≤ tS B L p := rn_ge _ _ _ _
theorem tS_le {B : Nat → Nat} {L p : Nat} (h : p ≤ L) : tS B L p ≤ L := by
  have := rn_le isB B (L - p) p
  unfold tS
  omega
theorem tN_ge {B : Nat → Nat} {L p : Nat} (h : p ≤ L) : p ≤ tN B L p := by
  have a := tS_ge B L p
  unfold tN
  repeat' split
  · omega
  · have := rn_ge isL B (L - tS B L p) (tS B L p)
    omega
  · have := rn_ge isD B (L - tS B L p) (tS B L p)
    omega
  · omega
theorem tN_le {B : Nat → Nat} {L p : Nat} (h : p ≤ L) : tN B L p ≤ L := by
  have a := tS_le (B := B) h
  unfold tN
  repeat' split
  · omega
  · have := rn_le isL B (L - tS B L p) (tS B L p)
    omega
  · have := rn_le isD B (L - tS B L p) (tS B L p)
    omega
  · omega
theorem rn_gt {q : Nat → Bool} {B : Nat → Nat} {n p : Nat} (hn : 0 < n) (h : q (B p) = true) : p < rn q B n p := by
  obtain ⟨n, rfl⟩ : ∃ k, n = k + 1 := ⟨n - 1, by omega⟩
  unfold rn
  rw [if_pos h]
  have := rn_ge q B n (p + 1)
  omega
/-- what isn't the end is longer than nothing -/
theorem tN_gt {B : Nat → Nat} {L p : Nat} (h : tK B L p ≠ 0) : p < tN B L p ∧ p < L := by
  have a := tS_ge B L p
  by_cases c : L ≤ tS B L p
  · exact absurd (by unfold tK; rw [if_pos c]) h
  · refine ⟨?_, by omega⟩
    unfold tN
    rw [if_neg c]
    split
    · rename_i x
      have := rn_gt (B := B) (n := L - tS B L p) (by omega) x
      omega
    · split
      · rename_i x
        have := rn_gt (B := B) (n := L - tS B L p) (by omega) x
        omega
      · omega
/-! the tape of the two -/
def tpX (B : Nat → Nat) (L : Nat) (s : xM) : Prop := gi s 77 1 = nI L ∧ ∀ i, i < L → gi s 78 i = nI (B i)
def tpM (B : Nat → Nat) (L : Nat) (t : xM) : Prop := gi t 0 18 = nI L ∧ ∀ i, i < L → gi t 14 i = nI (B i)
def bts (B : Nat → Nat) (L : Nat) : Prop := L ≤ 160 ∧ ∀ i, i < L → B i < 256
theorem tpX_fr {B : Nat → Nat} {L : Nat} {s s' : xM} {P : Nat → Nat → Prop} (h : tpX B L s) (f : Fr P s s') (hp : ∀ c i, P c i → ¬ (c = 77 ∧ i = 1) ∧ c ≠ 78) : tpX B L s' := by
  refine ⟨?_, fun i hi => ?_⟩
  · rw [(f 77 1 (fun q => (hp _ _ q).1 ⟨rfl, rfl⟩)).1]
    exact h.1
  · rw [(f 78 i (fun q => (hp _ _ q).2 rfl)).1]
    exact h.2 i hi
theorem tpM_fr {B : Nat → Nat} {L : Nat} {s s' : xM} {P : Nat → Nat → Prop} (h : tpM B L s) (f : Fr P s s') (hp : ∀ c i, P c i → ¬ (c = 0 ∧ i = 18) ∧ c ≠ 14) : tpM B L s' := by
  refine ⟨?_, fun i hi => ?_⟩
  · rw [(f 0 18 (fun q => (hp _ _ q).1 ⟨rfl, rfl⟩)).1]
    exact h.1
  · rw [(f 14 i (fun q => (hp _ _ q).2 rfl)).1]
    exact h.2 i hi
def xAt (c i : Nat) : Prop := c = 77 ∧ i = 4
def xNm (c i : Nat) : Prop := c = 77 ∧ (i = 4 ∨ i = 5)
def xTkn (c i : Nat) : Prop := c = 77 ∧ 2 ≤ i
def mAt (c i : Nat) : Prop := c = 0 ∧ i = 47
def mNm (c i : Nat) : Prop := c = 0 ∧ (i = 47 ∨ i = 50)
def mTkn (c i : Nat) : Prop := c = 0 ∧ 47 ≤ i ∧ i ≤ 50
/-! bytes -/
theorem e_isB {b : Nat} (h : b < 256) (s : xM) : fX4_isBlank (nI b) s = some (if isB b = true then 1 else 0, s) := by
  unfold fX4_isBlank isB
  rw [show (32 : Int32) = nI 32 from rfl, show (10 : Int32) = nI 10 from rfl]
  simp (disch := omega) only [nI_eq, decide_eq_true_eq]
  by_cases a : b = 32
  · simp [a]
  · by_cases c : b = 10
    · simp [c]
    · simp [a, c]
theorem e_isL {b : Nat} (h : b < 256) (s : xM) : fX4_isLetter (nI b) s = some (if isL b = true then 1 else 0, s) := by
  unfold fX4_isLetter isL
  rw [show (97 : Int32) = nI 97 from rfl, show (122 : Int32) = nI 122 from rfl]
  simp (disch := omega) only [nI_ltI, decide_eq_true_eq]
  by_cases a : b < 97
  · rw [if_pos a, if_neg (by omega)]
  · rw [if_neg a]
    by_cases c : 122 < b
    · rw [if_pos c, if_neg (by omega)]
    · rw [if_neg c, if_pos (by omega)]
theorem e_isD {b : Nat} (h : b < 256) (s : xM) : fX4_isDigit (nI b) s = some (if isD b = true then 1 else 0, s) := by
  unfold fX4_isDigit isD
  rw [show (48 : Int32) = nI 48 from rfl, show (57 : Int32) = nI 57 from rfl]
  simp (disch := omega) only [nI_ltI, decide_eq_true_eq]
  by_cases a : b < 48
  · rw [if_pos a, if_neg (by omega)]
  · rw [if_neg a]
    by_cases c : 57 < b
    · rw [if_pos c, if_neg (by omega)]
    · rw [if_neg c, if_pos (by omega)]
theorem e_inL {b : Nat} (h : b < 256) (s : xM) : fX10_in (nI b) (97 : Int32) (122 : Int32) s = some (if isL b = true then 1 else 0, s) := by
  unfold fX10_in isL
  rw [show (97 : Int32) = nI 97 from rfl, show (122 : Int32) = nI 122 from rfl]
  simp (disch := omega) only [nI_ltI, decide_eq_true_eq]
  by_cases a : b < 97
  · rw [if_pos a, if_neg (by omega)]
  · rw [if_neg a]
    by_cases c : 122 < b
    · rw [if_pos c, if_neg (by omega)]
    · rw [if_neg c, if_pos (by omega)]
theorem e_inD {b : Nat} (h : b < 256) (s : xM) : fX10_in (nI b) (48 : Int32) (57 : Int32) s = some (if isD b = true then 1 else 0, s) := by
  unfold fX10_in isD
  rw [show (48 : Int32) = nI 48 from rfl, show (57 : Int32) = nI 57 from rfl]
  simp (disch := omega) only [nI_ltI, decide_eq_true_eq]
  by_cases a : b < 48
  · rw [if_pos a, if_neg (by omega)]
  · rw [if_neg a]
    by_cases c : 57 < b
    · rw [if_pos c, if_neg (by omega)]
    · rw [if_neg c, if_pos (by omega)]
theorem n01 : (if False then (1 : Int32) else 0) = 0 := if_neg id
/-! the class's loops -/
theorem l_blankX {B : Nat → Nat} {L : Nat} (hB : bts B L) {k : xM → Option (Int32 × xM)} {Q : Int32 → xM → Prop} : ∀ n f p s, p + n = L → n < f → tpX B L s → gi s 77 4 = nI p → (∀ s', Fr xAt s s' → gi s' 77 4 = nI (rn isB B n p) → Ok (k s') Q) → Ok (fX4_advance_L0 k f s) Q := by
  intro n
  induction n with
  | zero =>
    intro f p s hp hf hs e K
    obtain ⟨f, rfl⟩ : ∃ n', f = n' + 1 := ⟨f - 1, by omega⟩
    unfold fX4_advance_L0
    rw [hs.1, e, if_pos (nI_le (by omega) (by have := hB.1; omega))]
    exact K s Fr_rf e
  | succ n ih =>
    intro f p s hp hf hs e K
    obtain ⟨f, rfl⟩ : ∃ n', f = n' + 1 := ⟨f - 1, by omega⟩
    have h1 := hB.1
    have h2 := hB.2 p (by omega)
    unfold fX4_advance_L0
    rw [hs.1, e, if_neg (nI_ge (by omega) (by omega)), nI_clamp (by omega), hs.2 p (by omega), e_isB h2, bd_some]
    refine ok_G (inb_n (by omega) (by omega)) ?_
    unfold rn at K
    by_cases c : isB (B p) = true
    · rw [if_pos c] at K ⊢
      refine ok_F n10 (ok_lz.mpr ?_)
      rw [e, nI_1]
      refine ih f (p + 1) _ (by omega) (by omega) (tpX_fr (P := xAt) hs (Fr_si Fr_rf _ ⟨rfl, rfl⟩) (fun c i q => by unfold xAt at q; omega)) (gi_same _ _ _ _) fun s' F g => K s' (Fr_tr (Fr_si Fr_rf _ ⟨rfl, rfl⟩) F) g
    · rw [if_neg c] at K ⊢
      exact ok_T rfl (K s Fr_rf e)
theorem l_wordX {B : Nat → Nat} {L : Nat} (hB : bts B L) {k : xM → Option (Int32 × xM)} {Q : Int32 → xM → Prop} : ∀ n f p s, p + n = L → n < f → tpX B L s → gi s 77 4 = nI p → (∀ s', Fr xAt s s' → gi s' 77 4 = nI (rn isL B n p) → Ok (k s') Q) → Ok (fX4_readWord_L0 k f s) Q := by
  intro n
  induction n with
  | zero =>
    intro f p s hp hf hs e K
    obtain ⟨f, rfl⟩ : ∃ n', f = n' + 1 := ⟨f - 1, by omega⟩
    unfold fX4_readWord_L0
    rw [hs.1, e, if_pos (nI_le (by omega) (by have := hB.1; omega))]
    exact K s Fr_rf e
  | succ n ih =>
    intro f p s hp hf hs e K
    obtain ⟨f, rfl⟩ : ∃ n', f = n' + 1 := ⟨f - 1, by omega⟩
    have h1 := hB.1
    have h2 := hB.2 p (by omega)
    unfold fX4_readWord_L0
    rw [hs.1, e, if_neg (nI_ge (by omega) (by omega)), nI_clamp (by omega), hs.2 p (by omega), e_isL h2, bd_some]
    refine ok_G (inb_n (by omega) (by omega)) ?_
    unfold rn at K
    by_cases c : isL (B p) = true
    · rw [if_pos c] at K ⊢
      refine ok_F n10 (ok_lz.mpr ?_)
      rw [e, nI_1]
      refine ih f (p + 1) _ (by omega) (by omega) (tpX_fr (P := xAt) hs (Fr_si Fr_rf _ ⟨rfl, rfl⟩) (fun c i q => by unfold xAt at q; omega)) (gi_same _ _ _ _) fun s' F g => K s' (Fr_tr (Fr_si Fr_rf _ ⟨rfl, rfl⟩) F) g
    · rw [if_neg c] at K ⊢
      exact ok_T rfl (K s Fr_rf e)
theorem l_numX {B : Nat → Nat} {L st : Nat} (hB : bts B L) {k : xM → Option (Int32 × xM)} {Q : Int32 → xM → Prop} : ∀ n f p s, p + n = L → n < f → st ≤ p → tpX B L s → gi s 77 3 = nI st → gi s 77 4 = nI p → (p - st ≤ 4 → gi s 77 5 = nI (nmB B st (p - st))) → (∀ s', Fr xNm s s' → gi s' 77 4 = nI (rn isD B n p) → (rn isD B n p - st ≤ 4 → gi s' 77 5 = nI (nmB B st (rn isD B n p - st))) → Ok (k s') Q) → Ok (fX4_readNumber_L5 k f s) Q := by
  intro n
  induction n with
  | zero =>
    intro f p s hp hf hst hs e3 e e5 K
    obtain ⟨f, rfl⟩ : ∃ n', f = n' + 1 := ⟨f - 1, by omega⟩
    unfold fX4_readNumber_L5
    rw [hs.1, e, if_pos (nI_le (by omega) (by have := hB.1; omega))]
    exact K s Fr_rf e e5
  | succ n ih =>
    intro f p s hp hf hst hs e3 e e5 K
    obtain ⟨f, rfl⟩ : ∃ n', f = n' + 1 := ⟨f - 1, by omega⟩
    have h1 := hB.1
    have h2 := hB.2 p (by omega)
    unfold fX4_readNumber_L5
    rw [hs.1, e, if_neg (nI_ge (by omega) (by omega)), nI_clamp (by omega), hs.2 p (by omega), e_isD h2, bd_some]
    refine ok_G (inb_n (by omega) (by omega)) ?_
    unfold rn at K
    by_cases c : isD (B p) = true
    · rw [if_pos c] at K ⊢
      refine ok_F n10 ?_
      have c2 : 48 ≤ B p ∧ B p ≤ 57 := by
        unfold isD at c
        exact of_decide_eq_true c
      have go : ∀ t0, (p + 1 - st ≤ 4 → t0 = nI (nmB B st (p + 1 - st))) → Ok (fX4_readNumber_J72 k (fX4_readNumber_L5 k f) t0 s) Q := by
        intro t0 ht
        unfold fX4_readNumber_J72
        refine ok_lz.mpr (ok_lz.mpr ?_)
        have F : Fr xNm s (si (si s 77 5 t0) 77 4 (nI (p + 1))) := Fr_si (Fr_si Fr_rf _ ⟨rfl, Or.inr rfl⟩) _ ⟨rfl, Or.inl rfl⟩
        have e4 : gi (si s 77 5 t0) 77 4 = nI p := by
          rw [gi_si, if_neg (by omega)]
          exact e
        rw [e4, nI_1]
        refine ih f (p + 1) _ (by omega) (by omega) (by omega) (tpX_fr hs F (fun c i q => by unfold xNm at q; omega)) ?_ (gi_same _ _ _ _) (fun h => ?_) fun s' F' g1 g2 => K s' (Fr_tr F F') g1 g2
        · rw [(F 77 3 (by unfold xNm; omega)).1]
          exact e3
        · rw [gi_si, if_neg (by omega), gi_same]
          exact ht h
      rw [e3, e, nI_clamp (by omega), hs.2 p (by omega), pk_sub hst, show (4 : Int32) = nI 4 from rfl]
      by_cases d : 4 ≤ p - st
      · rw [if_pos (nI_le d (by omega))]
        exact go _ (fun h => by omega)
      · rw [if_neg (nI_ge (by omega) (by omega))]
        refine ok_G (inb_n (by omega) (by omega)) (go _ fun _ => ?_)
        rw [e5 (by omega), show (10 : Int32) = nI 10 from rfl, show (48 : Int32) = nI 48 from rfl, pk_mul, nI_add, pk_sub (by omega), show p + 1 - st = (p - st) + 1 by omega]
        congr 1
        show _ = nmB B st (p - st) * 10 + (B (st + (p - st)) - 48)
        rw [show st + (p - st) = p by omega]
        omega
    · rw [if_neg c] at K ⊢
      exact ok_T rfl (K s Fr_rf e e5)
