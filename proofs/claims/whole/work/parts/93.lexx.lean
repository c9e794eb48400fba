/-! ===== text: the class's tape ===== -/
theorem ch_lt : ∀ b, b < 128 → ((((nI b) &&& (255 : Int32)).toUInt32 % 65536).toInt32) = nI b := by decide +kernel
theorem ch_sl : ∀ k, k < 14 → (Int32.ofNat (xSl.getD k 0)) >>> ((0 : Int32) &&& 31) = nI (xSl.getD k 0) ∧ xSl.getD k 0 < 256 := by decide +kernel
theorem e_sl {k : Nat} (hk : k < 14) (s : xM) : fJ0_length_8abf5 k s = some (nI (xSl.getD k 0), s) := by
  unfold fJ0_length_8abf5 fJ0_coder_7d493
  rw [if_neg n10]
  show some ((Int32.ofNat (xSl.getD k 0)) >>> ((0 : Int32) &&& 31), s) = _
  rw [(ch_sl k hk).1]
theorem e_chr {k i b : Nat} (s : xM) (hi : i < xSl.getD k 0) (hk : xSl.getD k 0 < 256) (hb : b < 128) (e : (xSy.getD k []).getD i 0 = nI b) : fJ0_charAt_5068e k (nI i) s = some (nI b, s) := by
  have hc : isN .char (nI b) = true := by
    unfold isN
    exact decide_eq_true (by rw [(pk_charN (q := b) (by omega)).1])
  have hx : fJ0_checkIndex_df160 (nI i) (Int32.ofNat (xSl.getD k 0)) s = some (0, s) := by
    unfold fJ0_checkIndex_df160
    rw [if_neg (nI_pos (by omega)), if_pos (show nI i < Int32.ofNat (xSl.getD k 0) from nI_lt hi (by omega))]
  unfold fJ0_charAt_5068e fJ0_isLatin1_aae02 fJ1_charAt_3b067
  rw [if_neg n10, if_pos rfl, bd_some, if_neg n10, hx, bd_some, nI_clamp (by omega), e, ch_lt b hb, gd_of (inb_n hi (by omega)), gd_of hc, bd_some, gd_of hc]
def wch (k : Nat) : List Nat := [[], [115, 116, 97, 121], [108, 97, 116, 101], [97, 115, 107], [111, 114], [97, 110, 100], [110, 111, 116], [99, 111, 115, 116], [119, 97, 108, 107], [119, 97, 105, 116], [114, 105, 100, 101], [109, 97, 110, 121], [115, 111, 114, 116]].getD k []
theorem wch_ok1 : ∀ k, k < 13 → k = 0 ∨ (xSl.getD k 0 = (wch k).length ∧ (wch k).length ≤ 4 ∧ 1 ≤ (wch k).length) := by decide +kernel
theorem wch_ok2 : ∀ k, k < 13 → ∀ i, i < 4 → (wch k).length ≤ i ∨ ((xSy.getD k []).getD i 0 = nI ((wch k).getD i 0) ∧ 97 ≤ (wch k).getD i 0 ∧ (wch k).getD i 0 < 128) := by decide +kernel
theorem wch_ok (k : Nat) (hk : k < 13) (h1 : 1 ≤ k) : xSl.getD k 0 = (wch k).length ∧ (wch k).length ≤ 4 ∧ 1 ≤ (wch k).length ∧ ∀ i, i < 4 → i < (wch k).length → (xSy.getD k []).getD i 0 = nI ((wch k).getD i 0) ∧ 97 ≤ (wch k).getD i 0 ∧ (wch k).getD i 0 < 128 := by
  rcases wch_ok1 k hk with h | ⟨a, b, c⟩
  · omega
  · refine ⟨a, b, c, fun i hi hl => ?_⟩
    rcases wch_ok2 k hk i hi with q | q
    · omega
    · exact q
def isW (B : Nat → Nat) (st len k : Nat) : Prop := len = (wch k).length ∧ ∀ i, i < (wch k).length → B (st + i) = (wch k).getD i 0
theorem l_isWord {B : Nat → Nat} {L st k : Nat} (hB : bts B L) (hk : k < 13) (hk1 : 1 ≤ k) (hl : st + (wch k).length ≤ L) {k47 k55 : xM → Option (Int32 × xM)} {s : xM} (hs : tpX B L s) (e3 : gi s 77 3 = nI st) : ∀ n i f, i + n = (wch k).length → n < f → fX4_isWord_L20 k47 k55 k f (nI i) s = k55 s ∧ (∀ j, i ≤ j → j < (wch k).length → B (st + j) = (wch k).getD j 0) ∨ fX4_isWord_L20 k47 k55 k f (nI i) s = k47 s ∧ ¬ (∀ j, i ≤ j → j < (wch k).length → B (st + j) = (wch k).getD j 0) := by
  obtain ⟨w1, w2, w3, w4⟩ := wch_ok k hk hk1
  have h1 := hB.1
  intro n
  induction n with
  | zero =>
    intro i f hi hf
    obtain ⟨f, rfl⟩ : ∃ n', f = n' + 1 := ⟨f - 1, by omega⟩
    left
    unfold fX4_isWord_L20
    rw [e_sl (by omega), bd_some, w1, if_pos (nI_le (by omega) (by omega))]
    exact ⟨rfl, fun j a b => by omega⟩
  | succ n ih =>
    intro i f hi hf
    obtain ⟨f, rfl⟩ : ∃ n', f = n' + 1 := ⟨f - 1, by omega⟩
    obtain ⟨u1, u2, u3⟩ := w4 i (by omega) (by omega)
    have h2 := hB.2 (st + i) (by omega)
    unfold fX4_isWord_L20
    rw [e_sl (by omega), bd_some, w1, if_neg (nI_ge (by omega) (by omega)), e3, nI_add, gd_of (inb_n (by omega) (by omega)), e_chr s (by omega) (by omega) u3 u1, bd_some, nI_clamp (by omega), hs.2 _ (by omega), nI_1]
    by_cases c : B (st + i) = (wch k).getD i 0
    · rw [if_pos ((nI_eq (by omega) (by omega)).mpr c)]
      rcases ih (i + 1) f (by omega) (by omega) with ⟨p, q⟩ | ⟨p, q⟩
      · exact Or.inl ⟨p, fun j a b => by
          by_cases e : j = i
          · rw [e]
            exact c
          · exact q j (by omega) b⟩
      · exact Or.inr ⟨p, fun z => q fun j a b => z j (by omega) b⟩
    · rw [if_neg (fun z => c ((nI_eq (by omega) (by omega)).mp z))]
      exact Or.inr ⟨rfl, fun z => c (z i (Nat.le_refl _) (by omega))⟩
theorem e_isWord {B : Nat → Nat} {L st e k : Nat} (hB : bts B L) (hk : k < 13) (hk1 : 1 ≤ k) (h1 : st ≤ e) (h2 : e ≤ L) {s : xM} (hs : tpX B L s) (e3 : gi s 77 3 = nI st) (e4 : gi s 77 4 = nI e) : (isW B st (e - st) k ∧ fX4_isWord k s = some (1, s)) ∨ (¬ isW B st (e - st) k ∧ fX4_isWord k s = some (0, s)) := by
  obtain ⟨w1, w2, w3, w4⟩ := wch_ok k hk hk1
  have hl := hB.1
  obtain ⟨f, hf⟩ := fu_big
  unfold fX4_isWord
  rw [e_sl (by omega), bd_some, e3, e4, pk_sub h1, w1]
  by_cases c : e - st = (wch k).length
  · rw [if_pos (by rw [c]), hf]
    rcases l_isWord hB hk hk1 (by omega) hs e3 (k47 := fun s5 => some ((0 : Int32), s5)) (k55 := fun s6 => some ((1 : Int32), s6)) (wch k).length 0 (f + 4000) (by omega) (by omega) with ⟨p, q⟩ | ⟨p, q⟩
    · exact Or.inl ⟨⟨c, fun i hi => q i (by omega) hi⟩, p⟩
    · exact Or.inr ⟨fun z => q fun j _ b => z.2 j b, p⟩
  · rw [if_neg (fun z => c ((nI_eq (by omega) (by omega)).mp z))]
    exact Or.inr ⟨fun z => c z.1, rfl⟩
/-! the same by the word's number -/
theorem wdP_inj {B C : Nat → Nat} {a b : Nat} : ∀ k, (∀ i, i < k → B (a + i) < 256 ∧ C (b + i) < 256) → (wdP B a k = wdP C b k ↔ ∀ i, i < k → B (a + i) = C (b + i)) := by
  intro k
  induction k with
  | zero => exact fun _ => ⟨fun _ i hi => absurd hi (by omega), fun _ => rfl⟩
  | succ k ih =>
    intro h
    have g := ih fun i hi => h i (by omega)
    obtain ⟨h1, h2⟩ := h k (by omega)
    show wdP B a k * 256 + B (a + k) = wdP C b k * 256 + C (b + k) ↔ _
    constructor
    · intro e i hi
      by_cases c : i = k
      · rw [c]
        omega
      · exact g.mp (by omega) i (by omega)
    · intro e
      rw [g.mpr fun i hi => e i (by omega), e k (by omega)]
def wdL (k : Nat) : Nat := if k ≤ 1 then 1 else if k = 2 then 256 else if k = 3 then 65536 else if k = 4 then 16777216 else 4294967296
theorem wdP_bd {B : Nat → Nat} {a : Nat} : ∀ k, k ≤ 4 → 1 ≤ k → (∀ i, i < k → 97 ≤ B (a + i) ∧ B (a + i) < 256) → wdL k ≤ wdP B a k ∧ wdP B a k < wdL (k + 1) := by
  intro k hk h1 h
  have c : k = 1 ∨ k = 2 ∨ k = 3 ∨ k = 4 := by omega
  rcases c with rfl | rfl | rfl | rfl
  · have h0 := h 0 (by omega)
    show 1 ≤ wdP B a 1 ∧ wdP B a 1 < 256
    simp only [wdP]
    omega
  · have h0 := h 0 (by omega)
    have h1 := h 1 (by omega)
    show 256 ≤ wdP B a 2 ∧ wdP B a 2 < 65536
    simp only [wdP]
    omega
  · have h0 := h 0 (by omega)
    have h1 := h 1 (by omega)
    have h2 := h 2 (by omega)
    show 65536 ≤ wdP B a 3 ∧ wdP B a 3 < 16777216
    simp only [wdP]
    omega
  · have h0 := h 0 (by omega)
    have h1 := h 1 (by omega)
    have h2 := h 2 (by omega)
    have h3 := h 3 (by omega)
    show 16777216 ≤ wdP B a 4 ∧ wdP B a 4 < 4294967296
    simp only [wdP]
    omega
def wVl (k : Nat) : Nat := [0, 1937006969, 1818326117, 6386539, 28530, 6385252, 7237492, 1668248436, 2002873451, 2002872692, 1919509605, 1835101817, 1936683636].getD k 0
theorem wVl_ok : ∀ k, k < 13 → wdP (fun i => (wch k).getD i 0) 0 (wch k).length = wVl k := by decide +kernel
theorem isW_iff {B : Nat → Nat} {st len k : Nat} (hk : k < 13) (hk1 : 1 ≤ k) (hl : 1 ≤ len) (hb : ∀ i, i < len → 97 ≤ B (st + i) ∧ B (st + i) < 256) : isW B st len k ↔ len ≤ 4 ∧ wdP B st len = wVl k := by
  obtain ⟨w1, w2, w3, w4⟩ := wch_ok k hk hk1
  have hc : ∀ i, i < (wch k).length → 97 ≤ (fun i => (wch k).getD i 0) (0 + i) ∧ (fun i => (wch k).getD i 0) (0 + i) < 256 := fun i hi => by
    have := w4 i (by omega) hi
    simp only [Nat.zero_add]
    omega
  constructor
  · rintro ⟨e, h⟩
    refine ⟨by omega, ?_⟩
    rw [← wVl_ok k hk, ← e]
    refine (wdP_inj len fun i hi => ⟨(hb i hi).2, (hc i (by omega)).2⟩).mpr fun i hi => ?_
    rw [h i (by omega)]
    simp only [Nat.zero_add]
  · rintro ⟨a, h⟩
    have b1 := wdP_bd len a hl hb
    have b2 := wdP_bd (B := fun i => (wch k).getD i 0) (a := 0) (wch k).length w2 w3 hc
    rw [wVl_ok k hk, ← h] at b2
    generalize wdP B st len = vv at b1 b2
    have e : len = (wch k).length := by
      have c1 : len = 1 ∨ len = 2 ∨ len = 3 ∨ len = 4 := by omega
      have c2 : (wch k).length = 1 ∨ (wch k).length = 2 ∨ (wch k).length = 3 ∨ (wch k).length = 4 := by omega
      rcases c1 with c1 | c1 | c1 | c1 <;> rcases c2 with c2 | c2 | c2 | c2 <;> first | omega | (rw [c1] at b1; rw [c2] at b2; simp [wdL] at b1 b2; omega)
    refine ⟨e, fun i hi => ?_⟩
    rw [← wVl_ok k hk, ← e] at h
    have := (wdP_inj len fun i hi => ⟨(hb i hi).2, (hc i (by omega)).2⟩).mp h i (by omega)
    simp only [Nat.zero_add] at this
    exact this
/-- a word -/
theorem e_readWord {B : Nat → Nat} {L st : Nat} (hB : bts B L) (h1 : st < L) (hL : isL (B st) = true) {s : xM} (hs : tpX B L s) (e3 : gi s 77 3 = nI st) (e4 : gi s 77 4 = nI st) {Q : Int32 → xM → Prop} (K : ∀ s', Fr (fun c i => c = 77 ∧ (i = 2 ∨ i = 4 ∨ i = 5)) s s' → gi s' 77 4 = nI (rn isL B (L - st) st) → gi s' 77 2 = nI (kdW (wdN B st (rn isL B (L - st) st - st))) → (kdW (wdN B st (rn isL B (L - st) st - st)) = 3 → gi s' 77 5 = nI (wdN B st (rn isL B (L - st) st - st) - 3)) → Q 0 s') : Ok (fX4_readWord s) Q := by
  obtain ⟨f, hf⟩ := fu_big
  have hl := hB.1
  unfold fX4_readWord
  rw [hf]
  refine l_wordX hB (L - st) (f + 4000) st s (by omega) (by omega) hs e4 fun s' F e4' => ?_
  have hs' := tpX_fr hs F (fun c i q => by unfold xAt at q; omega)
  have e3' : gi s' 77 3 = nI st := by rw [(F 77 3 (by unfold xAt; omega)).1]; exact e3
  have ge := rn_gt (q := isL) (B := B) (n := L - st) (p := st) (by omega) hL
  have le := rn_le isL B (L - st) st
  have al := rn_all isL B (L - st) st
  generalize rn isL B (L - st) st = e at *
  have hb : ∀ i, i < e - st → 97 ≤ B (st + i) ∧ B (st + i) < 256 := fun i hi => by
    have x := al (st + i) (by omega) (by omega)
    unfold isL at x
    have := of_decide_eq_true x
    omega
  have fin : ∀ t0 w, wdN B st (e - st) = w → (t0 < 11 ∧ kdW w = t0 ∧ t0 ≠ 3 ∨ 11 ≤ t0 ∧ t0 < 20 ∧ kdW w = 3 ∧ t0 - 11 = w - 3) → Ok (fX4_readWord_J206 (nI t0) s') Q := by
    intro t0 w ew hw
    have G : ∀ a b, Fr (fun c i => c = 77 ∧ (i = 2 ∨ i = 4 ∨ i = 5)) s (si (si s' 77 2 a) 77 5 b) := fun a b => Fr_si (Fr_si (Fr_mono F fun c i q => by unfold xAt at q; omega) _ (by omega)) _ (by omega)
    have g4 : ∀ a b, gi (si (si s' 77 2 a) 77 5 b) 77 4 = nI e := fun a b => by
      rw [gi_si, if_neg (by omega), gi_si, if_neg (by omega)]
      exact e4'
    unfold fX4_readWord_J206 fX4_readWord_J219
    rw [show (11 : Int32) = nI 11 from rfl]
    rcases hw with ⟨a, b, c⟩ | ⟨a, a2, b, c⟩
    · refine ok_T (nI_lt a (by omega)) (ok_lz.mpr (ok_lz.mpr (ok_R (K _ (G _ _) (g4 _ _) ?_ ?_))))
      · rw [gi_si, if_neg (by omega), gi_same, ew, b]
      · rw [ew]
        omega
    · refine ok_F (nI_nlt a (by omega)) (ok_lz.mpr (ok_lz.mpr (ok_R (K _ (G _ _) (g4 _ _) ?_ ?_))))
      · rw [gi_si, if_neg (by omega), gi_same, ew, b]
        rfl
      · intro _
        rw [gi_same, pk_sub a, c, ew]
  have st_ : ∀ k, k < 13 → 1 ≤ k → (wdN B st (e - st) = wdI (wVl k) ∧ fX4_isWord k s' = some (1, s')) ∨ (¬ (e - st ≤ 4 ∧ wdP B st (e - st) = wVl k) ∧ fX4_isWord k s' = some (0, s')) := by
    intro k hk hk1
    have q := isW_iff (B := B) (st := st) (len := e - st) hk hk1 (by omega) hb
    rcases e_isWord hB hk hk1 (by omega) (by omega) hs' e3' e4' with ⟨a, b⟩ | ⟨a, b⟩
    · refine Or.inl ⟨?_, b⟩
      have := q.mp a
      unfold wdN
      rw [if_pos this.1, this.2]
    · exact Or.inr ⟨fun z => a (q.mpr z), b⟩
  rcases st_ 1 (by omega) (by omega) with ⟨a, b⟩ | ⟨n1, b⟩
  · rw [b, bd_some]
    exact ok_F n10 (fin 4 _ a (by decide))
  rw [b, bd_some]
  refine ok_T rfl ?_
  rcases st_ 2 (by omega) (by omega) with ⟨a, b⟩ | ⟨n2, b⟩
  · rw [b, bd_some]
    exact ok_F n10 (fin 5 _ a (by decide))
  rw [b, bd_some]
  refine ok_T rfl ?_
  rcases st_ 3 (by omega) (by omega) with ⟨a, b⟩ | ⟨n3, b⟩
  · rw [b, bd_some]
    exact ok_F n10 (fin 6 _ a (by decide))
  rw [b, bd_some]
  refine ok_T rfl ?_
  rcases st_ 4 (by omega) (by omega) with ⟨a, b⟩ | ⟨n4, b⟩
  · rw [b, bd_some]
    exact ok_F n10 (fin 7 _ a (by decide))
  rw [b, bd_some]
  refine ok_T rfl ?_
  rcases st_ 5 (by omega) (by omega) with ⟨a, b⟩ | ⟨n5, b⟩
  · rw [b, bd_some]
    exact ok_F n10 (fin 8 _ a (by decide))
  rw [b, bd_some]
  refine ok_T rfl ?_
  rcases st_ 6 (by omega) (by omega) with ⟨a, b⟩ | ⟨n6, b⟩
  · rw [b, bd_some]
    exact ok_F n10 (fin 9 _ a (by decide))
  rw [b, bd_some]
  refine ok_T rfl ?_
  rcases st_ 7 (by omega) (by omega) with ⟨a, b⟩ | ⟨n7, b⟩
  · rw [b, bd_some]
    exact ok_F n10 (fin 11 _ a (by decide))
  rw [b, bd_some]
  refine ok_T rfl ?_
  rcases st_ 8 (by omega) (by omega) with ⟨a, b⟩ | ⟨n8, b⟩
  · rw [b, bd_some]
    exact ok_F n10 (fin 12 _ a (by decide))
  rw [b, bd_some]
  refine ok_T rfl ?_
  rcases st_ 9 (by omega) (by omega) with ⟨a, b⟩ | ⟨n9, b⟩
  · rw [b, bd_some]
    exact ok_F n10 (fin 13 _ a (by decide))
  rw [b, bd_some]
  refine ok_T rfl ?_
  rcases st_ 10 (by omega) (by omega) with ⟨a, b⟩ | ⟨n10', b⟩
  · rw [b, bd_some]
    exact ok_F n10 (fin 14 _ a (by decide))
  rw [b, bd_some]
  refine ok_T rfl ?_
  rcases st_ 11 (by omega) (by omega) with ⟨a, b⟩ | ⟨n11, b⟩
  · rw [b, bd_some]
    exact ok_F n10 (fin 15 _ a (by decide))
  rw [b, bd_some]
  refine ok_T rfl ?_
  rcases st_ 12 (by omega) (by omega) with ⟨a, b⟩ | ⟨n12, b⟩
  · rw [b, bd_some]
    exact ok_F n10 (fin 16 _ a (by decide))
  rw [b, bd_some]
  refine ok_T rfl (fin 1 12 ?_ (by decide))
  unfold wdN
  by_cases c : e - st ≤ 4
  · rw [if_pos c]
    have m : ∀ v, ¬ (e - st ≤ 4 ∧ wdP B st (e - st) = v) → wdP B st (e - st) ≠ v := fun v z x => z ⟨c, x⟩
    unfold wdI
    rw [if_neg (show ¬ wdP B st (e - st) = 1937006969 from m _ n1), if_neg (show ¬ wdP B st (e - st) = 1818326117 from m _ n2), if_neg (show ¬ wdP B st (e - st) = 6386539 from m _ n3), if_neg (show ¬ wdP B st (e - st) = 1668248436 from m _ n7), if_neg (show ¬ wdP B st (e - st) = 2002873451 from m _ n8), if_neg (show ¬ wdP B st (e - st) = 2002872692 from m _ n9), if_neg (show ¬ wdP B st (e - st) = 1919509605 from m _ n10'), if_neg (show ¬ wdP B st (e - st) = 1835101817 from m _ n11), if_neg (show ¬ wdP B st (e - st) = 1936683636 from m _ n12), if_neg (show ¬ wdP B st (e - st) = 28530 from m _ n4), if_neg (show ¬ wdP B st (e - st) = 6385252 from m _ n5), if_neg (show ¬ wdP B st (e - st) = 7237492 from m _ n6)]
  · rw [if_neg c]

/-! signs -/
theorem e_sg1 : xSl.getD 13 0 = 8 ∧ ∀ i, i < 8 → (xSy.getD 13 []).getD i 0 = nI ([40, 41, 59, 43, 45, 42, 60, 61].getD i 0) := by decide +kernel
theorem e_sg2 : ∀ b, b < 256 → ((nI b).toUInt32 % 65536).toInt32 = nI b ∧ ¬ nI b < 0 ∧ ¬ (255 : Int32) < nI b ∧ ∀ i, i < 8 → (nI ([40, 41, 59, 43, 45, 42, 60, 61].getD i 0) = (nI b).toInt8.toInt32 ↔ [40, 41, 59, 43, 45, 42, 60, 61].getD i 0 = b) := by decide +kernel
theorem l_sg {b : Nat} (hb : b < 256) (s : xM) : ∀ n i f, i + n = 8 → n < f → (∃ j, i ≤ j ∧ j < 8 ∧ [40, 41, 59, 43, 45, 42, 60, 61].getD j 0 = b ∧ fJ1_indexOfChar_4cfef_L7 (fun x3 s4 => some (x3, s4)) (fun s5 => some ((-1 : Int32), s5)) 13 (nI 8) ((nI b).toInt8.toInt32) f (nI i) s = some (nI j, s)) ∨ ((∀ j, i ≤ j → j < 8 → [40, 41, 59, 43, 45, 42, 60, 61].getD j 0 ≠ b) ∧ fJ1_indexOfChar_4cfef_L7 (fun x3 s4 => some (x3, s4)) (fun s5 => some ((-1 : Int32), s5)) 13 (nI 8) ((nI b).toInt8.toInt32) f (nI i) s = some (-1, s)) := by
  intro n
  induction n with
  | zero =>
    intro i f hi hf
    obtain ⟨f, rfl⟩ : ∃ n', f = n' + 1 := ⟨f - 1, by omega⟩
    right
    unfold fJ1_indexOfChar_4cfef_L7
    rw [if_pos (nI_le (by omega) (by omega))]
    exact ⟨fun j a b => by omega, rfl⟩
  | succ n ih =>
    intro i f hi hf
    obtain ⟨f, rfl⟩ : ∃ n', f = n' + 1 := ⟨f - 1, by omega⟩
    unfold fJ1_indexOfChar_4cfef_L7
    rw [if_neg (nI_ge (by omega) (by omega)), e_sg1.1, gd_of (inb_n (by omega) (by omega)), nI_clamp (by omega), e_sg1.2 i (by omega), nI_1]
    have q := (e_sg2 b hb).2.2.2 i (by omega)
    by_cases c : [40, 41, 59, 43, 45, 42, 60, 61].getD i 0 = b
    · rw [if_pos (q.mpr c)]
      exact Or.inl ⟨i, Nat.le_refl _, by omega, c, rfl⟩
    · rw [if_neg (fun z => c (q.mp z))]
      rcases ih (i + 1) f (by omega) (by omega) with ⟨j, a, b', d, e⟩ | ⟨a, e⟩
      · exact Or.inl ⟨j, by omega, b', d, e⟩
      · exact Or.inr ⟨fun j x y => by
          by_cases z : j = i
          · rw [z]
            exact c
          · exact a j (by omega) y, e⟩
theorem isS_ex {b : Nat} : isS b = true ↔ ∃ j, j < 8 ∧ [40, 41, 59, 43, 45, 42, 60, 61].getD j 0 = b := by
  unfold isS
  rw [decide_eq_true_eq]
  constructor
  · rintro (h | h | h | h | h | h | h | h)
    · exact ⟨0, by omega, h.symm⟩
    · exact ⟨1, by omega, h.symm⟩
    · exact ⟨2, by omega, h.symm⟩
    · exact ⟨3, by omega, h.symm⟩
    · exact ⟨4, by omega, h.symm⟩
    · exact ⟨5, by omega, h.symm⟩
    · exact ⟨6, by omega, h.symm⟩
    · exact ⟨7, by omega, h.symm⟩
  · rintro ⟨j, hj, h⟩
    have c : j = 0 ∨ j = 1 ∨ j = 2 ∨ j = 3 ∨ j = 4 ∨ j = 5 ∨ j = 6 ∨ j = 7 := by omega
    rcases c with rfl | rfl | rfl | rfl | rfl | rfl | rfl | rfl <;> simp at h <;> omega
theorem e_idx {b : Nat} (hb : b < 256) (s : xM) : ∃ r, fJ0_indexOf_0f7a4 13 (((nI b).toUInt32 % 65536).toInt32) s = some (r, s) ∧ (r < 0 ↔ isS b = false) := by
  obtain ⟨f, hf⟩ := fu_big
  obtain ⟨q1, q2, q3, q4⟩ := e_sg2 b hb
  have key : ∃ r, fJ1_indexOfChar_4cfef 13 (nI b) (nI 0) (nI 8) s = some (r, s) ∧ (r < 0 ↔ isS b = false) := by
    unfold fJ1_indexOfChar_4cfef
    rw [hf]
    rcases l_sg hb s 8 0 (f + 4000) (by omega) (by omega) with ⟨j, a, b', d, e⟩ | ⟨a, e⟩
    · refine ⟨nI j, e, fun z => absurd z (nI_pos (by omega)), fun z => ?_⟩
      rw [isS_ex.mpr ⟨j, b', d⟩] at z
      cases z
    · refine ⟨-1, e, fun _ => ?_, fun _ => by decide⟩
      by_cases w : isS b = true
      · obtain ⟨j, x, y⟩ := isS_ex.mp w
        exact absurd y (a j (by omega) x)
      · exact Bool.eq_false_iff.mpr w
  obtain ⟨r, k1, k2⟩ := key
  refine ⟨r, ?_, k2⟩
  unfold fJ0_indexOf_0f7a4 fJ0_indexOf_7cf53 fJ0_isLatin1_aae02 fJ1_indexOf_4cfef fJ1_canEncode_9a6ad
  rw [if_neg n10, if_pos rfl, bd_some, if_neg n10, e_sl (by omega), bd_some, e_sg1.1, q1, if_neg q2, if_neg q3, bd_some, if_neg n10]
  have h8 : (if (Int32.ofNat 8) < nI 8 then (Int32.ofNat 8) else nI 8) = nI 8 := by decide
  have h0 : (if (0 : Int32) < 0 then (0 : Int32) else 0) = nI 0 := by decide
  rw [h0, h8]
  show bd (bd (if nI 0 < nI 8 then bd (fJ1_indexOfChar_4cfef 13 (nI b) (nI 0) (nI 8) s) (fun r10 s11 => some (r10, s11)) else some (-1, s)) (fun r11 s12 => some (r11, s12))) (fun r1 s2 => some (r1, s2)) = _
  rw [if_pos (by decide), k1, bd_some, bd_some, bd_some]
/-! ===== a step of the class's tape ===== -/
theorem e_adv {B : Nat → Nat} {L p : Nat} (hB : bts B L) (hp : p ≤ L) {s : xM} (hs : tpX B L s) (e4 : gi s 77 4 = nI p) {Q : Int32 → xM → Prop} (K : ∀ s', Fr xTkn s s' → gi s' 77 2 = nI (tK B L p) → gi s' 77 3 = nI (tS B L p) → gi s' 77 4 = nI (tN B L p) → (tK B L p = 2 ∨ tK B L p = 3 → gi s' 77 5 = nI (tV B L p)) → Q 0 s') : Ok (fX4_advance s) Q := by
  obtain ⟨f, hf⟩ := fu_big
  have hl := hB.1
  unfold fX4_advance
  rw [hf]
  refine l_blankX hB (L - p) (f + 4000) p s (by omega) (by omega) hs e4 fun s1 F1 g4 => ?_
  refine ok_lz.mpr ?_
  have tl := tS_le (B := B) hp
  have t0 : tS B L p = rn isB B (L - p) p := rfl
  rw [← t0] at g4
  rw [g4]
  have F2 : Fr xTkn s (si s1 77 3 (nI (tS B L p))) := Fr_si (Fr_mono F1 fun c i q => by unfold xAt at q; unfold xTkn; omega) _ (by unfold xTkn; omega)
  have a3 : gi (si s1 77 3 (nI (tS B L p))) 77 3 = nI (tS B L p) := gi_same _ _ _ _
  have a4 : gi (si s1 77 3 (nI (tS B L p))) 77 4 = nI (tS B L p) := by
    rw [gi_si, if_neg (by omega)]
    exact g4
  generalize si s1 77 3 (nI (tS B L p)) = s2 at F2 a3 a4
  have hs2 := tpX_fr hs F2 (fun c i q => by unfold xTkn at q; omega)
  rw [a3, hs2.1]
  by_cases c : L ≤ tS B L p
  · refine ok_F (nI_nlt c (by omega)) (ok_lz.mpr (ok_R ?_))
    have k0 : tK B L p = 0 := by
      unfold tK
      rw [if_pos c]
    have n0 : tN B L p = L := by
      unfold tN
      rw [if_pos c]
    refine K _ (Fr_si F2 _ (by unfold xTkn; omega)) ?_ ?_ ?_ (fun z => by omega)
    · rw [gi_same, k0]
      rfl
    · rw [gi_si, if_neg (by omega)]
      exact a3
    · rw [gi_si, if_neg (by omega), a4, n0, show tS B L p = L by omega]
  refine ok_T (nI_lt (by omega) (by omega)) ?_
  have b1 := hB.2 (tS B L p) (by omega)
  have i1 : inb (nI (tS B L p)) 160 = true := inb_n (by omega) (by omega)
  refine ok_G i1 ?_
  rw [nI_clamp (by omega), hs2.2 _ (by omega), e_isL b1, bd_some]
  by_cases cL : isL (B (tS B L p)) = true
  · rw [if_pos cL]
    refine ok_F n10 (ok_B ?_)
    have n0 : tN B L p = rn isL B (L - tS B L p) (tS B L p) := by
      unfold tN
      rw [if_neg c, if_pos cL]
    have w0 : wdN B (tS B L p) (rn isL B (L - tS B L p) (tS B L p) - tS B L p) = tW B L p := by
      unfold tW
      rw [n0]
    have k0 : tK B L p = kdW (tW B L p) := by
      unfold tK
      rw [if_neg c, if_pos cL]
    refine e_readWord hB (by omega) cL hs2 a3 a4 fun s' F g1 g2 g3 => ok_R ?_
    rw [w0] at g2 g3
    refine K s' (Fr_tr F2 (Fr_mono F fun c i q => by unfold xTkn; omega)) (by rw [g2, k0]) ?_ (by rw [g1, n0]) (fun z => ?_)
    · rw [(F 77 3 (by omega)).1]
      exact a3
    · have v0 : tV B L p = tW B L p - 3 := by
        unfold tV
        rw [if_pos cL]
      rw [v0]
      refine g3 ?_
      rw [← k0]
      rcases z with z | z
      · rw [k0] at z
        unfold kdW at z
        repeat' split at z
        all_goals omega
      · exact z
  rw [if_neg cL]
  refine ok_T rfl ?_
  rw [a3]
  refine ok_G i1 ?_
  rw [nI_clamp (by omega), hs2.2 _ (by omega), e_isD b1, bd_some]
  by_cases cD : isD (B (tS B L p)) = true
  · rw [if_pos cD]
    refine ok_F n10 (ok_B ?_)
    have n0 : tN B L p = rn isD B (L - tS B L p) (tS B L p) := by
      unfold tN
      rw [if_neg c, if_neg cL, if_pos cD]
    have k0 : tK B L p = if tN B L p - tS B L p ≤ 4 then 2 else 1 := by
      unfold tK
      rw [if_neg c, if_neg cL, if_pos cD]
    have v0 : tV B L p = nmB B (tS B L p) (tN B L p - tS B L p) := by
      unfold tV
      rw [if_neg cL]
    unfold fX4_readNumber fX4_readNumber_J107
    refine ok_lz.mpr ?_
    rw [hf]
    have F3 : Fr xTkn s (si s2 77 5 0) := Fr_si F2 _ (by unfold xTkn; omega)
    refine l_numX (st := tS B L p) hB (L - tS B L p) (f + 4000) (tS B L p) _ (by omega) (by omega) (Nat.le_refl _) (tpX_fr hs F3 (fun c i q => by unfold xTkn at q; omega)) (by rw [gi_si, if_neg (by omega)]; exact a3) (by rw [gi_si, if_neg (by omega)]; exact a4) (fun _ => by rw [gi_same, Nat.sub_self]; rfl) fun s' F g1 g2 => ?_
    rw [← n0] at g1 g2
    have ge := rn_ge isD B (L - tS B L p) (tS B L p)
    have le := rn_le isD B (L - tS B L p) (tS B L p)
    rw [← n0] at ge le
    have g3 : gi s' 77 3 = nI (tS B L p) := by
      rw [(F 77 3 (by unfold xNm; omega)).1, gi_si, if_neg (by omega)]
      exact a3
    have F4 : Fr xTkn s s' := Fr_tr F3 (Fr_mono F fun c i q => by unfold xNm at q; unfold xTkn; omega)
    have fin : ∀ k, tK B L p = k → Ok (some ((0 : Int32), si s' 77 2 (nI k))) (fun r s => Ok (some ((0 : Int32), s)) Q) := by
      intro k hk
      refine ok_R (ok_R (K _ (Fr_si F4 _ (by unfold xTkn; omega)) (by rw [gi_same, hk]) ?_ ?_ fun z => ?_))
      · rw [gi_si, if_neg (by omega)]
        exact g3
      · rw [gi_si, if_neg (by omega)]
        exact g1
      · rw [gi_si, if_neg (by omega), v0]
        refine g2 ?_
        rw [k0] at z
        by_cases y : tN B L p - tS B L p ≤ 4
        · exact y
        · rw [if_neg y] at z
          omega
    rw [g1, g3, pk_sub ge, show (4 : Int32) = nI 4 from rfl]
    by_cases y : tN B L p - tS B L p ≤ 4
    · exact ok_T (nI_le y (by omega)) (fin 2 (by rw [k0, if_pos y]))
    · exact ok_F (nI_ge (by omega) (by omega)) (fin 1 (by rw [k0, if_neg y]))
  rw [if_neg cD]
  refine ok_T rfl ?_
  rw [a3]
  refine ok_G i1 ?_
  rw [nI_clamp (by omega), hs2.2 _ (by omega)]
  obtain ⟨r, x1, x2⟩ := e_idx b1 s2
  rw [x1, bd_some]
  have n0 : tN B L p = tS B L p + 1 := by
    unfold tN
    rw [if_neg c, if_neg cL, if_neg cD]
  have k0 : tK B L p = if isS (B (tS B L p)) = true then B (tS B L p) else 1 := by
    unfold tK
    rw [if_neg c, if_neg cL, if_neg cD]
  have fin : ∀ k, tK B L p = k → k ≠ 2 → k ≠ 3 → Ok (fX4_advance_J142 (nI k) s2) Q := by
    intro k hk h2 h3
    unfold fX4_advance_J142
    refine ok_lz.mpr (ok_lz.mpr (ok_R (K _ (Fr_si (Fr_si F2 _ (by unfold xTkn; omega)) _ (by unfold xTkn; omega)) ?_ ?_ ?_ fun z => by omega)))
    · rw [gi_si, if_neg (by omega), gi_same, hk]
    · rw [gi_si, if_neg (by omega), gi_si, if_neg (by omega)]
      exact a3
    · rw [gi_same, gi_si, if_neg (by omega), a4, nI_1, n0]
  by_cases cS : isS (B (tS B L p)) = true
  · refine ok_F (fun z => by rw [x2.mp z] at cS; cases cS) ?_
    rw [a3]
    refine ok_G i1 ?_
    rw [nI_clamp (by omega), hs2.2 _ (by omega)]
    have q := isS_ex.mp cS
    have q2 : B (tS B L p) ≠ 2 ∧ B (tS B L p) ≠ 3 := by
      have := cS
      unfold isS at this
      have := of_decide_eq_true this
      omega
    exact fin _ (by rw [k0, if_pos cS]) q2.1 q2.2
  · exact ok_T (x2.mpr (Bool.eq_false_iff.mpr cS)) (fin 1 (by rw [k0, if_neg cS]) (by omega) (by omega))
