/-! ===== text: what the two keep while they read ===== -/
theorem gA1 {C D : List Nat} {i : Nat} (h : i < C.length) : (C ++ D).getD i 0 = C.getD i 0 := by
  simp [List.getD, List.getElem?_append_left h]
theorem gA2 {C : List Nat} {m : Nat} : (C ++ [m]).getD C.length 0 = m := by
  simp [List.getD]
def xP (j c i : Nat) : Prop := (c = 77 ∧ 2 ≤ i) ∨ (c = 97 + 4 * j ∧ i = 3) ∨ c = 98 + 4 * j
def cls (B : Nat → Nat) (L j : Nat) (s : xM) (p : Nat) (C : List Nat) : Prop := tpX B L s ∧ gi s 77 2 = nI (tK B L p) ∧ gi s 77 3 = nI (tS B L p) ∧ gi s 77 4 = nI (tN B L p) ∧ (tK B L p = 2 ∨ tK B L p = 3 → gi s 77 5 = nI (tV B L p)) ∧ gi s (97 + 4 * j) 3 = nI C.length ∧ ∀ i, i < C.length → gi s (98 + 4 * j) i = cdX (C.getD i 0)
theorem e_advC {B : Nat → Nat} {L j p : Nat} (hB : bts B L) {s : xM} {C : List Nat} (hp : p ≤ L) (h : cls B L j s p C) {Q : Int32 → xM → Prop} (K : ∀ s', cls B L j s' (tN B L p) C → Fr (xP j) s s' → Q 0 s') : Ok (fX4_advance s) Q := by
  obtain ⟨h1, h2, h3, h4, h5, h6, h7⟩ := h
  refine e_adv hB (tN_le hp) h1 h4 fun s' F g1 g2 g3 g4 => K s' ⟨tpX_fr h1 F (fun c i q => by unfold xTkn at q; omega), g1, g2, g3, g4, ?_, fun i hi => ?_⟩ (Fr_mono F fun c i q => Or.inl q)
  · rw [(F _ _ (by unfold xTkn; omega)).1]
    exact h6
  · rw [(F _ _ (by unfold xTkn; omega)).1]
    exact h7 i hi
theorem e_addC {B : Nat → Nat} {L j p m : Nat} {s : xM} {C : List Nat} (hl : C.length < 160) (h : cls B L j s p C) {v : Int32} (hv : v = cdX m) {Q : Int32 → xM → Prop} (K : ∀ s', cls B L j s' p (C ++ [m]) → Fr (xP j) s s' → Q 0 s') : Ok (fX5_add j v s) Q := by
  obtain ⟨h1, h2, h3, h4, h5, h6, h7⟩ := h
  unfold fX5_add
  rw [h6]
  refine ok_F (nI_ge (b := 160) hl (by omega)) (ok_G (inb_n hl (by omega)) (ok_lz.mpr (ok_lz.mpr (ok_R (K _ ?_ ?_)))))
  · rw [nI_clamp (by omega)]
    have f6 : gi (si s (98 + 4 * j) C.length v) (97 + 4 * j) 3 = nI C.length := by
      rw [gi_si, if_neg (by omega)]
      exact h6
    rw [f6, nI_1]
    have F : Fr (fun c i => c = 98 + 4 * j ∨ c = 97 + 4 * j) s (si (si s (98 + 4 * j) C.length v) (97 + 4 * j) 3 (nI (C.length + 1))) := Fr_si (Fr_si Fr_rf _ (Or.inl rfl)) _ (Or.inr rfl)
    by_cases hj : j < 1000000
    · refine ⟨tpX_fr h1 F (fun c i q => by omega), ?_, ?_, ?_, fun z => ?_, ?_, fun i hi => ?_⟩
      · rw [(F _ _ (by omega)).1]
        exact h2
      · rw [(F _ _ (by omega)).1]
        exact h3
      · rw [(F _ _ (by omega)).1]
        exact h4
      · rw [(F _ _ (by omega)).1]
        exact h5 z
      · rw [gi_same, List.length_append]
        rfl
      · rw [List.length_append] at hi
        rw [gi_si, if_neg (by omega)]
        by_cases c : i = C.length
        · rw [c, gi_same, gA2, hv]
        · have hi2 : i < C.length := by
            have : [m].length = 1 := rfl
            omega
          rw [gi_si, if_neg (by omega), gA1 hi2]
          exact h7 i hi2
    · refine ⟨tpX_fr h1 F (fun c i q => by omega), ?_, ?_, ?_, fun z => ?_, ?_, fun i hi => ?_⟩
      · rw [(F _ _ (by omega)).1]
        exact h2
      · rw [(F _ _ (by omega)).1]
        exact h3
      · rw [(F _ _ (by omega)).1]
        exact h4
      · rw [(F _ _ (by omega)).1]
        exact h5 z
      · rw [gi_same, List.length_append]
        rfl
      · rw [List.length_append] at hi
        rw [gi_si, if_neg (by omega)]
        by_cases c : i = C.length
        · rw [c, gi_same, gA2, hv]
        · have hi2 : i < C.length := by
            have : [m].length = 1 := rfl
            omega
          rw [gi_si, if_neg (by omega), gA1 hi2]
          exact h7 i hi2
  · exact Fr_si (Fr_si Fr_rf _ (by unfold xP; omega)) _ (by unfold xP; omega)
/-! the model's -/
def rk (x : Nat) : Nat := if x = 0 then 0 else if x = 11 then 1 else if x = 12 then 2 else if x = 13 then 3 else if 15 < x then (if 17 < x then (if x = 18 then 6 else 7) else 5) else 4
theorem rk_le (x : Nat) : rk x ≤ 7 := by
  unfold rk
  repeat' split
  all_goals omega
theorem e_rank {x : Nat} (hx : x ≤ 19) (s : xM) : fX10_rank (nI x) s = some (nI (rk x), s) := by
  unfold fX10_rank rk
  rw [show (11 : Int32) = nI 11 from rfl, show (12 : Int32) = nI 12 from rfl, show (13 : Int32) = nI 13 from rfl, show (15 : Int32) = nI 15 from rfl, show (17 : Int32) = nI 17 from rfl, show (18 : Int32) = nI 18 from rfl]
  simp (disch := omega) only [nI_n0, nI_eq, nI_ltI]
  repeat' split
  all_goals first | rfl | omega
def stk (t : xM) : List Nat → Prop
  | [] => True
  | x :: S => gi t 27 S.length = nI x ∧ stk t S
def opn : List Nat → Nat
  | [] => 0
  | x :: S => (if x = 0 ∨ x = 13 ∨ x = 19 then 1 else 0) + opn S
theorem opn_le : ∀ S, opn S ≤ S.length := by
  intro S
  induction S with
  | nil => exact Nat.le_refl _
  | cons x S ih =>
    show (if x = 0 ∨ x = 13 ∨ x = 19 then 1 else 0) + opn S ≤ S.length + 1
    split <;> omega
theorem stk_eq {t t' : xM} : ∀ S : List Nat, (∀ i, i < S.length → gi t' 27 i = gi t 27 i) → stk t S → stk t' S := by
  intro S
  induction S with
  | nil => exact fun _ _ => trivial
  | cons x S ih =>
    intro e h
    refine ⟨?_, ih (fun i hi => e i (Nat.lt_succ_of_lt hi)) h.2⟩
    rw [e _ (Nat.lt_succ_self _)]
    exact h.1
def mP (j c i : Nat) : Prop := (c = 0 ∧ 47 ≤ i) ∨ c = 27 ∨ (c = 15 ∧ 200 * j ≤ i ∧ i < 200 * j + 200)
def sP (j c i : Nat) : Prop := (c = 0 ∧ 53 ≤ i) ∨ c = 27 ∨ (c = 15 ∧ 200 * j ≤ i ∧ i < 200 * j + 200)
theorem sP_mP {j : Nat} (c i : Nat) (h : sP j c i) : mP j c i := by
  unfold sP at h
  unfold mP
  omega
def mdO (B : Nat → Nat) (L j : Nat) (t : xM) (p : Nat) (S M : List Nat) (o : Nat) : Prop := tpM B L t ∧ wrdR t ∧ gi t 0 47 = nI p ∧ gi t 0 21 = nI j ∧ gi t 0 53 = nI S.length ∧ stk t S ∧ gi t 0 54 = nI o ∧ gi t 0 55 = nI M.length ∧ ∀ i, i < M.length → gi t 15 (200 * j + i) = nI (M.getD i 0)
def mdl (B : Nat → Nat) (L j : Nat) (t : xM) (p : Nat) (S M : List Nat) : Prop := mdO B L j t p S M (opn S)
theorem e_nextM {B : Nat → Nat} {L j p : Nat} (hB : bts B L) {t : xM} {S M : List Nat} (hp : p ≤ L) (h : mdl B L j t p S M) : ∃ t', fX10_next t = some (0, t') ∧ mdl B L j t' (tN B L p) S M ∧ gi t' 0 49 = mkT (tK B L p) ∧ gi t' 0 48 = nI (tS B L p) ∧ (tK B L p = 2 ∨ tK B L p = 3 → gi t' 0 50 = nI (tV B L p)) ∧ (4 ≤ tK B L p → tK B L p ≤ 6 → gi t' 0 50 = nI (tK B L p - 4)) ∧ Fr mTkn t t' := by
  obtain ⟨h1, h2, h3, h4, h5, h6, h7, h8, h9⟩ := h
  have q : Ok (fX10_next t) (fun r t' => r = 0 ∧ mdl B L j t' (tN B L p) S M ∧ gi t' 0 49 = mkT (tK B L p) ∧ gi t' 0 48 = nI (tS B L p) ∧ (tK B L p = 2 ∨ tK B L p = 3 → gi t' 0 50 = nI (tV B L p)) ∧ (4 ≤ tK B L p → tK B L p ≤ 6 → gi t' 0 50 = nI (tK B L p - 4)) ∧ Fr mTkn t t') := by
    refine e_next hB hp h1 h2 h3 fun t' F g1 g2 g3 g4 g5 => ⟨rfl, ⟨tpM_fr h1 F (fun c i q => by unfold mTkn at q; omega), fun k hk => ?_, g3, ?_, ?_, ?_, ?_, ?_, fun i hi => ?_⟩, g1, g2, g4, g5, F⟩
    · rw [(F _ _ (by unfold mTkn; omega)).2]
      exact h2 k hk
    · rw [(F _ _ (by unfold mTkn; omega)).1]
      exact h4
    · rw [(F _ _ (by unfold mTkn; omega)).1]
      exact h5
    · exact stk_eq S (fun i _ => (F _ _ (by unfold mTkn; omega)).1) h6
    · rw [(F _ _ (by unfold mTkn; omega)).1]
      exact h7
    · rw [(F _ _ (by unfold mTkn; omega)).1]
      exact h8
    · rw [(F _ _ (by unfold mTkn; omega)).1]
      exact h9 i hi
  obtain ⟨r, t', e, e0, q⟩ := q
  subst e0
  exact ⟨t', e, q⟩
theorem e_puts {B : Nat → Nat} {L j p x o : Nat} (hj : j < 6) {t : xM} {S M : List Nat} (hl : M.length < 200) (h : mdO B L j t p S M o) : ∃ t', fX10_puts (nI x) t = some (0, t') ∧ mdO B L j t' p S (M ++ [x]) o ∧ Fr (fun c i => (c = 0 ∧ i = 55) ∨ (c = 15 ∧ 200 * j ≤ i ∧ i < 200 * j + 200)) t t' := by
  obtain ⟨h1, h2, h3, h4, h5, h6, h7, h8, h9⟩ := h
  unfold fX10_puts
  rw [h4, h8, show (200 : Int32) = nI 200 from rfl, pk_mul, nI_add, gd_of (inb_n (by omega) (by omega)), nI_clamp (by omega)]
  have f8 : gi (si t 15 (200 * j + M.length) (nI x)) 0 55 = nI M.length := by
    rw [gi_si, if_neg (by omega)]
    exact h8
  have F : Fr (fun c i => (c = 0 ∧ i = 55) ∨ (c = 15 ∧ 200 * j ≤ i ∧ i < 200 * j + 200)) t (si (si t 15 (200 * j + M.length) (nI x)) 0 55 (nI (M.length + 1))) := Fr_si (Fr_si Fr_rf _ (by omega)) _ (by omega)
  refine ⟨si (si t 15 (200 * j + M.length) (nI x)) 0 55 (nI (M.length + 1)), ?_, ⟨tpM_fr h1 F (fun c i q => by omega), fun k hk => ?_, ?_, ?_, ?_, ?_, ?_, ?_, fun i hi => ?_⟩, F⟩
  · show some ((0 : Int32), si (si t 15 (200 * j + M.length) (nI x)) 0 55 (gi (si t 15 (200 * j + M.length) (nI x)) 0 55 + 1)) = _
    rw [f8, nI_1]
  · rw [(F _ _ (by omega)).2]
    exact h2 k hk
  · rw [(F _ _ (by omega)).1]
    exact h3
  · rw [(F _ _ (by omega)).1]
    exact h4
  · rw [(F _ _ (by omega)).1]
    exact h5
  · exact stk_eq S (fun i _ => (F _ _ (by omega)).1) h6
  · rw [(F _ _ (by omega)).1]
    exact h7
  · rw [gi_same, List.length_append]
    rfl
  · rw [List.length_append] at hi
    rw [gi_si, if_neg (by omega)]
    by_cases c : i = M.length
    · rw [c, gi_same, gA2]
    · have hi2 : i < M.length := by
        have : [x].length = 1 := rfl
        omega
      rw [gi_si, if_neg (by omega), gA1 hi2]
      exact h9 i hi2
theorem e_holds {B : Nat → Nat} {L j p x o : Nat} {t : xM} {S M : List Nat} (hl : S.length < 200) (h : mdO B L j t p S M o) : ∃ t', fX10_holds (nI x) t = some (0, t') ∧ mdO B L j t' p (x :: S) M o ∧ Fr (fun c i => (c = 0 ∧ i = 53) ∨ c = 27) t t' := by
  obtain ⟨h1, h2, h3, h4, h5, h6, h7, h8, h9⟩ := h
  unfold fX10_holds
  rw [h5, gd_of (inb_n hl (by omega)), nI_clamp (by omega)]
  have f5 : gi (si t 27 S.length (nI x)) 0 53 = nI S.length := by
    rw [gi_si, if_neg (by omega)]
    exact h5
  have F : Fr (fun c i => (c = 0 ∧ i = 53) ∨ c = 27) t (si (si t 27 S.length (nI x)) 0 53 (nI (S.length + 1))) := Fr_si (Fr_si Fr_rf _ (by omega)) _ (by omega)
  refine ⟨si (si t 27 S.length (nI x)) 0 53 (nI (S.length + 1)), ?_, ⟨tpM_fr h1 F (fun c i q => by omega), fun k hk => ?_, ?_, ?_, ?_, ⟨?_, ?_⟩, ?_, ?_, fun i hi => ?_⟩, F⟩
  · show some ((0 : Int32), si (si t 27 S.length (nI x)) 0 53 (gi (si t 27 S.length (nI x)) 0 53 + 1)) = _
    rw [f5, nI_1]
  · rw [(F _ _ (by omega)).2]
    exact h2 k hk
  · rw [(F _ _ (by omega)).1]
    exact h3
  · rw [(F _ _ (by omega)).1]
    exact h4
  · rw [gi_same]
    rfl
  · rw [gi_si, if_neg (by omega), gi_same]
  · refine stk_eq S (fun i hi => ?_) h6
    rw [gi_si, if_neg (by omega), gi_si, if_neg (by omega)]
  · rw [(F _ _ (by omega)).1]
    exact h7
  · rw [(F _ _ (by omega)).1]
    exact h8
  · rw [(F _ _ (by omega)).1]
    exact h9 i hi
/-- an opening sign -/
theorem e_opens {B : Nat → Nat} {L j p x : Nat} (hx : x = 0 ∨ x = 13 ∨ x = 19) {t : xM} {S M : List Nat} (hl : S.length < 200) (h : mdl B L j t p S M) (ho : opn S ≤ 5) : (opn S = 5 ∧ fX10_opensOne (nI x) t = some (0, t)) ∨ (opn S < 5 ∧ ∃ t', fX10_opensOne (nI x) t = some (1, t') ∧ mdl B L j t' p (x :: S) M ∧ Fr (sP j) t t') := by
  unfold fX10_opensOne
  rw [h.2.2.2.2.2.2.1]
  by_cases c : opn S = 5
  · left
    refine ⟨c, ?_⟩
    rw [c]
    rfl
  · right
    refine ⟨by omega, ?_⟩
    rw [if_neg (show ¬ nI (opn S) = (5 : Int32) from fun z => c ((nI_eq (b := 5) (by omega) (by omega)).mp z)), nI_1]
    obtain ⟨h1, h2, h3, h4, h5, h6, h7, h8, h9⟩ := h
    have F : Fr (fun c i => c = 0 ∧ i = 54) t (si t 0 54 (nI (opn S + 1))) := Fr_si Fr_rf _ (by omega)
    have g : mdO B L j (si t 0 54 (nI (opn S + 1))) p S M (opn S + 1) := by
      refine ⟨tpM_fr h1 F (fun c i q => by omega), fun k hk => ?_, ?_, ?_, ?_, ?_, gi_same _ _ _ _, ?_, fun i hi => ?_⟩
      · rw [(F _ _ (by omega)).2]
        exact h2 k hk
      · rw [(F _ _ (by omega)).1]
        exact h3
      · rw [(F _ _ (by omega)).1]
        exact h4
      · rw [(F _ _ (by omega)).1]
        exact h5
      · exact stk_eq S (fun i _ => (F _ _ (by omega)).1) h6
      · rw [(F _ _ (by omega)).1]
        exact h8
      · rw [(F _ _ (by omega)).1]
        exact h9 i hi
    obtain ⟨t', e, q, F2⟩ := e_holds (x := x) hl g
    refine ⟨t', ?_, ?_, Fr_tr (Fr_mono F fun c i q => by unfold sP; omega) (Fr_mono F2 fun c i q => by unfold sP; omega)⟩
    · simp only [lz]
      rw [e, bd_some]
    · unfold mdl
      have : opn (x :: S) = opn S + 1 := by
        show (if x = 0 ∨ x = 13 ∨ x = 19 then 1 else 0) + opn S = _
        rw [if_pos hx]
        omega
      rw [this]
      exact q
def tp (S : List Nat) (r : Nat) : Prop := ∀ x S', S = x :: S' → rk x < r
/-- what ranks r or more comes off -/
theorem l_unw {B : Nat → Nat} {L j p r : Nat} (hj : j < 6) (hr : 1 ≤ r) (hr7 : r ≤ 7) : ∀ (P S M : List Nat) (t : xM) (f : Nat), P.length < f → (∀ x ∈ P, x ≤ 19 ∧ r ≤ rk x) → (∀ x ∈ S, x ≤ 19) → tp S r → M.length + P.length ≤ 200 → (P ++ S).length ≤ 200 → mdl B L j t p (P ++ S) M → ∃ t', fX10_unwinds_L0 (fun s1 => some (0, s1)) (nI r) f t = some (0, t') ∧ mdl B L j t' p S (M ++ P) ∧ Fr (sP j) t t' := by
  intro P
  induction P with
  | nil =>
    intro S M t f hf hP hS hT hM hl h
    obtain ⟨f, rfl⟩ : ∃ n', f = n' + 1 := ⟨f - 1, by omega⟩
    refine ⟨t, ?_, ?_, Fr_rf⟩
    · unfold fX10_unwinds_L0
      obtain ⟨h1, h2, h3, h4, h5, h6, h7, h8, h9⟩ := h
      cases S with
      | nil =>
        rw [h5]
        rfl
      | cons x S =>
        have hx := hS x (List.mem_cons_self ..)
        have lt := hT x S rfl
        have hl2 : S.length + 1 ≤ 200 := hl
        have h5' : gi t 0 53 = nI (S.length + 1) := h5
        have k7 := rk_le x
        rw [h5', if_neg (nI_nle (by omega) (by omega)), show nI (S.length + 1) - (1 : Int32) = nI S.length from nI_pred _, gd_of (inb_n (by omega) (by omega)), nI_clamp (by omega), h6.1, e_rank hx, bd_some, if_pos (nI_lt lt (by omega))]
    · rw [List.append_nil]
      exact h
  | cons x P ih =>
    intro S M t f hf hP hS hT hM hl h
    obtain ⟨f, rfl⟩ : ∃ n', f = n' + 1 := ⟨f - 1, by omega⟩
    obtain ⟨hx, hrx⟩ := hP x (List.mem_cons_self ..)
    have k7 := rk_le x
    have hl2 : (P ++ S).length + 1 ≤ 200 := hl
    have hM2 : M.length + (P.length + 1) ≤ 200 := hM
    have hf2 : P.length + 1 < f + 1 := hf
    obtain ⟨h1, h2, h3, h4, h5, h6, h7, h8, h9⟩ := h
    have h5' : gi t 0 53 = nI ((P ++ S).length + 1) := h5
    have h6' : gi t 27 (P ++ S).length = nI x := h6.1
    have h7' : gi t 0 54 = nI ((if x = 0 ∨ x = 13 ∨ x = 19 then 1 else 0) + opn (P ++ S)) := h7
    have x0 : x ≠ 0 := fun z => by
      rw [z] at hrx
      have : rk 0 = 0 := rfl
      omega
    unfold fX10_unwinds_L0
    rw [h5', if_neg (nI_nle (by omega) (by omega)), show nI ((P ++ S).length + 1) - (1 : Int32) = nI (P ++ S).length from nI_pred _, gd_of (inb_n (by omega) (by omega)), nI_clamp (by omega), h6', e_rank hx, bd_some, if_neg (nI_nlt hrx (by omega)), h5', show nI ((P ++ S).length + 1) - (1 : Int32) = nI (P ++ S).length from nI_pred _]
    have F : ∀ o, Fr (fun c i => c = 0 ∧ (i = 53 ∨ i = 54)) t (si (si t 0 53 (nI (P ++ S).length)) 0 54 (nI o)) := fun o => Fr_si (Fr_si Fr_rf _ (by omega)) _ (by omega)
    have g : ∀ o, mdO B L j (si (si t 0 53 (nI (P ++ S).length)) 0 54 (nI o)) p (P ++ S) M o := fun o => by
      refine ⟨tpM_fr h1 (F o) (fun c i q => by omega), fun k hk => ?_, ?_, ?_, ?_, ?_, gi_same _ _ _ _, ?_, fun i hi => ?_⟩
      · rw [(F o _ _ (by omega)).2]
        exact h2 k hk
      · rw [(F o _ _ (by omega)).1]
        exact h3
      · rw [(F o _ _ (by omega)).1]
        exact h4
      · rw [gi_si, if_neg (by omega), gi_same]
      · exact stk_eq _ (fun i _ => (F o _ _ (by omega)).1) h6.2
      · rw [(F o _ _ (by omega)).1]
        exact h8
      · rw [(F o _ _ (by omega)).1]
        exact h9 i hi
    have g53 : gi (si t 0 53 (nI (P ++ S).length)) 0 53 = nI (P ++ S).length := gi_same _ _ _ _
    have g27 : gi (si t 0 53 (nI (P ++ S).length)) 27 (P ++ S).length = nI x := by
      rw [gi_si, if_neg (by omega)]
      exact h6'
    have g54 : gi (si t 0 53 (nI (P ++ S).length)) 0 54 = nI ((if x = 0 ∨ x = 13 ∨ x = 19 then 1 else 0) + opn (P ++ S)) := by
      rw [gi_si, if_neg (by omega)]
      exact h7'
    have go : ∀ t0 t1, t1 - t0 = nI (opn (P ++ S)) → ∃ t', fX10_unwinds_J67 (fun s1 => some (0, s1)) (fX10_unwinds_L0 (fun s1 => some (0, s1)) (nI r) f) (nI r) (nI x) t0 t1 (si t 0 53 (nI (P ++ S).length)) = some (0, t') ∧ mdl B L j t' p S (M ++ x :: P) ∧ Fr (sP j) t t' := by
      intro t0 t1 e01
      unfold fX10_unwinds_J67
      rw [e01]
      obtain ⟨t2, e2, q2, F2⟩ := e_puts (x := x) hj (by omega) (g (opn (P ++ S)))
      obtain ⟨t3, e3, q3, F3⟩ := ih S (M ++ [x]) t2 f (by omega) (fun y hy => hP y (List.mem_cons_of_mem _ hy)) hS hT (by rw [List.length_append]; show M.length + 1 + P.length ≤ 200; omega) (by omega) q2
      refine ⟨t3, ?_, ?_, Fr_tr (Fr_tr (Fr_mono (F (opn (P ++ S))) fun c i q => by unfold sP; omega) (Fr_mono F2 fun c i q => by unfold sP; omega)) F3⟩
      · simp only [lz]
        rw [e2, bd_some, e3]
      · rw [show M ++ x :: P = M ++ [x] ++ P by rw [List.append_assoc]; rfl]
        exact q3
    show ∃ t', (gd (inb (gi (si t 0 53 (nI (P ++ S).length)) 0 53) 200) _) = some (0, t') ∧ _
    rw [g53, gd_of (inb_n (by omega) (by omega)), nI_clamp (by omega), g27, show (13 : Int32) = nI 13 from rfl, show (19 : Int32) = nI 19 from rfl]
    show ∃ t', (if nI x = nI 13 then _ else _) = some (0, t') ∧ _
    unfold fX10_unwinds_J62
    rw [g54]
    by_cases c1 : x = 13
    · rw [if_pos (by rw [c1])]
      refine go _ _ ?_
      rw [if_pos (Or.inr (Or.inl c1)), show (1 : Int32) = nI 1 from rfl, pk_sub (by omega)]
      congr 1
      omega
    rw [if_neg (fun z => c1 ((nI_eq (by omega) (by omega)).mp z))]
    by_cases c2 : x = 19
    · rw [if_pos (by rw [c2])]
      refine go _ _ ?_
      rw [if_pos (Or.inr (Or.inr c2)), show (1 : Int32) = nI 1 from rfl, pk_sub (by omega)]
      congr 1
      omega
    rw [if_neg (fun z => c2 ((nI_eq (by omega) (by omega)).mp z))]
    refine go _ _ ?_
    rw [if_neg (by omega), Nat.zero_add]
    show nI (opn (P ++ S)) - nI 0 = _
    rw [pk_sub (by omega), Nat.sub_zero]
theorem e_unw {B : Nat → Nat} {L j p r : Nat} (hj : j < 6) (hr : 1 ≤ r) (hr7 : r ≤ 7) {P S M : List Nat} {t : xM} (hP : ∀ x ∈ P, x ≤ 19 ∧ r ≤ rk x) (hS : ∀ x ∈ S, x ≤ 19) (hT : tp S r) (hM : M.length + P.length ≤ 200) (hl : (P ++ S).length ≤ 200) (h : mdl B L j t p (P ++ S) M) : ∃ t', fX10_unwinds (nI r) t = some (0, t') ∧ mdl B L j t' p S (M ++ P) ∧ Fr (sP j) t t' := by
  obtain ⟨f, hf⟩ := fu_big
  unfold fX10_unwinds
  rw [hf]
  rw [List.length_append] at hl
  exact l_unw hj hr hr7 P S M t (f + 4000) (by omega) hP hS hT hM (by rw [List.length_append]; omega) h
