/-! ===== text: the model's steps ===== -/
def tkR (k : Nat) : Prop := k = 0 ∨ k = 1 ∨ k = 2 ∨ k = 3 ∨ k = 4 ∨ k = 5 ∨ k = 6 ∨ k = 7 ∨ k = 8 ∨ k = 9 ∨ k = 40 ∨ k = 41 ∨ k = 59 ∨ k = 43 ∨ k = 45 ∨ k = 42 ∨ k = 60 ∨ k = 61
theorem kdW_le {w : Nat} (h : w ≤ 12) : kdW w ≤ 9 := by
  unfold kdW
  repeat' split
  all_goals omega
theorem tW_le (B : Nat → Nat) (L p : Nat) : tW B L p ≤ 12 := by
  unfold tW wdN
  split
  · exact wdI_le _
  · exact Nat.le_refl _
theorem tK_R (B : Nat → Nat) (L p : Nat) : tkR (tK B L p) := by
  have a := kdW_le (tW_le B L p)
  unfold tK tkR
  by_cases c : L ≤ tS B L p
  · rw [if_pos c]
    omega
  rw [if_neg c]
  by_cases cL : isL (B (tS B L p)) = true
  · rw [if_pos cL]
    omega
  rw [if_neg cL]
  by_cases cD : isD (B (tS B L p)) = true
  · rw [if_pos cD]
    by_cases y : tN B L p - tS B L p ≤ 4
    · rw [if_pos y]
      omega
    · rw [if_neg y]
      omega
  rw [if_neg cD]
  by_cases cS : isS (B (tS B L p)) = true
  · rw [if_pos cS]
    unfold isS at cS
    have := of_decide_eq_true cS
    omega
  · rw [if_neg cS]
    omega
theorem mkT_e {k : Nat} (h : tkR k) : (mkT k = 59 ↔ k = 59) ∧ (mkT k = 41 ↔ k = 41) ∧ (mkT k = 1 ↔ k = 2) ∧ (mkT k = 2 ↔ k = 3) ∧ (mkT k = 6 ↔ k = 9) ∧ (mkT k = 45 ↔ k = 45) ∧ (mkT k = 40 ↔ k = 40) ∧ (mkT k = 3 ↔ 4 ≤ k ∧ k ≤ 6) ∧ (mkT k = 0 ↔ k = 0) := by
  unfold tkR at h
  rcases h with rfl | rfl | rfl | rfl | rfl | rfl | rfl | rfl | rfl | rfl | rfl | rfl | rfl | rfl | rfl | rfl | rfl | rfl <;> decide
def sO (k : Nat) : Nat := if k = 7 then 11 else if k = 8 then 12 else if k = 60 then 14 else if k = 61 then 15 else if k = 43 then 16 else if k = 45 then 17 else if k = 42 then 18 else 0
theorem e_signOf {k : Nat} (h : tkR k) {t : xM} (e : gi t 0 49 = mkT k) : fX10_signOf t = some (if sO k = 0 then (-1 : Int32) else nI (sO k), t) := by
  unfold fX10_signOf
  rw [e]
  unfold tkR at h
  rcases h with rfl | rfl | rfl | rfl | rfl | rfl | rfl | rfl | rfl | rfl | rfl | rfl | rfl | rfl | rfl | rfl | rfl | rfl <;> rfl
theorem nmB_lt {B : Nat → Nat} {st : Nat} : ∀ k, (∀ i, i < k → B (st + i) ≤ 57) → nmB B st k < 10 ^ k := by
  intro k
  induction k with
  | zero => exact fun _ => (by decide : 0 < 1)
  | succ k ih =>
    intro h
    have a := ih fun i hi => h i (by omega)
    have b := h k (by omega)
    show nmB B st k * 10 + (B (st + k) - 48) < 10 ^ k * 10
    omega
theorem tV_2 {B : Nat → Nat} {L p : Nat} (h : tK B L p = 2) : tV B L p < 10000 := by
  unfold tK at h
  by_cases c : L ≤ tS B L p
  · rw [if_pos c] at h
    omega
  rw [if_neg c] at h
  by_cases cL : isL (B (tS B L p)) = true
  · rw [if_pos cL] at h
    unfold kdW at h
    by_cases a : tW B L p < 3
    · rw [if_pos a] at h
      omega
    rw [if_neg a] at h
    by_cases b : tW B L p < 9
    · rw [if_pos b] at h
      omega
    rw [if_neg b] at h
    by_cases d : tW B L p < 12
    · rw [if_pos d] at h
      omega
    · rw [if_neg d] at h
      omega
  rw [if_neg cL] at h
  by_cases cD : isD (B (tS B L p)) = true
  · rw [if_pos cD] at h
    by_cases y : tN B L p - tS B L p ≤ 4
    · unfold tV
      rw [if_neg cL]
      have n0 : tN B L p = rn isD B (L - tS B L p) (tS B L p) := by
        unfold tN
        rw [if_neg c, if_neg cL, if_pos cD]
      have al := rn_all isD B (L - tS B L p) (tS B L p)
      rw [← n0] at al
      have lt := nmB_lt (B := B) (st := tS B L p) (tN B L p - tS B L p) fun i hi => by
        have x := al (tS B L p + i) (by omega) (by omega)
        unfold isD at x
        have := of_decide_eq_true x
        omega
      have l2 : 10 ^ (tN B L p - tS B L p) ≤ 10 ^ 4 := Nat.pow_le_pow_right (by omega) y
      omega
    · rw [if_neg y] at h
      omega
  rw [if_neg cD] at h
  by_cases cS : isS (B (tS B L p)) = true
  · rw [if_pos cS] at h
    unfold isS at cS
    have := of_decide_eq_true cS
    omega
  · rw [if_neg cS] at h
    omega
theorem tV_3 {B : Nat → Nat} {L p : Nat} (h : tK B L p = 3) : tV B L p < 6 := by
  have k0 := h
  unfold tK at h
  by_cases c : L ≤ tS B L p
  · rw [if_pos c] at h
    omega
  rw [if_neg c] at h
  by_cases cL : isL (B (tS B L p)) = true
  · rw [if_pos cL] at h
    unfold tV
    rw [if_pos cL]
    unfold kdW at h
    by_cases a : tW B L p < 3
    · rw [if_pos a] at h
      omega
    rw [if_neg a] at h
    by_cases b : tW B L p < 9
    · omega
    rw [if_neg b] at h
    by_cases d : tW B L p < 12
    · rw [if_pos d] at h
      omega
    · rw [if_neg d] at h
      omega
  rw [if_neg cL] at h
  by_cases cD : isD (B (tS B L p)) = true
  · rw [if_pos cD] at h
    by_cases y : tN B L p - tS B L p ≤ 4
    · rw [if_pos y] at h
      omega
    · rw [if_neg y] at h
      omega
  rw [if_neg cD] at h
  by_cases cS : isS (B (tS B L p)) = true
  · rw [if_pos cS] at h
    unfold isS at cS
    have := of_decide_eq_true cS
    omega
  · rw [if_neg cS] at h
    omega
theorem tp_mono {S : List Nat} {r r' : Nat} (h : tp S r) (l : r ≤ r') : tp S r' := fun x S' e => Nat.lt_of_lt_of_le (h x S' e) l
theorem tp_cons {x : Nat} {S : List Nat} {r : Nat} (h : rk x < r) : tp (x :: S) r := fun y S' e => by
  cases e
  exact h
theorem tp_nil {r : Nat} : tp [] r := fun x S' e => by cases e
theorem mdl_S {B : Nat → Nat} {L j p : Nat} {t : xM} {S M : List Nat} (h : mdl B L j t p S M) : gi t 0 53 = nI S.length := h.2.2.2.2.1
/-- a sign between two -/
theorem e_btw {B : Nat → Nat} {L j p y : Nat} (hj : j < 6) (hy : y ≤ 19) (hy1 : 1 ≤ rk y) (hy2 : y ≠ 0 ∧ y ≠ 13 ∧ y ≠ 19) {P S M : List Nat} {t : xM} (hP : ∀ x ∈ P, x ≤ 19 ∧ (if rk y = 4 then 5 else rk y) ≤ rk x) (hS : ∀ x ∈ S, x ≤ 19) (hT : tp S (rk y)) (hM : M.length + P.length ≤ 200) (hl : (P ++ S).length < 200) (h : mdl B L j t p (P ++ S) M) : ∃ t', fX10_between (nI y) t = some (1, t') ∧ mdl B L j t' p (y :: S) (M ++ P) ∧ Fr (sP j) t t' := by
  have k7 := rk_le y
  have lenS : S.length < 200 := by
    rw [List.length_append] at hl
    omega
  have opy : opn (y :: S) = opn S := by
    show (if y = 0 ∨ y = 13 ∨ y = 19 then 1 else 0) + opn S = _
    rw [if_neg (by omega), Nat.zero_add]
  unfold fX10_between
  rw [e_rank hy, bd_some, e_rank hy, bd_some, show (4 : Int32) = nI 4 from rfl, show (5 : Int32) = nI 5 from rfl]
  have hold : ∀ t1, mdl B L j t1 p S (M ++ P) → Fr (sP j) t t1 → ∃ t', fX10_between_J55 (nI y) t1 = some (1, t') ∧ mdl B L j t' p (y :: S) (M ++ P) ∧ Fr (sP j) t t' := by
    intro t1 h1 F1
    obtain ⟨t2, e2, q2, F2⟩ := e_holds (x := y) lenS h1
    unfold fX10_between_J55
    rw [e2, bd_some]
    refine ⟨t2, rfl, ?_, Fr_tr F1 (Fr_mono F2 fun c i q => by unfold sP; omega)⟩
    unfold mdl
    rw [opy]
    exact q2
  by_cases c : rk y = 4
  · rw [c] at hP hT ⊢
    rw [if_pos rfl] at hP
    rw [if_pos rfl]
    obtain ⟨t1, e1, q1, F1⟩ := e_unw hj (r := 5) (by omega) (by omega) hP hS (tp_mono hT (by omega)) hM (by omega) h
    unfold fX10_between_J17
    rw [e1, bd_some, e_rank hy, bd_some, c]
    show ∃ t', (if nI 4 = nI 4 then _ else _) = some (1, t') ∧ _
    rw [if_pos rfl, mdl_S q1]
    cases S with
    | nil =>
      rw [if_pos (show nI ([] : List Nat).length ≤ 0 from by decide)]
      exact hold t1 q1 F1
    | cons x S2 =>
      have hx := hS x (List.mem_cons_self ..)
      have lt := hT x S2 rfl
      have l2 : S2.length + 1 < 200 := lenS
      rw [show nI (x :: S2).length = nI (S2.length + 1) from rfl, if_neg (nI_nle (by omega) (by omega)), show nI (S2.length + 1) - (1 : Int32) = nI S2.length from nI_pred _, gd_of (inb_n (by omega) (by omega)), nI_clamp (by omega), q1.2.2.2.2.2.1.1, e_rank hx, bd_some, if_neg (show ¬ nI (rk x) = (4 : Int32) from fun z => by have := (nI_eq (a := rk x) (b := 4) (by omega) (by omega)).mp z; omega)]
      exact hold t1 q1 F1
  · rw [if_neg c] at hP
    rw [if_neg (fun z => c ((nI_eq (by omega) (by omega)).mp z))]
    obtain ⟨t1, e1, q1, F1⟩ := e_unw hj hy1 k7 hP hS hT hM (by omega) h
    unfold fX10_between_J17
    rw [e1, bd_some, e_rank hy, bd_some, if_neg (show ¬ nI (rk y) = (4 : Int32) from fun z => c ((nI_eq (b := 4) (by omega) (by omega)).mp z))]
    exact hold t1 q1 F1
/-- a second comparison -/
theorem e_btwF {B : Nat → Nat} {L j p y c : Nat} (hj : j < 6) (hy : y ≤ 19) (hy4 : rk y = 4) (hc4 : rk c = 4) {P S M : List Nat} {t : xM} (hP : ∀ x ∈ P, x ≤ 19 ∧ 5 ≤ rk x) (hS : ∀ x ∈ c :: S, x ≤ 19) (hM : M.length + P.length ≤ 200) (hl : (P ++ c :: S).length ≤ 200) (h : mdl B L j t p (P ++ c :: S) M) : ∃ t', fX10_between (nI y) t = some (0, t') ∧ Fr (sP j) t t' := by
  have l2 : S.length + 1 ≤ 200 := by
    rw [List.length_append] at hl
    have : (c :: S).length = S.length + 1 := rfl
    omega
  unfold fX10_between
  rw [e_rank hy, bd_some, e_rank hy, bd_some, show (4 : Int32) = nI 4 from rfl, show (5 : Int32) = nI 5 from rfl, hy4, if_pos rfl]
  obtain ⟨t1, e1, q1, F1⟩ := e_unw hj (r := 5) (by omega) (by omega) hP hS (tp_cons (by omega)) hM hl h
  unfold fX10_between_J17
  rw [e1, bd_some, e_rank hy, bd_some, hy4]
  show ∃ t', (if nI 4 = nI 4 then _ else _) = some (0, t') ∧ _
  rw [if_pos rfl, mdl_S q1, show nI (c :: S).length = nI (S.length + 1) from rfl, if_neg (nI_nle (by omega) (by omega)), show nI (S.length + 1) - (1 : Int32) = nI S.length from nI_pred _, gd_of (inb_n (by omega) (by omega)), nI_clamp (by omega), q1.2.2.2.2.2.1.1, e_rank (hS c (List.mem_cons_self ..)), bd_some, hc4]
  exact ⟨t1, rfl, F1⟩
theorem split19 : ∀ S : List Nat, ∃ N S0, S = N ++ S0 ∧ (∀ x ∈ N, x = 19) ∧ ((∀ x ∈ S, x ≤ 19) → tp S0 7) := by
  intro S
  induction S with
  | nil => exact ⟨[], [], rfl, fun x h => (by cases h), fun _ => tp_nil⟩
  | cons x S ih =>
    by_cases c : x = 19
    · obtain ⟨N, S0, e, h1, h2⟩ := ih
      refine ⟨19 :: N, S0, by rw [c, e]; rfl, fun y hy => ?_, fun h => h2 fun y hy => h y (List.mem_cons_of_mem _ hy)⟩
      rcases List.mem_cons.mp hy with rfl | hy
      · rfl
      · exact h1 y hy
    · refine ⟨[], x :: S, rfl, fun y h => (by cases h), fun h => tp_cons ?_⟩
      have := h x (List.mem_cons_self ..)
      unfold rk
      repeat' split
      all_goals omega
/-! the loop -/
def z0 (s : xM) : Option (Int32 × xM) := some ((0 : Int32), s)
def zE (s : xM) : Option (Int32 × xM) := bd (fX10_unwinds (1 : Int32) s) fun _ s11 => if (gi s11 0 53) = 0 then some ((1 : Int32), s11) else some ((0 : Int32), s11)
def LL (m : Nat) (a1 a2 : Int32) (t : xM) : Option (Int32 × xM) := fX10_eRead_L14 z0 z0 z0 z0 zE z0 z0 m a1 a2 t
theorem LL_a2 : ∀ m a2 t, LL m 0 a2 t = LL m 0 0 t := by
  intro m
  induction m with
  | zero => exact fun _ _ => rfl
  | succ m ih =>
    intro a2 t
    unfold LL fX10_eRead_L14
    congr 1
    funext _ s2
    rw [if_pos rfl, if_pos rfl]
    congr 1
    congr 1
    congr 1
    funext _ s17
    congr 1
    simp only [lz]
    congr 1
    funext _ s25
    exact ih a2 s25
def lnk (j : Nat) (a a2 : Int32) (t : xM) (p : Nat) (b b2 : Int32) (t' : xM) (p' : Nat) : Prop := Fr (mP j) t t' ∧ ∀ m, 161 ≤ m + p → ∃ m', 161 ≤ m' + p' ∧ LL m a a2 t = LL m' b b2 t'
def flt (j : Nat) (a a2 : Int32) (t : xM) (p : Nat) (w : Int32) : Prop := (∃ v, v ≤ 160 ∧ w = nI v) ∧ ∀ m, 161 ≤ m + p → ∃ t', LL m a a2 t = some (0, t') ∧ gi t' 0 48 = w ∧ Fr (mP j) t t'
theorem lnk_tr {j : Nat} {a a2 b b2 c c2 : Int32} {t t' t'' : xM} {p p' p'' : Nat} (h : lnk j a a2 t p b b2 t' p') (g : lnk j b b2 t' p' c c2 t'' p'') : lnk j a a2 t p c c2 t'' p'' := by
  refine ⟨Fr_tr h.1 g.1, fun m hm => ?_⟩
  obtain ⟨m1, q1, e1⟩ := h.2 m hm
  obtain ⟨m2, q2, e2⟩ := g.2 m1 q1
  exact ⟨m2, q2, e1.trans e2⟩
theorem lnk_rf {j : Nat} {a a2 : Int32} {t : xM} {p : Nat} : lnk j a a2 t p a a2 t p := ⟨Fr_rf, fun m hm => ⟨m, hm, rfl⟩⟩
theorem lnk_f {j : Nat} {a a2 b b2 : Int32} {t t' : xM} {p p' : Nat} {w : Int32} (h : lnk j a a2 t p b b2 t' p') (g : flt j b b2 t' p' w) : flt j a a2 t p w := by
  refine ⟨g.1, fun m hm => ?_⟩
  obtain ⟨m1, q1, e1⟩ := h.2 m hm
  obtain ⟨t2, e2, q2, F2⟩ := g.2 m1 q1
  exact ⟨t2, e1.trans e2, q2, Fr_tr h.1 F2⟩
theorem mTkn_mP {j : Nat} (c i : Nat) (h : mTkn c i) : mP j c i := by
  unfold mTkn at h
  unfold mP
  omega
/-- a number or a name -/
theorem T_num {B : Nat → Nat} {L j p : Nat} (hB : bts B L) (hj : j < 6) (hp : p ≤ L) {t : xM} {S C : List Nat} {fl : Int32} (hk : tK B L p = 2 ∨ tK B L p = 3) (h : mdl B L j t p S C) (hS : ∀ x ∈ S, x ≤ 19) (hl : C.length + S.length ≤ p) : ∃ t' N S0, S = N ++ S0 ∧ (∀ x ∈ N, x = 19) ∧ tp S0 7 ∧ lnk j 1 fl t p 0 0 t' (tN B L p) ∧ mdl B L j t' (tN B L p) S0 (C ++ [if tK B L p = 2 then 100000 + tV B L p else tV B L p] ++ N) := by
  obtain ⟨N, S0, eS, hN, hT⟩ := split19 S
  have hT := hT hS
  obtain ⟨t1, e1, q1, g9, g8, gv, _, F1⟩ := e_nextM hB hp h
  have hl1 := hB.1
  have gt := tN_gt (B := B) (L := L) (p := p) (by omega)
  obtain ⟨t2, e2, q2, F2⟩ := e_puts (x := if tK B L p = 2 then 100000 + tV B L p else tV B L p) hj (by omega) q1
  have lS : N.length + S0.length ≤ 160 := by
    have := congrArg List.length eS
    rw [List.length_append] at this
    omega
  rw [eS] at q2
  obtain ⟨t3, e3, q3, F3⟩ := e_unw (r := 7) hj (by omega) (by omega) (fun x hx => by rw [hN x hx]; exact ⟨by omega, by decide⟩) (fun x hx => hS x (by rw [eS]; exact List.mem_append_right _ hx)) hT (by rw [List.length_append]; have : [if tK B L p = 2 then 100000 + tV B L p else tV B L p].length = 1 := rfl; have := congrArg List.length eS; rw [List.length_append] at this; omega) (by rw [List.length_append]; omega) q2
  refine ⟨t3, N, S0, eS, hN, hT, ⟨Fr_tr (Fr_tr (Fr_mono F1 mTkn_mP) (Fr_mono F2 fun c i q => by unfold mP; omega)) (Fr_mono F3 sP_mP), fun m hm => ?_⟩, q3⟩
  obtain ⟨m, rfl⟩ : ∃ n', m = n' + 1 := ⟨m - 1, by omega⟩
  refine ⟨m, by omega, ?_⟩
  have mk := mkT_e (tK_R B L p)
  rw [← LL_a2 m fl t3]
  unfold LL
  rw [fX10_eRead_L14]
  rw [e1, bd_some, if_neg n10, g9]
  have fin : ∀ t0, t0 = nI (if tK B L p = 2 then 100000 + tV B L p else tV B L p) → fX10_eRead_J62 z0 z0 z0 z0 zE z0 z0 (fX10_eRead_L14 z0 z0 z0 z0 zE z0 z0 m) fl t0 t1 = fX10_eRead_L14 z0 z0 z0 z0 zE z0 z0 m 0 fl t3 := by
    intro t0 e0
    unfold fX10_eRead_J62
    rw [e0, e2, bd_some, show (7 : Int32) = nI 7 from rfl, e3, bd_some]
  have j38 : fX10_eRead_J38 z0 z0 z0 z0 zE z0 z0 (fX10_eRead_L14 z0 z0 z0 z0 zE z0 z0 m) fl t1 = fX10_eRead_L14 z0 z0 z0 z0 zE z0 z0 m 0 fl t3 := by
    unfold fX10_eRead_J38
    rw [g9, gv hk]
    by_cases c : tK B L p = 2
    · rw [if_pos (mk.2.2.1.mpr c)]
      refine fin _ ?_
      rw [if_pos c, show (100000 : Int32) = nI 100000 from rfl, nI_add]
    · rw [if_neg (fun z => c (mk.2.2.1.mp z))]
      refine fin _ ?_
      rw [if_neg c]
  by_cases c : tK B L p = 2
  · rw [if_pos (mk.2.2.1.mpr c)]
    exact j38
  · rw [if_neg (fun z => c (mk.2.2.1.mp z)), if_pos (mk.2.2.2.1.mpr (by omega))]
    exact j38
/-- an opening sign -/
theorem T_open {B : Nat → Nat} {L j p x : Nat} (hB : bts B L) (hj : j < 6) (hp : p ≤ L) {t : xM} {S C : List Nat} {fl fl' : Int32} (hk : (tK B L p = 45 ∧ x = 19 ∧ fl' = 0) ∨ (tK B L p = 40 ∧ x = 0 ∧ fl' = 1) ∨ (tK B L p = 9 ∧ x = 13 ∧ fl = 1 ∧ fl' = 1)) (h : mdl B L j t p S C) (hl : C.length + S.length ≤ p) (ho : opn S ≤ 5) : (opn S = 5 ∧ flt j 1 fl t p (nI (tS B L p))) ∨ (opn S < 5 ∧ ∃ t', lnk j 1 fl t p 1 fl' t' (tN B L p) ∧ mdl B L j t' (tN B L p) (x :: S) C) := by
  obtain ⟨t1, e1, q1, g9, g8, _, _, F1⟩ := e_nextM hB hp h
  have hl1 := hB.1
  have gt := tN_gt (B := B) (L := L) (p := p) (by omega)
  have mk := mkT_e (tK_R B L p)
  have step : ∀ m, LL (m + 1) 1 fl t = bd (fX10_opensOne (nI x) t1) (fun r s => if r = 0 then some (0, s) else LL m 1 fl' s) := by
    intro m
    unfold LL
    rw [fX10_eRead_L14, e1, bd_some, if_neg n10, g9, if_neg (fun z => by have := mk.2.2.1.mp z; omega), if_neg (fun z => by have := mk.2.2.2.1.mp z; omega)]
    rcases hk with ⟨k, rfl, rfl⟩ | ⟨k, rfl, rfl⟩ | ⟨k, rfl, rfl, rfl⟩
    · rw [if_neg (fun z => by have := mk.2.2.2.2.1.mp z; omega)]
      unfold fX10_eRead_J100
      rw [g9, if_pos (mk.2.2.2.2.2.1.mpr k)]
      rfl
    · rw [if_neg (fun z => by have := mk.2.2.2.2.1.mp z; omega)]
      unfold fX10_eRead_J100
      rw [g9, if_neg (fun z => by have := mk.2.2.2.2.2.1.mp z; omega), if_pos (mk.2.2.2.2.2.2.1.mpr k)]
      rfl
    · rw [if_pos (mk.2.2.2.2.1.mpr k), if_neg n10]
      rfl
  rcases e_opens (x := x) (by omega) (by omega) q1 ho with ⟨o5, e2⟩ | ⟨o5, t2, e2, q2, F2⟩
  · refine Or.inl ⟨o5, ⟨tS B L p, Nat.le_trans (tS_le hp) hl1, rfl⟩, fun m hm => ?_⟩
    obtain ⟨m, rfl⟩ : ∃ n', m = n' + 1 := ⟨m - 1, by omega⟩
    refine ⟨t1, ?_, g8, Fr_mono F1 mTkn_mP⟩
    rw [step, e2, bd_some]
    rfl
  · refine Or.inr ⟨o5, t2, ⟨Fr_tr (Fr_mono F1 mTkn_mP) (Fr_mono F2 sP_mP), fun m hm => ?_⟩, q2⟩
    obtain ⟨m, rfl⟩ : ∃ n', m = n' + 1 := ⟨m - 1, by omega⟩
    refine ⟨m, by omega, ?_⟩
    rw [step, e2, bd_some, if_neg n10]
/-- none that can stand there -/
theorem T_bad1 {B : Nat → Nat} {L j p : Nat} (hB : bts B L) (hp : p ≤ L) {t : xM} {S C : List Nat} {fl : Int32} (hk : tK B L p ≠ 2 ∧ tK B L p ≠ 3 ∧ tK B L p ≠ 40 ∧ tK B L p ≠ 45 ∧ (tK B L p = 9 → fl = 0)) (h : mdl B L j t p S C) : flt j 1 fl t p (nI (tS B L p)) := by
  obtain ⟨t1, e1, q1, g9, g8, _, _, F1⟩ := e_nextM hB hp h
  have hl1 := hB.1
  have mk := mkT_e (tK_R B L p)
  refine ⟨⟨tS B L p, Nat.le_trans (tS_le hp) hl1, rfl⟩, fun m hm => ?_⟩
  obtain ⟨m, rfl⟩ : ∃ n', m = n' + 1 := ⟨m - 1, by omega⟩
  refine ⟨t1, ?_, g8, Fr_mono F1 mTkn_mP⟩
  unfold LL
  rw [fX10_eRead_L14, e1, bd_some, if_neg n10, g9, if_neg (fun z => by have := mk.2.2.1.mp z; omega), if_neg (fun z => by have := mk.2.2.2.1.mp z; omega)]
  have e : ∀ b, fX10_eRead_J100 z0 z0 z0 z0 zE z0 z0 b 1 t1 = some (0, t1) := by
    intro b
    unfold fX10_eRead_J100
    rw [g9, if_neg (fun z => by have := mk.2.2.2.2.2.1.mp z; omega), if_neg (fun z => by have := mk.2.2.2.2.2.2.1.mp z; omega)]
    rfl
  by_cases c : tK B L p = 9
  · rw [if_pos (mk.2.2.2.2.1.mpr c), if_pos (hk.2.2.2.2 c)]
    exact e _
  · rw [if_neg (fun z => c (mk.2.2.2.2.1.mp z))]
    exact e _
theorem sO_c {k : Nat} (h : sO k ≠ 0) : (k = 7 ∧ sO k = 11) ∨ (k = 8 ∧ sO k = 12) ∨ (k = 60 ∧ sO k = 14) ∨ (k = 61 ∧ sO k = 15) ∨ (k = 43 ∧ sO k = 16) ∨ (k = 45 ∧ sO k = 17) ∨ (k = 42 ∧ sO k = 18) := by
  unfold sO at h ⊢
  by_cases a1 : k = 7
  · subst a1
    exact Or.inl ⟨rfl, rfl⟩
  by_cases a2 : k = 8
  · subst a2
    exact Or.inr (Or.inl ⟨rfl, rfl⟩)
  by_cases a3 : k = 60
  · subst a3
    exact Or.inr (Or.inr (Or.inl ⟨rfl, rfl⟩))
  by_cases a4 : k = 61
  · subst a4
    exact Or.inr (Or.inr (Or.inr (Or.inl ⟨rfl, rfl⟩)))
  by_cases a5 : k = 43
  · subst a5
    exact Or.inr (Or.inr (Or.inr (Or.inr (Or.inl ⟨rfl, rfl⟩))))
  by_cases a6 : k = 45
  · subst a6
    exact Or.inr (Or.inr (Or.inr (Or.inr (Or.inr (Or.inl ⟨rfl, rfl⟩)))))
  by_cases a7 : k = 42
  · subst a7
    exact Or.inr (Or.inr (Or.inr (Or.inr (Or.inr (Or.inr ⟨rfl, rfl⟩)))))
  · rw [if_neg a1, if_neg a2, if_neg a3, if_neg a4, if_neg a5, if_neg a6, if_neg a7] at h
    exact absurd rfl h
/-- a joining sign -/
theorem T_sign {B : Nat → Nat} {L j p : Nat} (hB : bts B L) (hj : j < 6) (hp : p ≤ L) {t : xM} {P S M : List Nat} (hk : sO (tK B L p) ≠ 0) (h : mdl B L j t p (P ++ S) M) (hP : ∀ x ∈ P, x ≤ 19 ∧ (if rk (sO (tK B L p)) = 4 then 5 else rk (sO (tK B L p))) ≤ rk x) (hS : ∀ x ∈ S, x ≤ 19) (hT : tp S (rk (sO (tK B L p)))) (hM : M.length + P.length + S.length ≤ p) : ∃ t', lnk j 0 0 t p 1 (if 12 < sO (tK B L p) then 0 else 1) t' (tN B L p) ∧ mdl B L j t' (tN B L p) (sO (tK B L p) :: S) (M ++ P) := by
  obtain ⟨t1, e1, q1, g9, g8, _, _, F1⟩ := e_nextM hB hp h
  have hl1 := hB.1
  have sc := sO_c hk
  have gt := tN_gt (B := B) (L := L) (p := p) (by omega)
  have mk := mkT_e (tK_R B L p)
  have rk1 : 1 ≤ rk (sO (tK B L p)) ∧ sO (tK B L p) ≤ 19 ∧ sO (tK B L p) ≠ 0 ∧ sO (tK B L p) ≠ 13 ∧ sO (tK B L p) ≠ 19 := by
    rcases sc with ⟨_, e⟩ | ⟨_, e⟩ | ⟨_, e⟩ | ⟨_, e⟩ | ⟨_, e⟩ | ⟨_, e⟩ | ⟨_, e⟩ <;> rw [e] <;> decide
  obtain ⟨t2, e2, q2, F2⟩ := e_btw (y := sO (tK B L p)) hj rk1.2.1 rk1.1 rk1.2.2 hP hS hT (by omega) (by rw [List.length_append]; omega) q1
  refine ⟨t2, ⟨Fr_tr (Fr_mono F1 mTkn_mP) (Fr_mono F2 sP_mP), fun m hm => ?_⟩, q2⟩
  obtain ⟨m, rfl⟩ : ∃ n', m = n' + 1 := ⟨m - 1, by omega⟩
  refine ⟨m, by omega, ?_⟩
  unfold LL
  rw [fX10_eRead_L14, e1, bd_some, if_pos rfl, g9, if_neg (fun z => by have := mk.1.mp z; omega), if_neg (fun z => by have := mk.2.1.mp z; omega), e_signOf (tK_R B L p) g9, if_neg hk, bd_some, if_neg (nI_m1 (by omega)), e2, bd_some, if_neg n10, show (12 : Int32) = nI 12 from rfl]
  by_cases c : 12 < sO (tK B L p)
  · rw [if_pos (nI_lt c (by omega)), if_pos c]
  · rw [if_neg (nI_nlt (by omega) (by omega)), if_neg c]
/-- a closing sign -/
theorem T_close {B : Nat → Nat} {L j p : Nat} (hB : bts B L) (hj : j < 6) (hp : p ≤ L) {t : xM} {P S M : List Nat} (hk : tK B L p = 41) (h : mdl B L j t p (P ++ 0 :: S) M) (hP : ∀ x ∈ P, x ≤ 19 ∧ 1 ≤ rk x) (hS : ∀ x ∈ S, x ≤ 19) (hM : M.length + P.length + (S.length + 1) ≤ p) : ∃ t' N S0, S = N ++ S0 ∧ (∀ x ∈ N, x = 19) ∧ tp S0 7 ∧ lnk j 0 0 t p 0 0 t' (tN B L p) ∧ mdl B L j t' (tN B L p) S0 (M ++ P ++ N) := by
  obtain ⟨N, S0, eS, hN, hT⟩ := split19 S
  have hT := hT hS
  obtain ⟨t1, e1, q1, g9, g8, _, _, F1⟩ := e_nextM hB hp h
  have hl1 := hB.1
  have gt := tN_gt (B := B) (L := L) (p := p) (by omega)
  have mk := mkT_e (tK_R B L p)
  have l0 : (0 :: S).length = S.length + 1 := rfl
  have hS0 : ∀ x ∈ 0 :: S, x ≤ 19 := fun x hx => by
    rcases List.mem_cons.mp hx with rfl | hx
    · omega
    · exact hS x hx
  obtain ⟨t2, e2, q2, F2⟩ := e_unw (r := 1) hj (by omega) (by omega) hP hS0 (tp_cons (by decide)) (by omega) (by rw [List.length_append]; omega) q1
  obtain ⟨h1, h2, h3, h4, h5, h6, h7, h8, h9⟩ := q2
  have h5' : gi t2 0 53 = nI (S.length + 1) := h5
  have h7' : gi t2 0 54 = nI (1 + opn S) := h7
  have F : Fr (fun c i => c = 0 ∧ (i = 53 ∨ i = 54)) t2 (si (si t2 0 53 (nI S.length)) 0 54 (nI (opn S))) := Fr_si (Fr_si Fr_rf _ (by omega)) _ (by omega)
  have q3 : mdl B L j (si (si t2 0 53 (nI S.length)) 0 54 (nI (opn S))) (tN B L p) (N ++ S0) (M ++ P) := by
    rw [← eS]
    refine ⟨tpM_fr h1 F (fun c i q => by omega), fun k hk => ?_, ?_, ?_, ?_, ?_, gi_same _ _ _ _, ?_, fun i hi => ?_⟩
    · rw [(F _ _ (by omega)).2]
      exact h2 k hk
    · rw [(F _ _ (by omega)).1]
      exact h3
    · rw [(F _ _ (by omega)).1]
      exact h4
    · rw [gi_si, if_neg (by omega), gi_same]
    · exact stk_eq _ (fun i _ => (F _ _ (by omega)).1) h6.2
    · rw [(F _ _ (by omega)).1]
      exact h8
    · rw [(F _ _ (by omega)).1]
      exact h9 i hi
  have lS : N.length + S0.length = S.length := by
    have := congrArg List.length eS
    rw [List.length_append] at this
    omega
  obtain ⟨t4, e4, q4, F4⟩ := e_unw (r := 7) hj (by omega) (by omega) (fun x hx => by rw [hN x hx]; exact ⟨by omega, by decide⟩) (fun x hx => hS x (by rw [eS]; exact List.mem_append_right _ hx)) hT (by rw [List.length_append]; omega) (by rw [List.length_append]; omega) q3
  refine ⟨t4, N, S0, eS, hN, hT, ⟨Fr_tr (Fr_tr (Fr_tr (Fr_mono F1 mTkn_mP) (Fr_mono F2 sP_mP)) (Fr_mono F fun c i q => by unfold mP; omega)) (Fr_mono F4 sP_mP), fun m hm => ?_⟩, q4⟩
  obtain ⟨m, rfl⟩ : ∃ n', m = n' + 1 := ⟨m - 1, by omega⟩
  refine ⟨m, by omega, ?_⟩
  unfold LL
  rw [fX10_eRead_L14, e1, bd_some, if_pos rfl, g9, if_neg (fun z => by have := mk.1.mp z; omega), if_pos (mk.2.1.mpr hk), show (1 : Int32) = nI 1 from rfl, e2, bd_some, h5', if_neg (nI_ne0 (by omega) (by omega)), show nI (S.length + 1) - nI 1 = nI S.length from nI_pred _]
  simp only [lz]
  have f54 : gi (si t2 0 53 (nI S.length)) 0 54 = nI (1 + opn S) := by
    rw [gi_si, if_neg (by omega)]
    exact h7'
  rw [f54, pk_sub (by omega), show 1 + opn S - 1 = opn S by omega, show (7 : Int32) = nI 7 from rfl, e4, bd_some]
def cmpB (P : List Nat) : Prop := ∃ hi c lo, P = hi ++ c :: lo ∧ rk c = 4 ∧ ∀ x ∈ hi, 5 ≤ rk x
def nx (l k : Nat) (P : List Nat) : Prop := (l ≤ 4 → k ≠ 42) ∧ (l ≤ 3 → k ≠ 43 ∧ k ≠ 45) ∧ (l ≤ 2 → k = 60 ∨ k = 61 → cmpB P) ∧ (l ≤ 1 → k ≠ 8) ∧ (l = 0 → k ≠ 7)
/-- none that can stand behind -/
theorem T_bad0 {B : Nat → Nat} {L j p : Nat} (hB : bts B L) (hj : j < 6) (hp : p ≤ L) {t : xM} {P S M : List Nat} (h : mdl B L j t p (P ++ S) M) (hP : ∀ x ∈ P, x ≤ 19 ∧ 1 ≤ rk x) (hS : ∀ x ∈ S, x ≤ 19) (hn : nx 0 (tK B L p) P) (hM : M.length + P.length + S.length ≤ p) (hk : (S = [] ∧ tK B L p ≠ 59) ∨ ∃ S', S = 0 :: S' ∧ tK B L p ≠ 41) : flt j 0 0 t p (nI (tS B L p)) := by
  obtain ⟨t1, e1, q1, g9, g8, _, _, F1⟩ := e_nextM hB hp h
  have hl1 := hB.1
  have mk := mkT_e (tK_R B L p)
  have hT : tp S 1 := by
    rcases hk with ⟨e, _⟩ | ⟨S', e, _⟩
    · rw [e]
      exact tp_nil
    · rw [e]
      exact tp_cons (by decide)
  have fr : ∀ t2, Fr (sP j) t1 t2 → gi t2 0 48 = nI (tS B L p) ∧ Fr (mP j) t t2 := fun t2 F2 => by
    refine ⟨?_, Fr_tr (Fr_mono F1 mTkn_mP) (Fr_mono F2 sP_mP)⟩
    rw [(F2 _ _ (by unfold sP; omega)).1]
    exact g8
  refine ⟨⟨tS B L p, Nat.le_trans (tS_le hp) hl1, rfl⟩, fun m hm => ?_⟩
  obtain ⟨m, rfl⟩ : ∃ n', m = n' + 1 := ⟨m - 1, by omega⟩
  unfold LL
  rw [fX10_eRead_L14, e1, bd_some, if_pos rfl, g9]
  by_cases c1 : tK B L p = 59
  · rw [if_pos (mk.1.mpr c1)]
    rcases hk with ⟨e, z⟩ | ⟨S', e, _⟩
    · exact absurd c1 z
    · obtain ⟨t2, e2, q2, F2⟩ := e_unw (r := 1) hj (by omega) (by omega) hP hS hT (by omega) (by rw [List.length_append]; omega) q1
      have h5 := mdl_S q2
      have l0 : S.length = S'.length + 1 := by rw [e]; rfl
      refine ⟨t2, ?_, fr t2 F2⟩
      unfold zE
      rw [show (1 : Int32) = nI 1 from rfl, e2, bd_some, h5, if_neg (nI_ne0 (by omega) (by omega))]
  rw [if_neg (fun z => c1 (mk.1.mp z))]
  by_cases c2 : tK B L p = 41
  · rw [if_pos (mk.2.1.mpr c2)]
    rcases hk with ⟨e, _⟩ | ⟨S', e, z⟩
    · obtain ⟨t2, e2, q2, F2⟩ := e_unw (r := 1) hj (by omega) (by omega) hP hS hT (by omega) (by rw [List.length_append]; omega) q1
      have h5 := mdl_S q2
      refine ⟨t2, ?_, fr t2 F2⟩
      rw [show (1 : Int32) = nI 1 from rfl, e2, bd_some, h5, e]
      rfl
    · exact absurd c2 z
  rw [if_neg (fun z => c2 (mk.2.1.mp z)), e_signOf (tK_R B L p) g9]
  by_cases c3 : sO (tK B L p) = 0
  · rw [if_pos c3, bd_some, if_pos rfl]
    exact ⟨t1, rfl, fr t1 Fr_rf⟩
  · rw [if_neg c3, bd_some]
    have sc := sO_c c3
    obtain ⟨n1, n2, n3, n4, n5⟩ := hn
    have n1 := n1 (by omega)
    have n2 := n2 (by omega)
    have n4 := n4 (by omega)
    have n5 := n5 rfl
    obtain ⟨hi, c, lo, eP, rc, hhi⟩ := n3 (by omega) (by omega)
    have y4 : rk (sO (tK B L p)) = 4 ∧ sO (tK B L p) ≤ 19 := by
      have : sO (tK B L p) = 14 ∨ sO (tK B L p) = 15 := by omega
      rcases this with e | e <;> rw [e] <;> decide
    rw [if_neg (nI_m1 (by omega))]
    have lP : P.length = hi.length + (lo.length + 1) := by
      rw [eP, List.length_append]
      rfl
    have q1' : mdl B L j t1 (tN B L p) (hi ++ c :: (lo ++ S)) M := by
      have : P ++ S = hi ++ c :: (lo ++ S) := by rw [eP, List.append_assoc]; rfl
      rw [← this]
      exact q1
    obtain ⟨t2, e2, F2⟩ := e_btwF (y := sO (tK B L p)) hj y4.2 y4.1 rc (fun x hx => ⟨(hP x (by rw [eP]; exact List.mem_append_left _ hx)).1, hhi x hx⟩) (fun x hx => by
      rcases List.mem_cons.mp hx with rfl | hx
      · exact (hP x (by rw [eP]; exact List.mem_append_right _ (List.mem_cons_self ..))).1
      · rcases List.mem_append.mp hx with hx | hx
        · exact (hP x (by rw [eP]; exact List.mem_append_right _ (List.mem_cons_of_mem _ hx))).1
        · exact hS x hx) (by omega) (by rw [List.length_append, List.length_cons, List.length_append]; omega) q1'
    rw [e2, bd_some, if_pos rfl]
    exact ⟨t2, rfl, fr t2 F2⟩
/-- the end of a part -/
theorem T_end {B : Nat → Nat} {L j p : Nat} (hB : bts B L) (hj : j < 6) (hp : p ≤ L) {t : xM} {P M : List Nat} (h : mdl B L j t p (P ++ []) M) (hP : ∀ x ∈ P, x ≤ 19 ∧ 1 ≤ rk x) (hM : M.length + P.length ≤ p) (hk : tK B L p = 59) : ∃ t', mdl B L j t' (tN B L p) [] (M ++ P) ∧ Fr (mP j) t t' ∧ ∀ m, 161 ≤ m + p → LL m 0 0 t = some (1, t') := by
  obtain ⟨t1, e1, q1, g9, g8, _, _, F1⟩ := e_nextM hB hp h
  have hl1 := hB.1
  have mk := mkT_e (tK_R B L p)
  obtain ⟨t2, e2, q2, F2⟩ := e_unw (r := 1) hj (by omega) (by omega) hP (fun x hx => by cases hx) tp_nil (by omega) (by rw [List.append_nil]; omega) q1
  refine ⟨t2, q2, Fr_tr (Fr_mono F1 mTkn_mP) (Fr_mono F2 sP_mP), fun m hm => ?_⟩
  obtain ⟨m, rfl⟩ : ∃ n', m = n' + 1 := ⟨m - 1, by omega⟩
  unfold LL
  rw [fX10_eRead_L14, e1, bd_some, if_pos rfl, g9, if_pos (mk.1.mpr hk)]
  unfold zE
  rw [show fX10_unwinds 1 t1 = some (0, t2) from e2, bd_some, mdl_S q2]
  rfl
