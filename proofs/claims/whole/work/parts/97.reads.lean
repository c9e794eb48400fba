/-! ===== text: the class's levels against the model's stack ===== -/
def eff : List Nat → Nat → Nat → Prop
  | [], h, h' => h = h'
  | m :: X, h, h' => ∃ g, stH m h g ∧ eff X g h'
theorem eff_app : ∀ (X Y : List Nat) (h g h' : Nat), eff X h g → eff Y g h' → eff (X ++ Y) h h' := by
  intro X
  induction X with
  | nil =>
    intro Y h g h' a b
    have a : h = g := a
    rw [a]
    exact b
  | cons m X ih =>
    rintro Y h g h' ⟨k, a1, a2⟩ b
    exact ⟨k, a1, ih Y k g h' a2 b⟩
def ht (l o : Nat) : Nat := (5 - l) + (5 - o) * 5 + 1
def xOk (X : List Nat) (l o : Nat) : Prop := (∀ x ∈ X, cdOk x) ∧ ∀ h, h + ht l o ≤ 40 → eff X h (h + 1)
theorem xOk_mono {X : List Nat} {l o l' o' : Nat} (h : xOk X l o) (e : ht l o ≤ ht l' o') : xOk X l' o' := ⟨h.1, fun k hk => h.2 k (by omega)⟩
theorem xOk_one {m l o : Nat} (h : (100000 ≤ m ∧ m < 110000) ∨ m < 6) : xOk [m] l o := by
  refine ⟨fun x hx => ?_, fun k hk => ⟨k + 1, ?_, rfl⟩⟩
  · rcases List.mem_cons.mp hx with rfl | hx
    · unfold cdOk
      omega
    · cases hx
  · unfold stH
    rw [if_pos (by omega)]
    unfold ht at hk
    omega
theorem xOk_un {X : List Nat} {l o m : Nat} (h : xOk X l o) (hm : m = 13 ∨ m = 19) : xOk (X ++ [m]) l o := by
  refine ⟨fun x hx => ?_, fun k hk => eff_app X [m] k (k + 1) (k + 1) (h.2 k hk) ⟨k + 1, ?_, rfl⟩⟩
  · rcases List.mem_append.mp hx with hx | hx
    · exact h.1 x hx
    · rcases List.mem_cons.mp hx with rfl | hx
      · unfold cdOk
        omega
      · cases hx
  · unfold stH
    rw [if_neg (by omega), if_pos hm]
    omega
theorem xOk_two {X Y : List Nat} {l o m : Nat} (hl : l ≤ 4) (h : xOk X l o) (g : xOk Y (l + 1) o) (hm : m = 11 ∨ m = 12 ∨ (14 ≤ m ∧ m ≤ 18)) : xOk (X ++ (Y ++ [m])) l o := by
  refine ⟨fun x hx => ?_, fun k hk => eff_app X _ k (k + 1) (k + 1) (h.2 k hk) (eff_app Y _ (k + 1) (k + 1 + 1) (k + 1) (g.2 (k + 1) ?_) ⟨k + 1, ?_, rfl⟩)⟩
  · rcases List.mem_append.mp hx with hx | hx
    · exact h.1 x hx
    · rcases List.mem_append.mp hx with hx | hx
      · exact g.1 x hx
      · rcases List.mem_cons.mp hx with rfl | hx
        · unfold cdOk
          omega
        · cases hx
  · unfold ht at hk ⊢
    omega
  · unfold stH
    rw [if_neg (by omega), if_neg (by omega)]
    omega
def rmin (l : Nat) : Nat := if l = 0 then 1 else if l = 1 then 2 else if l = 2 then 3 else if l = 3 then 5 else if l = 4 then 6 else 8
def bmx (l : Nat) : Nat := if l = 0 then 1 else if l = 1 then 2 else if l = 2 then 4 else if l = 3 then 5 else if l = 4 then 6 else 8
/-- what comes of reading a level -/
def out (B : Nat → Nat) (L j l o : Nat) (fl : Int32) (s t : xM) (p : Nat) (S C : List Nat) (r : Int32) (s' : xM) : Prop := Fr (xP j) s s' ∧ ((r = 0 ∧ flt j 1 fl t p (gi s' 77 3)) ∨ (r = 1 ∧ ∃ t' p' X N S0 P M, S = N ++ S0 ∧ (∀ x ∈ N, x = 19) ∧ lnk j 1 fl t p 0 0 t' p' ∧ p < p' ∧ cls B L j s' p' (C ++ X) ∧ mdl B L j t' p' (P ++ S0) M ∧ C ++ X ++ N = M ++ P ∧ tp S0 7 ∧ p' ≤ L ∧ (C ++ X).length + S.length ≤ p' ∧ (∀ x ∈ P, x ≤ 19 ∧ rmin l ≤ rk x) ∧ nx l (tK B L p') P ∧ xOk X l o))
def RDp (B : Nat → Nat) (L j n l o : Nat) : Prop := ∀ (s t : xM) (p : Nat) (S C : List Nat) (fl : Int32), (l ≤ 2 → fl = 1) → (3 ≤ l → tK B L p = 9 → fl = 0) → cls B L j s p C → mdl B L j t p S C → p ≤ L → opn S = o → (∀ x ∈ S, x ≤ 19) → tp S (bmx l) → C.length + S.length ≤ p → Ok (fRL n j (nI l) (nI o) s) (out B L j l o fl s t p S C)
theorem out_Z {B : Nat → Nat} {L j l o : Nat} {fl : Int32} {s t : xM} {p : Nat} {S C : List Nat} {r : Int32} {s' : xM} (h : out B L j l o fl s t p S C r s') : isZ r = true := by
  rcases h.2 with ⟨e, _⟩ | ⟨e, _⟩
  · rw [e]
    exact isZ0
  · rw [e]
    exact isZ1
theorem no19 {S N S0 : List Nat} {r : Nat} (e : S = N ++ S0) (hN : ∀ x ∈ N, x = 19) (hT : tp S r) (hr : r ≤ 7) : N = [] ∧ S0 = S := by
  cases N with
  | nil => exact ⟨rfl, e.symm⟩
  | cons y N =>
    have := hN y (List.mem_cons_self ..)
    have := hT y (N ++ S0) e
    subst y
    have : rk 19 = 7 := by decide
    omega
theorem cmpB_app {P Q : List Nat} (h : cmpB P) : cmpB (P ++ Q) := by
  obtain ⟨hi, c, lo, e, a, b⟩ := h
  exact ⟨hi, c, lo ++ Q, by rw [e, List.append_assoc]; rfl, a, b⟩
theorem nx_app {l k : Nat} {P Q : List Nat} (h : nx l k P) : nx l k (P ++ Q) := ⟨h.1, h.2.1, fun a b => cmpB_app (h.2.2.1 a b), h.2.2.2.1, h.2.2.2.2⟩
theorem cdX_sO {k : Nat} (h : sO k ≠ 0) : (-7 : Int32) - nI k = cdX (sO k) := by
  rcases sO_c h with ⟨a, b⟩ | ⟨a, b⟩ | ⟨a, b⟩ | ⟨a, b⟩ | ⟨a, b⟩ | ⟨a, b⟩ | ⟨a, b⟩ <;> rw [b, a] <;> decide
theorem cls_S {B : Nat → Nat} {L j p : Nat} {s : xM} {C : List Nat} (h : cls B L j s p C) : gi s 77 3 = nI (tS B L p) := h.2.2.1
theorem cls_K {B : Nat → Nat} {L j p : Nat} {s : xM} {C : List Nat} (h : cls B L j s p C) : gi s 77 2 = nI (tK B L p) := h.2.1
theorem tK_lt (B : Nat → Nat) (L p : Nat) : tK B L p < 100 := by
  have := tK_R B L p
  unfold tkR at this
  omega
/-- a not, or a - ahead of one -/
theorem RB {B : Nat → Nat} {L j n l o x sg p : Nat} (hB : bts B L) (hj : j < 6) (ih : o < 5 → RDp B L j n l (o + 1)) {s t : xM} {S C : List Nat} {fl : Int32} (hx : (tK B L p = 45 ∧ x = 19 ∧ l = 5 ∧ sg = 10) ∨ (tK B L p = 9 ∧ x = 13 ∧ l = 2 ∧ sg = 9 ∧ fl = 1)) (hc : cls B L j s p C) (hm : mdl B L j t p S C) (hp : p ≤ L) (ho : opn S = o) (ho5 : o ≤ 5) (hS : ∀ x ∈ S, x ≤ 19) (hT : tp S (bmx l)) (hl : C.length + S.length ≤ p) : Ok (fX1_readBehind (fRL n) j (nI sg) (nI l) (nI o) s) (out B L j l o fl s t p S C) := by
  have hl1 := hB.1
  have gt := tN_gt (B := B) (L := L) (p := p) (by omega)
  have tn := tN_le (B := B) (L := L) hp
  obtain ⟨fl', hk, hf1, hf2⟩ : ∃ fl' : Int32, ((tK B L p = 45 ∧ x = 19 ∧ fl' = 0) ∨ (tK B L p = 40 ∧ x = 0 ∧ fl' = 1) ∨ (tK B L p = 9 ∧ x = 13 ∧ fl = 1 ∧ fl' = 1)) ∧ (l ≤ 2 → fl' = 1) ∧ (3 ≤ l → fl' = 0) := by
    rcases hx with ⟨a, b, c, d⟩ | ⟨a, b, c, d, e⟩
    · exact ⟨0, Or.inl ⟨a, b, rfl⟩, fun z => by omega, fun _ => rfl⟩
    · exact ⟨1, Or.inr (Or.inr ⟨a, b, e, rfl⟩), fun _ => rfl, fun z => by omega⟩
  unfold fX1_readBehind
  rcases T_open hB hj hp hk hm hl (by omega) with ⟨o5, hf⟩ | ⟨o5, t1, h1, q1⟩
  · refine ok_F (nI_nlt (a := o) (b := 5) (by omega) (by omega)) (ok_R ⟨Fr_rf, Or.inl ⟨rfl, ?_⟩⟩)
    rw [cls_S hc]
    exact hf
  · refine ok_T (nI_lt (b := 5) (by omega) (by omega)) (ok_B (e_advC hB hp hc fun s1 c1 F1 => ok_B ?_))
    have x19 : x ≤ 19 ∧ opn (x :: S) = o + 1 ∧ rk x < bmx l := by
      have e : opn (x :: S) = (if x = 0 ∨ x = 13 ∨ x = 19 then 1 else 0) + opn S := rfl
      rcases hx with ⟨a, rfl, rfl, d⟩ | ⟨a, rfl, rfl, d, _⟩
      · refine ⟨by omega, ?_, by decide⟩
        rw [e, if_pos (by omega)]
        omega
      · refine ⟨by omega, ?_, by decide⟩
        rw [e, if_pos (by omega)]
        omega
    rw [show nI o + (1 : Int32) = nI (o + 1) from nI_1 o]
    have r0 := ih (by omega) s1 t1 (tN B L p) (x :: S) C fl' hf1 (fun z _ => hf2 z) c1 q1 tn x19.2.1 (fun y hy => by
      rcases List.mem_cons.mp hy with rfl | hy
      · exact x19.1
      · exact hS y hy) (tp_cons x19.2.2) (by show C.length + (S.length + 1) ≤ _; omega)
    refine ok_mono r0 fun r s2 h2 => ?_
    obtain ⟨F2, h2 | h2⟩ := h2
    · obtain ⟨rfl, h2⟩ := h2
      exact ok_T rfl (ok_R ⟨Fr_tr F1 F2, Or.inl ⟨rfl, lnk_f h1 h2⟩⟩)
    · obtain ⟨rfl, t2, p2, X, N, S0, P, M, e1, e2, e3, e4, e5, e6, e7, e8, e9, e10, e11, e12, e13⟩ := h2
      have e10' : (C ++ X).length + (S.length + 1) ≤ p2 := e10
      refine ok_F n10 (ok_B ?_)
      unfold fX5_addSign
      have cdv : (-7 : Int32) - nI sg = cdX x := by
        rcases hx with ⟨a, rfl, c, rfl⟩ | ⟨a, rfl, c, rfl, _⟩ <;> decide
      refine ok_B (e_addC (by omega) e5 cdv fun s3 c3 F3 => ok_R (ok_R ⟨Fr_tr F1 (Fr_tr F2 F3), Or.inr ⟨rfl, t2, p2, X ++ [x], ?_⟩⟩))
      have lX : (C ++ (X ++ [x])).length + S.length ≤ p2 := by
        rw [← List.append_assoc, List.length_append]
        have : [x].length = 1 := rfl
        omega
      rw [List.append_assoc] at c3
      rcases hx with ⟨a, rfl, rfl, d⟩ | ⟨a, rfl, rfl, d, _⟩
      · cases N with
        | nil =>
          have z := e8 19 S e1.symm
          exact absurd z (by decide)
        | cons y N =>
          have y19 := e2 y (List.mem_cons_self ..)
          subst y19
          have e1' : 19 :: S = 19 :: (N ++ S0) := e1
          have eS : S = N ++ S0 := (List.cons.inj e1').2
          refine ⟨N, S0, P, M, eS, fun y hy => e2 y (List.mem_cons_of_mem _ hy), lnk_tr h1 e3, by omega, c3, e6, ?_, e8, e9, lX, e11, e12, xOk_mono (xOk_un e13 (Or.inr rfl)) (by unfold ht; omega)⟩
          rw [← e7]
          simp
      · obtain ⟨rfl, rfl⟩ := no19 e1 e2 (tp_cons (r := 4) (by decide)) (by omega)
        refine ⟨[], S, P ++ [13], M, rfl, fun y hy => (by cases hy), lnk_tr h1 e3, by omega, c3, ?_, ?_, tp_mono hT (by decide), e9, lX, fun y hy => ?_, nx_app e12, xOk_mono (xOk_un e13 (Or.inl rfl)) (by unfold ht; omega)⟩
        · rw [List.append_assoc]
          exact e6
        · rw [List.append_nil] at e7 ⊢
          rw [← List.append_assoc, e7, List.append_assoc]
        · rcases List.mem_append.mp hy with hy | hy
          · exact e11 y hy
          · rcases List.mem_cons.mp hy with rfl | hy
            · decide
            · cases hy
/-- what stands in ( ) -/
theorem RI {B : Nat → Nat} {L j n o p : Nat} (hB : bts B L) (hj : j < 6) (ih : o < 5 → RDp B L j n 0 (o + 1)) {s t : xM} {S C : List Nat} {fl : Int32} (hx : tK B L p = 40) (hc : cls B L j s p C) (hm : mdl B L j t p S C) (hp : p ≤ L) (ho : opn S = o) (ho5 : o ≤ 5) (hS : ∀ x ∈ S, x ≤ 19) (hl : C.length + S.length ≤ p) : Ok (fX1_readInside (fRL n) j (nI o) s) (out B L j 5 o fl s t p S C) := by
  have hl1 := hB.1
  have gt := tN_gt (B := B) (L := L) (p := p) (by omega)
  have tn := tN_le (B := B) (L := L) hp
  unfold fX1_readInside
  rcases T_open (fl := fl) (fl' := 1) hB hj hp (Or.inr (Or.inl ⟨hx, rfl, rfl⟩)) hm hl (by omega) with ⟨o5, hf⟩ | ⟨o5, t1, h1, q1⟩
  · refine ok_F (nI_nlt (a := o) (b := 5) (by omega) (by omega)) (ok_R ⟨Fr_rf, Or.inl ⟨rfl, ?_⟩⟩)
    rw [cls_S hc]
    exact hf
  · refine ok_T (nI_lt (b := 5) (by omega) (by omega)) (ok_B (e_advC hB hp hc fun s1 c1 F1 => ok_B ?_))
    have op : opn (0 :: S) = o + 1 := by
      show 1 + opn S = o + 1
      omega
    have hS0 : ∀ x ∈ 0 :: S, x ≤ 19 := fun y hy => by
      rcases List.mem_cons.mp hy with rfl | hy
      · omega
      · exact hS y hy
    rw [show nI o + (1 : Int32) = nI (o + 1) from nI_1 o]
    have r0 := ih (by omega) s1 t1 (tN B L p) (0 :: S) C 1 (fun _ => rfl) (fun z => by omega) c1 q1 tn op hS0 (tp_cons (by decide)) (by show C.length + (S.length + 1) ≤ _; omega)
    refine ok_mono r0 fun r s2 h2 => ?_
    obtain ⟨F2, h2 | h2⟩ := h2
    · obtain ⟨rfl, h2⟩ := h2
      exact ok_T rfl (ok_R ⟨Fr_tr F1 F2, Or.inl ⟨rfl, lnk_f h1 h2⟩⟩)
    · obtain ⟨rfl, t2, p2, X, N, S0, P, M, e1, e2, e3, e4, e5, e6, e7, e8, e9, e10, e11, e12, e13⟩ := h2
      obtain ⟨rfl, rfl⟩ := no19 e1 e2 (tp_cons (r := 1) (by decide)) (by omega)
      rw [List.append_nil] at e7
      have e10' : (C ++ X).length + (S.length + 1) ≤ p2 := e10
      have lM : M.length + P.length + (S.length + 1) ≤ p2 := by
        have := congrArg List.length e7
        rw [List.length_append (as := M)] at this
        omega
      have hP : ∀ x ∈ P, x ≤ 19 ∧ 1 ≤ rk x := fun x h => e11 x h
      refine ok_F n10 (ok_B ?_)
      unfold fX1_passes
      rw [cls_K e5]
      have t100 := tK_lt B L p2
      by_cases c : tK B L p2 = 41
      · refine ok_T (by rw [c]; rfl) (ok_B (e_advC hB e9 e5 fun s3 c3 F3 => ok_R (ok_F n10 (ok_R ⟨Fr_tr F1 (Fr_tr F2 F3), Or.inr ⟨rfl, ?_⟩⟩))))
        obtain ⟨t3, N, S0, eS, hN, hT3, k3, q3⟩ := T_close hB hj e9 c e6 hP hS lM
        have gt2 := tN_gt (B := B) (L := L) (p := p2) (by omega)
        refine ⟨t3, tN B L p2, X, N, S0, [], M ++ P ++ N, eS, hN, lnk_tr h1 (lnk_tr e3 k3), by omega, c3, q3, ?_, hT3, tN_le e9, by omega, fun x hx => (by cases hx), ⟨fun z => by omega, fun z => by omega, fun z => by omega, fun z => by omega, fun z => by omega⟩, xOk_mono e13 (by unfold ht; omega)⟩
        rw [e7, List.append_nil]
      · refine ok_F (fun z => c ((nI_eq (b := 41) (by omega) (by omega)).mp z)) (ok_R (ok_T rfl (ok_R ⟨Fr_tr F1 F2, Or.inl ⟨rfl, ?_⟩⟩)))
        rw [cls_S e5]
        exact lnk_f h1 (lnk_f e3 (T_bad0 hB hj e9 e6 hP hS0 e12 (by show M.length + P.length + (S.length + 1) ≤ p2; omega) (Or.inr ⟨S, rfl, c⟩)))
