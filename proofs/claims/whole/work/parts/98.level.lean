/-! ===== text: every level ===== -/
/-- a number, a name, - ahead of one, ( ) -/
theorem RO {B : Nat → Nat} {L j n o p : Nat} (hB : bts B L) (hj : j < 6) (ih : o < 5 → RDp B L j n 5 (o + 1) ∧ RDp B L j n 0 (o + 1)) {s t : xM} {S C : List Nat} {fl : Int32} (hf : tK B L p = 9 → fl = 0) (hc : cls B L j s p C) (hm : mdl B L j t p S C) (hp : p ≤ L) (ho : opn S = o) (ho5 : o ≤ 5) (hS : ∀ x ∈ S, x ≤ 19) (hT : tp S 8) (hl : C.length + S.length ≤ p) : Ok (fX1_readOne (fRL n) j (nI o) s) (out B L j 5 o fl s t p S C) := by
  have hl1 := hB.1
  have t100 := tK_lt B L p
  have val : ∀ (v : Int32) (m : Nat), (tK B L p = 2 ∨ tK B L p = 3) → m = (if tK B L p = 2 then 100000 + tV B L p else tV B L p) → v = cdX m → ((100000 ≤ m ∧ m < 110000) ∨ m < 6) → Ok (bd (bd (fX5_add j v s) fun _ s2 => some ((0 : Int32), s2)) fun _ s3 => bd (fX4_advance s3) fun _ s6 => some ((1 : Int32), s6)) (out B L j 5 o fl s t p S C) := by
    intro v m hk em ev hm2
    have gt := tN_gt (B := B) (L := L) (p := p) (by omega)
    obtain ⟨t3, N, S0, eS, hN, hT3, k3, q3⟩ := T_num (fl := fl) hB hj hp hk hm hS hl
    rw [← em] at q3
    refine ok_B (ok_B (e_addC (by omega) hc ev fun s1 c1 F1 => ok_R (ok_B (e_advC hB hp c1 fun s2 c2 F2 => ok_R ⟨Fr_tr F1 F2, Or.inr ⟨rfl, t3, tN B L p, [m], N, S0, [], C ++ [m] ++ N, eS, hN, k3, by omega, c2, q3, by rw [List.append_nil], hT3, tN_le hp, ?_, fun x hx => (by cases hx), ⟨fun z => by omega, fun z => by omega, fun z => by omega, fun z => by omega, fun z => by omega⟩, xOk_one hm2⟩⟩))))
    rw [List.length_append]
    have : [m].length = 1 := rfl
    omega
  have wrap : ∀ o1 : Option (Int32 × xM), Ok o1 (out B L j 5 o fl s t p S C) → Ok (bd o1 fun r s => gd (isZ r) (some (r, s))) (out B L j 5 o fl s t p S C) := fun o1 h => ok_B (ok_mono h fun r s' q => ok_G (out_Z q) (ok_R q))
  unfold fX1_readOne
  rw [cls_K hc]
  by_cases c2 : tK B L p = 2
  · refine ok_T (by rw [c2]; rfl) ?_
    unfold fX5_addNumber
    rw [hc.2.2.2.2.1 (Or.inl c2)]
    have lt := tV_2 c2
    refine val _ (100000 + tV B L p) (Or.inl c2) (by rw [if_pos c2]) ?_ (by omega)
    unfold cdX
    rw [if_pos (by omega), show 100000 + tV B L p - 100000 = tV B L p by omega]
  refine ok_F (fun z => c2 ((nI_eq (b := 2) (by omega) (by omega)).mp z)) ?_
  by_cases c3 : tK B L p = 3
  · refine ok_T (by rw [c3]; rfl) ?_
    unfold fX5_addName
    rw [hc.2.2.2.2.1 (Or.inr c3)]
    have lt := tV_3 c3
    refine val _ (tV B L p) (Or.inr c3) (by rw [if_neg c2]) ?_ (by omega)
    unfold cdX
    rw [if_neg (by omega), if_pos (by omega)]
  refine ok_F (fun z => c3 ((nI_eq (b := 3) (by omega) (by omega)).mp z)) ?_
  by_cases c4 : tK B L p = 40
  · refine ok_T (by rw [c4]; rfl) (wrap _ ?_)
    exact RI hB hj (fun z => (ih z).2) c4 hc hm hp ho ho5 hS hl
  refine ok_F (fun z => c4 ((nI_eq (b := 40) (by omega) (by omega)).mp z)) ?_
  by_cases c5 : tK B L p = 45
  · refine ok_T (by rw [c5]; rfl) (wrap _ ?_)
    exact RB (sg := 10) hB hj (fun z => (ih z).1) (Or.inl ⟨c5, rfl, rfl, rfl⟩) hc hm hp ho ho5 hS hT hl
  refine ok_F (fun z => c5 ((nI_eq (b := 45) (by omega) (by omega)).mp z)) (ok_R ⟨Fr_rf, Or.inl ⟨rfl, ?_⟩⟩)
  rw [cls_S hc]
  exact T_bad1 hB hp ⟨c2, c3, c4, c5, hf⟩ hm
def jn (l k : Nat) : Prop := (l = 0 ∧ k = 7) ∨ (l = 1 ∧ k = 8) ∨ (l = 2 ∧ (k = 60 ∨ k = 61)) ∨ (l = 3 ∧ (k = 43 ∨ k = 45)) ∨ (l = 4 ∧ k = 42)
theorem e_joins {l k : Nat} (hl : l ≤ 4) (hk : k < 100) (s : xM) : (jn l k ∧ fX1_joinsAt (nI l) (nI k) s = some (1, s)) ∨ (¬ jn l k ∧ fX1_joinsAt (nI l) (nI k) s = some (0, s)) := by
  have q : ∀ v : Nat, v < 100 → (nI k = nI v ↔ k = v) := fun v hv => nI_eq (by omega) (by omega)
  have e7 := q 7 (by omega)
  have e8 := q 8 (by omega)
  have e60 := q 60 (by omega)
  have e61 := q 61 (by omega)
  have e43 := q 43 (by omega)
  have e45 := q 45 (by omega)
  have e42 := q 42 (by omega)
  unfold fX1_joinsAt jn
  rw [show (7 : Int32) = nI 7 from rfl, show (8 : Int32) = nI 8 from rfl, show (60 : Int32) = nI 60 from rfl, show (61 : Int32) = nI 61 from rfl, show (43 : Int32) = nI 43 from rfl, show (45 : Int32) = nI 45 from rfl, show (42 : Int32) = nI 42 from rfl]
  have c : l = 0 ∨ l = 1 ∨ l = 2 ∨ l = 3 ∨ l = 4 := by omega
  rcases c with rfl | rfl | rfl | rfl | rfl
  · rw [if_pos (show nI 0 = 0 from rfl)]
    by_cases a : k = 7
    · exact Or.inl ⟨by omega, if_pos (e7.mpr a)⟩
    · exact Or.inr ⟨by omega, if_neg fun z => a (e7.mp z)⟩
  · rw [if_neg (show ¬ nI 1 = 0 from by decide), if_pos (show nI 1 = 1 from rfl)]
    by_cases a : k = 8
    · exact Or.inl ⟨by omega, if_pos (e8.mpr a)⟩
    · exact Or.inr ⟨by omega, if_neg fun z => a (e8.mp z)⟩
  · rw [if_neg (show ¬ nI 2 = 0 from by decide), if_neg (show ¬ nI 2 = 1 from by decide), if_pos (show nI 2 = 2 from rfl)]
    by_cases a : k = 60
    · exact Or.inl ⟨by omega, if_pos (e60.mpr a)⟩
    · rw [if_neg fun z => a (e60.mp z)]
      by_cases b : k = 61
      · exact Or.inl ⟨by omega, if_pos (e61.mpr b)⟩
      · exact Or.inr ⟨by omega, if_neg fun z => b (e61.mp z)⟩
  · rw [if_neg (show ¬ nI 3 = 0 from by decide), if_neg (show ¬ nI 3 = 1 from by decide), if_neg (show ¬ nI 3 = 2 from by decide), if_pos (show nI 3 = 3 from rfl)]
    by_cases a : k = 43
    · exact Or.inl ⟨by omega, if_pos (e43.mpr a)⟩
    · rw [if_neg fun z => a (e43.mp z)]
      by_cases b : k = 45
      · exact Or.inl ⟨by omega, if_pos (e45.mpr b)⟩
      · exact Or.inr ⟨by omega, if_neg fun z => b (e45.mp z)⟩
  · rw [if_neg (show ¬ nI 4 = 0 from by decide), if_neg (show ¬ nI 4 = 1 from by decide), if_neg (show ¬ nI 4 = 2 from by decide), if_neg (show ¬ nI 4 = 3 from by decide), if_pos (show nI 4 = 4 from rfl)]
    by_cases a : k = 42
    · exact Or.inl ⟨by omega, if_pos (e42.mpr a)⟩
    · exact Or.inr ⟨by omega, if_neg fun z => a (e42.mp z)⟩
/-- what a sign that joins at a level is -/
theorem jn_s {l k : Nat} (h : jn l k) : sO k ≠ 0 ∧ sO k ≤ 18 ∧ (sO k = 11 ∨ sO k = 12 ∨ (14 ≤ sO k ∧ sO k ≤ 18)) ∧ rk (sO k) < bmx (l + 1) ∧ bmx l ≤ rk (sO k) ∧ rmin l ≤ rk (sO k) ∧ (if rk (sO k) = 4 then 5 else rk (sO k)) ≤ rmin (l + 1) ∧ (l ≠ 2 → (if rk (sO k) = 4 then 5 else rk (sO k)) ≤ rk (sO k)) ∧ (l = 2 → rk (sO k) = 4) ∧ ((if 12 < sO k then (0 : Int32) else 1) = if l + 1 ≤ 2 then 1 else 0) ∧ k ≠ 0 ∧ (l ≠ 2 → rmin l = rk (sO k)) := by
  unfold jn at h
  rcases h with ⟨rfl, rfl⟩ | ⟨rfl, rfl⟩ | ⟨rfl, rfl | rfl⟩ | ⟨rfl, rfl | rfl⟩ | ⟨rfl, rfl⟩ <;> decide
theorem rmin_cmp {l : Nat} (hl : l ≤ 4) {k : Nat} (h : jn l k) {P : List Nat} (hP : ∀ x ∈ P, x ≤ 19 ∧ rmin (l + 1) ≤ rk x) (e : l = 2) : cmpB (P ++ [sO k]) := by
  subst e
  exact ⟨P, sO k, [], rfl, (jn_s h).2.2.2.2.2.2.2.2.1 rfl, fun x hx => (hP x hx).2⟩
/-- the joined of a level -/
theorem RLp {B : Nat → Nat} {L j n l o p0 : Nat} (hB : bts B L) (hj : j < 6) (hl4 : l ≤ 4) (ih : RDp B L j n (l + 1) o) {s0 t0 : xM} {S C : List Nat} {fl : Int32} (ho : opn S = o) (hS : ∀ x ∈ S, x ≤ 19) (hT : tp S (bmx l)) (hT6 : bmx l ≤ 6) : ∀ (d i f : Nat) (s t : xM) (p : Nat) (X P M : List Nat), d + i = 161 → d < f → Fr (xP j) s0 s → lnk j 1 fl t0 p0 0 0 t p → p0 < p → i ≤ p → cls B L j s p (C ++ X) → mdl B L j t p (P ++ S) M → C ++ X = M ++ P → p ≤ L → (C ++ X).length + S.length ≤ p → (∀ x ∈ P, x ≤ 19 ∧ rmin l ≤ rk x) → (i = 0 ∨ l ≠ 2 → ∀ k, jn l k → ∀ x ∈ P, (if rk (sO k) = 4 then 5 else rk (sO k)) ≤ rk x) → (l = 2 → 1 ≤ i → cmpB P) → nx (l + 1) (tK B L p) P → xOk X l o → Ok (fX1_readLevel_L70 (fRL n) (fun s1 => some ((0 : Int32), s1)) (fun s2 => some ((1 : Int32), s2)) j (nI l) (nI o) (nI (if l = 2 then 1 else 160)) f (nI i) s) (out B L j l o fl s0 t0 p0 S C) := by
  intro d
  induction d with
  | zero =>
    intro i f s t p X P M hd hf F0 K0 hp0 hi hc hm hC hp hlen hP hQ h2 hn hX
    have := hB.1
    omega
  | succ d IH =>
    intro i f s t p X P M hd hf F0 K0 hp0 hi hc hm hC hp hlen hP hQ h2 hn hX
    have hl1 := hB.1
    obtain ⟨f, rfl⟩ : ∃ n', f = n' + 1 := ⟨f - 1, by omega⟩
    have t100 := tK_lt B L p
    have fin : nx l (tK B L p) P → out B L j l o fl s0 t0 p0 S C 1 s := fun hn2 => ⟨F0, Or.inr ⟨rfl, t, p, X, [], S, P, M, rfl, fun y hy => (by cases hy), K0, hp0, hc, hm, by rw [List.append_nil]; exact hC, tp_mono hT (by omega), hp, hlen, hP, hn2, hX⟩⟩
    have nxs : ¬ jn l (tK B L p) → nx l (tK B L p) P := by
      intro hj2
      unfold jn at hj2
      obtain ⟨n1, n2, n3, n4, n5⟩ := hn
      refine ⟨fun z => ?_, fun z => ?_, fun z y => ?_, fun z => ?_, fun z => ?_⟩
      · by_cases e : l = 4
        · omega
        · exact n1 (by omega)
      · by_cases e : l = 3
        · omega
        · exact n2 (by omega)
      · by_cases e : l = 2
        · omega
        · exact n3 (by omega) y
      · by_cases e : l = 1
        · omega
        · exact n4 (by omega)
      · omega
    unfold fX1_readLevel_L70
    have m160 : (if l = 2 then 1 else 160) ≤ 160 := by split <;> omega
    by_cases c : (if l = 2 then 1 else 160) ≤ i
    · refine ok_T (nI_le c (by omega)) (ok_R (fin ?_))
      by_cases e : l = 2
      · rw [if_pos e] at c
        obtain ⟨n1, n2, n3, n4, n5⟩ := hn
        exact ⟨fun z => n1 (by omega), fun z => n2 (by omega), fun z y => h2 e c, fun z => by omega, fun z => by omega⟩
      · rw [if_neg e] at c
        have k0 : tK B L p = 0 := by
          by_cases z : tK B L p = 0
          · exact z
          · have := tN_gt z
            omega
        refine nxs ?_
        rw [k0]
        unfold jn
        omega
    refine ok_F (nI_ge (by omega) (by omega)) ?_
    rw [cls_K hc]
    rcases e_joins hl4 t100 s with ⟨cj, ej⟩ | ⟨cj, ej⟩
    rotate_left
    · rw [ej, bd_some]
      exact ok_T rfl (ok_R (fin (nxs cj)))
    rw [ej, bd_some]
    refine ok_F n10 (ok_lz.mpr ?_)
    rw [cls_K hc]
    obtain ⟨y0, y18, yk, yb, yT, yr, yu, yu2, y4, yf, k0, yr2⟩ := jn_s cj
    have i0 : i = 0 ∨ l ≠ 2 := by
      by_cases e : l = 2
      · rw [if_pos e] at c
        omega
      · exact Or.inr e
    have gt := tN_gt k0
    have tn := tN_le (B := B) (L := L) hp
    have lMP := congrArg List.length hC
    rw [List.length_append (as := M)] at lMP
    obtain ⟨t1, k1, q1⟩ := T_sign hB hj hp y0 hm (fun x hx => ⟨(hP x hx).1, hQ i0 _ cj x hx⟩) hS (tp_mono hT yT) (by omega)
    rw [← hC, yf] at *
    refine ok_B (e_advC hB hp hc fun s1 c1 F1 => ok_B ?_)
    have opy : opn (sO (tK B L p) :: S) = o := by
      show (if sO (tK B L p) = 0 ∨ sO (tK B L p) = 13 ∨ sO (tK B L p) = 19 then 1 else 0) + opn S = o
      rw [if_neg (by omega)]
      omega
    have hSy : ∀ x ∈ sO (tK B L p) :: S, x ≤ 19 := fun x hx => by
      rcases List.mem_cons.mp hx with rfl | hx
      · omega
      · exact hS x hx
    have yT2 : tp (sO (tK B L p) :: S) (bmx (l + 1)) := tp_cons yb
    have r0 := ih s1 t1 (tN B L p) (sO (tK B L p) :: S) (C ++ X) (if l + 1 ≤ 2 then 1 else 0) (fun z => if_pos z) (fun z _ => if_neg (by omega)) c1 q1 tn opy hSy yT2 (by show _ + (S.length + 1) ≤ _; omega)
    rw [show nI l + (1 : Int32) = nI (l + 1) from nI_1 l]
    refine ok_mono r0 fun r s2 g2 => ?_
    obtain ⟨F2, g2 | g2⟩ := g2
    · obtain ⟨rfl, g2⟩ := g2
      exact ok_T rfl (ok_R ⟨Fr_tr F0 (Fr_tr F1 F2), Or.inl ⟨rfl, lnk_f K0 (lnk_f k1 g2)⟩⟩)
    · obtain ⟨rfl, t2, p2, X1, N, S0, P1, M1, e1, e2, e3, e4, e5, e6, e7, e8, e9, e10, e11, e12, e13⟩ := g2
      obtain ⟨rfl, rfl⟩ := no19 e1 e2 (tp_cons (r := 7) (by
        have : rk (sO (tK B L p)) ≤ 6 := by
          have := sO_c y0
          rcases this with ⟨_, e⟩ | ⟨_, e⟩ | ⟨_, e⟩ | ⟨_, e⟩ | ⟨_, e⟩ | ⟨_, e⟩ | ⟨_, e⟩ <;> rw [e] <;> decide
        omega)) (by omega)
      rw [List.append_nil] at e7
      have e10' : (C ++ X ++ X1).length + (S.length + 1) ≤ p2 := e10
      refine ok_F n10 (ok_B ?_)
      unfold fX5_addSign
      refine ok_B (e_addC (by omega) e5 (cdX_sO y0) fun s3 c3 F3 => ok_R ?_)
      rw [nI_1]
      have eX : C ++ X ++ X1 ++ [sO (tK B L p)] = C ++ (X ++ (X1 ++ [sO (tK B L p)])) := by simp
      rw [eX] at c3
      have lX : (C ++ (X ++ (X1 ++ [sO (tK B L p)]))).length + S.length ≤ p2 := by
        rw [← eX, List.length_append]
        have : [sO (tK B L p)].length = 1 := rfl
        omega
      have hP1 : ∀ x ∈ P1 ++ [sO (tK B L p)], x ≤ 19 ∧ rmin l ≤ rk x := fun x hx => by
        rcases List.mem_append.mp hx with hx | hx
        · have := e11 x hx
          refine ⟨this.1, Nat.le_trans ?_ this.2⟩
          unfold rmin
          repeat' split
          all_goals omega
        · rcases List.mem_cons.mp hx with rfl | hx
          · exact ⟨by omega, yr⟩
          · cases hx
      refine IH (i + 1) f s3 t2 p2 (X ++ (X1 ++ [sO (tK B L p)])) (P1 ++ [sO (tK B L p)]) M1 (by omega) (by omega) (Fr_tr F0 (Fr_tr F1 (Fr_tr F2 F3))) (lnk_tr K0 (lnk_tr k1 e3)) (by omega) (by omega) c3 ?_ ?_ e9 lX hP1 ?_ (fun z _ => rmin_cmp hl4 cj e11 z) (nx_app e12) (xOk_two hl4 hX e13 yk)
      · rw [List.append_assoc]
        exact e6
      · rw [← eX, e7, List.append_assoc]
      · rintro (z | z) k hk x hx
        · omega
        · have w := jn_s hk
          rcases List.mem_append.mp hx with hx | hx
          · exact Nat.le_trans w.2.2.2.2.2.2.1 (e11 x hx).2
          · rcases List.mem_cons.mp hx with rfl | hx
            · have a := w.2.2.2.2.2.2.2.1 z
              have b := w.2.2.2.2.2.2.2.2.2.2.2 z
              have d := yr2 z
              omega
            · cases hx
theorem RDall {B : Nat → Nat} {L j : Nat} (hB : bts B L) (hj : j < 6) : ∀ n l o, l ≤ 5 → o ≤ 5 → (5 - o) * 6 + (5 - l) + 1 ≤ n → RDp B L j n l o := by
  intro n
  induction n with
  | zero =>
    intro l o hl ho hn
    omega
  | succ n IH =>
    intro l o hl ho hn s t p S C fl hf1 hf2 hc hm hp hop hS hT hlen
    have hl1 := hB.1
    have t100 := tK_lt B L p
    show Ok (fX1_readLevel (fRL n) j (nI l) (nI o) s) _
    unfold fX1_readLevel
    by_cases l5 : l = 5
    · subst l5
      refine ok_T rfl (ok_B (ok_mono (RO hB hj (fun z => ⟨IH 5 (o + 1) (by omega) (by omega) (by omega), IH 0 (o + 1) (by omega) (by omega) (by omega)⟩) (hf2 (by omega)) hc hm hp hop ho hS hT hlen) fun r s' q => ok_G (out_Z q) (ok_R q)))
    have hl4 : l ≤ 4 := by omega
    have ih := IH (l + 1) o (by omega) ho (by omega)
    have b6 : bmx l ≤ 6 ∧ bmx l ≤ bmx (l + 1) ∧ rmin l ≤ rmin (l + 1) := by
      have c : l = 0 ∨ l = 1 ∨ l = 2 ∨ l = 3 ∨ l = 4 := by omega
      rcases c with rfl | rfl | rfl | rfl | rfl <;> decide
    refine ok_F (fun z => l5 ((nI_eq (b := 5) (by omega) (by omega)).mp z)) ?_
    have key : (l = 2 → tK B L p ≠ 9) → Ok (fX1_readLevel_J39 (fRL n) j (nI l) (nI o) s) (out B L j l o fl s t p S C) := by
      intro h9
      unfold fX1_readLevel_J39 fX1_readLevel_J65
      obtain ⟨f, hf⟩ := fu_big
      rw [show nI l + (1 : Int32) = nI (l + 1) from nI_1 l, hf]
      have r0 := ih s t p S C fl (fun z => hf1 (by omega)) (fun z y => by
        by_cases e : l = 2
        · exact absurd y (h9 e)
        · exact hf2 (by omega) y) hc hm hp hop hS (tp_mono hT b6.2.1) hlen
      refine ok_B (ok_mono r0 fun r s2 g2 => ?_)
      obtain ⟨F2, g2 | g2⟩ := g2
      · obtain ⟨rfl, g2⟩ := g2
        exact ok_T rfl (ok_R ⟨F2, Or.inl ⟨rfl, g2⟩⟩)
      · obtain ⟨rfl, t2, p2, X1, N, S0, P1, M1, e1, e2, e3, e4, e5, e6, e7, e8, e9, e10, e11, e12, e13⟩ := g2
        obtain ⟨rfl, rfl⟩ := no19 e1 e2 hT (by omega)
        rw [List.append_nil] at e7
        have r1 := RLp hB hj hl4 ih hop hS hT b6.1 161 0 (f + 4000) s2 t2 p2 X1 P1 M1 (by omega) (by omega) F2 e3 e4 (by omega) e5 e6 e7 e9 e10 (fun x hx => ⟨(e11 x hx).1, Nat.le_trans b6.2.2 (e11 x hx).2⟩) (fun _ k hk x hx => Nat.le_trans (jn_s hk).2.2.2.2.2.2.1 (e11 x hx).2) (fun _ z => by omega) e12 (xOk_mono e13 (by unfold ht; omega))
        refine ok_F n10 ?_
        by_cases e : l = 2
        · rw [if_pos e] at r1
          exact ok_T (by rw [e]; rfl) r1
        · rw [if_neg e] at r1
          exact ok_F (fun z => e ((nI_eq (b := 2) (by omega) (by omega)).mp z)) r1
    by_cases l2 : l = 2
    · refine ok_T (by rw [l2]; rfl) ?_
      rw [cls_K hc]
      by_cases c9 : tK B L p = 9
      · refine ok_T (by rw [c9]; rfl) (ok_B (ok_mono ?_ fun r s' q => ok_G (out_Z q) (ok_R q)))
        subst l2
        exact RB (sg := 9) hB hj (fun z => IH 2 (o + 1) (by omega) (by omega) (by omega)) (Or.inr ⟨c9, rfl, rfl, rfl, hf1 (by omega)⟩) hc hm hp hop ho hS hT hlen
      · exact ok_F (fun z => c9 ((nI_eq (b := 9) (by omega) (by omega)).mp z)) (key fun _ => c9)
    · exact ok_F (fun z => l2 ((nI_eq (b := 2) (by omega) (by omega)).mp z)) (key fun z => absurd z l2)
