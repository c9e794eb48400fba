/-! ===== the first text: the class reads it ===== -/
def RS (B : Nat → Nat) (L n l p : Nat) (X : List Nat) (p' : Nat) : Prop := p' ≤ L ∧ ∀ (s : xM) (C : List Nat), cls B L 0 s p C → C.length + X.length ≤ 160 → Ok (fRL n 0 (nI l) (nI 0) s) (fun r s' => r = 1 ∧ Fr (xP 0) s s' ∧ cls B L 0 s' p' (C ++ X))
theorem RS_one {B : Nat → Nat} {L n p m : Nat} (hB : bts B L) (hp : p ≤ L) (hk : (tK B L p = 2 ∧ m = 100000 + tV B L p) ∨ (tK B L p = 3 ∧ m = tV B L p)) : RS B L (n + 1) 5 p [m] (tN B L p) := by
  refine ⟨tN_le hp, fun s C hc hl => ?_⟩
  have l1 : [m].length = 1 := rfl
  show Ok (fX1_readLevel (fRL n) 0 (nI 5) (nI 0) s) _
  unfold fX1_readLevel
  refine ok_T rfl ?_
  have val : ∀ v : Int32, v = cdX m → Ok (bd (bd (fX5_add 0 v s) fun _ s2 => some ((0 : Int32), s2)) fun _ s3 => bd (fX4_advance s3) fun _ s6 => some ((1 : Int32), s6)) (fun r s' => Ok (gd (isZ r) (some (r, s'))) (fun r s' => r = 1 ∧ Fr (xP 0) s s' ∧ cls B L 0 s' (tN B L p) (C ++ [m]))) := by
    intro v hv
    exact ok_B (ok_B (e_addC (by omega) hc hv fun s1 c1 F1 => ok_R (ok_B (e_advC hB hp c1 fun s2 c2 F2 => ok_R (ok_G isZ1 (ok_R ⟨rfl, Fr_tr F1 F2, c2⟩))))))
  refine ok_B ?_
  unfold fX1_readOne
  rw [cls_K hc]
  have t100 := tK_lt B L p
  rcases hk with ⟨hk, hm⟩ | ⟨hk, hm⟩
  · refine ok_T (by rw [hk]; rfl) ?_
    unfold fX5_addNumber
    rw [hc.2.2.2.2.1 (Or.inl hk)]
    refine val _ ?_
    have := tV_2 hk
    unfold cdX
    rw [if_pos (by omega), hm, show 100000 + tV B L p - 100000 = tV B L p by omega]
  · refine ok_F (fun z => by have := (nI_eq (b := 2) (by omega) (by omega)).mp z; omega) (ok_T (by rw [hk]; rfl) ?_)
    unfold fX5_addName
    rw [hc.2.2.2.2.1 (Or.inr hk)]
    refine val _ ?_
    have := tV_3 hk
    unfold cdX
    rw [if_neg (by omega), if_pos (by omega), hm]
/-- a level's loop, once it stands at a sign that doesn't join, or at the most -/
theorem RS_stop {B : Nat → Nat} {L n l p i f : Nat} (hl : l ≤ 4) {s s0 : xM} {C : List Nat} (hc : cls B L 0 s p C) (F : Fr (xP 0) s0 s) (hj : ¬ jn l (tK B L p) ∨ (l = 2 ∧ i = 1)) (hi : i < 2) : Ok (fX1_readLevel_L70 (fRL n) (fun s1 => some ((0 : Int32), s1)) (fun s2 => some ((1 : Int32), s2)) 0 (nI l) (nI 0) (nI (if l = 2 then 1 else 160)) (f + 1) (nI i) s) (fun r s' => r = 1 ∧ Fr (xP 0) s0 s' ∧ cls B L 0 s' p C) := by
  have t100 := tK_lt B L p
  have m160 : (if l = 2 then 1 else 160) ≤ 160 := by split <;> omega
  unfold fX1_readLevel_L70
  by_cases c : (if l = 2 then 1 else 160) ≤ i
  · exact ok_T (nI_le c (by omega)) (ok_R ⟨rfl, F, hc⟩)
  · refine ok_F (nI_ge (by omega) (by omega)) ?_
    rw [cls_K hc]
    rcases e_joins hl t100 s with ⟨cj, ej⟩ | ⟨cj, ej⟩
    · rcases hj with h | ⟨h1, h2⟩
      · exact absurd cj h
      · rw [if_pos h1] at c
        omega
    · rw [ej, bd_some]
      exact ok_T rfl (ok_R ⟨rfl, F, hc⟩)
theorem RS_lv {B : Nat → Nat} {L n l p p' : Nat} {X Z : List Nat} {pe : Nat} (hl : l ≤ 4) (h9 : l = 2 → tK B L p ≠ 9) (h : RS B L n (l + 1) p X p') (hpe : pe ≤ L) (hX : X.length ≤ Z.length) (k : ∀ (s s0 : xM) (C : List Nat) (f : Nat), cls B L 0 s p' (C ++ X) → Fr (xP 0) s0 s → C.length + Z.length ≤ 160 → Ok (fX1_readLevel_L70 (fRL n) (fun s1 => some ((0 : Int32), s1)) (fun s2 => some ((1 : Int32), s2)) 0 (nI l) (nI 0) (nI (if l = 2 then 1 else 160)) (f + 4000) (nI 0) s) (fun r s' => r = 1 ∧ Fr (xP 0) s0 s' ∧ cls B L 0 s' pe (C ++ Z))) : RS B L (n + 1) l p Z pe := by
  refine ⟨hpe, fun s C hc hlen => ?_⟩
  have t100 := tK_lt B L p
  show Ok (fX1_readLevel (fRL n) 0 (nI l) (nI 0) s) _
  have key : Ok (fX1_readLevel_J39 (fRL n) 0 (nI l) (nI 0) s) (fun r s' => r = 1 ∧ Fr (xP 0) s s' ∧ cls B L 0 s' pe (C ++ Z)) := by
    unfold fX1_readLevel_J39 fX1_readLevel_J65
    obtain ⟨f, hf⟩ := fu_big
    rw [show nI l + (1 : Int32) = nI (l + 1) from nI_1 l, hf]
    refine ok_B (ok_mono (h.2 s C hc (by omega)) fun r s2 g => ?_)
    obtain ⟨rfl, F, c2⟩ := g
    have r1 := k s2 s C f c2 F hlen
    refine ok_F n10 ?_
    by_cases e : l = 2
    · rw [if_pos e] at r1
      exact ok_T (by rw [e]; rfl) r1
    · rw [if_neg e] at r1
      exact ok_F (fun z => e ((nI_eq (b := 2) (by omega) (by omega)).mp z)) r1
  unfold fX1_readLevel
  refine ok_F (fun z => by have := (nI_eq (b := 5) (by omega) (by omega)).mp z; omega) ?_
  by_cases l2 : l = 2
  · refine ok_T (by rw [l2]; rfl) ?_
    rw [cls_K hc]
    exact ok_F (fun z => h9 l2 ((nI_eq (b := 9) (by omega) (by omega)).mp z)) key
  · exact ok_F (fun z => l2 ((nI_eq (b := 2) (by omega) (by omega)).mp z)) key
/-- nothing more at this level -/
theorem RS_up {B : Nat → Nat} {L n l p p' : Nat} {X : List Nat} (hl : l ≤ 4) (h9 : l = 2 → tK B L p ≠ 9) (h : RS B L n (l + 1) p X p') (hj : ¬ jn l (tK B L p')) : RS B L (n + 1) l p X p' :=
  RS_lv hl h9 h h.1 (Nat.le_refl _) fun s s0 C f hc F _ => RS_stop hl hc F (Or.inl hj) (by omega)
/-- two, joined -/
theorem RS_two {B : Nat → Nat} {L n l p p' pe : Nat} {X Y : List Nat} (hB : bts B L) (hl : l ≤ 4) (h9 : l = 2 → tK B L p ≠ 9) (h : RS B L n (l + 1) p X p') (hj : jn l (tK B L p')) (g : RS B L n (l + 1) (tN B L p') Y pe) (he : ¬ jn l (tK B L pe) ∨ l = 2) : RS B L (n + 1) l p (X ++ (Y ++ [sO (tK B L p')])) pe := by
  have l1 : (X ++ (Y ++ [sO (tK B L p')])).length = X.length + (Y.length + 1) := by
    rw [List.length_append, List.length_append]
    rfl
  refine RS_lv hl h9 h g.1 (by omega) fun s s0 C f hc F hlen => ?_
  have t100 := tK_lt B L p'
  have y0 := (jn_s hj).1
  have lC : (C ++ X).length = C.length + X.length := List.length_append
  have lCY : (C ++ X ++ Y).length = C.length + X.length + Y.length := by rw [List.length_append, lC]
  unfold fX1_readLevel_L70
  refine ok_F (nI_ge (by split <;> omega) (by split <;> omega)) ?_
  rw [cls_K hc]
  rcases e_joins hl t100 s with ⟨cj, ej⟩ | ⟨cj, ej⟩
  rotate_left
  · exact absurd hj cj
  rw [ej, bd_some]
  refine ok_F n10 (ok_lz.mpr ?_)
  rw [cls_K hc, show nI l + (1 : Int32) = nI (l + 1) from nI_1 l, show nI 0 + (1 : Int32) = nI 1 from nI_1 0]
  refine ok_B (e_advC hB h.1 hc fun s1 c1 F1 => ok_B (ok_mono (g.2 s1 (C ++ X) c1 (by omega)) fun r s2 g2 => ?_))
  obtain ⟨rfl, F2, c2⟩ := g2
  refine ok_F n10 (ok_B ?_)
  unfold fX5_addSign
  refine ok_B (e_addC (by omega) c2 (cdX_sO y0) fun s3 c3 F3 => ok_R ?_)
  have eX : C ++ X ++ Y ++ [sO (tK B L p')] = C ++ (X ++ (Y ++ [sO (tK B L p')])) := by simp
  rw [eX] at c3
  exact RS_stop hl c3 (Fr_tr F (Fr_tr F1 (Fr_tr F2 F3))) (he.imp id fun z => ⟨z, rfl⟩) (by omega)
