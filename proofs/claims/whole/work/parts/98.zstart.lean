/-! ===== the first text ===== -/
def B0 (i : Nat) : Nat := [115, 116, 97, 121, 32, 50, 48, 48, 48, 32, 60, 32, 99, 111, 115, 116, 32, 59, 32, 108, 97, 116, 101, 32, 109, 97, 110, 121, 32, 42, 32, 50, 32, 59, 32, 97, 115, 107, 32, 109, 97, 110, 121, 32, 59].getD i 0
theorem hB0 : bts B0 45 := ⟨by omega, by decide +kernel⟩
theorem t0_0 : tK B0 45 0 = 4 ∧ tN B0 45 0 = 4 := by decide +kernel
theorem t0_4 : tK B0 45 4 = 2 ∧ tV B0 45 4 = 2000 ∧ tN B0 45 4 = 9 := by decide +kernel
theorem t0_9 : tK B0 45 9 = 60 ∧ tN B0 45 9 = 11 := by decide +kernel
theorem t0_11 : tK B0 45 11 = 3 ∧ tV B0 45 11 = 0 ∧ tN B0 45 11 = 16 := by decide +kernel
theorem t0_16 : tK B0 45 16 = 59 ∧ tN B0 45 16 = 18 := by decide +kernel
theorem t0_18 : tK B0 45 18 = 5 ∧ tN B0 45 18 = 23 := by decide +kernel
theorem t0_23 : tK B0 45 23 = 3 ∧ tV B0 45 23 = 4 ∧ tN B0 45 23 = 28 := by decide +kernel
theorem t0_28 : tK B0 45 28 = 42 ∧ tN B0 45 28 = 30 := by decide +kernel
theorem t0_30 : tK B0 45 30 = 2 ∧ tV B0 45 30 = 2 ∧ tN B0 45 30 = 32 := by decide +kernel
theorem t0_32 : tK B0 45 32 = 59 ∧ tN B0 45 32 = 34 := by decide +kernel
theorem t0_34 : tK B0 45 34 = 6 ∧ tN B0 45 34 = 38 := by decide +kernel
theorem t0_38 : tK B0 45 38 = 3 ∧ tV B0 45 38 = 4 ∧ tN B0 45 38 = 43 := by decide +kernel
theorem t0_43 : tK B0 45 43 = 59 ∧ tN B0 45 43 = 45 := by decide +kernel
theorem t0_45 : tK B0 45 45 = 0 := by decide +kernel
theorem nj {l k : Nat} (h : k ≠ 7 ∧ k ≠ 8 ∧ k ≠ 43 ∧ k ≠ 45 ∧ (k = 60 → l ≠ 2) ∧ k ≠ 61 ∧ (k = 42 → l ≠ 4)) : ¬ jn l k := by
  unfold jn
  omega
theorem rs_1 : RS B0 45 64 0 4 [102000, 0, 14] 16 := by
  have a5 : RS B0 45 59 5 4 [102000] 9 := by
    have := RS_one (n := 58) (m := 102000) hB0 (by omega : 4 ≤ 45) (Or.inl ⟨t0_4.1, by rw [t0_4.2.1]⟩)
    rw [t0_4.2.2] at this
    exact this
  have a4 : RS B0 45 60 4 4 [102000] 9 := RS_up (by omega) (fun z => by omega) a5 (nj (by rw [t0_9.1]; decide))
  have a3 : RS B0 45 61 3 4 [102000] 9 := RS_up (by omega) (fun z => by omega) a4 (nj (by rw [t0_9.1]; decide))
  have b5 : RS B0 45 59 5 11 [0] 16 := by
    have := RS_one (n := 58) (m := 0) hB0 (by omega : 11 ≤ 45) (Or.inr ⟨t0_11.1, by rw [t0_11.2.1]⟩)
    rw [t0_11.2.2] at this
    exact this
  have b4 : RS B0 45 60 4 11 [0] 16 := RS_up (by omega) (fun z => by omega) b5 (nj (by rw [t0_16.1]; decide))
  have b3 : RS B0 45 61 3 11 [0] 16 := RS_up (by omega) (fun z => by omega) b4 (nj (by rw [t0_16.1]; decide))
  have c2 : RS B0 45 62 2 4 [102000, 0, 14] 16 := by
    have := RS_two (n := 61) (l := 2) (Y := [0]) (pe := 16) hB0 (by omega) (fun _ => by rw [t0_4.1]; omega) a3 (by rw [t0_9.1]; unfold jn; omega) (by rw [t0_9.2]; exact b3) (Or.inr rfl)
    rw [t0_9.1] at this
    exact this
  have c1 : RS B0 45 63 1 4 [102000, 0, 14] 16 := RS_up (by omega) (fun z => by omega) c2 (nj (by rw [t0_16.1]; decide))
  exact RS_up (by omega) (fun z => by omega) c1 (nj (by rw [t0_16.1]; decide))
theorem rs_2 : RS B0 45 64 0 23 [4, 100002, 18] 32 := by
  have a5 : RS B0 45 59 5 23 [4] 28 := by
    have := RS_one (n := 58) (m := 4) hB0 (by omega : 23 ≤ 45) (Or.inr ⟨t0_23.1, by rw [t0_23.2.1]⟩)
    rw [t0_23.2.2] at this
    exact this
  have b5 : RS B0 45 59 5 30 [100002] 32 := by
    have := RS_one (n := 58) (m := 100002) hB0 (by omega : 30 ≤ 45) (Or.inl ⟨t0_30.1, by rw [t0_30.2.1]⟩)
    rw [t0_30.2.2] at this
    exact this
  have c4 : RS B0 45 60 4 23 [4, 100002, 18] 32 := by
    have := RS_two (n := 59) (l := 4) (Y := [100002]) (pe := 32) hB0 (by omega) (fun z => by omega) a5 (by rw [t0_28.1]; unfold jn; omega) (by rw [t0_28.2]; exact b5) (Or.inl (nj (by rw [t0_32.1]; decide)))
    rw [t0_28.1] at this
    exact this
  have c3 : RS B0 45 61 3 23 [4, 100002, 18] 32 := RS_up (by omega) (fun z => by omega) c4 (nj (by rw [t0_32.1]; decide))
  have c2 : RS B0 45 62 2 23 [4, 100002, 18] 32 := RS_up (by omega) (fun z => by rw [t0_23.1]; omega) c3 (nj (by rw [t0_32.1]; decide))
  have c1 : RS B0 45 63 1 23 [4, 100002, 18] 32 := RS_up (by omega) (fun z => by omega) c2 (nj (by rw [t0_32.1]; decide))
  exact RS_up (by omega) (fun z => by omega) c1 (nj (by rw [t0_32.1]; decide))
theorem rs_3 : RS B0 45 64 0 38 [4] 43 := by
  have a5 : RS B0 45 59 5 38 [4] 43 := by
    have := RS_one (n := 58) (m := 4) hB0 (by omega : 38 ≤ 45) (Or.inr ⟨t0_38.1, by rw [t0_38.2.1]⟩)
    rw [t0_38.2.2] at this
    exact this
  have c4 : RS B0 45 60 4 38 [4] 43 := RS_up (by omega) (fun z => by omega) a5 (nj (by rw [t0_43.1]; decide))
  have c3 : RS B0 45 61 3 38 [4] 43 := RS_up (by omega) (fun z => by omega) c4 (nj (by rw [t0_43.1]; decide))
  have c2 : RS B0 45 62 2 38 [4] 43 := RS_up (by omega) (fun z => by rw [t0_38.1]; omega) c3 (nj (by rw [t0_43.1]; decide))
  have c1 : RS B0 45 63 1 38 [4] 43 := RS_up (by omega) (fun z => by omega) c2 (nj (by rw [t0_43.1]; decide))
  exact RS_up (by omega) (fun z => by omega) c1 (nj (by rw [t0_43.1]; decide))
/-- one part of it -/
theorem PS {B : Nat → Nat} {L q f p p' : Nat} {X C : List Nat} (hB : bts B L) (hq : q < 3) {s : xM} (hc : cls B L 0 s p C) (hp : p ≤ L) (hk : tK B L p = 4 + q) (hr : RS B L 64 0 (tN B L p) X p') (he : tK B L p' = 59) (h4 : gi s 97 4 = nI q) (hl : C.length + X.length ≤ 160) {Q : Int32 → xM → Prop} (K : ∀ s', Fr (xQ 0) s s' → cls B L 0 s' (tN B L p') (C ++ X) → gi s' 97 4 = nI (q + 1) → (∀ i, i < q → gi s' 99 i = gi s 99 i) → gi s' 99 q = nI (C.length + X.length) → Ok (fX1_faultOf_L13 kF kE 0 f (nI (4 + q + 1)) s') Q) : Ok (fX1_faultOf_L13 kF kE 0 (f + 1) (nI (4 + q)) s) Q := by
  have hl1 := hB.1
  have t100 := tK_lt B L p
  have t100b := tK_lt B L p'
  unfold fX1_faultOf_L13 fX1_passes
  refine ok_F (show ¬ (6 : Int32) < nI (4 + q) from nI_nlt (b := 4 + q) (a := 6) (by omega) (by omega)) ?_
  rw [cls_K hc, if_pos (by rw [hk])]
  refine ok_B (ok_B (e_advC hB hp hc fun s1 c1 G1 => ok_R (ok_F n10 (ok_B ?_))))
  have r0 := hr.2 s1 C c1 hl
  rw [show nI 0 = (0 : Int32) from rfl] at r0
  refine ok_mono r0 fun r s2 g => ?_
  obtain ⟨rfl, G2, e5⟩ := g
  refine ok_F n10 (ok_B ?_)
  rw [cls_K e5]
  refine ok_T (by rw [he]; rfl) (ok_B (e_advC hB hr.1 e5 fun s3 c3 G3 => ok_R (ok_F n10 (ok_B ?_))))
  have lCX : (C ++ X).length = C.length + X.length := List.length_append
  have x4 : gi s3 97 4 = nI q := by
    rw [(G3 _ _ (by unfold xP; omega)).1, (G2 _ _ (by unfold xP; omega)).1, (G1 _ _ (by unfold xP; omega)).1]
    exact h4
  have x3 : gi s3 97 3 = nI (C ++ X).length := c3.2.2.2.2.2.1
  unfold fX5_endPart
  show Ok (if (3 : Int32) ≤ gi s3 97 4 then _ else _) _
  rw [x4]
  refine ok_F (show ¬ (3 : Int32) ≤ nI q from nI_ge (b := 3) (by omega) (by omega)) ?_
  refine ok_G (inb_n (by omega) (by omega)) (ok_lz.mpr (ok_lz.mpr (ok_R ?_)))
  show Ok (fX1_faultOf_L13 kF kE 0 f (nI (4 + q) + 1) (si (si s3 99 (nI q).toNatClampNeg (gi s3 97 3)) 97 4 ((gi (si s3 99 (nI q).toNatClampNeg (gi s3 97 3)) 97 4) + (1 : Int32)))) Q
  rw [nI_clamp (by omega), x3]
  have x4' : gi (si s3 99 q (nI (C ++ X).length)) 97 4 = nI q := by
    rw [gi_si, if_neg (by omega)]
    exact x4
  rw [x4', nI_1 q, nI_1 (4 + q)]
  have G4 : Fr (fun c i => c = 99 ∨ (c = 97 ∧ i = 4)) s3 (si (si s3 99 q (nI (C ++ X).length)) 97 4 (nI (q + 1))) := Fr_si (Fr_si Fr_rf _ (by omega)) _ (by omega)
  refine K _ (Fr_tr (Fr_mono G1 xP_Q) (Fr_tr (Fr_mono G2 xP_Q) (Fr_tr (Fr_mono G3 xP_Q) (Fr_mono G4 fun c i h => by unfold xQ; omega)))) ?_ (gi_same _ _ _ _) (fun i hi => ?_) ?_
  · obtain ⟨b1, b2, b3, b4, b5, b6, b7⟩ := c3
    refine ⟨tpX_fr b1 G4 (fun c i h => by omega), ?_, ?_, ?_, fun z => ?_, ?_, fun i hi => ?_⟩
    · rw [(G4 _ _ (by omega)).1]
      exact b2
    · rw [(G4 _ _ (by omega)).1]
      exact b3
    · rw [(G4 _ _ (by omega)).1]
      exact b4
    · rw [(G4 _ _ (by omega)).1]
      exact b5 z
    · rw [(G4 _ _ (by omega)).1]
      exact b6
    · rw [(G4 _ _ (by omega)).1]
      exact b7 i hi
  · rw [gi_si, if_neg (by omega), gi_si, if_neg (by omega), (G3 _ _ (by unfold xP; omega)).1, (G2 _ _ (by unfold xP; omega)).1, (G1 _ _ (by unfold xP; omega)).1]
  · rw [gi_si, if_neg (by omega), gi_same, lCX]
def C0 : List Nat := [102000, 0, 14, 4, 100002, 18, 4]
theorem e_law0 {σ : xM} (hx : tpX B0 45 σ) {Q : Int32 → xM → Prop} (K : ∀ s', Fr (xQ 0) σ s' → gi s' 97 4 = nI 3 → gi s' 99 0 = nI 3 → gi s' 99 1 = nI 6 → gi s' 99 2 = nI 7 → (∀ i, i < 7 → gi s' 98 i = cdX (C0.getD i 0)) → Q (-1) s') : Ok (fX1_faultOf 0 σ) Q := by
  obtain ⟨f, hf⟩ := fu_big
  have F1 : Fr (xQ 0) σ (si (si (si σ 97 3 0) 97 4 0) 77 4 0) := Fr_si (Fr_si (Fr_si Fr_rf _ (by unfold xQ; omega)) _ (by unfold xQ; omega)) _ (by unfold xQ; omega)
  have a3 : gi (si (si (si σ 97 3 0) 97 4 0) 77 4 0) 97 3 = 0 := by
    rw [gi_si, if_neg (by omega), gi_si, if_neg (by omega), gi_same]
  have a4 : gi (si (si (si σ 97 3 0) 97 4 0) 77 4 0) 97 4 = 0 := by
    rw [gi_si, if_neg (by omega), gi_same]
  have a7 : gi (si (si (si σ 97 3 0) 97 4 0) 77 4 0) 77 4 = nI 0 := gi_same _ _ _ _
  have hx1 := tpX_fr hx F1 (fun c i q => by unfold xQ at q; omega)
  unfold fX1_faultOf fX5_clear fX4_rewind
  refine ok_B (ok_lz.mpr (ok_lz.mpr (ok_R (ok_B (ok_lz.mpr (ok_B ?_))))))
  show Ok (fX4_advance (si (si (si σ 97 3 0) 97 4 0) 77 4 0)) _
  generalize si (si (si σ 97 3 0) 97 4 0) 77 4 0 = s1 at F1 a3 a4 a7 hx1 ⊢
  refine e_adv hB0 (Nat.zero_le _) hx1 a7 fun s2 F2 g1 g2 g3 g4 => ok_R ?_
  have c2 : cls B0 45 0 s2 0 [] := by
    refine ⟨tpX_fr hx1 F2 (fun c i q => by unfold xTkn at q; omega), g1, g2, g3, g4, ?_, fun i hi => absurd hi (Nat.not_lt_zero _)⟩
    show gi s2 97 3 = _
    rw [(F2 _ _ (by unfold xTkn; omega)).1, a3]
    rfl
  have p2 : gi s2 97 4 = nI 0 := by
    rw [(F2 _ _ (by unfold xTkn; omega)).1, a4]
    rfl
  have k1 : (fun s7 => some ((gi s7 77 3), s7)) = kF := rfl
  have k2 : (fun s8 => if (gi s8 77 2) = 0 then some ((-1 : Int32), s8) else some ((gi s8 77 3), s8)) = kE := rfl
  rw [k1, k2, hf, show (4 : Int32) = nI (4 + 0) from rfl]
  refine PS (X := [102000, 0, 14]) (p' := 16) hB0 (by omega) c2 (Nat.zero_le _) t0_0.1 (by rw [t0_0.2]; exact rs_1) t0_16.1 p2 (by decide) fun s3 F3 c3 h3 _ q0 => ?_
  rw [t0_16.2] at c3
  refine PS (q := 1) (X := [4, 100002, 18]) (p' := 32) hB0 (by omega) c3 (by omega) t0_18.1 (by rw [t0_18.2]; exact rs_2) t0_32.1 h3 (by decide) fun s4 F4 c4 h4 u4 q1 => ?_
  rw [t0_32.2] at c4
  refine PS (q := 2) (X := [4]) (p' := 43) hB0 (by omega) c4 (by omega) t0_34.1 (by rw [t0_34.2]; exact rs_3) t0_43.1 h4 (by decide) fun s5 F5 c5 h5 u5 q2 => ?_
  rw [t0_43.2] at c5
  unfold fX1_faultOf_L13
  refine ok_T (by decide) ?_
  unfold kE
  rw [cls_K c5, t0_45]
  refine ok_T rfl (ok_R (K s5 (Fr_tr F1 (Fr_tr (Fr_mono F2 fun c i q => by unfold xTkn at q; unfold xQ; omega) (Fr_tr F3 (Fr_tr F4 F5)))) h5 ?_ ?_ q2 fun i hi => c5.2.2.2.2.2.2 i hi))
  · rw [u5 0 (by omega), u4 0 (by omega)]
    exact q0
  · rw [u5 1 (by omega)]
    exact q1
