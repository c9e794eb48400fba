/-! ===== text ===== -/
theorem getD_mem {C : List Nat} {i : Nat} (h : i < C.length) : C.getD i 0 ∈ C := by
  have : C.getD i 0 = C[i] := by simp [List.getD, List.getElem?_eq_getElem h]
  rw [this]
  exact List.getElem_mem h
theorem imgR_n {σ τ : xM} {N n m : Nat} (h : imgR σ τ N n) (l : n ≤ m) : imgR σ τ N m := by
  rcases h with h | ⟨a, b, ⟨w, c, d⟩, e⟩
  · exact Or.inl h
  · exact Or.inr ⟨a, b, ⟨w, by omega, d⟩, e⟩
def xR (j c i : Nat) : Prop := xQ j c i ∨ (c = 77 ∧ i = 1) ∨ (c = 0 ∧ i = 5)
def mR (j c i : Nat) : Prop := mQ j c i ∨ (c = 0 ∧ (i = 18 ∨ i = 21))
/-- what stays, whatever is read -/
theorem text_RT {σ τ σ' τ' : xM} {T : xTw} {n m : Nat} (h : RT σ τ T n) (hn : n < 6) (F : Fr (xR n) σ σ') (G : Fr (mR n) τ τ') (e1 : gi σ' 77 1 = nI 0) (e2 : gi τ' 0 18 = nI 0) (hm : n ≤ m) (hm6 : m ≤ 6) (f5 : gi σ' 0 5 = nI m) (f21 : gi τ' 0 21 = nI m) (new : ∀ k, n ≤ k → k < m → oneT σ' τ' k) : RT σ' τ' T m := by
  obtain ⟨hR, hZ, hX, hM, ht, ⟨n1, n2, n3, n4, ⟨w, w1, w2, w3⟩, n5⟩, hi, hs, hw⟩ := h
  have ga : ∀ c i, ¬ xR n c i → gi σ' c i = gi σ c i := fun c i q => (F c i q).1
  have gb : ∀ c i, ¬ mR n c i → gi τ' c i = gi τ c i := fun c i q => (G c i q).1
  unfold xR xQ at ga
  unfold mR mQ at gb
  refine ⟨hR, hZ, ⟨xTn_fr hX.1 F (fun c i q => ?_), xKA_fr hX.2.1 F (fun c i q => by unfold xR xQ at q; omega), xCl_fr hX.2.2 F (fun c i q => by unfold xR xQ at q; omega)⟩, mTn_fr hM G (fun c i q => by unfold mR mQ at q; unfold vT; omega), ⟨0, by omega, e1, e2, fun i hi => by omega⟩, ⟨by omega, hm6, f5, f21, ⟨w, by omega, by rw [ga _ _ (by omega)]; exact w2, by rw [gb _ _ (by omega)]; exact w3⟩, fun k hk => ?_⟩, ?_, shtR_eq hs (fun c i _ => ga _ _ (by omega)) (fun c i _ _ => gb _ _ (by omega)), fun k hk => ?_⟩
  · unfold xR xQ at q
    by_cases c0 : c = 0
    · exact Or.inl c0
    · exact Or.inr (Or.inl (by omega))
  · by_cases c : k < n
    · exact oneT_eq (n5 k c) (fun i => ⟨ga _ _ (by omega), ga _ _ (by omega), ga _ _ (by omega)⟩) (fun q hq => gb _ _ (by omega)) (fun c hc => gb _ _ (by omega))
    · exact new k (by omega) hk
  · exact imgR_n (imgR_eq hi (fun c i _ _ => ga _ _ (by omega)) (fun c i _ => gb _ _ (by omega))) hm
  · rw [(G 26 k (by unfold mR mQ; omega)).2]
    exact hw k hk
/-- what the two give for a text behind n -/
theorem text_go {B : Nat → Nat} {L n : Nat} {σ τ : xM} (hB : bts B L) (hn : n < 6) (hx : tpX B L σ) (hm : tpM B L τ) (hw : wrdR τ) (h21 : gi τ 0 21 = nI n) : ∃ r s', fX1_faultOf n σ = some (r, s') ∧ Fr (xQ n) σ s' ∧ ((∃ w t', w ≤ 160 ∧ r = nI w ∧ fX10_text_L26 kT fu 1 0 (si (si τ 0 47 0) 0 55 0) = fX10_text_J122 0 t' ∧ gi t' 0 48 = nI w ∧ Fr (mQ n) τ t') ∨ (r = -1 ∧ ∃ t' p' C' E', fX10_text_L26 kT fu 1 0 (si (si τ 0 47 0) 0 55 0) = fX10_text_J122 1 t' ∧ Fr (mQ n) τ t' ∧ cls B L n s' p' C' ∧ mdA B L n t' p' C' ∧ prI n 3 s' t' C' E' ∧ C'.length ≤ 160)) := by
  obtain ⟨f, hf⟩ := fu_big
  have F1 : Fr (xQ n) σ (si (si (si σ (97 + 4 * n) 3 0) (97 + 4 * n) 4 0) 77 4 0) := Fr_si (Fr_si (Fr_si Fr_rf _ (by unfold xQ; omega)) _ (by unfold xQ; omega)) _ (by unfold xQ; omega)
  have G1 : Fr (mQ n) τ (si (si τ 0 47 0) 0 55 0) := Fr_si (Fr_si Fr_rf _ (by unfold mQ; omega)) _ (by unfold mQ; omega)
  have a3 : gi (si (si (si σ (97 + 4 * n) 3 0) (97 + 4 * n) 4 0) 77 4 0) (97 + 4 * n) 3 = 0 := by
    rw [gi_si, if_neg (by omega), gi_si, if_neg (by omega), gi_same]
  have a4 : gi (si (si (si σ (97 + 4 * n) 3 0) (97 + 4 * n) 4 0) 77 4 0) (97 + 4 * n) 4 = 0 := by
    rw [gi_si, if_neg (by omega), gi_same]
  have q1 : mdA B L n (si (si τ 0 47 0) 0 55 0) 0 [] := by
    refine ⟨tpM_fr hm G1 (fun c i q => by unfold mQ at q; omega), fun k hk => ?_, ?_, ?_, gi_same _ _ _ _, fun i hi => absurd hi (Nat.not_lt_zero _)⟩
    · rw [(G1 26 k (by unfold mQ; omega)).2]
      exact hw k hk
    · rw [gi_si, if_neg (by omega), gi_same]
      rfl
    · rw [(G1 0 21 (by unfold mQ; omega)).1]
      exact h21
  have hx1 := tpX_fr hx F1 (fun c i q => by unfold xQ at q; omega)
  have key : Ok (fX1_faultOf n σ) (fun r s' => Fr (xQ n) σ s' ∧ ((∃ w t', w ≤ 160 ∧ r = nI w ∧ fX10_text_L26 kT fu 1 (nI 0) (si (si τ 0 47 0) 0 55 0) = fX10_text_J122 0 t' ∧ gi t' 0 48 = nI w ∧ Fr (mQ n) τ t') ∨ (r = -1 ∧ ∃ t' p' C' E', fX10_text_L26 kT fu 1 (nI 0) (si (si τ 0 47 0) 0 55 0) = fX10_text_J122 1 t' ∧ Fr (mQ n) τ t' ∧ cls B L n s' p' C' ∧ mdA B L n t' p' C' ∧ prI n 3 s' t' C' E' ∧ C'.length ≤ 160))) := by
    unfold fX1_faultOf fX5_clear fX4_rewind
    refine ok_B (ok_lz.mpr (ok_lz.mpr (ok_R (ok_B (ok_lz.mpr (ok_B ?_))))))
    have a7 : gi (si (si (si σ (97 + 4 * n) 3 0) (97 + 4 * n) 4 0) 77 4 0) 77 4 = nI 0 := gi_same _ _ _ _
    generalize si (si (si σ (97 + 4 * n) 3 0) (97 + 4 * n) 4 0) 77 4 0 = s1 at F1 a3 a4 a7 hx1 ⊢
    refine e_adv hB (Nat.zero_le _) hx1 a7 fun s2 F2 g1 g2 g3 g4 => ok_R ?_
    have c2 : cls B L n s2 0 [] := by
      refine ⟨tpX_fr hx1 F2 (fun c i q => by unfold xTkn at q; omega), g1, g2, g3, g4, ?_, fun i hi => absurd hi (Nat.not_lt_zero _)⟩
      rw [(F2 _ _ (by unfold xTkn; omega)).1, a3]
      rfl
    have p2 : prI n 0 s2 (si (si τ 0 47 0) 0 55 0) [] (fun _ => 0) := by
      refine ⟨rfl, rfl, fun i hi => absurd hi (Nat.not_lt_zero _), fun x hx => (by cases hx), ?_⟩
      rw [(F2 _ _ (by unfold xTkn; omega)).1, a4]
      rfl
    have r0 := PL hB hn 3 0 fu fu s2 _ 0 [] (fun _ => 0) rfl (by rw [hf]; omega) (by rw [hf]; omega) c2 q1 p2 (Nat.zero_le _) (Nat.zero_le _)
    have k1 : (fun s7 => some ((gi s7 77 3), s7)) = kF := rfl
    have k2 : (fun s8 => if (gi s8 77 2) = 0 then some ((-1 : Int32), s8) else some ((gi s8 77 3), s8)) = kE := rfl
    rw [k1, k2]
    rw [show nI (4 + 0) = (4 : Int32) from rfl] at r0
    refine ok_mono r0 fun r s' g => ?_
    obtain ⟨F3, g⟩ := g
    refine ⟨Fr_tr F1 (Fr_tr (Fr_mono F2 fun c i q => by unfold xTkn at q; unfold xQ; omega) F3), ?_⟩
    rcases g with ⟨w, t', a, b, c, d, e⟩ | ⟨a, t', p', C', E', b, c, d⟩
    · exact Or.inl ⟨w, t', a, b, c, d, Fr_tr G1 e⟩
    · exact Or.inr ⟨a, t', p', C', E', b, Fr_tr G1 c, d⟩
  obtain ⟨r, s', e, q⟩ := key
  exact ⟨r, s', e, q⟩
theorem sim_text : xs_text RR := by
  intro σ τ h
  refine sim_of ?_
  obtain ⟨T, n, h⟩ := h
  obtain ⟨hR, hZ, hX, hM, ⟨L, hL, t1, t2, t3⟩, ⟨n1, n2, n3, n4, ⟨w, w1, w2, w3⟩, n5⟩, hi, hs, hw⟩ := id h
  unfold fX9_text fX10_text
  rw [n3, n4]
  by_cases c6 : n = 6
  · refine rl_F (nI_nlt (a := n) (b := 6) (by omega) (by omega)) (rr_T (by rw [c6]; rfl) (sim_R h rfl))
  have hn : n < 6 := by omega
  refine rl_T (nI_lt (b := 6) hn (by omega)) (rl_G (inb_n hn (by omega)) (rr_F (fun z => c6 ((nI_eq (b := 6) (by omega) (by omega)).mp z)) ?_))
  rw [nI_clamp (by omega)]
  obtain ⟨B, hB⟩ : ∃ B : Nat → Nat, ∀ i, i < L → B i < 256 ∧ gi σ 78 i = nI (B i) ∧ gi τ 14 i = nI (B i) := by
    refine ⟨fun i => if z : i < L then (t3 i z).choose else 0, fun i z => ?_⟩
    have e : (if z : i < L then (t3 i z).choose else 0) = (t3 i z).choose := dif_pos z
    show (if z : i < L then (t3 i z).choose else 0) < 256 ∧ _ = nI (if z : i < L then (t3 i z).choose else 0) ∧ _ = nI (if z : i < L then (t3 i z).choose else 0)
    rw [e]
    exact (t3 i z).choose_spec
  obtain ⟨r, s', e, F, q⟩ := text_go (B := B) (L := L) (n := n) (σ := σ) (τ := τ) ⟨hL, fun i hi => (hB i hi).1⟩ hn ⟨t1, fun i hi => (hB i hi).2.1⟩ ⟨t2, fun i hi => (hB i hi).2.2⟩ hw n4
  rw [e]
  refine rl_B (ok_R (rl_lz.mpr (rr_lz.mpr (rr_lz.mpr ?_))))
  have hk : (fun (x6 : Int32) (s7 : xM) => if x6 = 0 then fX10_text_J122 x6 s7 else bd (fX10_next s7) fun _ s10 => if (gi s10 0 49) = 0 then fX10_text_J121 (1 : Int32) s10 else fX10_text_J121 (0 : Int32) s10) = kT := rfl
  rw [hk]
  have i16 : ((4 : Int32) * nI n) + (3 : Int32) = nI (4 * n + 3) := by
    rw [show (4 : Int32) = nI 4 from rfl, show (3 : Int32) = nI 3 from rfl, pk_mul, nI_add]
  rcases q with ⟨v, t', hv, rfl, em, e48, G⟩ | ⟨rfl, t', p', C', E', em, G, hc, hA, hp, hC⟩
  · rw [em]
    have g21 : gi t' 0 21 = nI n := by
      rw [(G _ _ (by unfold mQ; omega)).1]
      exact n4
    refine rl_F (nI_pos (by omega)) ?_
    unfold fX10_text_J122
    rw [g21, i16]
    refine rr_G (inb_n (by omega) (by omega)) (rr_lz.mpr (rr_lz.mpr (rr_T rfl ?_)))
    rw [nI_clamp (by omega)]
    have G2 : Fr (mR n) τ (si (si t' 16 (4 * n + 3) (gi t' 0 55)) 0 18 0) := Fr_si (Fr_si (Fr_mono G fun c i q => Or.inl q) _ (Or.inl (by unfold mQ; omega))) _ (Or.inr ⟨rfl, Or.inl rfl⟩)
    have F2 : Fr (xR n) σ (si s' 77 1 0) := Fr_si (Fr_mono F fun c i q => Or.inl q) _ (Or.inr (Or.inl ⟨rfl, rfl⟩))
    refine sim_R (text_RT h hn F2 G2 (gi_same _ _ _ _) (gi_same _ _ _ _) (Nat.le_refl _) n2 ?_ ?_ (fun k a b => by omega)) ?_
    · rw [gi_si, if_neg (by omega), (F _ _ (by unfold xQ; omega)).1]
      exact n3
    · rw [gi_si, if_neg (by omega), gi_si, if_neg (by omega)]
      exact g21
    · rw [gi_si, if_neg (by omega), gi_si, if_neg (by omega), e48]
  · rw [em]
    have g21 : gi t' 0 21 = nI n := hA.2.2.2.1
    have g5 : gi s' 0 5 = nI n := by
      rw [(F _ _ (by unfold xQ; omega)).1]
      exact n3
    have g5' : gi (si s' 77 1 0) 0 5 = nI n := by
      rw [gi_si, if_neg (by omega)]
      exact g5
    refine rl_T (by decide) (rl_lz.mpr ?_)
    rw [g5', nI_1, gi_same]
    unfold fX10_text_J122
    rw [g21, i16]
    refine rr_G (inb_n (by omega) (by omega)) (rr_lz.mpr (rr_lz.mpr (rr_F n10 (rr_lz.mpr ?_))))
    rw [nI_clamp (by omega), hA.2.2.2.2.1]
    have g21' : gi (si (si t' 16 (4 * n + 3) (nI C'.length)) 0 18 0) 0 21 = nI n := by
      rw [gi_si, if_neg (by omega), gi_si, if_neg (by omega)]
      exact g21
    rw [g21', nI_1, gi_same]
    have G2 : Fr (mR n) τ (si (si (si t' 16 (4 * n + 3) (nI C'.length)) 0 18 0) 0 21 (nI (n + 1))) := Fr_si (Fr_si (Fr_si (Fr_mono G fun c i q => Or.inl q) _ (Or.inl (by unfold mQ; omega))) _ (Or.inr ⟨rfl, Or.inl rfl⟩)) _ (Or.inr ⟨rfl, Or.inr rfl⟩)
    have F2 : Fr (xR n) σ (si (si s' 77 1 0) 0 5 (nI (n + 1))) := Fr_si (Fr_si (Fr_mono (P' := xR n) F fun c i q => Or.inl q) _ (by unfold xR; omega)) _ (by unfold xR; omega)
    refine sim_R (text_RT (m := n + 1) h hn F2 G2 ?_ ?_ (by omega) (by omega) (gi_same _ _ _ _) (gi_same _ _ _ _) fun k a b => ?_) rfl
    · rw [gi_si, if_neg (by omega), gi_same]
      rfl
    · rw [gi_si, if_neg (by omega), gi_same]
      rfl
    · obtain rfl : k = n := by omega
      obtain ⟨E0, E3, EP, EC, E4⟩ := hp
      have hC7 := hc.2.2.2.2.2.2
      have hA6 := hA.2.2.2.2.2
      refine ⟨?_, fun c => C'.getD c 0, E', E0, by omega, fun q hq => ⟨(EP q hq).1, ?_⟩, fun q hq => ?_, fun c hc2 => ⟨EC _ (getD_mem (by omega)), ?_, ?_⟩⟩
      · rw [gi_si, if_neg (by omega), gi_si, if_neg (by omega)]
        exact E4
      · rw [gi_si, if_neg (by omega), gi_si, if_neg (by omega)]
        exact (EP q hq).2.2.1
      · rw [gi_si, if_neg (by omega), gi_si, if_neg (by omega)]
        by_cases e3 : q = 3
        · rw [e3, gi_same, E3]
        · rw [gi_si, if_neg (by omega)]
          exact (EP q (by omega)).2.2.2
      · rw [gi_si, if_neg (by omega), gi_si, if_neg (by omega)]
        exact hC7 c (by omega)
      · rw [gi_si, if_neg (by omega), gi_si, if_neg (by omega), gi_si, if_neg (by omega)]
        exact hA6 c (by omega)
