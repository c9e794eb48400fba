theorem ol_stood79 {c : Nat} {A B : Nat → Nat} (hB : ∀ x, B (x + 1) = B x + A (x + 1)) (h0 : B 0 = A 0) {kt : xM → Option (Int32 × xM)} {Q : Int32 → xM → Prop} : ∀ (m i n : Nat) (s : xM), i + m = 42 → 1 ≤ i → m < n → (∀ x, x < 42 → gi s (51 + c) x = nI (if x < i then B x else A x)) → (∀ s', Fr (fun d _ => d = 51 + c) s s' → (∀ x, x < 42 → gi s' (51 + c) x = nI (B x)) → Ok (kt s') Q) → Ok (fX8_addUpStanding_L79 kt c n (nI i) s) Q := by
  intro m
  induction m with
  | zero =>
    intro i n s hi h1 hn hx kk
    obtain ⟨n, rfl⟩ : ∃ n', n = n' + 1 := ⟨n - 1, by omega⟩
    unfold fX8_addUpStanding_L79
    refine ok_T (nI_lt (a := 41) (by omega) (by omega)) ?_
    refine kk s Fr_rf (fun x hx2 => ?_)
    rw [hx x hx2, if_pos (by omega)]
  | succ m ih =>
    intro i n s hi h1 hn hx kk
    obtain ⟨n, rfl⟩ : ∃ n', n = n' + 1 := ⟨n - 1, by omega⟩
    obtain ⟨d, rfl⟩ : ∃ d, i = d + 1 := ⟨i - 1, by omega⟩
    unfold fX8_addUpStanding_L79
    refine ok_F (nI_nlt (a := 41) (b := d + 1) (by omega) (by omega)) ?_
    have x1 := hx (d + 1) (by omega)
    have x2 := hx d (by omega)
    rw [if_neg (by omega)] at x1
    rw [if_pos (by omega)] at x2
    simp (disch := omega) only [ok_gd, ok_lz, inb_n, nI_clamp, nI_pred, true_and, nI_1, x1, x2, nI_add]
    have f1 : Fr (fun e _ => e = 51 + c) s (si s (51 + c) (d + 1) (nI (A (d + 1) + B d))) := Fr_si Fr_rf _ rfl
    refine ih (d + 1 + 1) n _ (by omega) (by omega) (by omega) ?_ (fun s' f => kk s' (Fr_tr f1 f))
    intro x hx2
    rw [gi_si]
    by_cases e : x = d + 1
    · rw [if_pos ⟨rfl, e⟩, if_pos (by omega), e, hB, Nat.add_comm]
    · rw [if_neg (fun h => e h.2), hx x hx2]
      by_cases e2 : x < d + 1
      · rw [if_pos e2, if_pos (by omega)]
      · rw [if_neg e2, if_neg (by omega)]
theorem of_stood {T : xTw} (hR : rgT T) {c : Nat} (hc : c < 2) {s : xM} {Q : Int32 → xM → Prop} (hT : xTk s T) (hm : memS s (memL T (T 0 4))) (h1 : mes1 s T (T 0 4)) (kk : ∀ s', Fr (fun d _ => d = 51 + c) s s' → (∀ x, x < 42 → gi s' (51 + c) x = nI (stdS T c x)) → Q 0 s') : Ok (fX8_addUpStanding (nI c) s) Q := by
  have h8 := rg_stops hR
  have hlen := memL_len T (T 0 4)
  obtain ⟨f, hf⟩ := fu_big
  unfold fX8_addUpStanding
  refine ok_G (inb_n (by omega) (by omega)) ?_
  rw [nI_clamp (by omega), hf]
  refine ok_B (of_fill (by omega) (fun s1 f1 v1 => ?_))
  have g1 : Fr (fun d _ => d = 51 + c) s s1 := Fr_mono f1 (fun d j q => q.1)
  refine ol_stood14 hR (l := memL T (T 0 4)) (fun i hi => ?_) (by omega) hc _ 0 (f + 4000) s1 (Nat.zero_add _) (by omega) (xTk_fr hT g1 (fun d j q => by unfold xoff; omega)) ⟨by rw [(g1 27 7 (by omega)).1]; exact hm.1, fun j hj => by rw [(g1 49 j (by omega)).1]; exact hm.2 j hj⟩ (fun p hp => by rw [(g1 28 p (by omega)).1, (g1 29 p (by omega)).1]; exact h1 p hp) (fun x hx => v1 x hx) (fun s2 f2 x2 => ?_)
  · refine (memL_lt T _ _ ?_).1
    rw [List.getD_eq_getElem?_getD, List.getElem?_eq_getElem hi]
    exact List.getElem_mem hi
  have eA : ∀ x, sumN (fun j => stA T c x ((memL T (T 0 4)).getD j 0)) (memL T (T 0 4)).length = sumN (fun o => if T 7 o = 1 then stA T c x o else 0) (T 0 4) := fun x => sumN_mem T (stA T c x) (T 0 4)
  refine ol_stood79 (A := fun x => sumN (fun o => if T 7 o = 1 then stA T c x o else 0) (T 0 4)) (B := stdS T c) ?_ ?_ 41 1 (f + 4000) s2 (by omega) (by omega) (by omega) ?_ (fun s3 f3 x3 => ok_R (kk s3 (Fr_tr g1 (Fr_tr f2 f3)) x3))
  · intro x
    show stdS T c (x + 1) = stdS T c x + _
    unfold stdS
    rw [← sumN_add]
    refine sumN_congr _ (fun o ho => ?_)
    split
    · exact stB_step T c x o
    · rfl
  · show stdS T c 0 = sumN _ _
    unfold stdS
    refine sumN_congr _ (fun o ho => ?_)
    rw [stB_0, show stA T c 0 o = 0 from if_neg (by omega)]
  · intro x hx
    rw [x2 x hx, eA]
    by_cases e : x < 1
    · have : x = 0 := by omega
      subst this
      rw [if_pos e]
      refine congrArg nI ?_
      refine sumN_congr _ (fun o ho => ?_)
      rw [stB_0, show stA T c 0 o = 0 from if_neg (by omega)]
    · rw [if_neg e]
