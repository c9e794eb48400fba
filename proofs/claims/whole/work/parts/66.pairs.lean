/-! ===== all rides of a set ===== -/
theorem memL_getD {T : xTw} {n i : Nat} (hi : i < (memL T n).length) : (memL T n).getD i 0 < n ∧ T 7 ((memL T n).getD i 0) = 1 := by
  refine memL_lt T _ _ ?_
  rw [List.getD_eq_getElem?_getD, List.getElem?_eq_getElem hi]
  exact List.getElem_mem hi
theorem memL_inc (T : xTw) : ∀ n i j, i < j → j < (memL T n).length → (memL T n).getD i 0 < (memL T n).getD j 0
  | 0, i, j, _, h => absurd h (Nat.not_lt_zero _)
  | n + 1, i, j, hij, hj => by
    by_cases c : T 7 n = 1
    · have el : memL T (n + 1) = memL T n ++ [n] := if_pos c
      rw [el] at hj ⊢
      rw [List.length_append] at hj
      have hj : j < (memL T n).length + 1 := hj
      have gi : (memL T n ++ [n]).getD i 0 = (memL T n).getD i 0 := by
        rw [List.getD_eq_getElem?_getD, List.getD_eq_getElem?_getD, List.getElem?_append_left (by omega)]
      rw [gi]
      by_cases e : j = (memL T n).length
      · have gj : (memL T n ++ [n]).getD j 0 = n := by
          rw [e]
          simp
        rw [gj]
        exact (memL_getD (by omega)).1
      · have gj : (memL T n ++ [n]).getD j 0 = (memL T n).getD j 0 := by
          rw [List.getD_eq_getElem?_getD, List.getD_eq_getElem?_getD, List.getElem?_append_left (by omega)]
        rw [gj]
        exact memL_inc T n i j hij (by omega)
    · have el : memL T (n + 1) = memL T n := if_neg c
      rw [el] at hj ⊢
      exact memL_inc T n i j hij hj
def frQ (c _i : Nat) : Prop := (54 ≤ c ∧ c ≤ 61) ∨ (63 ≤ c ∧ c ≤ 70)
theorem good_fr {P : Nat → Nat → Prop} {σ σ' : xM} {T : xTw} {x y : Nat} (h : good σ T x y) (f : Fr P σ σ') (h1 : ¬ P (54 + x) y) (h2 : ¬ P (63 + x) y) : good σ' T x y := by
  unfold good
  rw [(f _ _ h1).1, (f _ _ h2).1]
  exact h
/-- what the loops over pairs stand on -/
def onS (s : xM) (T : xTw) : Prop := xTk s T ∧ stdX s T ∧ mes1 s T (T 0 4) ∧ memS s (memL T (T 0 4))
theorem onS_fr {s s' : xM} {T : xTw} (h : onS s T) (f : Fr frQ s s') : onS s' T := by
  refine ⟨xTk_fr h.1 f (fun c i q => ?_), fun c hc x hx => ?_, fun p hp => ?_, ?_, fun i hi => ?_⟩
  · unfold frQ at q
    unfold xoff
    omega
  · rw [(f _ _ (by unfold frQ; omega)).1]
    exact h.2.1 c hc x hx
  · rw [(f 28 p (by unfold frQ; omega)).1, (f 29 p (by unfold frQ; omega)).1]
    exact h.2.2.1 p hp
  · rw [(f 27 7 (by unfold frQ; omega)).1]
    exact h.2.2.2.1
  · rw [(f 49 i (by unfold frQ; omega)).1]
    exact h.2.2.2.2 i hi
def goodP (s : xM) (T : xTw) (l : List Nat) (i j : Nat) : Prop := ∀ a b, a < b → b < l.length → (a < i ∨ (a = i ∧ b < j)) → good s T (l.getD a 0) (l.getD b 0) ∧ good s T (l.getD b 0) (l.getD a 0)
theorem ol_look77 {T : xTw} (hR : rgT T) {ev i : Nat} (hev : ev = T 0 2) (hi : i < (memL T (T 0 4)).length) {kt : xM → Option (Int32 × xM)} {Q : Int32 → xM → Prop} : ∀ (m j n : Nat) (s : xM), j + m = (memL T (T 0 4)).length → i < j → m < n → onS s T → goodP s T (memL T (T 0 4)) i j → (∀ s', Fr frQ s s' → goodP s' T (memL T (T 0 4)) (i + 1) 0 → Ok (kt s') Q) → Ok (fX8_look_L77 kt (nI ev) (nI i) n (nI j) s) Q := by
  have h8 := rg_stops hR
  have hl := memL_len T (T 0 4)
  intro m
  induction m with
  | zero =>
    intro j n s hj hij hn hO hg kk
    obtain ⟨n, rfl⟩ : ∃ n', n = n' + 1 := ⟨n - 1, by omega⟩
    unfold fX8_look_L77
    refine ok_T (by rw [hO.2.2.2.1]; exact nI_le (by omega) (by omega)) ?_
    exact kk s Fr_rf (fun a b hab hb hc => hg a b hab hb (by omega))
  | succ m ih =>
    intro j n s hj hij hn hO hg kk
    obtain ⟨n, rfl⟩ : ∃ n', n = n' + 1 := ⟨n - 1, by omega⟩
    have mi := memL_getD hi
    have mj := memL_getD (show j < (memL T (T 0 4)).length by omega)
    have inc := memL_inc T (T 0 4) i j hij (by omega)
    unfold fX8_look_L77
    refine ok_F (by rw [hO.2.2.2.1]; exact nI_ge (by omega) (by omega)) ?_
    simp (disch := omega) only [ok_gd, inb_n, nI_clamp, true_and, hO.2.2.2.2 i hi, hO.2.2.2.2 j (by omega)]
    refine ok_B (of_ride hR hO.1 hO.2.1 hO.2.2.1 hev mi.1 mj.1 (by omega) mi.2 mj.2 (fun s' f g1 g2 => ?_))
    rw [nI_1]
    have f2 : Fr frQ s s' := Fr_mono f (fun c x q => by unfold frR at q; unfold frQ; omega)
    refine ih (j + 1) n s' (by omega) (by omega) (by omega) (onS_fr hO f2) ?_ (fun s2 f3 => kk s2 (Fr_tr f2 f3))
    intro a b hab hb hc
    by_cases e : a = i ∧ b = j
    · rw [e.1, e.2]
      exact ⟨g1, g2⟩
    · have ha := memL_getD (show a < (memL T (T 0 4)).length by omega)
      have hb2 := memL_getD hb
      have gg := hg a b hab hb (by omega)
      have iab := memL_inc T (T 0 4) a b hab hb
      have ne : ¬ ((memL T (T 0 4)).getD a 0 = (memL T (T 0 4)).getD i 0 ∧ (memL T (T 0 4)).getD b 0 = (memL T (T 0 4)).getD j 0) := by
        intro h
        rcases Nat.lt_trichotomy a i with c | c | c
        · have := memL_inc T (T 0 4) a i c hi
          omega
        · rcases Nat.lt_trichotomy b j with d | d | d
          · have := memL_inc T (T 0 4) b j d (by omega)
            omega
          · exact e ⟨c, d⟩
          · have := memL_inc T (T 0 4) j b d hb
            omega
        · omega
      refine ⟨good_fr gg.1 f ?_ ?_, good_fr gg.2 f ?_ ?_⟩
      all_goals (unfold frR; omega)
theorem memL_ix (T : xTw) : ∀ n p, p < n → T 7 p = 1 → ∃ i, i < (memL T n).length ∧ (memL T n).getD i 0 = p
  | 0, p, h, _ => absurd h (Nat.not_lt_zero _)
  | n + 1, p, h, o => by
    by_cases c : T 7 n = 1
    · have el : memL T (n + 1) = memL T n ++ [n] := if_pos c
      rw [el, List.length_append]
      by_cases e : p = n
      · refine ⟨(memL T n).length, Nat.lt_succ_self _, ?_⟩
        rw [e]
        simp
      · obtain ⟨i, hi, g⟩ := memL_ix T n p (by omega) o
        refine ⟨i, Nat.lt_succ_of_lt hi, ?_⟩
        rw [← g, List.getD_eq_getElem?_getD, List.getD_eq_getElem?_getD, List.getElem?_append_left hi]
    · have el : memL T (n + 1) = memL T n := if_neg c
      rw [el]
      refine memL_ix T n p ?_ o
      by_cases e : p = n
      · rw [e] at o
        exact absurd o c
      · omega
theorem ol_look64 {T : xTw} (hR : rgT T) {ev : Nat} (hev : ev = T 0 2) {kt : xM → Option (Int32 × xM)} {Q : Int32 → xM → Prop} : ∀ (m i n : Nat) (s : xM), i + m = (memL T (T 0 4)).length → m < n → onS s T → goodP s T (memL T (T 0 4)) i 0 → (∀ s', Fr frQ s s' → (∀ p q, p < T 0 4 → q < T 0 4 → p ≠ q → T 7 p = 1 → T 7 q = 1 → good s' T p q) → Ok (kt s') Q) → Ok (fX8_look_L64 kt (nI ev) n (nI i) s) Q := by
  have h8 := rg_stops hR
  have hl := memL_len T (T 0 4)
  intro m
  induction m with
  | zero =>
    intro i n s hi hn hO hg kk
    obtain ⟨n, rfl⟩ : ∃ n', n = n' + 1 := ⟨n - 1, by omega⟩
    unfold fX8_look_L64
    refine ok_T (by rw [hO.2.2.2.1]; exact nI_le (by omega) (by omega)) ?_
    refine kk s Fr_rf (fun p q hp hq hpq op oq => ?_)
    obtain ⟨a, ha, ea⟩ := memL_ix T (T 0 4) p hp op
    obtain ⟨b, hb, eb⟩ := memL_ix T (T 0 4) q hq oq
    rcases Nat.lt_trichotomy a b with c | c | c
    · have g := (hg a b c hb (Or.inl (by omega))).1
      rw [ea, eb] at g
      exact g
    · rw [c] at ea
      exact absurd (ea.symm.trans eb) hpq
    · have g := (hg b a c ha (Or.inl (by omega))).2
      rw [ea, eb] at g
      exact g
  | succ m ih =>
    intro i n s hi hn hO hg kk
    obtain ⟨n, rfl⟩ : ∃ n', n = n' + 1 := ⟨n - 1, by omega⟩
    obtain ⟨f, hf⟩ := fu_big
    unfold fX8_look_L64
    refine ok_F (by rw [hO.2.2.2.1]; exact nI_ge (by omega) (by omega)) ?_
    refine ok_lz.mpr ?_
    rw [nI_1, hf]
    refine ol_look77 hR hev (by omega) ((memL T (T 0 4)).length - (i + 1)) (i + 1) (f + 4000) s (by omega) (by omega) (by omega) hO (fun a b hab hb hc => hg a b hab hb (by omega)) (fun s' fr g => ?_)
    exact ih (i + 1) n s' (by omega) (by omega) (onS_fr hO fr) g (fun s2 f2 g2 => kk s2 (Fr_tr fr f2) g2)
