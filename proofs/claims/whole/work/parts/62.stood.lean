/-! ===== standing below a cell ===== -/
theorem bit_tab : ∀ a, a < 4 → ∀ c, c < 2 → (nI a &&& ((1 : Int32) <<< (nI c &&& 31)) = 0 ↔ ¬ bitS a c = 1) := by decide +kernel
theorem sumN_mem (T : xTw) (F : Nat → Nat) : ∀ n, sumN (fun j => F ((memL T n).getD j 0)) (memL T n).length = sumN (fun p => if T 7 p = 1 then F p else 0) n
  | 0 => rfl
  | n + 1 => by
    have ih := sumN_mem T F n
    show _ = sumN (fun p => if T 7 p = 1 then F p else 0) n + (if T 7 n = 1 then F n else 0)
    by_cases c : T 7 n = 1
    · have el : memL T (n + 1) = memL T n ++ [n] := if_pos c
      rw [el, List.length_append, if_pos c]
      show sumN (fun j => F ((memL T n ++ [n]).getD j 0)) (memL T n).length + F ((memL T n ++ [n]).getD (memL T n).length 0) = _
      rw [← ih]
      congr 1
      · refine sumN_congr _ (fun i hi => ?_)
        rw [List.getD_eq_getElem?_getD, List.getD_eq_getElem?_getD, List.getElem?_append_left hi]
      · simp
    · have el : memL T (n + 1) = memL T n := if_neg c
      rw [el, if_neg c, ih]
      rfl
/-- seconds of p, if it stands just below the cell x -/
def stA (T : xTw) (c x p : Nat) : Nat := if T 4 p + 1 = x ∧ bitS (carS T p) c = 1 then secS T p else 0
def stB (T : xTw) (c x p : Nat) : Nat := if T 4 p + 1 ≤ x ∧ bitS (carS T p) c = 1 then secS T p else 0
theorem stB_step (T : xTw) (c x p : Nat) : stB T c (x + 1) p = stB T c x p + stA T c (x + 1) p := by
  unfold stA stB
  repeat' split
  all_goals omega
theorem stB_0 (T : xTw) (c p : Nat) : stB T c 0 p = 0 := by
  unfold stB
  rw [if_neg (by omega)]
theorem sumN_add (f g : Nat → Nat) : ∀ n, sumN (fun i => f i + g i) n = sumN f n + sumN g n
  | 0 => rfl
  | n + 1 => by
    show sumN (fun i => f i + g i) n + (f n + g n) = sumN f n + f n + (sumN g n + g n)
    rw [sumN_add f g n]
    omega
theorem sumN_zero : ∀ n, sumN (fun _ => 0) n = 0
  | 0 => rfl
  | n + 1 => sumN_zero n
def stdS (T : xTw) (c x : Nat) : Nat := sumN (fun o => if T 7 o = 1 then stB T c x o else 0) (T 0 4)
theorem ol_stood14 {T : xTw} (hR : rgT T) {l : List Nat} (hl : ∀ i, i < l.length → l.getD i 0 < T 0 4) (hl8 : l.length ≤ 8) {c : Nat} (hc : c < 2) {kt : xM → Option (Int32 × xM)} {Q : Int32 → xM → Prop} : ∀ (m i n : Nat) (s : xM), i + m = l.length → m < n → xTk s T → memS s l → mes1 s T (T 0 4) → (∀ x, x < 42 → gi s (51 + c) x = nI (sumN (fun j => stA T c x (l.getD j 0)) i)) → (∀ s', Fr (fun d _ => d = 51 + c) s s' → (∀ x, x < 42 → gi s' (51 + c) x = nI (sumN (fun j => stA T c x (l.getD j 0)) l.length)) → Ok (kt s') Q) → Ok (fX8_addUpStanding_L14 kt (nI c) c n (nI i) s) Q := by
  have h8 := rg_stops hR
  intro m
  induction m with
  | zero =>
    intro i n s hi hn hT hm h1 hx kk
    obtain ⟨n, rfl⟩ : ∃ n', n = n' + 1 := ⟨n - 1, by omega⟩
    have : i = l.length := by omega
    unfold fX8_addUpStanding_L14
    refine ok_T (by rw [hm.1]; exact nI_le (by omega) (by omega)) ?_
    rw [this] at hx
    exact kk s Fr_rf hx
  | succ m ih =>
    intro i n s hi hn hT hm h1 hx kk
    obtain ⟨n, rfl⟩ : ∃ n', n = n' + 1 := ⟨n - 1, by omega⟩
    have hp := hl i (by omega)
    have e49 := hm.2 i (by omega)
    have h1p := h1 _ hp
    have cp := rg_cell hR (i := l.getD i 0) (by omega)
    have c3 := carS_le T (l.getD i 0)
    have eT := xK_cell hT (i := l.getD i 0) (by omega)
    unfold fX8_addUpStanding_L14
    refine ok_F (by rw [hm.1]; exact nI_ge (by omega) (by omega)) ?_
    simp (disch := omega) only [ok_gd, ok_lz, inb_n, nI_clamp, true_and, e49, h1p.1, h1p.2, nI_1, eT]
    by_cases b : bitS (carS T (l.getD i 0)) c = 1
    · refine ok_F (fun h => (bit_tab _ (by omega) _ hc).mp h b) ?_
      rw [hx _ (show T 4 (l.getD i 0) + 1 < 42 by omega), nI_add]
      have f1 : Fr (fun d _ => d = 51 + c) s (si s (51 + c) (T 4 (l.getD i 0) + 1) (nI (sumN (fun j => stA T c (T 4 (l.getD i 0) + 1) (l.getD j 0)) i + secS T (l.getD i 0)))) := Fr_si Fr_rf _ rfl
      refine ih (i + 1) n _ (by omega) (by omega) (xTk_fr hT f1 (fun d j q => by unfold xoff; omega)) ⟨by rw [(f1 27 7 (by omega)).1]; exact hm.1, fun j hj => by rw [(f1 49 j (by omega)).1]; exact hm.2 j hj⟩ (fun p hp => by rw [(f1 28 p (by omega)).1, (f1 29 p (by omega)).1]; exact h1 p hp) ?_ (fun s' f => kk s' (Fr_tr f1 f))
      intro x hx2
      rw [gi_si]
      show _ = nI (sumN (fun j => stA T c x (l.getD j 0)) i + stA T c x (l.getD i 0))
      by_cases e : x = T 4 (l.getD i 0) + 1
      · rw [if_pos ⟨rfl, e⟩, e, show stA T c (T 4 (l.getD i 0) + 1) (l.getD i 0) = secS T (l.getD i 0) from if_pos ⟨rfl, b⟩]
      · rw [if_neg (fun h => e h.2), show stA T c x (l.getD i 0) = 0 from if_neg (fun h => e h.1.symm)]
        exact hx x hx2
    · refine ok_T ((bit_tab _ (by omega) _ hc).mpr b) ?_
      refine ih (i + 1) n s (by omega) (by omega) hT hm h1 ?_ kk
      intro x hx2
      show _ = nI (sumN (fun j => stA T c x (l.getD j 0)) i + stA T c x (l.getD i 0))
      rw [show stA T c x (l.getD i 0) = 0 from if_neg (fun h => b h.2)]
      exact hx x hx2
