/-- numbers of a static row come to a row of the world -/
def sscp (s : xM) (f : Nat → Int32) (p0 c1 p1 n : Nat) : xM := (fun c' i' => if c' = c1 ∧ p1 ≤ i' ∧ i' < p1 + n then f (p0 + (i' - p1)) else s.1 c' i', s.2)
theorem gi_sscp (s : xM) (f : Nat → Int32) (p0 c1 p1 n c' i' : Nat) : gi (sscp s f p0 c1 p1 n) c' i' = if c' = c1 ∧ p1 ≤ i' ∧ i' < p1 + n then f (p0 + (i' - p1)) else gi s c' i' := rfl
theorem sscp_oth {σ : xM} {f : Nat → Int32} {c1 p0 p1 n : Nat} : ∀ c', c' ≠ c1 → (sscp σ f p0 c1 p1 n).1 c' = σ.1 c' ∧ (sscp σ f p0 c1 p1 n).2 c' = σ.2 c' := fun c' hc => ⟨by funext j; show gi (sscp σ f p0 c1 p1 n) c' j = gi σ c' j; rw [gi_sscp, if_neg (fun h => hc h.1)], rfl⟩
theorem xint {z : Int32} (hz : ¬ z < 0) : z.toInt = (z.toNatClampNeg : Int) := by
  have hz0 : (0 : Int) ≤ z.toInt := by
    have := Int32.not_lt.mp hz
    simpa using Int32.le_iff_toInt_le.mp this
  show z.toInt = ((z.toInt.toNat : Nat) : Int)
  omega
theorem ws_copyS {G : xG} {Z : xZ} {B : xB} {own : String} {cc : ByteArray} {nL d : Nat} {σ σ2 : xM} {lv : List (Nat × Value)} {pc idx i c1 m1 : Nat} {st : List Value} {q : String × List Int32} {p0 p1 n : Int32} (C : xC G Z B own cc nL d) (hd : decode cc pc = .ok (.invokestatic idx, 3)) (hw : xAc own idx) (hi : xSt[i]? = some q) (h1 : xSr G.1 G.2.1 c1 0 m1) (hb : cpb p0 p1 n q.2.length m1 = true) (hcat : (st.map fun v => v.category).sum ≤ 8) (hr : 1 ≤ d) (e : σ2 = sscp σ (fun j => q.2.getD j 0) p0.toNatClampNeg c1 p1.toNatClampNeg n.toNatClampNeg)
    (kk : xWS G B nL σ2 lv (pc + 3) st) : xWS G B nL σ lv pc (.int n :: .int p1 :: .ref (G.2.2.1 c1) :: .int p0 :: .ref (Z.2.2.1 i) :: st) := by
  subst e
  obtain ⟨a1, ch1, b1⟩ := h1
  obtain ⟨q1, q2, q3, q4, q5⟩ := of_decide_eq_true hb
  intro H locs ls hP hS hl T hT X
  obtain ⟨scr, hs1, hs2, hs3, hs4, -, hs5, hs7⟩ := (C.2.2.2.2.2.2.2.2.1.2.2.1 i q hi).2
  have e1 : xct G.1 G.2.2.1 G.2.2.2.1 σ c1 = .inl (G.2.2.2.1 0, m1, .inl (σ.1 c1)) := xct_r b1
  have hc0 : H[Z.2.2.1 i]? = some scr := by rw [hS.2.1 _ (Array.getElem?_eq_some_iff.mp hs1).1 hs7]; exact hs1
  have ha1 : (xW G σ)[c1]? = some (G.2.2.1 c1, .inl (G.2.2.2.1 0, m1, .inl (σ.1 c1))) := by rw [xW_get a1, e1]
  have hc1 : H[G.2.2.1 c1]? = some (vp_cell (G.2.2.2.1 0) (m1, .inl (σ.1 c1))) := hP c1 _ ha1
  obtain ⟨hs6, k0, hk0, cm0, hkk0⟩ := hs2
  obtain ⟨-, k1, hk1, cm1, hkk1⟩ := (C.2.2.2.2.2.2.1.2 0 _ (xT_get (by decide))).1 m1 (fun j => .int (σ.1 c1 j))
  have hroom : (st.map fun v => v.category).sum + (nativeFrameWords "java/lang/System" "arraycopy" 5 + 11) ≤ B.R.locals := by
    have h1 := C.2.2.2.2.2.2.2.2.2.2.1
    have e : nativeFrameWords "java/lang/System" "arraycopy" 5 + 11 ≤ 32 := by decide +kernel
    omega
  obtain ⟨vm', X', step⟩ := X.arraycopy C.1 C.2.2.2.1 (C.2.2.2.2.1 _ hw.1) (C.2.2.2.2.1 _ hw.2.1) (C.2.2.2.2.1 _ hw.2.2.1) (C.2.2.2.2.1 _ hw.2.2.2) (src := Z.2.2.1 i) (dst := G.2.2.1 c1) (cs := scr) (cd := vp_cell (G.2.2.2.1 0) (m1, .inl (σ.1 c1))) (srcPos := p0) (destPos := p1) (n := n) (by rw [hT]; exact hc0) (by rw [hT]; exact hc1)
    hs6 (fun _ h => by cases h) hs3 (fun h => by cases h) hk0 hk1 hkk0 hkk1 (by simp [refKind, xty]) q1 q2 q3
    (by rw [xint q1, xint q3]; omega)
    (by rw [xint q2, xint q3]; show ¬ _ > ((arrV (G.2.2.2.1 0) m1 (fun j => .int (σ.1 c1 j))).slots.size : Int); rw [arrV_size]; omega)
    (fun vm₁ _ j hj => by
      have e : scr.slots.getD (p0.toNatClampNeg + j) .null = .int (q.2.getD (p0.toNatClampNeg + j) 0) := by
        rw [Array.getD_eq_getD_getElem?, hs5 _ (by omega)]
        rfl
      refine ⟨?_, ?_⟩
      · rw [e]
        rfl
      · rw [e]
        exact trivial)
    (g := F0 B.m pc ls (.int n :: .int p1 :: .ref (G.2.2.1 c1) :: .int p0 :: .ref (Z.2.2.1 i) :: st)) rfl (C.2.2.1.trans hl.1.symm).symm (rest := st) rfl (by rw [C.2.1]; exact hd) (Nat.le_trans hr C.2.2.2.2.2.2.2.2.2.1) (by show 2 * 0 + _ + _ ≤ _; omega)
  have e2 : copied scr (vp_cell (G.2.2.2.1 0) (m1, .inl (σ.1 c1))) p0 p1 n = vp_cell (G.2.2.2.1 0) (m1, .inl (va_cpy (fun j => q.2.getD j 0) (σ.1 c1) p0.toNatClampNeg p1.toNatClampNeg n.toNatClampNeg)) := va_copiedX (fun z => .int z) scr (G.2.2.2.1 0) (fun j => q.2.getD j 0) (σ.1 c1) hs5 q4
  rw [e2] at X' step
  have hlt : G.2.2.1 c1 < H.size := (Array.getElem?_eq_some_iff.mp hc1).1
  generalize hcell : vp_cell (G.2.2.2.1 0) (m1, .inl (va_cpy (fun j => q.2.getD j 0) (σ.1 c1) p0.toNatClampNeg p1.toNatClampNeg n.toNatClampNeg)) = cell at X' step
  have hheap : ((T.setVm vm').setCell (G.2.2.1 c1) cell).heap = H.setIfInBounds (G.2.2.1 c1) cell := by rw [← hT]; rfl
  have oq : ∀ x : Nat, x ≠ G.2.2.1 c1 → (H.setIfInBounds (G.2.2.1 c1) cell)[x]? = H[x]? := fun x hx => by simp [Array.getElem?_setIfInBounds, Ne.symm hx]
  have hP1 : va_P G.2.2.2.2 vwCl (xW G (sscp σ (fun j => q.2.getD j 0) p0.toNatClampNeg c1 p1.toNatClampNeg n.toNatClampNeg)) (H.setIfInBounds (G.2.2.1 c1) cell) := by
    rw [← xW_set (s := σ) (c := c1) (e := .inl (G.2.2.2.1 0, m1, .inl (va_cpy (fun j => q.2.getD j 0) (σ.1 c1) p0.toNatClampNeg p1.toNatClampNeg n.toNatClampNeg))) a1 sscp_oth (by
      rw [xct_r b1]
      show Sum.inl (G.2.2.2.1 0, m1, Sum.inl _) = _
      congr 4
      funext j
      show (if c1 = c1 ∧ p1.toNatClampNeg ≤ j ∧ j < p1.toNatClampNeg + n.toNatClampNeg then _ else σ.1 c1 j) = if p1.toNatClampNeg ≤ j ∧ j < p1.toNatClampNeg + n.toNatClampNeg then _ else σ.1 c1 j
      simp)]
    refine hP.set (xC_D C) ha1 ?_ oq
    show (H.setIfInBounds (G.2.2.1 c1) cell)[G.2.2.1 c1]? = some (vp_cell _ _)
    rw [hcell]
    simp [Array.getElem?_setIfInBounds, hlt]
  have hin : B.A (G.2.2.1 c1) := C.2.2.2.2.2.2.2.2.2.2.2.1 _ ⟨c1, a1, rfl⟩
  obtain ⟨t, r1, r2⟩ := kk _ _ ls hP1 ⟨by simp; exact hS.1, fun x g1 g2 => by
      rw [oq x (fun e => g2 (by rw [e]; exact hin))]
      exact hS.2.1 x g1 g2, fun x hx => by
      rcases List.mem_append.mp hx with h | h
      · exact hS.2.2 x h
      · obtain ⟨z, -, hz⟩ := List.mem_map.mp h
        rw [← hz]
        exact hin⟩ hl _ hheap X'
  exact ⟨t, step t r1, r2⟩
