/-! ===== from the law's entry to its loop ===== -/
def xfM : List (Option Nat ⊕ Nat) := match sm1 with
  | [.inr (_, fl)] => fl
  | _ => []
theorem xfM_fs : ∀ j, j < 68 → defaultValue (tyX10 j) = vp_V (xfM.mapIdx (xfv (fun _ => 0) x0 0)) j := by
  intro j hj
  have h : ∀ j, j < 68 → (match xfM[j]? with
    | some (.inl _) => decide (defaultValue (tyX10 j) = .null)
    | some (.inr 0) => decide (defaultValue (tyX10 j) = .int 0)
    | some (.inr _) => decide (defaultValue (tyX10 j) = .long 0)
    | none => false) = true := by decide +kernel
  have hn : ∀ f ∈ xfM, ∀ r, f ≠ .inl (some r) := xnul_of (by decide +kernel)
  have h1 := h j hj
  unfold vp_V
  rw [List.getD_eq_getElem?_getD, List.getElem?_mapIdx]
  cases hf : xfM[j]? with
  | none => rw [hf] at h1; cases h1
  | some f =>
    rw [hf] at h1
    have hm := List.mem_of_getElem? hf
    rcases f with (_ | r) | _ | _
    · exact of_decide_eq_true h1
    · exact absurd rfl (hn _ hm r)
    · exact of_decide_eq_true h1
    · exact of_decide_eq_true h1
theorem sm1_eq : sm1 = [.inr (10, xfM)] := rfl
set_option maxRecDepth 20000 in
set_option maxHeartbeats 4000000 in
theorem lw_second {YX : xY} {Z : xZ} {B : xB} {k n b : Nat} {σ : xM} {z : Int32 × xM} (C : xC (GX YX) Z (xBk B k n) "BetweenStopsLaw" cL_law 4 1000) (hA : ∀ q, B.s.heap.size ≤ q → B.A q) (hO : xAO B.s) (h : fX10_init_T508 smm37 = some z) (hk : k + 38 ≤ B.R.cells) (hn : n + 2361 ≤ B.R.slots)
    (kk : ∀ YM : xY, YM.2 = YX.2 → xC (GX YX) Z (xBk B (k + 38) (n + 2361)) "BetweenStopsLaw" cL_law 4 1000 → xC (GM YM) Z (xBk B (k + 38) (n + 2361)) "BetweenStopsLaw" cL_law 4 1000 → (∀ q, xA (GX YX) q → ¬ xA (GM YM) q) → xVS (xLW YX YM σ z.2) (xBk B (k + 38) (n + 2361)) 4 [(2, .ref (YM.1 0)), (1, .ref (YX.1 0)), (0, .ref b)] 16 []) :
    xWS (GX YX) (xBk B k n) 4 σ [(1, .ref (YX.1 0)), (0, .ref b)] 8 [] := by
  intro H locs ls hP hS hl
  refine va_new (C := "BetweenStopsModel") (T := TX10) (N := 68) (ci := 10) (fs := xfM.mapIdx (xfv (fun _ => 0) x0 0)) C.1 C.2.1 C.2.2.2.2.1 hin_10 tyX10 tyX10_ok C.2.2.2.1 (C.2.2.2.2.1 _ kcl_L_10) (C.2.2.2.2.1 _ kq_X10) (C.2.2.2.2.1 _ ki_X10) C.2.2.2.2.2.2.1 hP (xC_D C) hS hA rfl xfM_fs (by show k + 1 ≤ B.R.cells; omega) (by show n + 68 ≤ B.R.slots; omega) dL_law_8 ?_
  intro q H1 hP1 hD1 hS1
  have hlen : (xW (GX YX) σ).length = 129 := xW_len
  have hPX : va_P YX.2.2 vwCl (xW (GX YX) σ) H1 := fun i x hx => hP1 i x (by rw [List.getElem?_append_left (List.getElem?_eq_some_iff.mp hx).1]; exact hx)
  have hq129 : (xW (GX YX) σ ++ [(q, (.inr (10, xfM.mapIdx (xfv (fun _ => 0) x0 0)) : va_E))])[129]? = some (q, .inr (10, xfM.mapIdx (xfv (fun _ => 0) x0 0))) := by
    rw [List.getElem?_append_right (by omega), hlen]
    rfl
  have hPM : va_P YX.2.2 vwCl (xW (Gl sm1 ((fun _ => q), YX.2)) x0) H1 := by
    intro i x hx
    have hi : i < 1 := by
      have h9 := (List.getElem?_eq_some_iff.mp hx).1
      rw [xW_len] at h9
      exact h9
    have hi0 : i = 0 := by omega
    subst hi0
    rw [xW_get (G := Gl sm1 ((fun _ => q), YX.2)) hi] at hx
    cases hx
    have e : xct (fun c => sm1.getD c (.inl (0, 0, []))) (fun _ => q) YX.2.1 x0 0 = .inr (10, xfM.mapIdx (xfv (fun _ => 0) x0 0)) := by
      refine (xct_o (ci := 10) (fl := xfM) rfl).trans ?_
      rfl
    show va_at YX.2.2 vwCl (q, xct (fun c => sm1.getD c (.inl (0, 0, []))) (fun _ => q) YX.2.1 x0 0) H1
    rw [e]
    exact hP1 129 _ hq129
  have hqA : B.A q := hD1.2 129 _ hq129
  have hXq : ∀ (i : Nat) (x : Nat × va_E), (xW (GX YX) σ)[i]? = some x → x.1 ≠ q := by
    intro i x hx e
    have hi := (List.getElem?_eq_some_iff.mp hx).1
    have h9 := hD1.1 i 129 x _ (by rw [List.getElem?_append_left hi]; exact hx) hq129 e
    rw [hlen] at hi
    omega
  have hinjM : xInj (Gl sm1 ((fun _ => q), YX.2)) := by
    intro i j hi hj _
    have hi : i < 1 := hi
    have hj : j < 1 := hj
    omega
  have hinclM : ∀ x, xAc2 (Gl sm1 ((fun _ => q), YX.2)) H1.size x → B.A x := by
    intro x hx
    rcases hx with ⟨c, -, e⟩ | hx
    · rw [e]
      exact hqA
    · exact hA x (Nat.le_trans hS1.1 hx)
  refine lv_dup C.1 C.2.1 dL_law_11 rfl ?_
  have hpre : PreS B.s H1 (va_Pc [.ref q] (xPc (Gl sm1 ((fun _ => q), YX.2)) Z x0 H1.size)) [.ref q] := ⟨xPc_blind, fun U hU hW => ⟨rfl, by rw [hU], by rw [hU]; exact hPM, va_K.moved hW.alike C.2.2.2.2.2.2.1, hinjM, (xE_step C.2.2.2.2.2.2.2.2.1 hS1 hU hW).narrow hinclM, xAO_moved hW.alike hO⟩⟩
  have hroom : ({ frames := 2, cells := 37, slots := 2293, locals := 40 * 2 } : Room).frames + 1 ≤ B.R.frames ∧ 8 + (1 + 11) + ({ frames := 2, cells := 37, slots := 2293, locals := 40 * 2 } : Room).locals ≤ B.R.locals := ⟨Nat.le_trans (by decide) C.2.2.2.2.2.2.2.2.2.1, Nat.le_trans (by decide) C.2.2.2.2.2.2.2.2.2.2.1⟩
  have hM := mc_X10_init ((fun _ => q), YX.2) Z h B.l H1.size
  have go := va_runI (p := B.p) (l := B.l) (e := B.e) (R := B.R) (s := B.s) (m := B.m) (args := B.a) (below := B.b) (meth := B.t) (c := B.c) (H := H1) (locs := locs) (cells := k + 1) (slots := n + 68) (As := []) (rest := [.ref q]) (b := q) (g := F0 B.m (8 + 3 + 1) ls [.ref q, .ref q]) (xCallFix (B := xBk B k n) C) hM ⟨callB_of 0 C.2.2.2.2.1 (xGood mw_X10_init.1) rfl rfl rfl (C.2.2.2.2.1 _ mw_X10_init.2.1) (C.2.2.2.2.1 _ kw_L_12.2.2) mw_X10_init.2.2 hroom, kw_L_12.1, C.2.2.2.2.1 _ kw_L_12.2.1⟩ hpre rfl rfl hl.1 rfl (lv_room (Nat.le_of_ble_eq_true rfl)) dL_law_12 ⟨by omega, by omega⟩
  refine va_callv (A1 := xAc2 (Gl sm1 ((fun _ => q), YX.2)) H1.size) (A0 := B.A) go hS1 (fun x _ h => hinclM x h) hinclM (fun ad2 t H2 locs2 ht _ hp hB _ hkeep hS2 => ?_)
  obtain ⟨hB1, hB2⟩ := hB
  rw [ht] at hB1
  have hPX2 : va_P YX.2.2 vwCl (xW (GX YX) σ) H2 := hPX.kept (fun i x hx => hkeep x.1 ((hPX i x hx).lt) (fun hc => by
    rcases hc with ⟨c, -, e⟩ | hc
    · exact hXq i x hx e
    · have h9 := (hPX i x hx).lt
      exact absurd hc (by omega)))
  have CX : xC (GX YX) Z (xBk B (k + 38) (n + 2361)) "BetweenStopsLaw" cL_law 4 1000 := xC_grow (B := xBk B k n) (k := k + 38) (n := n + 2361) (s := σ) C rfl (xC_D C) hk hn
  have CM : xC (GM (ad2, YX.2)) Z (xBk B (k + 38) (n + 2361)) "BetweenStopsLaw" cL_law 4 1000 := xC_grow (B := xBk B k n) (k := k + 38) (n := n + 2361) (G2 := GM (ad2, YX.2)) (s := z.2) C rfl (hB2.weaken (fun _ x _ h => hinclM x.1 h)) hk hn
  have hdis : ∀ x, xA (GX YX) x → ¬ xA (GM (ad2, YX.2)) x := by
    intro x hx hm
    obtain ⟨c, hc, e⟩ := hx
    obtain ⟨c2, hc2, e2⟩ := hm
    have hx1 := xW_get (G := GX YX) (s := σ) hc
    have h1 : x ≠ q := by
      rw [e]
      exact hXq c _ hx1
    have h2 : x < H1.size := by
      rw [e]
      exact (hPX c _ hx1).lt
    have h3 : xAc2 (Gl sm1 ((fun _ => q), YX.2)) H1.size x := by
      rw [e2]
      exact hB2.2 c2 _ (xW_get (G := Gl lM (ad2, YX.2)) hc2)
    rcases h3 with ⟨c3, -, e3⟩ | h3
    · exact h1 e3
    · omega
  have hp0 : ad2 0 = q := hp 0 (by decide)
  have h9 := kk (ad2, YX.2) rfl CX CM hdis
  refine lv_astore_n (lv' := [(2, .ref (ad2 0)), (1, .ref (YX.1 0)), (0, .ref b)]) C.1 C.2.1 dL_law_15 rfl hl (by decide) (by rw [hp0]; rfl) (fun ls2 hl2 => ?_)
  exact h9 H2 locs2 ls2 ⟨hPX2, hB1⟩ hS2 hl2
