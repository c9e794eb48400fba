/-! ===== classes at the start ===== -/
theorem xk_cls {args : Array Value} {s : State} (hts : ∀ w ∈ xTB, w.before args s = true) : ∀ (k : Nat) (q : vw_C), vwCl[k]? = some q → ∃ (cC : ClassId) (iS : Nat → Nat), u_Kn s q.1 q.2.1 q.2.2 cC iS := by
  intro k q hq
  match k, hq with
  | 0, hq => cases hq; exact u_known hts hin_0 (hts _ kq_X0)
  | 1, hq => cases hq; exact u_known hts hin_1 (hts _ kq_X1)
  | 2, hq => cases hq; exact u_known hts hin_2 (hts _ kq_X2)
  | 3, hq => cases hq; exact u_known hts hin_3 (hts _ kq_X3)
  | 4, hq => cases hq; exact u_known hts hin_4 (hts _ kq_X4)
  | 5, hq => cases hq; exact u_known hts hin_5 (hts _ kq_X5)
  | 6, hq => cases hq; exact u_known hts hin_6 (hts _ kq_X6)
  | 7, hq => cases hq; exact u_known hts hin_7 (hts _ kq_X7)
  | 8, hq => cases hq; exact u_known hts hin_8 (hts _ kq_X8)
  | 9, hq => cases hq; exact u_known hts hin_9 (hts _ kq_X9)
  | 10, hq => cases hq; exact u_known hts hin_10 (hts _ kq_X10)
  | k + 11, hq => simp [vwCl] at hq
theorem xk_aO {args : Array Value} {s : State} {n : String} (h : (Cond.arrayOver (.object n)).before args s = true) : ∃ c : ClassId, ArrOfT s c (.object n) ∧ va_RA s c (.object n) := by
  obtain ⟨comp, c, k, h1, -, h3, h4, h5⟩ := Cond.arrayOver_spec h
  exact ⟨c, fun N z => ⟨(fun q e => by cases e), k, h3, comp, h4⟩, k, comp, h3, h4, h1, h5⟩
theorem xk_aA {args : Array Value} {s : State} (h : (Cond.arrayOver (.array .int)).before args s = true) : ∃ c : ClassId, ArrOfT s c (.array .int) ∧ va_RA s c (.array .int) := by
  obtain ⟨comp, c, k, h1, h3, h4, h5⟩ := Cond.arrayOver_specA h
  exact ⟨c, fun N z => ⟨(fun q e => by cases e), k, h3, comp, h4⟩, h5⟩
theorem xk_aC {args : Array Value} {s : State} {t : FieldType} (h : (Cond.arrayClass t).before args s = true) (hr : ∀ c, va_RA s c t = (s.vm.findClass ("[" ++ t.toString) = some c)) : ∃ c : ClassId, ArrOfT s c t ∧ va_RA s c t := by
  obtain ⟨c, k, comp, h1, h2, h3⟩ := Cond.arrayClass_spec h
  exact ⟨c, fun N z => ⟨(fun q e => by cases e), k, h2, comp, h3⟩, by rw [hr]; exact h1⟩
theorem xk_ow : Cond.arrayOver (.array .int) ∈ tables_1 ∧ Cond.arrayOver (.object "BetweenStops$Stop") ∈ tables_1 ∧ Cond.arrayOver (.object "BetweenStops$Trip") ∈ tables_1 ∧ Cond.arrayOver (.object "BetweenStops$Text") ∈ tables_1 ∧ Cond.arrayOver (.object "BetweenStops$Sheet") ∈ tables_1 := by decide +kernel
theorem xk_arr {args : Array Value} {s : State} (hts : ∀ w ∈ lw_tbl, w.before args s = true) : ∀ t : Nat, t < 8 → ∃ c : ClassId, ArrOfT s c (xty t) ∧ va_RA s c (xty t) := by
  have hx := xTB_hts hts
  have ho : ∀ w ∈ tables_1, w.before args s = true := fun w h => hts w (List.mem_append_right _ h)
  intro t ht
  match t, ht with
  | 0, _ => exact xk_aC (t := .int) (hx _ kar_int) (fun _ => rfl)
  | 1, _ => exact xk_aC (t := .long) (hx _ kar_long) (fun _ => rfl)
  | 2, _ => exact xk_aC (t := .boolean) (hx _ kar_boolean) (fun _ => rfl)
  | 3, _ => exact xk_aA (ho _ xk_ow.1)
  | 4, _ => exact xk_aO (ho _ xk_ow.2.1)
  | 5, _ => exact xk_aO (ho _ xk_ow.2.2.1)
  | 6, _ => exact xk_aO (ho _ xk_ow.2.2.2.1)
  | 7, _ => exact xk_aO (ho _ xk_ow.2.2.2.2)
  | t + 8, h => exact absurd h (by omega)
set_option maxRecDepth 20000 in
set_option maxHeartbeats 4000000 in
/-- the whole law, over what is owed of the numbers -/
theorem whole_open {RR : xM → xM → Prop} (hs : xSim RR) {z1 z2 : Int32 × xM} (g1 : fX9_init_T195 sxm36 = some z1) (g2 : fX10_init_T508 smm37 = some z2) (hr : RR z1.2 z2.2) {p : Program} {e : Env} {s : State} {m : MethodId} {below : List Frame} {meth : Method} {c : Code} (l : Launch) {b L : Nat} {xs : Nat → Int32} (hL : L ≤ 384) (C0 : lw_At p s m meth c b L xs) : W p l e room_1 s m #[Value.ref b] below meth c s.heap [] 0 0 (lw_Z below #[Value.ref b] s) (entryFrame m ([Value.ref b] : List Value).toArray 4) := by
  obtain ⟨hx, hb, hret, hml, hown, hts, hX, hbl, hlocks, hgv⟩ := id C0
  have htx := xTB_hts hts
  have ho : ∀ w ∈ tables_1, w.before #[Value.ref b] s = true := fun w h => hts w (List.mem_append_right _ h)
  obtain ⟨Z, hE⟩ := xE_start (A := fun q : Nat => s.heap.size ≤ q) hts hgv (fun a h => Nat.not_le.mpr h)
  have hcl : ∀ k : Nat, ∃ (cC : ClassId) (iS : Nat → Nat), ∀ q : vw_C, vwCl[k]? = some q → u_Kn s q.1 q.2.1 q.2.2 cC iS := by
    intro k
    cases hq : vwCl[k]? with
    | none => exact ⟨0, fun _ => 0, fun q h => by cases h⟩
    | some q =>
      obtain ⟨cC, iS, h⟩ := xk_cls htx k q hq
      exact ⟨cC, iS, fun q2 h2 => by cases h2; exact h⟩
  have har : ∀ t : Nat, ∃ c : ClassId, t < 8 → ArrOfT s c (xty t) ∧ va_RA s c (xty t) := by
    intro t
    by_cases ht : t < 8
    · obtain ⟨c, h⟩ := xk_arr hts t ht
      exact ⟨c, fun _ => h⟩
    · exact ⟨0, fun h => absurd h ht⟩
  let D : va_G := (fun k => Classical.choose (hcl k), fun k => Classical.choose (Classical.choose_spec (hcl k)))
  let cA : Nat → ClassId := fun t => Classical.choose (har t)
  have hK : va_K D vwCl (xT cA) s := by
    refine ⟨fun k q hq => Classical.choose_spec (Classical.choose_spec (hcl k)) q hq, fun k q hq => ?_⟩
    have hk : k < 8 := by
      have h9 := (List.getElem?_eq_some_iff.mp hq).1
      simpa [xT] using h9
    rw [xT_get hk] at hq
    cases hq
    exact Classical.choose_spec (har k) hk
  have hO : xAO s := ⟨va_AO.of (ho _ xk_ow.2.1), va_AO.of (ho _ xk_ow.2.2.1), va_AO.of (ho _ xk_ow.2.2.2.1), va_AO.of (ho _ xk_ow.2.2.2.2), ho _ xk_ow.1⟩
  let B : xB := (p, l, e, room_1, s, m, #[Value.ref b], below, meth, c, lw_Z below #[Value.ref b] s, 0, 0, fun q : Nat => s.heap.size ≤ q)
  have hA : ∀ q, B.s.heap.size ≤ q → B.A q := fun q h => h
  let Y0 : xY := (fun _ => 0, cA, D)
  have C : xC (Gl [] Y0) Z (xBk B 0 0) "BetweenStopsLaw" cL_law 4 1000 := ⟨hx, hb, hml, hown, htx, hlocks, hK, fun i j hi => absurd hi (Nat.not_lt_zero _), hE, Nat.le_of_ble_eq_true rfl, Nat.le_of_ble_eq_true rfl, fun q hq => by obtain ⟨i, hi, -⟩ := hq; exact absurd hi (Nat.not_lt_zero _), Nat.zero_le _, Nat.zero_le _⟩
  have key : xWS (Gl [] Y0) (xBk B 0 0) 4 x0 [(0, .ref b)] 0 [] := by
    refine wg_new (l2 := sx1) (fun _ => [(0, .ref b)]) (fun _ => []) C dL_law_0 (ci := 9) rfl hin_9 tyX9 tyX9_ok kcl_L_7 kq_X9 ki_X9 hA (by decide +kernel) rfl (fun _ => rfl) (fun _ => rfl) (fun j h => match j, h with | 0, _ => ⟨_, rfl, rfl⟩ | 1, _ => ⟨_, rfl, rfl⟩ | 2, _ => ⟨_, rfl, rfl⟩ | 3, _ => ⟨_, rfl, rfl⟩ | 4, _ => ⟨_, rfl, rfl⟩ | 5, _ => ⟨_, rfl, rfl⟩ | 6, _ => ⟨_, rfl, rfl⟩ | 7, _ => ⟨_, rfl, rfl⟩ | 8, _ => ⟨_, rfl, rfl⟩ | 9, _ => ⟨_, rfl, rfl⟩ | 10, _ => ⟨_, rfl, rfl⟩ | 11, _ => ⟨_, rfl, rfl⟩ | 12, _ => ⟨_, rfl, rfl⟩ | 13, _ => ⟨_, rfl, rfl⟩ | 14, _ => ⟨_, rfl, rfl⟩ | j + 15, h => absurd h (by omega)) (xnul_of (by decide)) (k2 := 1) (n2 := 15) rfl rfl (Nat.le_of_ble_eq_true rfl) (Nat.le_of_ble_eq_true rfl) (fun _ _ => ⟨rfl, rfl⟩) (fun a1 h1 C => ?_)
    have C : xC (Gl sx1 (a1, Y0.2)) Z (xBk B 1 15) "BetweenStopsLaw" cL_law 4 1000 := C
    show xWS (Gl sx1 (a1, Y0.2)) (xBk B 1 15) 4 x0 [(0, .ref b)] 3 [.ref (a1 0)]
    refine ws_dup (pc := 3) C dL_law_3 rfl ?_
    refine wg_init (l2 := lX) (σ2 := z1.2) (r := 0) (pc := 4) (fun _ => [(0, .ref b)]) (fun a => [.ref (a 0)]) [] C hO (mc_X9_init _ _ g1) dL_law_4 mw_X9_init kw_L_9 hA rfl (st := [.ref (a1 0), .ref (a1 0)]) rfl (Nat.le_of_ble_eq_true rfl) ⟨by decide, by decide⟩ (k2 := 129) (s2 := 2513) rfl rfl (Nat.le_of_ble_eq_true rfl) (Nat.le_of_ble_eq_true rfl) (fun a h => ⟨rfl, by simp only [h 0 (Nat.le_of_ble_eq_true rfl)]⟩) (fun a2 h2 C => ?_)
    have C : xC (GX (a2, Y0.2)) Z (xBk B 129 2513) "BetweenStopsLaw" cL_law 4 1000 := C
    show xWS (GX (a2, Y0.2)) (xBk B 129 2513) 4 z1.2 [(0, .ref b)] 7 [.ref (a2 0)]
    refine ws_astore_n (pc := 7) C dL_law_7 rfl (by decide) rfl ?_
    refine lw_second (YX := (a2, Y0.2)) C hA hO g2 (Nat.le_of_ble_eq_true rfl) (Nat.le_of_ble_eq_true rfl) (fun YM hY CX CM hdis => ?_)
    have K : xLC (a2, Y0.2) YM Z (xBk B 167 4874) b L xs := ⟨CX, CM, hdis, hX, hbl, Nat.not_le.mpr hbl⟩
    refine vs_iconst (pc := 16) K.ec dL_law_16 ci_0 ?_
    refine vs_istore_n (pc := 17) K.ec dL_law_17 rfl (by decide) rfl ?_
    refine vs_less [3, 2, 1, 0] rfl ?_
    refine lw_loop hs K hL ?_ 65 0 (Nat.zero_le _) (by omega) z1.2 z2.2 hr
    intro σ τ lv H locs ls hP hS hl
    refine va_forget (fun q hq => hS.2.2 q hq) ?_
    refine W.widen (k := 600000) (n := 7302250) (Nat.le_of_ble_eq_true rfl) (Nat.le_of_ble_eq_true rfl) ?_
    exact lw_ret hx hb hret hlocks dL_law_1538
  rw [lg_entry_eq]
  exact key s.heap [] _ (fun k q hq => by simp [xW] at hq) va_S.rf (lv_entry [Value.ref b] (n := 4) (Nat.le_of_ble_eq_true rfl))
