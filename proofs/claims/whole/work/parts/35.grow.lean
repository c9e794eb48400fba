/-! ===== worlds that grow: what constructors do ===== -/
abbrev Gl (l : List xSh) (Y : xY) : xG := (fun c => l.getD c (.inl (0, 0, [])), l.length, Y)
def xrefs (sh : xSh) : List Nat := match sh with
  | .inl (_, _, ch) => ch.filterMap id
  | .inr (_, fl) => fl.filterMap fun f => match f with
    | .inl r => r
    | .inr _ => none
def xwf (l : List xSh) : Bool := l.all fun sh => (xrefs sh).all fun r => decide (r < l.length)
theorem xwf_lt {l : List xSh} (h : xwf l = true) {c : Nat} (hc : c < l.length) {r : Nat} (hr : r ∈ xrefs (l.getD c (.inl (0, 0, [])))) : r < l.length := by
  unfold xwf at h
  rw [List.all_eq_true] at h
  have h1 := h (l.getD c (.inl (0, 0, []))) (by rw [List.getD_eq_getElem?_getD, List.getElem?_eq_getElem hc]; exact List.getElem_mem hc)
  rw [List.all_eq_true] at h1
  exact of_decide_eq_true (h1 r hr)
theorem xct_ad {L L2 : Nat → xSh} {ad ad2 : Nat → Nat} {cA : Nat → ClassId} {s : xM} {c : Nat} (hL : L2 c = L c) (h : ∀ r ∈ xrefs (L c), ad2 r = ad r) : xct L2 ad2 cA s c = xct L ad cA s c := by
  unfold xct
  rw [hL]
  cases hs : L c with
  | inl a =>
    obtain ⟨t, n, ch⟩ := a
    rw [hs] at h
    have e : (fun k => (ch.getD k none).map ad2) = fun k => (ch.getD k none).map ad := by
      funext k
      cases hk : ch.getD k none with
      | none => rfl
      | some r =>
        have hm : some r ∈ ch := by
          rw [List.getD_eq_getElem?_getD] at hk
          cases hg : ch[k]? with
          | none => rw [hg] at hk; cases hk
          | some x =>
            rw [hg] at hk
            have hx : x = some r := hk
            rw [← hx]
            exact List.mem_of_getElem? hg
        show some (ad2 r) = some (ad r)
        rw [h r (List.mem_filterMap.mpr ⟨some r, hm, rfl⟩)]
    simp only [e]
  | inr a =>
    obtain ⟨ci, fl⟩ := a
    rw [hs] at h
    show Sum.inr (ci, fl.mapIdx (xfv ad2 s c)) = Sum.inr (ci, fl.mapIdx (xfv ad s c))
    congr 2
    apply List.ext_getElem?
    intro k
    rw [List.getElem?_mapIdx, List.getElem?_mapIdx]
    cases hk : fl[k]? with
    | none => rfl
    | some f =>
      show some (xfv ad2 s c k f) = some (xfv ad s c k f)
      rcases f with (_ | r) | _ | _
      · rfl
      · show some (Value.ref (ad2 r)) = some (Value.ref (ad r))
        rw [h r (List.mem_filterMap.mpr ⟨_, List.mem_of_getElem? hk, rfl⟩)]
      · rfl
      · rfl
theorem xW_push {l : List xSh} {sh : xSh} {Y : xY} {ad2 : Nat → Nat} {s : xM} (hwf : xwf l = true) (had : ∀ c, c < l.length → ad2 c = Y.1 c) : xW (Gl (l ++ [sh]) (ad2, Y.2)) s = xW (Gl l Y) s ++ [(ad2 l.length, xct (fun c => (l ++ [sh]).getD c (.inl (0, 0, []))) ad2 Y.2.1 s l.length)] := by
  unfold xW
  show (List.range (l ++ [sh]).length).map _ = (List.range l.length).map _ ++ _
  rw [List.length_append, List.length_singleton, List.range_succ, List.map_append]
  congr 1
  apply List.map_congr_left
  intro c hc
  have hc := List.mem_range.mp hc
  show (ad2 c, xct (fun c => (l ++ [sh]).getD c (.inl (0, 0, []))) ad2 Y.2.1 s c) = (Y.1 c, xct (fun c => l.getD c (.inl (0, 0, []))) Y.1 Y.2.1 s c)
  rw [had c hc, xct_ad (L := fun c => l.getD c (.inl (0, 0, []))) (by show (l ++ [sh]).getD c _ = l.getD c _; rw [List.getD_eq_getElem?_getD, List.getD_eq_getElem?_getD, List.getElem?_append_left hc]) (fun r hr => had r (xwf_lt hwf hc hr))]
theorem xD_inj {A : Nat → Prop} {G : xG} {s : xM} (h : va_D A (xW G s)) : xInj G ∧ ∀ q, xA G q → A q := by
  refine ⟨fun i j hi hj e => h.1 i j _ _ (xW_get hi) (xW_get hj) e, fun q hq => ?_⟩
  obtain ⟨c, hc, rfl⟩ := hq
  exact h.2 c _ (xW_get hc)
def xBk (B : xB) (k n : Nat) : xB := (B.1, B.2.1, B.2.2.1, B.2.2.2.1, B.2.2.2.2.1, B.2.2.2.2.2.1, B.2.2.2.2.2.2.1, B.2.2.2.2.2.2.2.1, B.2.2.2.2.2.2.2.2.1, B.2.2.2.2.2.2.2.2.2.1, B.2.2.2.2.2.2.2.2.2.2.1, k, n, B.A)
theorem xC_grow {G G2 : xG} {Z : xZ} {B : xB} {own : String} {cc : ByteArray} {nL d k n : Nat} (C : xC G Z B own cc nL d) (hG : G2.2.2.2 = G.2.2.2) {s : xM} (hD : va_D B.A (xW G2 s)) (hk : k ≤ B.R.cells) (hn : n ≤ B.R.slots) : xC G2 Z (xBk B k n) own cc nL d := by
  obtain ⟨c1, c2, c3, c4, c5, c6, c7, c8, c9, c10, c11, c12, c13, c14⟩ := C
  obtain ⟨i1, i2⟩ := xD_inj hD
  exact ⟨c1, c2, c3, c4, c5, c6, by rw [hG]; exact c7, i1, c9, c10, c11, i2, hk, hn⟩
/-- a cell comes: what every making of one cell has in common -/
theorem wg_one {l l2 : List xSh} {sh : xSh} {Y : xY} {Z : xZ} {B : xB} {own : String} {cc : ByteArray} {nL d k n : Nat} {σ : xM} {lvf : (Nat → Nat) → List (Nat × Value)} {pc : Nat} {stf : (Nat → Nat) → List Value} {q : Nat} {e : va_E} {H1 : Heap} {locs : List Loc} {ls : Array Slot}
    (C : xC (Gl l Y) Z B own cc nL d) (hl2 : l ++ [sh] = l2) (hwf : xwf l = true) (hlv : ∀ a : Nat → Nat, (∀ c, c < l.length → a c = Y.1 c) → lvf a = lvf Y.1 ∧ stf a = stf Y.1) (hk : k ≤ B.R.cells) (hn : n ≤ B.R.slots)
    (hP : va_P Y.2.2 vwCl (xW (Gl l Y) σ ++ [(q, e)]) H1) (hD : va_D B.A (xW (Gl l Y) σ ++ [(q, e)])) (hS : va_S B.A B.s.heap H1 locs) (hl : lv_has ls nL (lvf Y.1)) (he : ∀ ad2 : Nat → Nat, xct (fun c => l2.getD c (.inl (0, 0, []))) ad2 Y.2.1 σ l.length = e)
    (kk : ∀ ad2 : Nat → Nat, (∀ c, c < l.length → ad2 c = Y.1 c) → xC (Gl l2 (ad2, Y.2)) Z (xBk B k n) own cc nL d → xWS (Gl l2 (ad2, Y.2)) (xBk B k n) nL σ (lvf ad2) pc (.ref (ad2 l.length) :: stf ad2)) :
    W B.p B.l B.e B.R B.s B.m B.a B.b B.t B.c H1 locs k n B.Q (F0 B.m pc ls (.ref q :: stf Y.1)) := by
  subst hl2
  let ad2 : Nat → Nat := fun c => if c = l.length then q else Y.1 c
  have had : ∀ c, c < l.length → ad2 c = Y.1 c := fun c hc => if_neg (by omega)
  have hq : ad2 l.length = q := if_pos rfl
  have hW : xW (Gl (l ++ [sh]) (ad2, Y.2)) σ = xW (Gl l Y) σ ++ [(q, e)] := by rw [xW_push hwf had, hq, he ad2]
  rw [← hW] at hP hD
  have C2 := xC_grow (G2 := Gl (l ++ [sh]) (ad2, Y.2)) C rfl hD hk hn
  obtain ⟨e1, e2⟩ := hlv ad2 had
  have h := kk ad2 had C2 H1 locs ls hP hS (by rw [e1]; exact hl)
  rw [hq, e2] at h
  exact h
theorem xct_last {l : List xSh} {sh : xSh} {ad : Nat → Nat} {cA : Nat → ClassId} {s : xM} : xct (fun c => (l ++ [sh]).getD c (.inl (0, 0, []))) ad cA s l.length = (match sh with
  | .inl (t, n, ch) => .inl (cA t, n, if t = 1 then .inr (.inl (s.2 l.length)) else if t < 3 then .inl (s.1 l.length) else .inr (.inr (.inr (.inr fun k => (ch.getD k none).map ad))))
  | .inr (ci, fl) => .inr (ci, fl.mapIdx (xfv ad s l.length))) := by
  unfold xct
  have e : (l ++ [sh]).getD l.length (.inl (0, 0, [])) = sh := by
    rw [List.getD_eq_getElem?_getD, List.getElem?_append_right (Nat.le_refl _), Nat.sub_self]
    rfl
  simp only [e]
  rcases sh with ⟨t, n, ch⟩ | ⟨ci, fl⟩ <;> rfl
theorem wg_new {l l2 : List xSh} {Y : xY} {Z : xZ} {B : xB} {own : String} {cc : ByteArray} {nL d k n k2 n2 : Nat} {σ : xM} {pc index ci N : Nat} {C1 : String} {T : u_T} {fl : List (Option Nat ⊕ Nat)} (lvf : (Nat → Nat) → List (Nat × Value)) (stf : (Nat → Nat) → List Value) (C : xC (Gl l Y) Z (xBk B k n) own cc nL d)
    (hd : decode cc pc = .ok (.new index, 3)) (hc : vwCl[ci]? = some (C1, T, N)) (hin : ∀ w ∈ u_ws C1 T N, w ∈ xTB) (ty : Nat → FieldType) (hty : ∀ k, k < N → parseFieldDescriptor (T k).2.2.1 = some (ty k)) (hcl : Cond.classLink own index C1 ∈ xTB) (hinst : Cond.instantiable C1 N ∈ xTB) (hini : Cond.initialized C1 ∈ xTB)
    (hA : ∀ q, B.s.heap.size ≤ q → B.A q) (hwf : xwf l = true) (hl2 : l ++ [.inr (ci, fl)] = l2) (hz1 : ∀ j, σ.1 l.length j = 0) (hz2 : ∀ j, σ.2 l.length j = 0)
    (hfl : ∀ j, j < N → ∃ f, fl[j]? = some f ∧ defaultValue (ty j) = (match f with | .inl _ => .null | .inr 0 => .int 0 | .inr _ => .long 0)) (hnull : ∀ f ∈ fl, ∀ r, f ≠ .inl (some r)) (hk2 : k + 1 = k2) (hn2 : n + N = n2) (hk : k2 ≤ B.R.cells) (hn : n2 ≤ B.R.slots)
    (hlv : ∀ a : Nat → Nat, (∀ c, c < l.length → a c = Y.1 c) → lvf a = lvf Y.1 ∧ stf a = stf Y.1)
    (kk : ∀ ad2 : Nat → Nat, (∀ c, c < l.length → ad2 c = Y.1 c) → xC (Gl l2 (ad2, Y.2)) Z (xBk B k2 n2) own cc nL d → xWS (Gl l2 (ad2, Y.2)) (xBk B k2 n2) nL σ (lvf ad2) (pc + 3) (.ref (ad2 l.length) :: stf ad2)) :
    xWS (Gl l Y) (xBk B k n) nL σ (lvf Y.1) pc (stf Y.1) := by
  subst hk2
  subst hn2
  intro H locs ls hP hS hl
  have ho : ∀ ad2 : Nat → Nat, xct (fun c => l2.getD c (.inl (0, 0, []))) ad2 Y.2.1 σ l.length = .inr (ci, fl.mapIdx fun _ f => match f with | .inl _ => .null | .inr 0 => .int 0 | .inr _ => .long 0) := by
    intro ad2
    rw [← hl2, xct_last]
    show Sum.inr (ci, _) = Sum.inr (ci, _)
    congr 2
    apply List.ext_getElem?
    intro j
    rw [List.getElem?_mapIdx, List.getElem?_mapIdx]
    cases hj : fl[j]? with
    | none => rfl
    | some f =>
      have hm := List.mem_of_getElem? hj
      rcases f with (_ | r) | _ | _
      · rfl
      · exact absurd rfl (hnull _ hm r)
      · show some (Value.int (σ.1 l.length j)) = some (Value.int 0)
        rw [hz1]
      · show some (Value.long (σ.2 l.length j)) = some (Value.long 0)
        rw [hz2]
  refine va_new (fs := fl.mapIdx fun _ f => match f with | .inl _ => .null | .inr 0 => .int 0 | .inr _ => .long 0) C.1 C.2.1 C.2.2.2.2.1 hin ty hty C.2.2.2.1 (C.2.2.2.2.1 _ hcl) (C.2.2.2.2.1 _ hinst) (C.2.2.2.2.1 _ hini) C.2.2.2.2.2.2.1 hP (xC_D C) hS hA hc ?_ hk hn hd ?_
  · intro j hj
    obtain ⟨f, h1, h2⟩ := hfl j hj
    rw [h2]
    simp [vp_V, List.getElem?_mapIdx, h1]
  · intro q H1 hP1 hD1 hS1
    exact wg_one C hl2 hwf hlv hk hn hP1 hD1 hS1 hl ho kk
theorem va_RA_eq {U : State} {c1 c2 : ClassId} {ty : FieldType} (h1 : va_RA U c1 ty) (h2 : va_RA U c2 ty) : c1 = c2 := by
  cases ty with
  | object C =>
    obtain ⟨-, -, -, -, -, e1⟩ := h1
    obtain ⟨-, -, -, -, -, e2⟩ := h2
    exact Option.some.inj (e1.symm.trans e2)
  | _ => exact Option.some.inj ((show U.vm.findClass _ = some c1 from h1).symm.trans h2)
theorem wg_newa {l l2 : List xSh} {Y : xY} {Z : xZ} {B : xB} {own : String} {cc : ByteArray} {nL d k n k2 n2 : Nat} {σ : xM} {pc t N' : Nat} {m : Int32} {atype : ArrayType} (lvf : (Nat → Nat) → List (Nat × Value)) (stf : (Nat → Nat) → List Value) (C : xC (Gl l Y) Z (xBk B k n) own cc nL d)
    (hd : decode cc pc = .ok (.newarray atype, 2)) (ht : t < 3) (hty : newarray.typeOf atype = xty t) (hw : Cond.arrayClass (newarray.typeOf atype) ∈ xTB) (hA : ∀ q, B.s.heap.size ≤ q → B.A q) (hwf : xwf l = true) (hl2 : l ++ [.inl (t, N', [])] = l2) (hz1 : ∀ j, σ.1 l.length j = 0) (hz2 : ∀ j, σ.2 l.length j = 0)
    (hm : ¬ m < 0) (hN : m.toNatClampNeg = N') (hb : N' * 8 ≤ 536870912) (hk2 : k + 1 = k2) (hn2 : n + N' = n2) (hk : k2 ≤ B.R.cells) (hn : n2 ≤ B.R.slots)
    (hlv : ∀ a : Nat → Nat, (∀ c, c < l.length → a c = Y.1 c) → lvf a = lvf Y.1 ∧ stf a = stf Y.1)
    (kk : ∀ ad2 : Nat → Nat, (∀ c, c < l.length → ad2 c = Y.1 c) → xC (Gl l2 (ad2, Y.2)) Z (xBk B k2 n2) own cc nL d → xWS (Gl l2 (ad2, Y.2)) (xBk B k2 n2) nL σ (lvf ad2) (pc + 2) (.ref (ad2 l.length) :: stf ad2)) :
    xWS (Gl l Y) (xBk B k n) nL σ (lvf Y.1) pc (.int m :: stf Y.1) := by
  subst hk2
  subst hn2
  intro H locs ls hP hS hl
  have e1 : σ.1 l.length = fun _ => 0 := funext hz1
  have e2 : σ.2 l.length = fun _ => 0 := funext hz2
  have ha0 : ∀ cA : ClassId, vp_cell cA ((N', if t = 1 then .inr (.inl (fun _ => 0)) else .inl (fun _ => 0)) : vp_A) = arrV cA N' (fun _ => defaultValue (xty t)) := by
    intro cA
    rcases (by omega : t = 0 ∨ t = 1 ∨ t = 2) with rfl | rfl | rfl
    · exact vp_cell_i ..
    · exact vp_cell_l ..
    · exact vp_cell_i ..
  have hbytes : N' * componentBytes (xty t) ≤ 536870912 := by
    rcases (by omega : t = 0 ∨ t = 1 ∨ t = 2) with rfl | rfl | rfl
    · show N' * 4 ≤ _
      omega
    · exact hb
    · show N' * 1 ≤ _
      omega
  refine va_newa (a0 := (N', if t = 1 then .inr (.inl (fun _ => 0)) else .inl (fun _ => 0))) C.1 C.2.1 (C.2.2.2.2.1 _ hw) hty C.2.2.2.2.2.2.1 hP (xC_D C) hS hA ha0 hm hN hbytes hk hn hd ?_
  intro q cA H1 hK1 hP1 hD1 hS1
  have h1 : va_RA (xBk B k n).s cA (xty t) := (hK1.2 (xT Y.2.1).length (cA, xty t) (by rw [List.getElem?_append_right (Nat.le_refl _), Nat.sub_self]; rfl)).2
  have h2 : va_RA (xBk B k n).s (Y.2.1 t) (xty t) := (C.2.2.2.2.2.2.1.2 t _ (xT_get (by omega))).2
  have hc := va_RA_eq h1 h2
  subst hc
  refine wg_one C hl2 hwf hlv hk hn hP1 hD1 hS1 hl (fun ad2 => ?_) kk
  rw [← hl2, xct_last]
  show Sum.inl (Y.2.1 t, N', _) = _
  rw [e1, e2]
  rcases (by omega : t = 0 ∨ t = 1 ∨ t = 2) with rfl | rfl | rfl <;> rfl
theorem wg_newq {l l2 : List xSh} {Y : xY} {Z : xZ} {B : xB} {own C1 : String} {cc : ByteArray} {nL d k n k2 n2 : Nat} {σ : xM} {pc t N' index : Nat} {m : Int32} (lvf : (Nat → Nat) → List (Nat × Value)) (stf : (Nat → Nat) → List Value) (C : xC (Gl l Y) Z (xBk B k n) own cc nL d)
    (hd : decode cc pc = .ok (.anewarray index, 3)) (ht : 3 ≤ t ∧ t < 8) (hty : xty t = .object C1) (hcl : Cond.classLink own index C1 ∈ xTB) (hO : va_AO C1 B.s) (hA : ∀ q, B.s.heap.size ≤ q → B.A q) (hwf : xwf l = true) (hl2 : l ++ [.inl (t, N', List.replicate N' none)] = l2)
    (hm : ¬ m < 0) (hN : m.toNatClampNeg = N') (hb : N' * 4 ≤ 536870912) (hk2 : k + 1 = k2) (hn2 : n + N' = n2) (hk : k2 ≤ B.R.cells) (hn : n2 ≤ B.R.slots)
    (hlv : ∀ a : Nat → Nat, (∀ c, c < l.length → a c = Y.1 c) → lvf a = lvf Y.1 ∧ stf a = stf Y.1)
    (kk : ∀ ad2 : Nat → Nat, (∀ c, c < l.length → ad2 c = Y.1 c) → xC (Gl l2 (ad2, Y.2)) Z (xBk B k2 n2) own cc nL d → xWS (Gl l2 (ad2, Y.2)) (xBk B k2 n2) nL σ (lvf ad2) (pc + 3) (.ref (ad2 l.length) :: stf ad2)) :
    xWS (Gl l Y) (xBk B k n) nL σ (lvf Y.1) pc (.int m :: stf Y.1) := by
  subst hk2
  subst hn2
  intro H locs ls hP hS hl
  refine va_newq C.1 C.2.1 C.2.2.2.1 (C.2.2.2.2.1 _ hcl) hO C.2.2.2.2.2.2.1 hP (xC_D C) hS hA hm hN hb hk hn hd ?_
  intro q cA H1 hK1 hP1 hD1 hS1
  have h1 : va_RA (xBk B k n).s cA (xty t) := by
    rw [hty]
    exact (hK1.2 (xT Y.2.1).length (cA, .object C1) (by rw [List.getElem?_append_right (Nat.le_refl _), Nat.sub_self]; rfl)).2
  have h2 : va_RA (xBk B k n).s (Y.2.1 t) (xty t) := (C.2.2.2.2.2.2.1.2 t _ (xT_get ht.2)).2
  have hc := va_RA_eq h1 h2
  subst hc
  refine wg_one C hl2 hwf hlv hk hn hP1 hD1 hS1 hl (fun ad2 => ?_) kk
  rw [← hl2, xct_last]
  show Sum.inl (Y.2.1 t, N', _) = _
  rw [if_neg (by omega), if_neg (by omega)]
  congr 7
  funext j
  have e : (List.replicate N' (none : Option Nat)).getD j none = none := by
    rw [List.getD_eq_getElem?_getD, List.getElem?_replicate]
    split <;> rfl
  rw [e]
  rfl
theorem xo_outer (c : ClassId) (N h0 : Nat) : ∀ i : Nat, Jvm.Free.Multi.outerC c N h0 i = arrV c N (fun j => va_rf (if j < i then some (h0 + 1 + j) else none))
  | 0 => by
    show ({ cls := c, slots := Array.replicate N .null, vm := .none } : Cell) = _
    rw [arrV_new]
    exact congrArg (arrV c N) (funext fun j => by simp [va_rf])
  | i + 1 => by
    show (Jvm.Free.Multi.outerC c N h0 i).setSlot i (.ref (h0 + 1 + i)) = _
    rw [xo_outer c N h0 i, arrV_store]
    refine congrArg (arrV c N) (funext fun j => ?_)
    by_cases e : j = i
    · subst e
      simp [updV, va_rf]
    · by_cases h : j < i
      · simp [updV, e, h, Nat.lt_succ_of_lt h]
      · simp [updV, e, h, show ¬ j < i + 1 by omega]
/-- the outer row of n inner ones that come right behind it -/
def xouter (c n : Nat) : xSh := .inl (3, n, (List.range n).map fun j => some (c + 1 + j))
theorem wg_mna {l l2 : List xSh} {Y : xY} {Z : xZ} {B : xB} {own : String} {cc : ByteArray} {nL d k n k2 n2 : Nat} {σ : xM} {pc N' M' index : Nat} {m1 m2 : Int32} (lvf : (Nat → Nat) → List (Nat × Value)) (stf : (Nat → Nat) → List Value) (C : xC (Gl l Y) Z (xBk B k n) own cc nL d)
    (hd : decode cc pc = .ok (.multianewarray index 2, 4)) (hcl : Cond.classLink own index "[[I" ∈ xTB) (hO : (Cond.arrayOver (.array .int)).before B.a B.s = true) (hw : Cond.arrayClass .int ∈ xTB) (hA : ∀ q, B.s.heap.size ≤ q → B.A q) (hwf : xwf l = true) (hl2 : l ++ xouter l.length N' :: List.replicate N' (.inl (0, M', [])) = l2) (hz1 : ∀ c, l.length ≤ c → ∀ j, σ.1 c j = 0)
    (hm1 : ¬ m1 < 0) (hN : m1.toNatClampNeg = N') (hm2 : ¬ m2 < 0) (hM : m2.toNatClampNeg = M') (hb1 : N' ≤ 1000) (hb2 : M' ≤ 1000) (hk2 : k + 1 + N' = k2) (hn2 : n + N' + N' * M' = n2) (hk : k2 ≤ B.R.cells) (hn : n2 ≤ B.R.slots)
    (hlv : ∀ a : Nat → Nat, (∀ c, c < l.length → a c = Y.1 c) → lvf a = lvf Y.1 ∧ stf a = stf Y.1)
    (kk : ∀ ad2 : Nat → Nat, (∀ c, c < l.length → ad2 c = Y.1 c) → xC (Gl l2 (ad2, Y.2)) Z (xBk B k2 n2) own cc nL d → xWS (Gl l2 (ad2, Y.2)) (xBk B k2 n2) nL σ (lvf ad2) (pc + 4) (.ref (ad2 l.length) :: stf ad2)) :
    xWS (Gl l Y) (xBk B k n) nL σ (lvf Y.1) pc (.int m2 :: .int m1 :: stf Y.1) := by
  subst hk2
  subst hn2
  subst hN
  subst hM
  intro H locs ls hP hS hl T hT X
  obtain ⟨vm₁, cA, comp, -, fA, fC, hOut, hIn, X', step⟩ := X.multianewarray2F C.1 (own := own) (index := index) (ty := .int) C.2.2.2.1 (C.2.2.2.2.1 _ hcl) hO (C.2.2.2.2.1 _ hw) (g := F0 B.m pc ls (.int m2 :: .int m1 :: stf Y.1)) rfl ((congrArg (fun b => decode b pc) C.2.1).trans hd) rfl hm1 hm2 (by omega) (by show _ * 4 ≤ _; omega) (by omega) rfl rfl (by show k + (1 + _) ≤ B.R.cells; omega) (by show n + (_ + _) ≤ B.R.slots; omega)
  generalize hN : m1.toNatClampNeg = N at *
  generalize hM : m2.toNatClampNeg = M at *
  generalize hF : Jvm.Free.Multi.fill (T.setVm vm₁) cA comp N M (defaultValue .int) N = F at X' step
  have hTh : (T.setVm vm₁).heap = H := hT
  obtain ⟨f1, f2, -, -⟩ := Jvm.Free.Multi.fill_facts (T.setVm vm₁) cA comp N M (defaultValue .int) N
  rw [hF, hTh] at f1 f2
  have hold : ∀ x : Nat, x < H.size → F.heap[x]? = H[x]? := fun x hx => by
    have h := Jvm.Free.Multi.fill_old (T.setVm vm₁) cA comp N M (defaultValue .int) (a := x) (by rw [hTh]; exact hx) N
    rw [hF, hTh] at h
    exact h
  have hrow : ∀ j : Nat, j < N → F.heap[H.size + 1 + j]? = some (Jvm.Free.Multi.innerC comp M (defaultValue .int)) := fun j hj => by
    have h := Jvm.Free.Multi.fill_inner (T.setVm vm₁) cA comp N M (defaultValue .int) N j hj
    rw [hF, hTh] at h
    exact h
  rw [xo_outer] at f2
  have hc3 : cA = Y.2.1 3 := va_RA_eq (U := B.s) (ty := .array .int) fA (C.2.2.2.2.2.2.1.2 3 _ (xT_get (by decide))).2
  have hc0 : comp = Y.2.1 0 := va_RA_eq (U := B.s) (ty := .int) fC (C.2.2.2.2.2.2.1.2 0 _ (xT_get (by decide))).2
  subst hc3
  subst hc0
  let ad2 : Nat → Nat := fun c => if c < l.length then Y.1 c else H.size + (c - l.length)
  have had : ∀ c, c < l.length → ad2 c = Y.1 c := fun c hc => if_pos hc
  have had2 : ∀ j, ad2 (l.length + j) = H.size + j := fun j => by
    show (if l.length + j < l.length then Y.1 (l.length + j) else H.size + (l.length + j - l.length)) = _
    rw [if_neg (by omega)]
    omega
  have hlen : l2.length = l.length + (1 + N) := by rw [← hl2]; simp; omega
  have hget : ∀ c, c < l.length → l2.getD c (.inl (0, 0, [])) = l.getD c (.inl (0, 0, [])) := fun c hc => by
    rw [← hl2, List.getD_eq_getElem?_getD, List.getD_eq_getElem?_getD, List.getElem?_append_left hc]
  have hget0 : l2.getD l.length (.inl (0, 0, [])) = xouter l.length N := by
    rw [← hl2, List.getD_eq_getElem?_getD, List.getElem?_append_right (Nat.le_refl _), Nat.sub_self]
    rfl
  have hgetj : ∀ j, j < N → l2.getD (l.length + (1 + j)) (.inl (0, 0, [])) = .inl (0, M, []) := fun j hj => by
    rw [← hl2, List.getD_eq_getElem?_getD, List.getElem?_append_right (by omega), show l.length + (1 + j) - l.length = j + 1 by omega, List.getElem?_cons_succ, List.getElem?_replicate, if_pos hj]
    rfl
  have hlt : ∀ c, c < l.length → Y.1 c < H.size := fun c hc => (hP c _ (xW_get (G := Gl l Y) hc)).lt
  have hcases : ∀ c, c < l2.length → c < l.length ∨ c = l.length ∨ ∃ j, j < N ∧ c = l.length + (1 + j) := fun c hc => by
    rw [hlen] at hc
    rcases Nat.lt_trichotomy c l.length with h | h | h
    · exact Or.inl h
    · exact Or.inr (Or.inl h)
    · exact Or.inr (Or.inr ⟨c - l.length - 1, by omega, by omega⟩)
  have hP2 : va_P Y.2.2 vwCl (xW (Gl l2 (ad2, Y.2)) σ) F.heap := by
    intro c q hq
    have hc : c < l2.length := by
      have := (List.getElem?_eq_some_iff.mp hq).1
      rw [xW_len] at this
      exact this
    rw [xW_get (G := Gl l2 (ad2, Y.2)) hc] at hq
    cases hq
    rcases hcases c hc with h | rfl | ⟨j, hj, rfl⟩
    · have h1 := (hP c _ (xW_get (G := Gl l Y) h)).kept (hold _ (hlt c h))
      have e : xct (fun c => l2.getD c (.inl (0, 0, []))) ad2 Y.2.1 σ c = xct (fun c => l.getD c (.inl (0, 0, []))) Y.1 Y.2.1 σ c := xct_ad (hget c h) (fun r hr => had r (xwf_lt hwf h hr))
      show va_at Y.2.2 vwCl (ad2 c, xct (fun c => l2.getD c (.inl (0, 0, []))) ad2 Y.2.1 σ c) F.heap
      rw [e, had c h]
      exact h1
    · show va_at Y.2.2 vwCl (ad2 l.length, xct (fun c => l2.getD c (.inl (0, 0, []))) ad2 Y.2.1 σ l.length) F.heap
      have e : xct (fun c => l2.getD c (.inl (0, 0, []))) ad2 Y.2.1 σ l.length = .inl (Y.2.1 3, N, .inr (.inr (.inr (.inr fun j => if j < N then some (H.size + 1 + j) else none)))) := by
        unfold xct
        simp only [hget0]
        show Sum.inl (Y.2.1 3, N, Sum.inr (Sum.inr (Sum.inr (Sum.inr fun k => (((List.range N).map fun j => some (l.length + 1 + j)).getD k none).map ad2)))) = _
        congr 7
        funext j
        rw [List.getD_eq_getElem?_getD, List.getElem?_map]
        by_cases hj : j < N
        · rw [List.getElem?_range hj, if_pos hj]
          show some (ad2 (l.length + 1 + j)) = _
          rw [show l.length + 1 + j = l.length + (1 + j) by omega, had2]
          congr 1
          omega
        · rw [List.getElem?_eq_none (by rw [List.length_range]; omega), if_neg hj]
          rfl
      rw [e]
      have h0 := had2 0
      rw [Nat.add_zero] at h0
      rw [h0]
      show F.heap[H.size + 0]? = some (vp_cell _ _)
      rw [vp_cell_q]
      exact f2
    · show va_at Y.2.2 vwCl (ad2 (l.length + (1 + j)), xct (fun c => l2.getD c (.inl (0, 0, []))) ad2 Y.2.1 σ (l.length + (1 + j))) F.heap
      have e : xct (fun c => l2.getD c (.inl (0, 0, []))) ad2 Y.2.1 σ (l.length + (1 + j)) = .inl (Y.2.1 0, M, .inl (fun _ => 0)) := by
        unfold xct
        simp only [hgetj j hj]
        have e1 : σ.1 (l.length + (1 + j)) = fun _ => 0 := funext (hz1 _ (by omega))
        rw [e1]
        rfl
      rw [e, had2]
      show F.heap[H.size + (1 + j)]? = some (vp_cell _ _)
      rw [← Nat.add_assoc, hrow j hj, vp_cell_i]
      congr 1
      exact arrV_new _ _ _
  have hD2 : va_D B.A (xW (Gl l2 (ad2, Y.2)) σ) := by
    have hinj : xInj (Gl l2 (ad2, Y.2)) := by
      intro i j hi hj e
      have e : ad2 i = ad2 j := e
      rcases hcases i hi with h1 | h1 | ⟨x, hx, h1⟩ <;> rcases hcases j hj with h2 | h2 | ⟨y, hy, h2⟩
      · rw [had i h1, had j h2] at e
        exact C.2.2.2.2.2.2.2.1 i j h1 h2 e
      · have h3 := had2 0
        rw [Nat.add_zero, ← h2] at h3
        rw [had i h1, h3] at e
        have := hlt i h1
        omega
      · rw [had i h1, h2, had2] at e
        have := hlt i h1
        omega
      · have h3 := had2 0
        rw [Nat.add_zero, ← h1] at h3
        rw [had j h2, h3] at e
        have := hlt j h2
        omega
      · omega
      · have h3 := had2 0
        rw [Nat.add_zero, ← h1] at h3
        rw [h2, had2, h3] at e
        omega
      · rw [had j h2, h1, had2] at e
        have := hlt j h2
        omega
      · have h3 := had2 0
        rw [Nat.add_zero, ← h2] at h3
        rw [h1, had2, h3] at e
        omega
      · rw [h1, h2, had2, had2] at e
        omega
    refine (xW_D hinj).weaken (fun _ q _ hq => ?_)
    obtain ⟨c, hc, e⟩ := hq
    rw [e]
    have hs := hS.1
    rcases hcases c hc with h | h | ⟨j, hj, h⟩
    · show B.A (ad2 c)
      rw [had c h]
      exact C.2.2.2.2.2.2.2.2.2.2.2.1 _ ⟨c, h, rfl⟩
    · have h3 := had2 0
      rw [Nat.add_zero, ← h] at h3
      show B.A (ad2 c)
      rw [h3]
      exact hA _ hs
    · show B.A (ad2 c)
      rw [h, had2]
      exact hA _ (Nat.le_trans hs (Nat.le_add_right _ _))
  have C2 := xC_grow (G2 := Gl l2 (ad2, Y.2)) (k := k + 1 + N) (n := n + N + N * M) C rfl hD2 hk hn
  obtain ⟨e1, e2⟩ := hlv ad2 had
  have hS2 : va_S B.A B.s.heap F.heap locs := ⟨Nat.le_trans hS.1 (by rw [f1]; omega), fun x h1 h2 => (hold x (Nat.lt_of_lt_of_le h1 hS.1)).trans (hS.2.1 x h1 h2), hS.2.2⟩
  have h := kk ad2 had C2 F.heap locs ls hP2 hS2 (by rw [e1]; exact hl) F rfl X'
  obtain ⟨t, a1, b1⟩ := h
  refine ⟨t, step t ?_, b1⟩
  have e0 : T.heap.size = ad2 l.length := by
    have h3 := had2 0
    rw [Nat.add_zero] at h3
    rw [h3, hT]
    rfl
  rw [e0, ← e2]
  exact a1
theorem getD_set_ne {l : List xSh} {i c : Nat} {x : xSh} (h : c ≠ i) : (l.set i x).getD c (.inl (0, 0, [])) = l.getD c (.inl (0, 0, [])) := by
  rw [List.getD_eq_getElem?_getD, List.getD_eq_getElem?_getD, List.getElem?_set_ne (Ne.symm h)]
theorem getD_set_eq {l : List xSh} {i : Nat} {x : xSh} (h : i < l.length) : (l.set i x).getD i (.inl (0, 0, [])) = x := by
  rw [List.getD_eq_getElem?_getD, List.getElem?_set_self h]
  rfl
/-- a cell's shape changes, its numbers stay -/
theorem xW_reshape {l : List xSh} {i : Nat} {x : xSh} {Y : xY} {s : xM} {e : va_E} (h : i < l.length) (he : xct (fun c => (l.set i x).getD c (.inl (0, 0, []))) Y.1 Y.2.1 s i = e) : (xW (Gl l Y) s).set i (Y.1 i, e) = xW (Gl (l.set i x) Y) s := by
  have hlen : (l.set i x).length = l.length := List.length_set ..
  apply List.ext_getElem?
  intro c
  rw [List.getElem?_set]
  by_cases hc : i = c
  · subst hc
    rw [if_pos rfl, xW_len, if_pos h, xW_get (G := Gl (l.set i x) Y) (by show i < (l.set i x).length; rw [hlen]; exact h)]
    show some (Y.1 i, e) = some (Y.1 i, xct (fun c => (l.set i x).getD c (.inl (0, 0, []))) Y.1 Y.2.1 s i)
    rw [he]
  · rw [if_neg hc]
    by_cases hl : c < l.length
    · rw [xW_get (G := Gl l Y) hl, xW_get (G := Gl (l.set i x) Y) (by show c < (l.set i x).length; rw [hlen]; exact hl)]
      show some (Y.1 c, xct (fun c => l.getD c (.inl (0, 0, []))) Y.1 Y.2.1 s c) = some (Y.1 c, xct (fun c => (l.set i x).getD c (.inl (0, 0, []))) Y.1 Y.2.1 s c)
      rw [xct_ad (L := fun c => l.getD c (.inl (0, 0, []))) (L2 := fun c => (l.set i x).getD c (.inl (0, 0, []))) (getD_set_ne (Ne.symm hc)) (fun _ _ => rfl)]
    · rw [List.getElem?_eq_none (by rw [xW_len]; show l.length ≤ c; omega), List.getElem?_eq_none (by rw [xW_len]; show (l.set i x).length ≤ c; omega)]
theorem xC_reshape {l l2 : List xSh} {Y : xY} {Z : xZ} {B : xB} {own : String} {cc : ByteArray} {nL d : Nat} (C : xC (Gl l Y) Z B own cc nL d) (h : l2.length = l.length) : xC (Gl l2 Y) Z B own cc nL d := by
  obtain ⟨c1, c2, c3, c4, c5, c6, c7, c8, c9, c10, c11, c12, c13, c14⟩ := C
  refine ⟨c1, c2, c3, c4, c5, c6, c7, fun i j hi hj e => c8 i j (by show i < l.length; rw [← h]; exact hi) (by show j < l.length; rw [← h]; exact hj) e, c9, c10, c11, fun q hq => ?_, c13, c14⟩
  obtain ⟨c, hc, e⟩ := hq
  exact c12 q ⟨c, by show c < l.length; rw [← h]; exact hc, e⟩
/-- a final field of references is set -/
theorem wg_putr {l l2 : List xSh} {Y : xY} {Z : xZ} {B : xB} {own : String} {cc : ByteArray} {nL d : Nat} {σ : xM} {lv : List (Nat × Value)} {st : List Value} {pc index i r k ci N : Nat} {T : u_T} {fl : List (Option Nat ⊕ Nat)} {ty : FieldType} (C : xC (Gl l Y) Z B own cc nL d)
    (hd : decode cc pc = .ok (.putfield index, 3)) (hc : vwCl[ci]? = some (own, T, N)) (hin : ∀ w ∈ u_ws own T N, w ∈ xTB) (ty0 : Nat → FieldType) (hty : ∀ k, k < N → parseFieldDescriptor (T k).2.2.1 = some (ty0 k)) (hnm : ∀ a, a < N → ∀ b, b < N → a ≠ b → (T a).2.1 ≠ (T b).2.1) (hk : k < N) (hl : Cond.fieldLink own index (T k).1 (T k).2.1 (T k).2.2.1 ∈ xTB) (hfin : (T k).2.2.2 = true) (hdecl : (T k).1 = own) (hdt : parseFieldDescriptor (T k).2.2.1 = some ty) (hnr : narrow ty (.ref (Y.1 r)) = .ref (Y.1 r)) (hft : fits ty (.ref (Y.1 r)) = true)
    (hin2 : B.t.name = "<init>") (hi : l[i]? = some (.inr (ci, fl))) (hkl : k < fl.length) (hl2 : l.set i (.inr (ci, fl.set k (.inl (some r)))) = l2)
    (kk : xC (Gl l2 Y) Z B own cc nL d → xWS (Gl l2 Y) B nL σ lv (pc + 3) st) : xWS (Gl l Y) B nL σ lv pc (.ref (Y.1 r) :: .ref (Y.1 i) :: st) := by
  intro H locs ls hP hS hl3
  have hil : i < l.length := (List.getElem?_eq_some_iff.mp hi).1
  have hgi : (Gl l Y).1 i = .inr (ci, fl) := by
    show l.getD i _ = _
    rw [List.getD_eq_getElem?_getD, hi]
    rfl
  refine va_putF C.1 C.2.1 C.2.2.2.2.1 hin ty0 hty hnm C.2.2.2.1 C.2.2.2.2.2.2.1 hP (xC_D C) hS i (by rw [xW_get (G := Gl l Y) hil, xct_o hgi]) hc k hk (C.2.2.2.2.1 _ hl) (fun _ h => h) hfin hin2 hdecl hdt hnr hft (by rw [List.length_mapIdx]; exact hkl) hd (fun H1 locs1 hP1 _ hS1 => ?_)
  have hgi2 : (fun c => l2.getD c (.inl (0, 0, []))) i = .inr (ci, fl.set k (.inl (some r))) := by
    rw [← hl2]
    exact getD_set_eq hil
  have e : (fl.mapIdx (xfv Y.1 σ i)).set k (.ref (Y.1 r)) = (fl.set k (.inl (some r))).mapIdx (xfv Y.1 σ i) := by
    apply List.ext_getElem?
    intro j
    rw [List.getElem?_set, List.length_mapIdx, List.getElem?_mapIdx, List.getElem?_mapIdx, List.getElem?_set]
    by_cases hj : k = j
    · subst hj
      rw [if_pos rfl, if_pos hkl, if_pos rfl, if_pos hkl]
      rfl
    · rw [if_neg hj, if_neg hj]
  have hP2 : va_P Y.2.2 vwCl (xW (Gl l2 Y) σ) H1 := by
    rw [← hl2, ← xW_reshape (e := .inr (ci, (fl.set k (.inl (some r))).mapIdx (xfv Y.1 σ i))) hil (by rw [hl2]; exact xct_o hgi2), ← e]
    exact hP1
  exact kk (xC_reshape C (by rw [← hl2]; exact List.length_set ..)) H1 locs1 ls hP2 hS1 hl3
/-- a place of a row of references is set -/
theorem wg_astq {l l2 : List xSh} {Y : xY} {Z : xZ} {B : xB} {own : String} {cc : ByteArray} {nL d : Nat} {σ : xM} {lv : List (Nat × Value)} {st : List Value} {pc i r j t n ci : Nat} {nm : String} {T : u_T} {N : Nat} {m : Int32} {ch : List (Option Nat)} {fl : List (Option Nat ⊕ Nat)} (C : xC (Gl l Y) Z B own cc nL d)
    (hd : decode cc pc = .ok (.aastore, 1)) (ht : 3 ≤ t ∧ t < 8) (hi : l[i]? = some (.inl (t, n, ch))) (hr : l[r]? = some (.inr (ci, fl))) (hc : vwCl[ci]? = some (nm, T, N)) (hty : xty t = .object nm) (hch : ch.length = n) (hm : inb m n = true) (hj : m.toNatClampNeg = j) (hl2 : l.set i (.inl (t, n, ch.set j (some r))) = l2)
    (kk : xC (Gl l2 Y) Z B own cc nL d → xWS (Gl l2 Y) B nL σ lv (pc + 1) st) : xWS (Gl l Y) B nL σ lv pc (.ref (Y.1 r) :: .int m :: .ref (Y.1 i) :: st) := by
  subst hj
  intro H locs ls hP hS hl3
  have hil : i < l.length := (List.getElem?_eq_some_iff.mp hi).1
  have hrl : r < l.length := (List.getElem?_eq_some_iff.mp hr).1
  have hgi : (Gl l Y).1 i = .inl (t, n, ch) := by
    show l.getD i _ = _
    rw [List.getD_eq_getElem?_getD, hi]
    rfl
  have hgr : (Gl l Y).1 r = .inr (ci, fl) := by
    show l.getD r _ = _
    rw [List.getD_eq_getElem?_getD, hr]
    rfl
  have ei : xct (Gl l Y).1 Y.1 Y.2.1 σ i = .inl (Y.2.1 t, n, .inr (.inr (.inr (.inr fun k => (ch.getD k none).map Y.1)))) := by
    rw [xct_r hgi, if_neg (by omega), if_neg (by omega)]
  refine va_astq (r := (nm, T, N)) C.1 C.2.1 C.2.2.2.2.2.2.1 hP (xC_D C) hS i t r ci (by rw [xW_get (G := Gl l Y) hil]; exact congrArg (fun e => some (Y.1 i, e)) ei) (by rw [xT_get ht.2, hty]) (by rw [xW_get (G := Gl l Y) hrl]; exact congrArg (fun e => some (Y.1 r, e)) (xct_o hgr)) hc (inb_in hm) hd (fun H1 locs1 hP1 _ hS1 => ?_)
  have hgi2 : (fun c => l2.getD c (.inl (0, 0, []))) i = .inl (t, n, ch.set m.toNatClampNeg (some r)) := by
    rw [← hl2]
    exact getD_set_eq hil
  have hP2 : va_P Y.2.2 vwCl (xW (Gl l2 Y) σ) H1 := by
    rw [← hl2, ← xW_reshape (e := .inl (Y.2.1 t, n, .inr (.inr (.inr (.inr (va_up (fun k => (ch.getD k none).map Y.1) m.toNatClampNeg (some (Y.1 r)))))))) hil ?_]
    · exact hP1
    · rw [hl2]
      refine (xct_r hgi2).trans ?_
      rw [if_neg (by omega), if_neg (by omega)]
      congr 7
      funext k
      have hlt := inb_lt hm
      unfold va_up
      by_cases hk : k = m.toNatClampNeg
      · subst hk
        rw [if_pos rfl, List.getD_eq_getElem?_getD, List.getElem?_set_self (by rw [hch]; exact hlt)]
        rfl
      · rw [if_neg hk]
        exact congrArg (Option.map Y.1) (by rw [List.getD_eq_getElem?_getD, List.getD_eq_getElem?_getD, List.getElem?_set_ne (Ne.symm hk)])
  exact kk (xC_reshape C (by rw [← hl2]; exact List.length_set ..)) H1 locs1 ls hP2 hS1 hl3
/-- Object's own constructor -/
theorem wg_obj {G : xG} {Z : xZ} {B : xB} {own : String} {cc : ByteArray} {nL d : Nat} {σ : xM} {lv : List (Nat × Value)} {pc idx a : Nat} {st : List Value} (C : xC G Z B own cc nL d) (hd : decode cc pc = .ok (.invokespecial idx, 3)) (hl : Cond.methodLink own idx objectInit ∈ xTB) (hi : Cond.instanceMethod objectInit ∈ xTB) (hc : Cond.code objectInit ⟨#[0xb1]⟩ 1 none ∈ xTB) (hcat : (st.map fun v => v.category).sum ≤ 8) (hr : 1 ≤ d)
    (kk : xWS G B nL σ lv (pc + 3) st) : xWS G B nL σ lv pc (.ref a :: st) := by
  intro H locs ls hP hS hl2
  have h10 := C.2.2.2.2.2.2.2.2.2.1
  have h11 := C.2.2.2.2.2.2.2.2.2.2.1
  refine W.objInit C.1 C.2.1 C.2.2.2.1 (C.2.2.2.2.1 _ hl) (C.2.2.2.2.1 _ hi) (C.2.2.2.2.1 _ hc) rfl (by rw [C.2.2.1]; exact hl2.1) rfl hd (by omega) (by show 2 * 0 + _ + 12 ≤ _; omega) ?_
  exact kk H locs ls hP hS hl2
/-! ===== contracts of constructors ===== -/
def xAO (s : State) : Prop := va_AO "BetweenStops$Stop" s ∧ va_AO "BetweenStops$Trip" s ∧ va_AO "BetweenStops$Text" s ∧ va_AO "BetweenStops$Sheet" s ∧ (Cond.arrayOver (.array .int)).before #[] s = true
def xAc2 (G : xG) (sz : Nat) : Nat → Prop := fun q => xA G q ∨ sz ≤ q
def xPc (G : xG) (Z : xZ) (σ : xM) (sz : Nat) (U : State) : Prop := U.heap.size = sz ∧ va_P G.2.2.2.2 vwCl (xW G σ) U.heap ∧ va_K G.2.2.2.2 vwCl (xT G.2.2.2.1) U ∧ xInj G ∧ xE (xAc2 G sz) Z U ∧ xAO U
def xQc (Y : xY) (n0 : Nat) (l2 : List xSh) (σ2 : xM) (A : Nat → Prop) : Array Value → State → Outcome → State → Prop := va_Qv (fun (ad2 : Nat → Nat) => ∀ c, c < n0 → ad2 c = Y.1 c) (fun ad2 t => va_P Y.2.2 vwCl (xW (Gl l2 (ad2, Y.2)) σ2) t.heap ∧ va_D A (xW (Gl l2 (ad2, Y.2)) σ2)) A
def xMc (Z : xZ) (y : MethodName) (b : ByteArray) (nL d mc ms : Nat) (av : List Value) (l : List xSh) (Y : xY) (σ : xM) (l2 : List xSh) (σ2 : xM) : Prop := ∀ (lc : Launch) (sz : Nat), Met lc y (.code y b nL none :: xTB) { frames := d, cells := mc, slots := ms, locals := 40 * d } (va_Pc av (xPc (Gl l Y) Z σ sz)) (xQc Y l.length l2 σ2 (xAc2 (Gl l Y) sz)) mc ms (xAc2 (Gl l Y) sz)
theorem xAOA_moved {u U : State} (hvm : u.vm.Alike U.vm) (h : (Cond.arrayOver (.array .int)).before #[] u = true) : (Cond.arrayOver (.array .int)).before #[] U = true := by
  unfold Cond.before Cond.holds at h ⊢
  simp only [Cond.value, beq_iff_eq] at h ⊢
  rw [hvm.findClass] at *
  cases hc : u.vm.findClass (FieldType.array .int).toString with
  | none => rw [hc] at h; simp at h
  | some comp =>
    rw [hc] at h
    simp only [Option.bind_some, Option.bind_eq_some_iff, Option.map_eq_some_iff] at h ⊢
    obtain ⟨c, hi, k, hk, hb⟩ := h
    obtain ⟨k', hk', he⟩ := hvm.2.2 _ _ hk
    refine ⟨c, ?_, k', hk', ?_⟩
    · have e1 := va_idx_bare U.vm comp
      have e2 := va_idx_bare u.vm comp
      have e3 : U.vm.bare = u.vm.bare := by first | exact hvm.bare_eq | exact hvm.bare_eq.symm
      rw [e3] at e1
      exact e1.symm.trans (e2.trans hi)
    · rw [he, hvm.findClass]
      exact hb
theorem xAO_moved {u U : State} (hvm : u.vm.Alike U.vm) (h : xAO u) : xAO U := ⟨h.1.moved hvm, h.2.1.moved hvm, h.2.2.1.moved hvm, h.2.2.2.1.moved hvm, xAOA_moved hvm h.2.2.2.2⟩
theorem xPc_blind {G : xG} {Z : xZ} {σ : xM} {sz : Nat} {av : List Value} : FrameBlind (va_Pc av (xPc G Z σ sz)) := by
  intro a U g mk q
  obtain ⟨q0, q1, q2, q3, q4, q5, q6⟩ := q
  exact ⟨q0, q1, q2, va_K.moved (u := U) (U := U.calling g mk a) (Vm.Alike.refl U.vm) q3, q4, xE_same q5 rfl rfl, xAO_moved (u := U) (U := U.calling g mk a) (Vm.Alike.refl U.vm) q6⟩
/-- what holds in a constructor's frame beside xC -/
def xCc (G : xG) (Y : xY) (n0 : Nat) (l2 : List xSh) (σ2 : xM) (mc ms : Nat) (B : xB) : Prop := B.t.sig.returnType = none ∧ B.t.name = "<init>" ∧ B.A = xAc2 G B.s.heap.size ∧ xAO B.s ∧ B.R.cells = mc ∧ B.R.slots = ms ∧ B.Q = MQ B.b (xQc Y n0 l2 σ2 (xAc2 G B.s.heap.size)) B.a B.s mc ms (xAc2 G B.s.heap.size)
theorem xMc_of {Z : xZ} {y : MethodName} {b : ByteArray} {nL d mc ms : Nat} {av : List Value} {l : List xSh} {Y : xY} {σ : xM} {l2 : List xSh} {σ2 : xM} (hy : plainName y.cls = true) (hnm : y.name = "<init>") (hn : (lg_sl av).length ≤ nL) (body : ∀ B : xB, xC (Gl l Y) Z (xBk B 0 0) y.cls b nL d → xCc (Gl l Y) Y l.length l2 σ2 mc ms B → xWS (Gl l Y) (xBk B 0 0) nL σ (lv_args 0 av) 0 []) : xMc Z y b nL d mc ms av l Y σ l2 σ2 := by
  intro lc sz
  refine Met.ofW (cc := b) (maxL := nL) (ret := none) hy rfl ?_
  intro p e s m args below meth c s₁ X hml hv
  obtain ⟨rfl, hsz, hP, hK, hI, hE, hO⟩ := hv
  subst hsz
  have hts := atoms_spec (ws := Cond.code y b nL none :: xTB) X.pre
  have hown : s.vm.findClass y.cls = some m.cls := findClass_of_methodNamed X.named
  have hname : meth.name = "<init>" := by rw [← hnm]; exact (name_of_methodNamed X.named X.method).1
  rw [lg_entry_eq]
  exact body (p, lc, e, { frames := d, cells := mc, slots := ms, locals := 40 * d }, s, m, av.toArray, below, meth, c, MQ below (xQc Y l.length l2 σ2 (xAc2 (Gl l Y) s.heap.size)) av.toArray s mc ms (xAc2 (Gl l Y) s.heap.size), 0, 0, xAc2 (Gl l Y) s.heap.size) ⟨X.exec, X.bytes, hml, hown, fun w hw => hts w (List.mem_cons_of_mem _ hw), X.notSynchronized, hK, hI, hE, Nat.le_refl _, Nat.le_refl _, fun _ h => Or.inl h, Nat.zero_le _, Nat.zero_le _⟩ ⟨X.returns, hname, rfl, hO, rfl, rfl, rfl⟩ s.heap [] _ hP va_S.rf (lv_entry av hn)
/-- the end of a constructor -/
theorem wg_ret {G0 : xG} {Y0 Y : xY} {n0 mc ms : Nat} {l2 : List xSh} {σ2 : xM} {Z : xZ} {B : xB} {own : String} {cc : ByteArray} {nL d : Nat} {lv : List (Nat × Value)} {pc : Nat} (C : xC (Gl l2 Y) Z (xBk B mc ms) own cc nL d) (R : xCc G0 Y0 n0 l2 σ2 mc ms B) (hY : Y.2 = Y0.2) (hag : ∀ c, c < n0 → Y.1 c = Y0.1 c) (hd : decode cc pc = .ok (.return_, 1)) : xWS (Gl l2 Y) (xBk B mc ms) nL σ2 lv pc [] := by
  obtain ⟨R1, -, R3, -, -, -, R7⟩ := R
  intro H locs ls hP hS hl
  have hD : va_D B.A (xW (Gl l2 Y) σ2) := xC_D C
  have hS : va_S B.A B.s.heap H locs := hS
  show W B.p B.l B.e B.R B.s B.m B.a B.b B.t B.c H locs mc ms B.Q (F0 B.m pc ls [])
  rw [R7]
  rw [R3] at hS hD
  obtain ⟨ad, Y2⟩ := Y
  have hY : Y2 = Y0.2 := hY
  subst hY
  exact W.vret C.1 C.2.1 R1 (fun t ht hW => ⟨⟨ad, rfl, hag, by show va_P _ _ (xW (Gl l2 (ad, Y0.2)) σ2) t.heap; rw [ht]; exact hP, hD⟩, hS.F ht⟩) hS.2.2 hd C.2.2.2.2.2.1
/-- what a call of a constructor wants of the words -/
def xMwc (own : String) (idx : Nat) (y : MethodName) (host : Option String) : Prop := y.name = "<init>" ∧ Cond.instanceMethod y ∈ xTB ∧ match host with
  | none => Cond.methodLink own idx y ∈ xTB
  | some h => Cond.methodLinkNest own idx y h ∈ xNw
theorem wg_init {l l2 : List xSh} {Y : xY} {Z : xZ} {B : xB} {own : String} {cc : ByteArray} {nL d : Nat} {σ σ2 : xM} {pc : Nat} {y : MethodName} {b : ByteArray} {nL2 d2 mc ms n idx r k s k2 s2 : Nat} {host : Option String} (lvf : (Nat → Nat) → List (Nat × Value)) (stf : (Nat → Nat) → List Value) (As : List Value) (C : xC (Gl l Y) Z (xBk B k s) own cc nL d) (hO : xAO B.s) (hM : xMc Z y b nL2 d2 mc ms (.ref (Y.1 r) :: As) l Y σ l2 σ2) (hd : decode cc pc = .ok (.invokespecial idx, 3)) (hw : xMw y b nL2 none n) (hwc : xMwc own idx y host)
    (hA : ∀ q, B.s.heap.size ≤ q → B.A q) (hn : As.length = n) {st : List Value} (hst : st = As.reverse ++ .ref (Y.1 r) :: stf Y.1) (hcat : ((stf Y.1).map fun v => v.category).sum ≤ 8) (hr : d2 + 1 ≤ d ∧ 8 + (nL2 + 11) + 40 * d2 ≤ 40 * d) (hk2 : k + mc = k2) (hs2 : s + ms = s2) (hk : k2 ≤ B.R.cells) (hs : s2 ≤ B.R.slots)
    (hlv : ∀ a : Nat → Nat, (∀ c, c < l.length → a c = Y.1 c) → lvf a = lvf Y.1 ∧ stf a = stf Y.1)
    (kk : ∀ ad2 : Nat → Nat, (∀ c, c < l.length → ad2 c = Y.1 c) → xC (Gl l2 (ad2, Y.2)) Z (xBk B k2 s2) own cc nL d → xWS (Gl l2 (ad2, Y.2)) (xBk B k2 s2) nL σ2 (lvf ad2) (pc + 3) (stf ad2)) :
    xWS (Gl l Y) (xBk B k s) nL σ (lvf Y.1) pc st := by
  subst hk2
  subst hs2
  subst hst
  intro H locs ls hP hS hl2
  have hincl : ∀ q, xAc2 (Gl l Y) H.size q → B.A q := fun q hq => by
    rcases hq with h | h
    · exact C.2.2.2.2.2.2.2.2.2.2.2.1 q h
    · exact hA q (Nat.le_trans hS.1 h)
  have hpre : PreS B.s H (va_Pc (.ref (Y.1 r) :: As) (xPc (Gl l Y) Z σ H.size)) (.ref (Y.1 r) :: As) := ⟨xPc_blind, fun U hU hW => ⟨rfl, by rw [hU], by rw [hU]; exact hP, va_K.moved hW.alike C.2.2.2.2.2.2.1, C.2.2.2.2.2.2.2.1, (xE_step C.2.2.2.2.2.2.2.2.1 hS hU hW).narrow hincl, xAO_moved hW.alike hO⟩⟩
  have hdd : decode B.c.code pc = .ok (.invokespecial idx, 3) := by
    have := C.2.1
    show decode (xBk B k s).c.code pc = _
    rw [this]
    exact hd
  have fit : (xBk B k s).k + mc ≤ (xBk B k s).R.cells ∧ (xBk B k s).n + ms ≤ (xBk B k s).R.slots := ⟨hk, hs⟩
  have go : va_Run B.p B.l B.e B.R B.s B.m B.a B.b B.t B.c H locs k s mc ms (F0 B.m pc ls (As.reverse ++ .ref (Y.1 r) :: stf Y.1)) (stf Y.1) (xQc Y l.length l2 σ2 (xAc2 (Gl l Y) H.size) (Value.ref (Y.1 r) :: As).toArray) (xAc2 (Gl l Y) H.size) := by
    have hroom : ({ frames := d2, cells := mc, slots := ms, locals := 40 * d2 } : Room).frames + 1 ≤ B.R.frames ∧ 8 + (nL2 + 11) + ({ frames := d2, cells := mc, slots := ms, locals := 40 * d2 } : Room).locals ≤ B.R.locals := ⟨Nat.le_trans hr.1 C.2.2.2.2.2.2.2.2.2.1, Nat.le_trans hr.2 C.2.2.2.2.2.2.2.2.2.2.1⟩
    obtain ⟨w1, w2, w3⟩ := hwc
    cases host with
    | none => exact va_runI (As := As) (rest := stf Y.1) (b := Y.1 r) (xCallFix (B := xBk B k s) C) (hM B.l H.size) ⟨callB_of n C.2.2.2.2.1 (xGood hw.1) rfl rfl rfl (C.2.2.2.2.1 _ hw.2.1) (C.2.2.2.2.1 _ w3) hw.2.2 hroom, w1, C.2.2.2.2.1 _ w2⟩ hpre rfl hn hl2.1 rfl (lv_room hcat) hd fit
    | some h => exact va_runIN (As := As) (rest := stf Y.1) (b := Y.1 r) (xCallFix (B := xBk B k s) C) (hM B.l H.size) ⟨va_cnB n C.2.2.2.2.1 (xGood hw.1) rfl rfl rfl (C.2.2.2.2.2.2.2.2.1.2.2.2.2.2.2 _ w3) (C.2.2.2.2.1 _ hw.2.1) hw.2.2 hroom, w1, C.2.2.2.2.1 _ w2⟩ hpre rfl hn hl2.1 rfl (lv_room hcat) hd fit
  refine va_callv (A1 := xAc2 (Gl l Y) H.size) (A0 := B.A) go hS (fun q _ h => hincl q h) hincl (fun ad2 t H1 locs1 ht _ hp hB _ _ hS1 => ?_)
  obtain ⟨hB1, hB2⟩ := hB
  rw [ht] at hB1
  have C2 := xC_grow (G2 := Gl l2 (ad2, Y.2)) (k := k + mc) (n := s + ms) C rfl (hB2.weaken (fun _ q _ h => hincl q.1 h)) hk hs
  obtain ⟨e1, e2⟩ := hlv ad2 hp
  have h := kk ad2 hp C2 H1 locs1 ls hB1 hS1 (by rw [e1]; exact hl2)
  rw [e2] at h
  exact h
