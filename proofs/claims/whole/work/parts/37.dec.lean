/-! ===== decisions on shapes ===== -/
def xdF : DecidableEq (Option Nat ⊕ Nat) := fun a b => match a, b with
  | .inl x, .inl y => if h : x = y then .isTrue (by rw [h]) else .isFalse (fun e => h (Sum.inl.inj e))
  | .inr x, .inr y => if h : x = y then .isTrue (by rw [h]) else .isFalse (fun e => h (Sum.inr.inj e))
  | .inl _, .inr _ => .isFalse (fun e => by cases e)
  | .inr _, .inl _ => .isFalse (fun e => by cases e)
def xdP : DecidableEq (Nat × List (Option Nat ⊕ Nat)) := @instDecidableEqProd _ _ _ (@instDecidableEqList _ xdF)
def xdS : DecidableEq xSh := fun a b => match a, b with
  | .inl x, .inl y => if h : x = y then .isTrue (by rw [h]) else .isFalse (fun e => h (Sum.inl.inj e))
  | .inr x, .inr y => match xdP x y with
    | .isTrue h => .isTrue (by rw [h])
    | .isFalse h => .isFalse (fun e => h (Sum.inr.inj e))
  | .inl _, .inr _ => .isFalse (fun e => by cases e)
  | .inr _, .inl _ => .isFalse (fun e => by cases e)
def xdL : DecidableEq (List xSh) := @instDecidableEqList _ xdS
def xdO : DecidableEq (Option xSh) := fun a b => match a, b with
  | none, none => .isTrue rfl
  | some x, some y => match xdS x y with
    | .isTrue h => .isTrue (by rw [h])
    | .isFalse h => .isFalse (fun e => h (Option.some.inj e))
  | none, some _ => .isFalse (fun e => by cases e)
  | some _, none => .isFalse (fun e => by cases e)
theorem xgL {a b : List xSh} (h : @decide (a = b) (xdL a b) = true) : a = b := @of_decide_eq_true _ (xdL a b) h
theorem xgO {a b : Option xSh} (h : @decide (a = b) (xdO a b) = true) : a = b := @of_decide_eq_true _ (xdO a b) h
theorem xSf_of {l : List xSh} {c ci k : Nat} {fl : List (Option Nat ⊕ Nat)} {f : Option Nat ⊕ Nat} (h : l[c]? = some (.inr (ci, fl))) (hk : fl[k]? = some f) {Y : xY} : xSf (Gl l Y).1 (Gl l Y).2.1 c ci k f := ⟨(List.getElem?_eq_some_iff.mp h).1, fl, by show l.getD c _ = _; rw [List.getD_eq_getElem?_getD, h]; rfl, hk⟩
theorem xSr_of {l : List xSh} {c t n : Nat} {ch : List (Option Nat)} (h : l[c]? = some (.inl (t, n, ch))) {Y : xY} : xSr (Gl l Y).1 (Gl l Y).2.1 c t n := ⟨(List.getElem?_eq_some_iff.mp h).1, ch, by show l.getD c _ = _; rw [List.getD_eq_getElem?_getD, h]; rfl⟩
theorem xSq_of {l : List xSh} {c t n : Nat} {ch : List (Option Nat)} {r : Nat → Nat} (h : l[c]? = some (.inl (t, n, ch))) (hr : ∀ j, j < n → ch[j]? = some (some (r j))) {Y : xY} : xSq (Gl l Y).1 (Gl l Y).2.1 c t n r := ⟨(List.getElem?_eq_some_iff.mp h).1, ch, by show l.getD c _ = _; rw [List.getD_eq_getElem?_getD, h]; rfl, hr⟩
def xnul (fl : List (Option Nat ⊕ Nat)) : Bool := fl.all fun f => match f with
  | .inl (some _) => false
  | _ => true
theorem xnul_of {fl : List (Option Nat ⊕ Nat)} (h : xnul fl = true) : ∀ f ∈ fl, ∀ r, f ≠ .inl (some r) := fun f hf r e => by
  have h1 := List.all_eq_true.mp h f hf
  rw [e] at h1
  cases h1
/-- nothing is written from cell n on -/
def xmz (s : xM) (n : Nat) : Prop := ∀ c, n ≤ c → (∀ j, s.1 c j = 0) ∧ ∀ j, s.2 c j = 0
def x0 : xM := (fun _ _ => 0, fun _ _ => 0)
theorem xmz0 : xmz x0 0 := fun _ _ => ⟨fun _ => rfl, fun _ => rfl⟩
theorem xmz_si {s : xM} {n c i : Nat} {v : Int32} (h : xmz s n) (n2 : Nat) (h1 : n ≤ n2) (h2 : c < n2) : xmz (si s c i v) n2 := fun c' hc => ⟨fun j => by
  show gi (si s c i v) c' j = 0
  rw [gi_si, if_neg (by omega)]
  exact (h c' (by omega)).1 j, fun j => (h c' (by omega)).2 j⟩
theorem xmz_sl {s : xM} {n c i : Nat} {v : Int64} (h : xmz s n) (n2 : Nat) (h1 : n ≤ n2) (h2 : c < n2) : xmz (sl s c i v) n2 := fun c' hc => ⟨fun j => (h c' (by omega)).1 j, fun j => by
  show gl (sl s c i v) c' j = 0
  rw [gl_sl, if_neg (by omega)]
  exact (h c' (by omega)).2 j⟩
theorem xmz_sscp {s : xM} {n c p0 p1 k : Nat} {f : Nat → Int32} (h : xmz s n) (n2 : Nat) (h1 : n ≤ n2) (h2 : c < n2) : xmz (sscp s f p0 c p1 k) n2 := fun c' hc => ⟨fun j => by
  show gi (sscp s f p0 c p1 k) c' j = 0
  rw [gi_sscp, if_neg (by omega)]
  exact (h c' (by omega)).1 j, fun j => (h c' (by omega)).2 j⟩
theorem kz_code : Cond.code objectInit ⟨#[0xb1]⟩ 1 none ∈ xTB := xTB_in (sg_1 (List.mem_of_getElem? (i := 28) (by decide +kernel))) rfl
theorem kz_inst : Cond.instanceMethod objectInit ∈ xTB := xTB_in (sg_1 (List.mem_of_getElem? (i := 27) (by decide +kernel))) rfl
theorem kq_X9 : Cond.instantiable "BetweenStops" 15 ∈ xTB := xTB_in (sg_1 (List.mem_of_getElem? (i := 22) (by decide +kernel))) rfl
theorem kq_X6 : Cond.instantiable "BetweenStops$Town" 10 ∈ xTB := xTB_in (sg_1 (List.mem_of_getElem? (i := 30) (by decide +kernel))) rfl
theorem kq_X3 : Cond.instantiable "BetweenStops$Stop" 8 ∈ xTB := xTB_in (sg_1 (List.mem_of_getElem? (i := 46) (by decide +kernel))) rfl
theorem kq_X7 : Cond.instantiable "BetweenStops$Trip" 4 ∈ xTB := xTB_in (sg_1 (List.mem_of_getElem? (i := 90) (by decide +kernel))) rfl
theorem kq_X8 : Cond.instantiable "BetweenStops$Ways" 17 ∈ xTB := xTB_in (sg_1 (List.mem_of_getElem? (i := 168) (by decide +kernel))) rfl
theorem kq_X4 : Cond.instantiable "BetweenStops$Tape" 6 ∈ xTB := xTB_in (sg_1 (List.mem_of_getElem? (i := 235) (by decide +kernel))) rfl
theorem kq_X1 : Cond.instantiable "BetweenStops$Reader" 1 ∈ xTB := xTB_in (sg_2 (List.mem_of_getElem? (i := 24) (by decide +kernel))) rfl
theorem kq_X0 : Cond.instantiable "BetweenStops$Image" 11 ∈ xTB := xTB_in (sg_2 (List.mem_of_getElem? (i := 36) (by decide +kernel))) rfl
theorem kq_X5 : Cond.instantiable "BetweenStops$Text" 5 ∈ xTB := xTB_in (sg_2 (List.mem_of_getElem? (i := 81) (by decide +kernel))) rfl
theorem kq_X2 : Cond.instantiable "BetweenStops$Sheet" 3 ∈ xTB := xTB_in (sg_2 (List.mem_of_getElem? (i := 102) (by decide +kernel))) rfl
theorem kq_X10 : Cond.instantiable "BetweenStopsModel" 68 ∈ xTB := xTB_in (sg_5 (List.mem_of_getElem? (i := 118) (by decide +kernel))) rfl
theorem kcl_L_7 : Cond.classLink "BetweenStopsLaw" 7 "BetweenStops" ∈ xTB := xTB_in (sg_1 (List.mem_of_getElem? (i := 21) (by decide +kernel))) rfl
theorem kcl_X9_7 : Cond.classLink "BetweenStops" 7 "BetweenStops$Town" ∈ xTB := xTB_in (sg_1 (List.mem_of_getElem? (i := 29) (by decide +kernel))) rfl
theorem kcl_X6_21 : Cond.classLink "BetweenStops$Town" 21 "[[I" ∈ xTB := xTB_in (sg_1 (List.mem_of_getElem? (i := 35) (by decide +kernel))) rfl
theorem kcl_X6_33 : Cond.classLink "BetweenStops$Town" 33 "BetweenStops$Stop" ∈ xTB := xTB_in (sg_1 (List.mem_of_getElem? (i := 37) (by decide +kernel))) rfl
theorem kcl_X6_42 : Cond.classLink "BetweenStops$Town" 42 "BetweenStops$Trip" ∈ xTB := xTB_in (sg_1 (List.mem_of_getElem? (i := 39) (by decide +kernel))) rfl
theorem kcl_X9_16 : Cond.classLink "BetweenStops" 16 "BetweenStops$Ways" ∈ xTB := xTB_in (sg_1 (List.mem_of_getElem? (i := 167) (by decide +kernel))) rfl
theorem kcl_X8_21 : Cond.classLink "BetweenStops$Ways" 21 "[[I" ∈ xTB := xTB_in (sg_1 (List.mem_of_getElem? (i := 173) (by decide +kernel))) rfl
theorem kcl_X9_25 : Cond.classLink "BetweenStops" 25 "BetweenStops$Tape" ∈ xTB := xTB_in (sg_1 (List.mem_of_getElem? (i := 234) (by decide +kernel))) rfl
theorem kcl_X9_32 : Cond.classLink "BetweenStops" 32 "BetweenStops$Reader" ∈ xTB := xTB_in (sg_2 (List.mem_of_getElem? (i := 23) (by decide +kernel))) rfl
theorem kcl_X9_41 : Cond.classLink "BetweenStops" 41 "BetweenStops$Text" ∈ xTB := xTB_in (sg_2 (List.mem_of_getElem? (i := 33) (by decide +kernel))) rfl
theorem kcl_X9_54 : Cond.classLink "BetweenStops" 54 "BetweenStops$Image" ∈ xTB := xTB_in (sg_2 (List.mem_of_getElem? (i := 35) (by decide +kernel))) rfl
theorem kcl_X0_19 : Cond.classLink "BetweenStops$Image" 19 "[[I" ∈ xTB := xTB_in (sg_2 (List.mem_of_getElem? (i := 41) (by decide +kernel))) rfl
theorem kcl_X9_61 : Cond.classLink "BetweenStops" 61 "BetweenStops$Sheet" ∈ xTB := xTB_in (sg_2 (List.mem_of_getElem? (i := 79) (by decide +kernel))) rfl
theorem kcl_L_10 : Cond.classLink "BetweenStopsLaw" 10 "BetweenStopsModel" ∈ xTB := xTB_in (sg_5 (List.mem_of_getElem? (i := 117) (by decide +kernel))) rfl
theorem kar_int : Cond.arrayClass .int ∈ xTB := xTB_in (sg_1 (List.mem_of_getElem? (i := 89) (by decide +kernel))) rfl
theorem kar_boolean : Cond.arrayClass .boolean ∈ xTB := xTB_in (sg_2 (List.mem_of_getElem? (i := 78) (by decide +kernel))) rfl
theorem kar_byte : Cond.arrayClass .byte ∈ xTB := xTB_in (sg_3 (List.mem_of_getElem? (i := 134) (by decide +kernel))) rfl
theorem kar_long : Cond.arrayClass .long ∈ xTB := xTB_in (sg_6 (List.mem_of_getElem? (i := 106) (by decide +kernel))) rfl
theorem kw_X9_56 : xMwc "BetweenStops" 56 yX0_init (some "BetweenStops") := ⟨by decide, km_X0_init, kn_X9_56⟩
theorem kw_X9_34 : xMwc "BetweenStops" 34 yX1_init none := ⟨by decide, km_X1_init, kl_X9_34⟩
theorem kw_X9_87 : xMwc "BetweenStops" 87 yX2_init (some "BetweenStops") := ⟨by decide, km_X2_init, kn_X9_87⟩
theorem kw_X6_60 : xMwc "BetweenStops$Town" 60 yX3_init (some "BetweenStops") := ⟨by decide, km_X3_init, kn_X6_60⟩
theorem kw_X9_27 : xMwc "BetweenStops" 27 yX4_init (some "BetweenStops") := ⟨by decide, km_X4_init, kn_X9_27⟩
theorem kw_X9_86 : xMwc "BetweenStops" 86 yX5_init (some "BetweenStops") := ⟨by decide, km_X5_init, kn_X9_86⟩
theorem kw_X9_9 : xMwc "BetweenStops" 9 yX6_init none := ⟨by decide, km_X6_init, kl_X9_9⟩
theorem kw_X6_61 : xMwc "BetweenStops$Town" 61 yX7_init (some "BetweenStops") := ⟨by decide, km_X7_init, kn_X6_61⟩
theorem kw_X9_18 : xMwc "BetweenStops" 18 yX8_init none := ⟨by decide, km_X8_init, kl_X9_18⟩
theorem kw_L_9 : xMwc "BetweenStopsLaw" 9 yX9_init none := ⟨by decide, km_X9_init, kl_L_9⟩
theorem kw_L_12 : xMwc "BetweenStopsLaw" 12 yX10_init none := ⟨by decide, km_X10_init, kl_L_12⟩
