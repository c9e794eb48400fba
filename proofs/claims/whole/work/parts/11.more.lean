theorem ws_less {G : xG} {B : xB} {nL : Nat} {σ : xM} {lv : List (Nat × Value)} {pc : Nat} {st : List Value} {lv2 : List (Nat × Value)} (ks : List Nat) (h : lv_pick lv ks = lv2) (k : xWS G B nL σ lv2 pc st) : xWS G B nL σ lv pc st :=
  fun H locs ls hP hS hl => k H locs ls hP hS (lv_sub hl ks h)
theorem wr_i {G : xG} {Z : xZ} {B : xB} {own : String} {cc : ByteArray} {nL d : Nat} {σ : xM} {lv : List (Nat × Value)} {pc : Nat} {rt : FieldType} {v : Int32} {z : Int32 × xM} (C : xC G Z B own cc nL d) (R : xRi G B rt z) (hd : decode cc pc = .ok (.ireturn, 1)) (hn : narrow rt (.int v) = .int v) (hz : some (v, σ) = some z) : xWS G B nL σ lv pc [.int v] := ws_ireti (st := []) C R hd hn hz
theorem wr_l {G : xG} {Z : xZ} {B : xB} {own : String} {cc : ByteArray} {nL d : Nat} {σ : xM} {lv : List (Nat × Value)} {pc : Nat} {v : Int64} {z : Int64 × xM} (C : xC G Z B own cc nL d) (R : xRl G B z) (hd : decode cc pc = .ok (.lreturn, 1)) (hz : some (v, σ) = some z) : xWS G B nL σ lv pc [.long v] := ws_lret (st := []) C R hd hz
theorem wr_v {G : xG} {Z : xZ} {B : xB} {own : String} {cc : ByteArray} {nL d : Nat} {σ : xM} {lv : List (Nat × Value)} {pc : Nat} {z : Int32 × xM} (C : xC G Z B own cc nL d) (R : xRv G B z) (hd : decode cc pc = .ok (.return_, 1)) (hz : some ((0 : Int32), σ) = some z) : xWS G B nL σ lv pc [] := ws_vret (st := []) C R hd hz
/-- may a method of this type answer with it -/
def isN (rt : FieldType) (v : Int32) : Bool := decide (narrow rt (.int v) = .int v)
theorem isN_ok {rt : FieldType} {v : Int32} (h : isN rt v = true) : narrow rt (.int v) = .int v := by
  unfold isN at h
  exact of_decide_eq_true h
/-! ===== String constants ===== -/
theorem ws_sval {G : xG} {Z : xZ} {B : xB} {own : String} {cc : ByteArray} {nL d : Nat} {σ : xM} {lv : List (Nat × Value)} {pc : Nat} {st : List Value} {index i : Nat} (C : xC G Z B own cc nL d) (hd : decode cc pc = .ok (.getfield index, 3)) (hi : i < 14) (hl : Cond.fieldLink own index "java/lang/String" "value" "[B" ∈ xTB) (kk : xWS G B nL σ lv (pc + 3) (.ref (Z.2.1 i) :: st)) : xWS G B nL σ lv pc (.ref (Z.1 i) :: st) :=
  fun H locs ls hP hS hl2 => vk_getf C.1 C.2.1 (C.2.2.2.2.2.2.2.2.1.1.1 i hi).2.2.1 hS C.2.2.2.1 (C.2.2.2.2.1 _ hl) (fun _ h => h) hd (kk H locs ls hP hS hl2)
theorem ws_scod {G : xG} {Z : xZ} {B : xB} {own : String} {cc : ByteArray} {nL d : Nat} {σ : xM} {lv : List (Nat × Value)} {pc : Nat} {st : List Value} {index i : Nat} (C : xC G Z B own cc nL d) (hd : decode cc pc = .ok (.getfield index, 3)) (hi : i < 14) (hl : Cond.fieldLink own index "java/lang/String" "coder" "B" ∈ xTB) (kk : xWS G B nL σ lv (pc + 3) (.int 0 :: st)) : xWS G B nL σ lv pc (.ref (Z.1 i) :: st) :=
  fun H locs ls hP hS hl2 => vk_getf C.1 C.2.1 (C.2.2.2.2.2.2.2.2.1.1.1 i hi).2.1 hS C.2.2.2.1 (C.2.2.2.2.1 _ hl) (fun _ h => h) hd (kk H locs ls hP hS hl2)
theorem ws_scs {G : xG} {Z : xZ} {B : xB} {own : String} {cc : ByteArray} {nL d : Nat} {σ : xM} {lv : List (Nat × Value)} {pc : Nat} {st : List Value} {index : Nat} (C : xC G Z B own cc nL d) (hd : decode cc pc = .ok (.getstatic index, 3)) (hl : Cond.fieldLink own index "java/lang/String" "COMPACT_STRINGS" "Z" ∈ xTB) (kk : xWS G B nL σ lv (pc + 3) (.int 1 :: st)) : xWS G B nL σ lv pc st :=
  fun H locs ls hP hS hl2 => va_gets C.1 C.2.1 C.2.2.2.2.2.2.2.2.1.2.2.2.1 hS C.2.2.2.1 (C.2.2.2.2.1 _ hl) (fun _ h => h) hd (kk H locs ls hP hS hl2)
theorem ws_sio {G : xG} {Z : xZ} {B : xB} {own : String} {cc : ByteArray} {nL d : Nat} {σ : xM} {lv : List (Nat × Value)} {pc : Nat} {st : List Value} {index : Nat} (C : xC G Z B own cc nL d) (hd : decode cc pc = .ok (.getstatic index, 3)) (hl : Cond.fieldLink own index "jdk/internal/util/Preconditions" "SIOOBE_FORMATTER" "Ljava/util/function/BiFunction;" ∈ xTB) (kk : xWS G B nL σ lv (pc + 3) (Z.2.2.2 :: st)) : xWS G B nL σ lv pc st :=
  fun H locs ls hP hS hl2 => va_gets C.1 C.2.1 C.2.2.2.2.2.2.2.2.1.2.2.2.2.1 hS C.2.2.2.1 (C.2.2.2.2.1 _ hl) (fun _ h => h) hd (kk H locs ls hP hS hl2)
theorem ws_slen {G : xG} {Z : xZ} {B : xB} {own : String} {cc : ByteArray} {nL d : Nat} {σ : xM} {lv : List (Nat × Value)} {pc : Nat} {st : List Value} {i : Nat} (C : xC G Z B own cc nL d) (hd : decode cc pc = .ok (.arraylength, 1)) (hi : i < 14) (kk : xWS G B nL σ lv (pc + 1) (.int (Int32.ofNat (xSl.getD i 0)) :: st)) : xWS G B nL σ lv pc (.ref (Z.2.1 i) :: st) :=
  fun H locs ls hP hS hl2 => va_tlen C.1 C.2.1 (C.2.2.2.2.2.2.2.2.1.1.1 i hi).2.2.2 hS rfl hd (kk H locs ls hP hS hl2)
theorem ws_sbald {G : xG} {Z : xZ} {B : xB} {own : String} {cc : ByteArray} {nL d : Nat} {σ : xM} {lv : List (Nat × Value)} {pc : Nat} {st : List Value} {i k : Nat} {j : Int32} (C : xC G Z B own cc nL d) (hd : decode cc pc = .ok (.baload, 1)) (hi : i < 14) (hj : inb j (xSl.getD i 0) = true) (hk : j.toNatClampNeg = k) (kk : xWS G B nL σ lv (pc + 1) (.int ((xSy.getD i []).getD k 0) :: st)) : xWS G B nL σ lv pc (.int j :: .ref (Z.2.1 i) :: st) := by
  subst hk
  exact fun H locs ls hP hS hl2 => va_tb C.1 C.2.1 (C.2.2.2.2.2.2.2.2.1.1.1 i hi).2.2.2 hS (inb_in hj) rfl hd (kk H locs ls hP hS hl2)
theorem wcs_i {G : xG} {Z : xZ} {B : xB} {own : String} {cc : ByteArray} {nL d : Nat} {σ : xM} {lv : List (Nat × Value)} {pc : Nat} {st : List Value} {σ2 : xM} {r : Int32} {y : MethodName} {b : ByteArray} {nL2 d2 n idx i : Nat} {rt : FieldType} (C : xC G Z B own cc nL d) (As rest : List Value) (hM : xMi G Z y b nL2 d2 rt (.ref (Z.1 i) :: As) σ (r, σ2)) (hd : decode cc pc = .ok (.invokevirtual idx, 3)) (hw : xMw y b nL2 (some rt) n) (hv : xMwV y) (hl : Cond.methodLink own idx y ∈ xTB) (hy : y.cls = "java/lang/String") (hi : i < 14) (hn : As.length = n) (hst : st = As.reverse ++ .ref (Z.1 i) :: rest) (hcat : (rest.map fun v => v.category).sum ≤ 8) (hr : d2 + 1 ≤ d ∧ 8 + (nL2 + 11) + 40 * d2 ≤ 40 * d) (kk : xWS G B nL σ2 lv (pc + 3) (.int r :: rest)) : xWS G B nL σ lv pc st := by
  intro H locs ls hP hS hl2
  subst hst
  refine va_calli (A1 := xA G) (A0 := B.A) (va_runV (As := As) (rest := rest) (b := Z.1 i) (C := y.cls) (xCallFix C) (hM B.l) ⟨xCallB C hw hl hr, C.2.2.2.2.1 _ hv.1, C.2.2.2.2.1 _ hv.2⟩ ⟨xPre_blind, by rw [hy]; exact vk_recv C.2.2.2.2.2.2.2.2.1.1 hi hS, xC_pre C hP hS _⟩ rfl hn hl2.1 rfl (lv_room hcat) hd ⟨C.2.2.2.2.2.2.2.2.2.2.2.2.1, C.2.2.2.2.2.2.2.2.2.2.2.2.2⟩) hS (fun q _ h => C.2.2.2.2.2.2.2.2.2.2.2.1 q h) (fun q h => C.2.2.2.2.2.2.2.2.2.2.2.1 q h) (fun r u t H1 locs1 ht _ hp hB _ _ hS1 => ?_)
  obtain ⟨rfl, rfl⟩ := hp
  rw [ht] at hB
  exact kk H1 locs1 ls hB hS1 hl2
/-- Preconditions.checkIndex, inside -/
theorem mJ3_checkIndex {G : xG} {Z : xZ} {a0 a1 : Int32} {s : xM} (hZ : Z.2.2.2 = .null ∨ ∃ q, Z.2.2.2 = .ref q) (h0 : ¬ a0 < 0) (h1 : a0 < a1) : xMi G Z yJ3_checkIndex_8e157 cJ3_checkIndex_8e157 3 1 .int [.int a0, .int a1, Z.2.2.2] s (a0, s) := by
  have key : ∀ B : xB, xC G Z B yJ3_checkIndex_8e157.cls cJ3_checkIndex_8e157 3 1 → xRi G B .int (a0, s) → xWS G B 3 s [(0, .int a0), (1, .int a1), (2, Z.2.2.2)] 0 [] := by
    intro B C R
    refine ws_iload_n (pc := 0) C dJ3_checkIndex_8e157_0 rfl 0 rfl ?_
    refine ws_if_lt (pc := 1) (tgt := 9) C dJ3_checkIndex_8e157_1 (by decide) (fun c => absurd c h0) (fun _ => ?_)
    refine ws_iload_n (pc := 4) C dJ3_checkIndex_8e157_4 rfl 0 rfl ?_
    refine ws_iload_n (pc := 5) C dJ3_checkIndex_8e157_5 rfl 1 rfl ?_
    refine ws_icmp_lt (pc := 6) (tgt := 16) C dJ3_checkIndex_8e157_6 (by decide) (fun _ => ?_) (fun c => absurd h1 c)
    refine ws_iload_n (pc := 16) C dJ3_checkIndex_8e157_16 rfl 0 rfl ?_
    exact wr_i (pc := 17) C R dJ3_checkIndex_8e157_17 rfl rfl
  rcases hZ with e | ⟨q, e⟩ <;>
  · rw [e] at key ⊢
    exact xMi_of (by decide) (Nat.le_of_ble_eq_true rfl) key
def fJ0_checkIndex_df160 (a0 a1 : Int32) (s : xM) : Option (Int32 × xM) := if a0 < 0 then none else if a0 < a1 then some (0, s) else none
theorem mJ0_checkIndex_df160 {Y : xY} {Z : xZ} {a0 a1 : Int32} {s : xM} {z : Int32 × xM} (h : fJ0_checkIndex_df160 a0 a1 s = some z) : xMv (GX Y) Z yJ0_checkIndex_df160 cJ0_checkIndex_df160 2 2 [.int a0, .int a1] s z := by
  unfold fJ0_checkIndex_df160 at h
  by_cases h0 : a0 < 0
  · rw [if_pos h0] at h
    cases h
  by_cases h1 : a0 < a1
  · rw [if_neg h0, if_pos h1] at h
    refine xMv_of (by decide) (Nat.le_of_ble_eq_true rfl) (fun B C R => ?_)
    have C : xC (GX Y) Z B "java/lang/String" cJ0_checkIndex_df160 2 2 := C
    show xWS (GX Y) B 2 s [(0, .int a0), (1, .int a1)] 0 []
    refine ws_iload_n (pc := 0) C dJ0_checkIndex_df160_0 rfl 0 rfl ?_
    refine ws_iload_n (pc := 1) C dJ0_checkIndex_df160_1 rfl 1 rfl ?_
    refine ws_sio (pc := 2) C dJ0_checkIndex_df160_2 kf_J0_1053 ?_
    refine wc_iS (pc := 5) C [.int a0, .int a1, Z.2.2.2] [] (mJ3_checkIndex C.2.2.2.2.2.2.2.2.1.2.2.2.2.2.1 h0 h1) dJ0_checkIndex_df160_5 mw_J3_checkIndex_8e157 ks_J3_checkIndex_8e157 kl_J0_1059 rfl rfl (Nat.le_of_ble_eq_true rfl) ⟨by decide, by decide⟩ ?_
    refine ws_pop (pc := 8) C dJ0_checkIndex_df160_8 rfl ?_
    exact wr_v (pc := 9) C R dJ0_checkIndex_df160_9 h
  · rw [if_neg h0, if_neg h1] at h
    cases h

