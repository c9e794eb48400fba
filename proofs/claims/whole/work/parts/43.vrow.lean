/-- xWS over a heap of which anything is known -/
def xVS (Pd : Heap → Prop) (B : xB) (nL : Nat) (lv : List (Nat × Value)) (pc : Nat) (st : List Value) : Prop :=
  ∀ (H : Heap) (locs : List Loc) (ls : Array Slot), Pd H → va_S B.A B.s.heap H locs → lv_has ls nL lv → W B.p B.l B.e B.R B.s B.m B.a B.b B.t B.c H locs B.k B.n B.Q (F0 B.m pc ls st)
theorem vs_iconst {Pd : Heap → Prop} {B : xB} {cc : ByteArray} {nL : Nat} {lv : List (Nat × Value)} {pc : Nat} {st : List Value} {n : Int} {v : Int32} (C : B.p.tables.exec = Jvm.exec ∧ B.c.code = cc) (hd : decode cc pc = .ok (.iconst n, 1)) (hv : Int32.ofInt n = v) (k : xVS Pd B nL lv (pc + 1) (.int v :: st)) : xVS Pd B nL lv pc (st) :=
  fun H locs ls hP hS hl => lv_iconst C.1 C.2 hd hv (k H locs ls hP hS hl)
theorem vs_bipush {Pd : Heap → Prop} {B : xB} {cc : ByteArray} {nL : Nat} {lv : List (Nat × Value)} {pc : Nat} {st : List Value} {n : Int} {v : Int32} (C : B.p.tables.exec = Jvm.exec ∧ B.c.code = cc) (hd : decode cc pc = .ok (.bipush n, 2)) (hv : (Int8.ofInt n).toInt32 = v) (k : xVS Pd B nL lv (pc + 2) (.int v :: st)) : xVS Pd B nL lv pc (st) :=
  fun H locs ls hP hS hl => lv_bipush C.1 C.2 hd hv (k H locs ls hP hS hl)
theorem vs_iload_n {Pd : Heap → Prop} {B : xB} {cc : ByteArray} {nL : Nat} {lv : List (Nat × Value)} {pc : Nat} {st : List Value} {k : Fin 4} {i : Nat} {x : Int32} (C : B.p.tables.exec = Jvm.exec ∧ B.c.code = cc) (hd : decode cc pc = .ok (.iload_n k, 1)) (hi : (k : Nat) = i) (j : Nat) (hj : lv[j]? = some (i, .int x)) (kk : xVS Pd B nL lv (pc + 1) (.int x :: st)) : xVS Pd B nL lv pc st :=
  fun H locs ls hP hS hl => lv_iload_n C.1 C.2 hd hi (lv_at hl j hj) (kk H locs ls hP hS hl)
theorem vs_istore_n {Pd : Heap → Prop} {B : xB} {cc : ByteArray} {nL : Nat} {lv : List (Nat × Value)} {pc : Nat} {st : List Value} {k : Fin 4} {i : Nat} {x : Int32} {lv2 : List (Nat × Value)} (C : B.p.tables.exec = Jvm.exec ∧ B.c.code = cc) (hd : decode cc pc = .ok (.istore_n k, 1)) (hi : (k : Nat) = i) (hn : i < nL) (hv : (i, Value.int x) :: lv.filter (fun q => !(q.1 == i) && !(q.1 + 1 == i && q.2.category == 2)) = lv2) (kk : xVS Pd B nL lv2 (pc + 1) st) : xVS Pd B nL lv pc (.int x :: st) :=
  fun H locs ls hP hS hl => lv_istore_n C.1 C.2 hd hi hl hn hv (fun ls2 hl2 => kk H locs ls2 hP hS hl2)
theorem vs_aload_n {Pd : Heap → Prop} {B : xB} {cc : ByteArray} {nL : Nat} {lv : List (Nat × Value)} {pc : Nat} {st : List Value} {k : Fin 4} {i : Nat} {x : Nat} (C : B.p.tables.exec = Jvm.exec ∧ B.c.code = cc) (hd : decode cc pc = .ok (.aload_n k, 1)) (hi : (k : Nat) = i) (j : Nat) (hj : lv[j]? = some (i, .ref x)) (kk : xVS Pd B nL lv (pc + 1) (.ref x :: st)) : xVS Pd B nL lv pc st :=
  fun H locs ls hP hS hl => lv_aload_n C.1 C.2 hd hi (lv_at hl j hj) (kk H locs ls hP hS hl)
theorem vs_astore_n {Pd : Heap → Prop} {B : xB} {cc : ByteArray} {nL : Nat} {lv : List (Nat × Value)} {pc : Nat} {st : List Value} {k : Fin 4} {i : Nat} {x : Nat} {lv2 : List (Nat × Value)} (C : B.p.tables.exec = Jvm.exec ∧ B.c.code = cc) (hd : decode cc pc = .ok (.astore_n k, 1)) (hi : (k : Nat) = i) (hn : i < nL) (hv : (i, Value.ref x) :: lv.filter (fun q => !(q.1 == i) && !(q.1 + 1 == i && q.2.category == 2)) = lv2) (kk : xVS Pd B nL lv2 (pc + 1) st) : xVS Pd B nL lv pc (.ref x :: st) :=
  fun H locs ls hP hS hl => lv_astore_n C.1 C.2 hd hi hl hn hv (fun ls2 hl2 => kk H locs ls2 hP hS hl2)
theorem vs_iinc {Pd : Heap → Prop} {B : xB} {cc : ByteArray} {nL : Nat} {lv : List (Nat × Value)} {pc : Nat} {st : List Value} {i j : Nat} {n : Int} {x v : Int32} {lv2 : List (Nat × Value)} (C : B.p.tables.exec = Jvm.exec ∧ B.c.code = cc) (hd : decode cc pc = .ok (.iinc i n, 3)) (hj : lv[j]? = some (i, .int x)) (hx : x + Int32.ofInt n = v) (hn : i < nL) (hv : (i, Value.int v) :: lv.filter (fun q => !(q.1 == i) && !(q.1 + 1 == i && q.2.category == 2)) = lv2) (kk : xVS Pd B nL lv2 (pc + 3) st) : xVS Pd B nL lv pc st :=
  fun H locs ls hP hS hl => lv_iinc C.1 C.2 hd hl hj hx hn hv (fun ls2 hl2 => kk H locs ls2 hP hS hl2)
theorem vs_iadd {Pd : Heap → Prop} {B : xB} {cc : ByteArray} {nL : Nat} {lv : List (Nat × Value)} {pc : Nat} {st : List Value} {x y : Int32} (C : B.p.tables.exec = Jvm.exec ∧ B.c.code = cc) (hd : decode cc pc = .ok (.iadd, 1)) (k : xVS Pd B nL lv (pc + 1) (.int (x + y) :: st)) : xVS Pd B nL lv pc (.int y :: .int x :: st) :=
  fun H locs ls hP hS hl => lv_iadd C.1 C.2 hd (k H locs ls hP hS hl)
theorem vs_isub {Pd : Heap → Prop} {B : xB} {cc : ByteArray} {nL : Nat} {lv : List (Nat × Value)} {pc : Nat} {st : List Value} {x y : Int32} (C : B.p.tables.exec = Jvm.exec ∧ B.c.code = cc) (hd : decode cc pc = .ok (.isub, 1)) (k : xVS Pd B nL lv (pc + 1) (.int (x - y) :: st)) : xVS Pd B nL lv pc (.int y :: .int x :: st) :=
  fun H locs ls hP hS hl => lv_isub C.1 C.2 hd (k H locs ls hP hS hl)
theorem vs_iand {Pd : Heap → Prop} {B : xB} {cc : ByteArray} {nL : Nat} {lv : List (Nat × Value)} {pc : Nat} {st : List Value} {x y : Int32} (C : B.p.tables.exec = Jvm.exec ∧ B.c.code = cc) (hd : decode cc pc = .ok (.iand, 1)) (k : xVS Pd B nL lv (pc + 1) (.int (x &&& y) :: st)) : xVS Pd B nL lv pc (.int y :: .int x :: st) :=
  fun H locs ls hP hS hl => lv_iand C.1 C.2 hd (k H locs ls hP hS hl)
theorem vs_land {Pd : Heap → Prop} {B : xB} {cc : ByteArray} {nL : Nat} {lv : List (Nat × Value)} {pc : Nat} {st : List Value} {x y : Int64} (C : B.p.tables.exec = Jvm.exec ∧ B.c.code = cc) (hd : decode cc pc = .ok (.land, 1)) (k : xVS Pd B nL lv (pc + 1) (.long (x &&& y) :: st)) : xVS Pd B nL lv pc (.long y :: .long x :: st) :=
  fun H locs ls hP hS hl => lv_land C.1 C.2 hd (k H locs ls hP hS hl)
theorem vs_lor {Pd : Heap → Prop} {B : xB} {cc : ByteArray} {nL : Nat} {lv : List (Nat × Value)} {pc : Nat} {st : List Value} {x y : Int64} (C : B.p.tables.exec = Jvm.exec ∧ B.c.code = cc) (hd : decode cc pc = .ok (.lor, 1)) (k : xVS Pd B nL lv (pc + 1) (.long (x ||| y) :: st)) : xVS Pd B nL lv pc (.long y :: .long x :: st) :=
  fun H locs ls hP hS hl => lv_lor C.1 C.2 hd (k H locs ls hP hS hl)
theorem vs_i2l {Pd : Heap → Prop} {B : xB} {cc : ByteArray} {nL : Nat} {lv : List (Nat × Value)} {pc : Nat} {st : List Value} {x : Int32} (C : B.p.tables.exec = Jvm.exec ∧ B.c.code = cc) (hd : decode cc pc = .ok (.i2l, 1)) (k : xVS Pd B nL lv (pc + 1) (.long x.toInt64 :: st)) : xVS Pd B nL lv pc (.int x :: st) :=
  fun H locs ls hP hS hl => lv_i2l C.1 C.2 hd rfl (k H locs ls hP hS hl)
theorem vs_lshl {Pd : Heap → Prop} {B : xB} {cc : ByteArray} {nL : Nat} {lv : List (Nat × Value)} {pc : Nat} {st : List Value} {x : Int64} {y : Int32} (C : B.p.tables.exec = Jvm.exec ∧ B.c.code = cc) (hd : decode cc pc = .ok (.lshl, 1)) (k : xVS Pd B nL lv (pc + 1) (.long (x <<< (y.toInt64 &&& 63)) :: st)) : xVS Pd B nL lv pc (.int y :: .long x :: st) :=
  fun H locs ls hP hS hl => lv_lshl C.1 C.2 hd rfl (k H locs ls hP hS hl)
theorem vs_lcmp {Pd : Heap → Prop} {B : xB} {cc : ByteArray} {nL : Nat} {lv : List (Nat × Value)} {pc : Nat} {st : List Value} {x y : Int64} (C : B.p.tables.exec = Jvm.exec ∧ B.c.code = cc) (hd : decode cc pc = .ok (.lcmp, 1)) (k : xVS Pd B nL lv (pc + 1) (.int (lg_cmp x y) :: st)) : xVS Pd B nL lv pc (.long y :: .long x :: st) :=
  fun H locs ls hP hS hl => W.lcmp C.1 C.2 hd (k H locs ls hP hS hl)
theorem vs_dup {Pd : Heap → Prop} {B : xB} {cc : ByteArray} {nL : Nat} {lv : List (Nat × Value)} {pc : Nat} {st : List Value} {va : Value} (C : B.p.tables.exec = Jvm.exec ∧ B.c.code = cc) (hd : decode cc pc = .ok (.dup, 1)) (ha : va.category = 1) (k : xVS Pd B nL lv (pc + 1) (va :: va :: st)) : xVS Pd B nL lv pc (va :: st) :=
  fun H locs ls hP hS hl => lv_dup C.1 C.2 hd ha (k H locs ls hP hS hl)
theorem vs_if_eq {Pd : Heap → Prop} {B : xB} {cc : ByteArray} {nL : Nat} {lv : List (Nat × Value)} {pc : Nat} {st : List Value} {x : Int32} {off : Int} {tgt : Nat} (C : B.p.tables.exec = Jvm.exec ∧ B.c.code = cc) (hd : decode cc pc = .ok (.ifCond .eq off, 3)) (ht : (pc : Int) + off = (tgt : Int)) (kt : x = 0 → xVS Pd B nL lv tgt st) (kf : ¬ x = 0 → xVS Pd B nL lv (pc + 3) st) : xVS Pd B nL lv pc (.int x :: st) :=
  fun H locs ls hP hS hl => lv_if_eq C.1 C.2 hd ht (fun h => kt h H locs ls hP hS hl) (fun h => kf h H locs ls hP hS hl)
theorem vs_icmp_eq {Pd : Heap → Prop} {B : xB} {cc : ByteArray} {nL : Nat} {lv : List (Nat × Value)} {pc : Nat} {st : List Value} {x y : Int32} {off : Int} {tgt : Nat} (C : B.p.tables.exec = Jvm.exec ∧ B.c.code = cc) (hd : decode cc pc = .ok (.if_icmp .eq off, 3)) (ht : (pc : Int) + off = (tgt : Int)) (kt : x = y → xVS Pd B nL lv tgt st) (kf : ¬ x = y → xVS Pd B nL lv (pc + 3) st) : xVS Pd B nL lv pc (.int y :: .int x :: st) :=
  fun H locs ls hP hS hl => lv_icmp_eq C.1 C.2 hd ht (fun h => kt h H locs ls hP hS hl) (fun h => kf h H locs ls hP hS hl)
theorem vs_icmp_gt {Pd : Heap → Prop} {B : xB} {cc : ByteArray} {nL : Nat} {lv : List (Nat × Value)} {pc : Nat} {st : List Value} {x y : Int32} {off : Int} {tgt : Nat} (C : B.p.tables.exec = Jvm.exec ∧ B.c.code = cc) (hd : decode cc pc = .ok (.if_icmp .gt off, 3)) (ht : (pc : Int) + off = (tgt : Int)) (kt : y < x → xVS Pd B nL lv tgt st) (kf : ¬ y < x → xVS Pd B nL lv (pc + 3) st) : xVS Pd B nL lv pc (.int y :: .int x :: st) :=
  fun H locs ls hP hS hl => lv_icmp_gt C.1 C.2 hd ht (fun h => kt h H locs ls hP hS hl) (fun h => kf h H locs ls hP hS hl)
theorem vs_goto {Pd : Heap → Prop} {B : xB} {cc : ByteArray} {nL : Nat} {lv : List (Nat × Value)} {pc : Nat} {st : List Value} {off : Int} {tgt : Nat} (C : B.p.tables.exec = Jvm.exec ∧ B.c.code = cc) (hd : decode cc pc = .ok (.goto off, 3)) (ht : (pc : Int) + off = (tgt : Int)) (k : xVS Pd B nL lv tgt st) : xVS Pd B nL lv pc st :=
  fun H locs ls hP hS hl => lv_goto C.1 C.2 hd ht (k H locs ls hP hS hl)
theorem vs_tab {Pd : Heap → Prop} {B : xB} {cc : ByteArray} {nL : Nat} {lv : List (Nat × Value)} {pc : Nat} {st : List Value} {dflt lo hi : Int} {offs : Array Int} {len : Nat} {x k : Int32} {off : Int} {tgt : Nat} (C : B.p.tables.exec = Jvm.exec ∧ B.c.code = cc) (hx : x = k) (hd : decode cc pc = .ok (.tableswitch dflt lo hi offs, len)) (h1 : ¬ k.toInt < lo) (h2 : ¬ hi < k.toInt) (ho : offs[(k.toInt - lo).toNat]? = some off) (ht : (pc : Int) + off = (tgt : Int)) (kk : xVS Pd B nL lv tgt st) : xVS Pd B nL lv pc (.int x :: st) := by
  subst hx
  exact fun H locs ls hP hS hl => lv_tableIn C.1 C.2 hd h1 h2 ho ht (kk H locs ls hP hS hl)
theorem vs_tableOut {Pd : Heap → Prop} {B : xB} {cc : ByteArray} {nL : Nat} {lv : List (Nat × Value)} {pc : Nat} {st : List Value} {dflt lo hi : Int} {offs : Array Int} {len : Nat} {x : Int32} {tgt : Nat} (C : B.p.tables.exec = Jvm.exec ∧ B.c.code = cc) (hd : decode cc pc = .ok (.tableswitch dflt lo hi offs, len)) (h : x.toInt < lo ∨ hi < x.toInt) (ht : (pc : Int) + dflt = (tgt : Int)) (k : xVS Pd B nL lv tgt st) : xVS Pd B nL lv pc (.int x :: st) :=
  fun H locs ls hP hS hl => lv_tableOut C.1 C.2 hd h ht (k H locs ls hP hS hl)
theorem vs_less {Pd : Heap → Prop} {B : xB} {nL : Nat} {lv : List (Nat × Value)} {pc : Nat} {st : List Value} {lv2 : List (Nat × Value)} (ks : List Nat) (h : lv_pick lv ks = lv2) (k : xVS Pd B nL lv2 pc st) : xVS Pd B nL lv pc st :=
  fun H locs ls hP hS hl => k H locs ls hP hS (lv_sub hl ks h)
/-! ===== the law's frame: both worlds ===== -/
def xLW (YX YM : xY) (σ τ : xM) (H : Heap) : Prop := va_P YX.2.2 vwCl (xW (GX YX) σ) H ∧ va_P YM.2.2 vwCl (xW (GM YM) τ) H
def xLC (YX YM : xY) (Z : xZ) (B : xB) (b L : Nat) (xs : Nat → Int32) : Prop := xC (GX YX) Z B "BetweenStopsLaw" cL_law 4 1000 ∧ xC (GM YM) Z B "BetweenStopsLaw" cL_law 4 1000 ∧ (∀ q, xA (GX YX) q → ¬ xA (GM YM) q) ∧ va_X b L xs B.s B.s.heap ∧ b < B.s.heap.size ∧ ¬ B.A b
theorem xLC.ec {YX YM : xY} {Z : xZ} {B : xB} {b L : Nat} {xs : Nat → Int32} (K : xLC YX YM Z B b L xs) : B.p.tables.exec = Jvm.exec ∧ B.c.code = cL_law := ⟨K.1.1, K.1.2.1⟩
theorem vs_sld {Pd : Heap → Prop} {B : xB} {nL : Nat} {lv : List (Nat × Value)} {pc : Nat} {st : List Value} {YX YM : xY} {Z : xZ} {b L j : Nat} {xs : Nat → Int32} {x : Int32} (K : xLC YX YM Z B b L xs) (hd : decode cL_law pc = .ok (.iaload, 1)) (hx : x = nI j) (hj : j < L) (hL : L ≤ 384) (k : xVS Pd B nL lv (pc + 1) (.int (xs j) :: st)) : xVS Pd B nL lv pc (.int x :: .ref b :: st) := by
  subst hx
  intro H locs ls hP hS hl
  refine va_sld K.ec.1 K.ec.2 K.2.2.2.1 K.2.2.2.2.1 K.2.2.2.2.2 hS (vp_in_nI hj (by omega)) hd ?_
  rw [nI_clamp (by omega)]
  exact k H locs ls hP hS hl
theorem vs_slen {Pd : Heap → Prop} {B : xB} {nL : Nat} {lv : List (Nat × Value)} {pc : Nat} {st : List Value} {YX YM : xY} {Z : xZ} {b L : Nat} {xs : Nat → Int32} (K : xLC YX YM Z B b L xs) (hd : decode cL_law pc = .ok (.arraylength, 1)) (k : xVS Pd B nL lv (pc + 1) (.int (Int32.ofNat L) :: st)) : xVS Pd B nL lv pc (.ref b :: st) :=
  fun H locs ls hP hS hl => va_slen K.ec.1 K.ec.2 K.2.2.2.1 K.2.2.2.2.1 K.2.2.2.2.2 hS hd (k H locs ls hP hS hl)
theorem vs_ldc2 {Pd : Heap → Prop} {B : xB} {nL : Nat} {lv : List (Nat × Value)} {pc : Nat} {st : List Value} {YX YM : xY} {Z : xZ} {b L index : Nat} {xs : Nat → Int32} {v : Int64} (K : xLC YX YM Z B b L xs) (hd : decode cL_law pc = .ok (.ldc2_w index, 3)) (hw : Cond.constantLong "BetweenStopsLaw" index v ∈ xTB) (k : xVS Pd B nL lv (pc + 3) (.long v :: st)) : xVS Pd B nL lv pc st :=
  fun H locs ls hP hS hl => lv_ldc2 K.ec.1 K.ec.2 K.1.2.2.2.1 (K.1.2.2.2.2.1 _ hw) hd (k H locs ls hP hS hl)
theorem vc_iX {YX YM : xY} {Z : xZ} {B : xB} {b L : Nat} {xs : Nat → Int32} {σ τ σ2 : xM} {lv : List (Nat × Value)} {pc : Nat} {st : List Value} {r : Int32} {y : MethodName} {bt : ByteArray} {nL2 d2 n idx : Nat} {rt : FieldType} (K : xLC YX YM Z B b L xs) (As rest : List Value) (hM : xMi (GX YX) Z y bt nL2 d2 rt (.ref (YX.1 0) :: As) σ (r, σ2)) (hd : decode cL_law pc = .ok (.invokevirtual idx, 3)) (hw : xMw y bt nL2 (some rt) n) (hv : xMwV y) (hl : Cond.methodLink "BetweenStopsLaw" idx y ∈ xTB) (ho : xSo (GX YX).1 (GX YX).2.1 0 y.cls) (hn : As.length = n) (hst : st = As.reverse ++ .ref (YX.1 0) :: rest) (hcat : (rest.map fun v => v.category).sum ≤ 8) (hr : d2 + 1 ≤ 1000 ∧ 8 + (nL2 + 11) + 40 * d2 ≤ 40 * 1000) (kk : xVS (xLW YX YM σ2 τ) B 4 lv (pc + 3) (.int r :: rest)) : xVS (xLW YX YM σ τ) B 4 lv pc st := by
  intro H locs ls hP hS hl2
  subst hst
  have C := K.1
  refine va_calli (A1 := xA (GX YX)) (A0 := B.A) (va_runV (As := As) (rest := rest) (b := YX.1 0) (C := y.cls) (xCallFix C) (hM B.l) ⟨xCallB C hw hl hr, C.2.2.2.2.1 _ hv.1, C.2.2.2.2.1 _ hv.2⟩ ⟨xPre_blind, xSo_recv C (hP.1) ho, xC_pre C hP.1 hS _⟩ rfl hn hl2.1 rfl (lv_room hcat) hd ⟨C.2.2.2.2.2.2.2.2.2.2.2.2.1, C.2.2.2.2.2.2.2.2.2.2.2.2.2⟩) hS (fun q _ h => C.2.2.2.2.2.2.2.2.2.2.2.1 q h) (fun q h => C.2.2.2.2.2.2.2.2.2.2.2.1 q h) (fun r u t H1 locs1 ht _ hp hB hz hk hS1 => ?_)
  obtain ⟨rfl, rfl⟩ := hp
  have hB : va_P _ vwCl (xW (GX YX) u) t.heap := hB
  rw [ht] at hB
  refine kk H1 locs1 ls ⟨hB, hP.2.kept (fun k q hq => ?_)⟩ hS1 hl2
  have hlt := (hP.2 k q hq).lt
  have hc : k < (GM YM).2.1 := by
    have h9 := (List.getElem?_eq_some_iff.mp hq).1
    rw [xW_len] at h9
    exact h9
  refine hk q.1 hlt (fun hx => ?_)
  have hy : xA (GM YM) q.1 := by
    rw [xW_get hc] at hq
    cases hq
    exact ⟨k, hc, rfl⟩
  exact K.2.2.1 q.1 hx hy
theorem vc_iM {YX YM : xY} {Z : xZ} {B : xB} {b L : Nat} {xs : Nat → Int32} {σ τ τ2 : xM} {lv : List (Nat × Value)} {pc : Nat} {st : List Value} {r : Int32} {y : MethodName} {bt : ByteArray} {nL2 d2 n idx : Nat} {rt : FieldType} (K : xLC YX YM Z B b L xs) (As rest : List Value) (hM : xMi (GM YM) Z y bt nL2 d2 rt (.ref (YM.1 0) :: As) τ (r, τ2)) (hd : decode cL_law pc = .ok (.invokevirtual idx, 3)) (hw : xMw y bt nL2 (some rt) n) (hv : xMwV y) (hl : Cond.methodLink "BetweenStopsLaw" idx y ∈ xTB) (ho : xSo (GM YM).1 (GM YM).2.1 0 y.cls) (hn : As.length = n) (hst : st = As.reverse ++ .ref (YM.1 0) :: rest) (hcat : (rest.map fun v => v.category).sum ≤ 8) (hr : d2 + 1 ≤ 1000 ∧ 8 + (nL2 + 11) + 40 * d2 ≤ 40 * 1000) (kk : xVS (xLW YX YM σ τ2) B 4 lv (pc + 3) (.int r :: rest)) : xVS (xLW YX YM σ τ) B 4 lv pc st := by
  intro H locs ls hP hS hl2
  subst hst
  have C := K.2.1
  refine va_calli (A1 := xA (GM YM)) (A0 := B.A) (va_runV (As := As) (rest := rest) (b := YM.1 0) (C := y.cls) (xCallFix C) (hM B.l) ⟨xCallB C hw hl hr, C.2.2.2.2.1 _ hv.1, C.2.2.2.2.1 _ hv.2⟩ ⟨xPre_blind, xSo_recv C (hP.2) ho, xC_pre C hP.2 hS _⟩ rfl hn hl2.1 rfl (lv_room hcat) hd ⟨C.2.2.2.2.2.2.2.2.2.2.2.2.1, C.2.2.2.2.2.2.2.2.2.2.2.2.2⟩) hS (fun q _ h => C.2.2.2.2.2.2.2.2.2.2.2.1 q h) (fun q h => C.2.2.2.2.2.2.2.2.2.2.2.1 q h) (fun r u t H1 locs1 ht _ hp hB hz hk hS1 => ?_)
  obtain ⟨rfl, rfl⟩ := hp
  have hB : va_P _ vwCl (xW (GM YM) u) t.heap := hB
  rw [ht] at hB
  refine kk H1 locs1 ls ⟨hP.1.kept (fun k q hq => ?_), hB⟩ hS1 hl2
  have hlt := (hP.1 k q hq).lt
  have hc : k < (GX YX).2.1 := by
    have h9 := (List.getElem?_eq_some_iff.mp hq).1
    rw [xW_len] at h9
    exact h9
  refine hk q.1 hlt (fun hx => ?_)
  have hy : xA (GX YX) q.1 := by
    rw [xW_get hc] at hq
    cases hq
    exact ⟨k, hc, rfl⟩
  exact K.2.2.1 q.1 hy hx
theorem vc_lX {YX YM : xY} {Z : xZ} {B : xB} {b L : Nat} {xs : Nat → Int32} {σ τ σ2 : xM} {lv : List (Nat × Value)} {pc : Nat} {st : List Value} {r : Int64} {y : MethodName} {bt : ByteArray} {nL2 d2 n idx : Nat} (K : xLC YX YM Z B b L xs) (As rest : List Value) (hM : xMl (GX YX) Z y bt nL2 d2 (.ref (YX.1 0) :: As) σ (r, σ2)) (hd : decode cL_law pc = .ok (.invokevirtual idx, 3)) (hw : xMw y bt nL2 (some .long) n) (hv : xMwV y) (hl : Cond.methodLink "BetweenStopsLaw" idx y ∈ xTB) (ho : xSo (GX YX).1 (GX YX).2.1 0 y.cls) (hn : As.length = n) (hst : st = As.reverse ++ .ref (YX.1 0) :: rest) (hcat : (rest.map fun v => v.category).sum ≤ 8) (hr : d2 + 1 ≤ 1000 ∧ 8 + (nL2 + 11) + 40 * d2 ≤ 40 * 1000) (kk : xVS (xLW YX YM σ2 τ) B 4 lv (pc + 3) (.long r :: rest)) : xVS (xLW YX YM σ τ) B 4 lv pc st := by
  intro H locs ls hP hS hl2
  subst hst
  have C := K.1
  refine va_calll (A1 := xA (GX YX)) (A0 := B.A) (va_runV (As := As) (rest := rest) (b := YX.1 0) (C := y.cls) (xCallFix C) (hM B.l) ⟨xCallB C hw hl hr, C.2.2.2.2.1 _ hv.1, C.2.2.2.2.1 _ hv.2⟩ ⟨xPre_blind, xSo_recv C (hP.1) ho, xC_pre C hP.1 hS _⟩ rfl hn hl2.1 rfl (lv_room hcat) hd ⟨C.2.2.2.2.2.2.2.2.2.2.2.2.1, C.2.2.2.2.2.2.2.2.2.2.2.2.2⟩) hS (fun q _ h => C.2.2.2.2.2.2.2.2.2.2.2.1 q h) (fun q h => C.2.2.2.2.2.2.2.2.2.2.2.1 q h) (fun r u t H1 locs1 ht _ hp hB hz hk hS1 => ?_)
  obtain ⟨rfl, rfl⟩ := hp
  have hB : va_P _ vwCl (xW (GX YX) u) t.heap := hB
  rw [ht] at hB
  refine kk H1 locs1 ls ⟨hB, hP.2.kept (fun k q hq => ?_)⟩ hS1 hl2
  have hlt := (hP.2 k q hq).lt
  have hc : k < (GM YM).2.1 := by
    have h9 := (List.getElem?_eq_some_iff.mp hq).1
    rw [xW_len] at h9
    exact h9
  refine hk q.1 hlt (fun hx => ?_)
  have hy : xA (GM YM) q.1 := by
    rw [xW_get hc] at hq
    cases hq
    exact ⟨k, hc, rfl⟩
  exact K.2.2.1 q.1 hx hy
theorem vc_lM {YX YM : xY} {Z : xZ} {B : xB} {b L : Nat} {xs : Nat → Int32} {σ τ τ2 : xM} {lv : List (Nat × Value)} {pc : Nat} {st : List Value} {r : Int64} {y : MethodName} {bt : ByteArray} {nL2 d2 n idx : Nat} (K : xLC YX YM Z B b L xs) (As rest : List Value) (hM : xMl (GM YM) Z y bt nL2 d2 (.ref (YM.1 0) :: As) τ (r, τ2)) (hd : decode cL_law pc = .ok (.invokevirtual idx, 3)) (hw : xMw y bt nL2 (some .long) n) (hv : xMwV y) (hl : Cond.methodLink "BetweenStopsLaw" idx y ∈ xTB) (ho : xSo (GM YM).1 (GM YM).2.1 0 y.cls) (hn : As.length = n) (hst : st = As.reverse ++ .ref (YM.1 0) :: rest) (hcat : (rest.map fun v => v.category).sum ≤ 8) (hr : d2 + 1 ≤ 1000 ∧ 8 + (nL2 + 11) + 40 * d2 ≤ 40 * 1000) (kk : xVS (xLW YX YM σ τ2) B 4 lv (pc + 3) (.long r :: rest)) : xVS (xLW YX YM σ τ) B 4 lv pc st := by
  intro H locs ls hP hS hl2
  subst hst
  have C := K.2.1
  refine va_calll (A1 := xA (GM YM)) (A0 := B.A) (va_runV (As := As) (rest := rest) (b := YM.1 0) (C := y.cls) (xCallFix C) (hM B.l) ⟨xCallB C hw hl hr, C.2.2.2.2.1 _ hv.1, C.2.2.2.2.1 _ hv.2⟩ ⟨xPre_blind, xSo_recv C (hP.2) ho, xC_pre C hP.2 hS _⟩ rfl hn hl2.1 rfl (lv_room hcat) hd ⟨C.2.2.2.2.2.2.2.2.2.2.2.2.1, C.2.2.2.2.2.2.2.2.2.2.2.2.2⟩) hS (fun q _ h => C.2.2.2.2.2.2.2.2.2.2.2.1 q h) (fun q h => C.2.2.2.2.2.2.2.2.2.2.2.1 q h) (fun r u t H1 locs1 ht _ hp hB hz hk hS1 => ?_)
  obtain ⟨rfl, rfl⟩ := hp
  have hB : va_P _ vwCl (xW (GM YM) u) t.heap := hB
  rw [ht] at hB
  refine kk H1 locs1 ls ⟨hP.1.kept (fun k q hq => ?_), hB⟩ hS1 hl2
  have hlt := (hP.1 k q hq).lt
  have hc : k < (GX YX).2.1 := by
    have h9 := (List.getElem?_eq_some_iff.mp hq).1
    rw [xW_len] at h9
    exact h9
  refine hk q.1 hlt (fun hx => ?_)
  have hy : xA (GX YX) q.1 := by
    rw [xW_get hc] at hq
    cases hq
    exact ⟨k, hc, rfl⟩
  exact K.2.2.1 q.1 hy hx
theorem lw_guard {L i : Nat} (hL : L ≤ 384) (hi : i ≤ L) (h : ¬ Int32.ofNat L - 6 < nI i) : i + 6 ≤ L := by
  by_cases hc : i + 6 ≤ L
  · exact hc
  · exfalso
    apply h
    have e1 : (Int32.ofNat L).toInt = (L : Int) := nI_toInt (n := L) (by omega)
    have e2 : (nI i).toInt = (i : Int) := nI_toInt (by omega)
    rw [Int32.lt_iff_toInt_lt, Int32.toInt_sub, e1, e2]
    have e6 : (6 : Int32).toInt = 6 := by decide
    rw [e6]
    have eb : ((L : Int) - 6).bmod (2 ^ 32) = (L : Int) - 6 := Int.bmod_eq_of_le (by omega) (by omega)
    rw [eb]
    omega
theorem lcmp_refl (x : Int64) : lg_cmp x x = 0 := by simp [lg_cmp]
