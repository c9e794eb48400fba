/-! ===== the environment: constants and statics that nobody writes ===== -/
/-- addresses of the String constants, their rows, the static rows; a reference of the JDK's of which nothing is known -/
abbrev xZ : Type := (Nat → Nat) × (Nat → Nat) × (Nat → Nat) × Value
def xSn : List (String × Nat × String) := [("BetweenStops", 88, "stay 2000 < cost ; late many * 2 ; ask many ;"), ("BetweenStops$Tape", 58, "stay"), ("BetweenStops$Tape", 64, "late"), ("BetweenStops$Tape", 66, "ask"), ("BetweenStops$Tape", 68, "or"), ("BetweenStops$Tape", 70, "and"), ("BetweenStops$Tape", 72, "not"), ("BetweenStops$Tape", 74, "cost"), ("BetweenStops$Tape", 76, "walk"), ("BetweenStops$Tape", 78, "wait"), ("BetweenStops$Tape", 80, "ride"), ("BetweenStops$Tape", 82, "many"), ("BetweenStops$Tape", 84, "sort"), ("BetweenStops$Tape", 50, "();+-*<=")]
def xSy : List (List Int32) := xSn.map fun q => q.2.2.toList.map fun c => Int32.ofNat c.toNat
def xSl : List Nat := xSy.map List.length
/-- the static rows: name, contents -/
def xSt : List (String × List Int32) := [("TRAIT_LEAST", [1, 0, 0, 0, 0, 0]), ("TRAIT_MOST", [60, 60, 9, 9, 9, 9999]), ("TRAITS_AT_FIRST", [10, 5, 2, 2, 1, 300, 15, 20, 3, 2, 1, 200, 6, 2, 1, 3, 1, 600]), ("KIND_ABOVE", [0, 0, 0, 0, 2, 1])]
def xNw : List Cond := lw_tbl.filter fun w => match w with
  | .fieldLinkNest .. => true
  | .methodLinkNest .. => true
  | _ => false
def xE (A : Nat → Prop) (Z : xZ) (U : State) : Prop :=
  vk_S 14 xSl xSy Z.1 Z.2.1 A U U.heap ∧ (∀ i q, xSn[i]? = some q → vk_R q.1 q.2.1 q.2.2 (Z.1 i) U) ∧
  (∀ i q, xSt[i]? = some q → va_Z "BetweenStops" q.1 "[I" (.ref (Z.2.2.1 i)) A U U.heap ∧ va_T .int (Z.2.2.1 i) q.2.length (fun j => .int (q.2.getD j 0)) A U U.heap) ∧
  va_Z "java/lang/String" "COMPACT_STRINGS" "Z" (.int 1) A U U.heap ∧ va_Z "jdk/internal/util/Preconditions" "SIOOBE_FORMATTER" "Ljava/util/function/BiFunction;" Z.2.2.2 A U U.heap ∧ (Z.2.2.2 = .null ∨ ∃ q, Z.2.2.2 = .ref q) ∧
  ∀ w ∈ xNw, va_Nw w U
theorem xE_step {A : Nat → Prop} {Z : xZ} {s U : State} {H : Heap} {locs : List Loc} (h : xE A Z s) (hS : va_S A s.heap H locs) (hU : U.heap = H) (hW : s.WarmedH U.vm) : xE A Z U := by
  have hk : ∀ a : Nat, a < s.heap.size → ¬ A a → U.heap[a]? = s.heap[a]? := fun a h1 h2 => by rw [hU]; exact hS.2.1 a h1 h2
  obtain ⟨h1, h2, h3, h4, h5, h6, h7⟩ := h
  refine ⟨(h1.moved hW.alike).kept hk, fun i q hq => (h2 i q hq).warm hW, fun i q hq => ⟨((h3 i q hq).1.moved hW.alike).kept hk, ((h3 i q hq).2.moved hW.alike).kept hk⟩, (h4.moved hW.alike).kept hk, (h5.moved hW.alike).kept hk, h6, fun w hw => ?_⟩
  have hn := h7 w hw
  have hf := (List.mem_filter.mp hw).2
  cases w <;> first | exact va_Nw.warmF hW hn | exact va_Nw.warmM hW hn | (simp at hf)
/-! ===== a method's frame ===== -/
abbrev xB : Type := Program × Launch × Env × Room × State × MethodId × Array Value × List Frame × Method × Code × (State → Prop) × (Nat × Nat × (Nat → Prop))
abbrev xB.p (B : xB) : Program := B.1
abbrev xB.l (B : xB) : Launch := B.2.1
abbrev xB.e (B : xB) : Env := B.2.2.1
abbrev xB.R (B : xB) : Room := B.2.2.2.1
abbrev xB.s (B : xB) : State := B.2.2.2.2.1
abbrev xB.m (B : xB) : MethodId := B.2.2.2.2.2.1
abbrev xB.a (B : xB) : Array Value := B.2.2.2.2.2.2.1
abbrev xB.b (B : xB) : List Frame := B.2.2.2.2.2.2.2.1
abbrev xB.t (B : xB) : Method := B.2.2.2.2.2.2.2.2.1
abbrev xB.c (B : xB) : Code := B.2.2.2.2.2.2.2.2.2.1
abbrev xB.Q (B : xB) : State → Prop := B.2.2.2.2.2.2.2.2.2.2.1
/-- cells and slots made so far; what may be changed -/
abbrev xB.k (B : xB) : Nat := B.2.2.2.2.2.2.2.2.2.2.2.1
abbrev xB.n (B : xB) : Nat := B.2.2.2.2.2.2.2.2.2.2.2.2.1
abbrev xB.A (B : xB) : Nat → Prop := B.2.2.2.2.2.2.2.2.2.2.2.2.2
def xWS (G : xG) (B : xB) (nL : Nat) (σ : xM) (lv : List (Nat × Value)) (pc : Nat) (st : List Value) : Prop :=
  ∀ (H : Heap) (locs : List Loc) (ls : Array Slot), va_P G.2.2.2.2 vwCl (xW G σ) H → va_S B.A B.s.heap H locs → lv_has ls nL lv → W B.p B.l B.e B.R B.s B.m B.a B.b B.t B.c H locs B.k B.n B.Q (F0 B.m pc ls st)
/-- a method's depth: how many frames it may have above it -/
def xRm (d : Nat) : Room := { frames := d, cells := 0, slots := 0, locals := 40 * d }
/-- what holds in a method's frame, whatever it does -/
def xC (G : xG) (Z : xZ) (B : xB) (own : String) (cc : ByteArray) (nL d : Nat) : Prop :=
  B.p.tables.exec = Jvm.exec ∧ B.c.code = cc ∧ B.c.maxLocals = nL ∧ B.s.vm.findClass own = some B.m.cls ∧ (∀ w ∈ xTB, w.before B.a B.s = true) ∧ B.t.locks = false ∧ va_K G.2.2.2.2 vwCl (xT G.2.2.2.1) B.s ∧ xInj G ∧ xE B.A Z B.s ∧ d ≤ B.R.frames ∧ 40 * d ≤ B.R.locals ∧ (∀ q, xA G q → B.A q) ∧ B.k ≤ B.R.cells ∧ B.n ≤ B.R.slots
theorem xC_D {G : xG} {Z : xZ} {B : xB} {own : String} {cc : ByteArray} {nL d : Nat} (C : xC G Z B own cc nL d) {σ : xM} : va_D B.A (xW G σ) := (xW_D (id C.2.2.2.2.2.2.2.1)).weaken (fun _ q _ h => C.2.2.2.2.2.2.2.2.2.2.2.1 q.1 h)

theorem ws_iconst {G : xG} {Z : xZ} {B : xB} {own : String} {cc : ByteArray} {nL d : Nat} {σ : xM} {lv : List (Nat × Value)} {pc : Nat} {st : List Value} {n : Int} {v : Int32} (C : xC G Z B own cc nL d) (hd : decode cc pc = .ok (.iconst n, 1)) (hv : Int32.ofInt n = v) (k : xWS G B nL σ lv (pc + 1) (.int v :: st)) : xWS G B nL σ lv pc (st) :=
  fun H locs ls hP hS hl => lv_iconst C.1 C.2.1 hd hv (k H locs ls hP hS hl)
theorem ws_bipush {G : xG} {Z : xZ} {B : xB} {own : String} {cc : ByteArray} {nL d : Nat} {σ : xM} {lv : List (Nat × Value)} {pc : Nat} {st : List Value} {n : Int} {v : Int32} (C : xC G Z B own cc nL d) (hd : decode cc pc = .ok (.bipush n, 2)) (hv : (Int8.ofInt n).toInt32 = v) (k : xWS G B nL σ lv (pc + 2) (.int v :: st)) : xWS G B nL σ lv pc (st) :=
  fun H locs ls hP hS hl => lv_bipush C.1 C.2.1 hd hv (k H locs ls hP hS hl)
theorem ws_sipush {G : xG} {Z : xZ} {B : xB} {own : String} {cc : ByteArray} {nL d : Nat} {σ : xM} {lv : List (Nat × Value)} {pc : Nat} {st : List Value} {n : Int} {v : Int32} (C : xC G Z B own cc nL d) (hd : decode cc pc = .ok (.sipush n, 3)) (hv : (Int16.ofInt n).toInt32 = v) (k : xWS G B nL σ lv (pc + 3) (.int v :: st)) : xWS G B nL σ lv pc (st) :=
  fun H locs ls hP hS hl => lv_sipush C.1 C.2.1 hd hv (k H locs ls hP hS hl)
theorem ws_lconst {G : xG} {Z : xZ} {B : xB} {own : String} {cc : ByteArray} {nL d : Nat} {σ : xM} {lv : List (Nat × Value)} {pc : Nat} {st : List Value} {n : Fin 2} {v : Int64} (C : xC G Z B own cc nL d) (hd : decode cc pc = .ok (.lconst n, 1)) (hv : Int64.ofNat (n : Nat) = v) (k : xWS G B nL σ lv (pc + 1) (.long v :: st)) : xWS G B nL σ lv pc (st) :=
  fun H locs ls hP hS hl => lv_lconst C.1 C.2.1 hd hv (k H locs ls hP hS hl)
theorem ws_iload_n {G : xG} {Z : xZ} {B : xB} {own : String} {cc : ByteArray} {nL d : Nat} {σ : xM} {lv : List (Nat × Value)} {pc : Nat} {st : List Value} {k : Fin 4} {i : Nat} {x : Int32} (C : xC G Z B own cc nL d) (hd : decode cc pc = .ok (.iload_n k, 1)) (hi : (k : Nat) = i) (j : Nat) (hj : lv[j]? = some (i, .int x)) (kk : xWS G B nL σ lv (pc + 1) (.int x :: st)) : xWS G B nL σ lv pc st :=
  fun H locs ls hP hS hl => lv_iload_n C.1 C.2.1 hd hi (lv_at hl j hj) (kk H locs ls hP hS hl)
theorem ws_iload {G : xG} {Z : xZ} {B : xB} {own : String} {cc : ByteArray} {nL d : Nat} {σ : xM} {lv : List (Nat × Value)} {pc : Nat} {st : List Value} {i : Nat} {x : Int32} (C : xC G Z B own cc nL d) (hd : decode cc pc = .ok (.iload i, 2)) (j : Nat) (hj : lv[j]? = some (i, .int x)) (kk : xWS G B nL σ lv (pc + 2) (.int x :: st)) : xWS G B nL σ lv pc st :=
  fun H locs ls hP hS hl => lv_iload C.1 C.2.1 hd (lv_at hl j hj) (kk H locs ls hP hS hl)
theorem ws_istore_n {G : xG} {Z : xZ} {B : xB} {own : String} {cc : ByteArray} {nL d : Nat} {σ : xM} {lv : List (Nat × Value)} {pc : Nat} {st : List Value} {k : Fin 4} {i : Nat} {x : Int32} {lv2 : List (Nat × Value)} (C : xC G Z B own cc nL d) (hd : decode cc pc = .ok (.istore_n k, 1)) (hi : (k : Nat) = i) (hn : i < nL) (hv : (i, Value.int x) :: lv.filter (fun q => !(q.1 == i) && !(q.1 + 1 == i && q.2.category == 2)) = lv2) (kk : xWS G B nL σ lv2 (pc + 1) st) : xWS G B nL σ lv pc (.int x :: st) :=
  fun H locs ls hP hS hl => lv_istore_n C.1 C.2.1 hd hi hl hn hv (fun ls2 hl2 => kk H locs ls2 hP hS hl2)
theorem ws_istore {G : xG} {Z : xZ} {B : xB} {own : String} {cc : ByteArray} {nL d : Nat} {σ : xM} {lv : List (Nat × Value)} {pc : Nat} {st : List Value} {i : Nat} {x : Int32} {lv2 : List (Nat × Value)} (C : xC G Z B own cc nL d) (hd : decode cc pc = .ok (.istore i, 2)) (hn : i < nL) (hv : (i, Value.int x) :: lv.filter (fun q => !(q.1 == i) && !(q.1 + 1 == i && q.2.category == 2)) = lv2) (kk : xWS G B nL σ lv2 (pc + 2) st) : xWS G B nL σ lv pc (.int x :: st) :=
  fun H locs ls hP hS hl => lv_istore C.1 C.2.1 hd hl hn hv (fun ls2 hl2 => kk H locs ls2 hP hS hl2)
theorem ws_lload_n {G : xG} {Z : xZ} {B : xB} {own : String} {cc : ByteArray} {nL d : Nat} {σ : xM} {lv : List (Nat × Value)} {pc : Nat} {st : List Value} {k : Fin 4} {i : Nat} {x : Int64} (C : xC G Z B own cc nL d) (hd : decode cc pc = .ok (.lload_n k, 1)) (hi : (k : Nat) = i) (j : Nat) (hj : lv[j]? = some (i, .long x)) (kk : xWS G B nL σ lv (pc + 1) (.long x :: st)) : xWS G B nL σ lv pc st :=
  fun H locs ls hP hS hl => lv_lload_n C.1 C.2.1 hd hi (lv_at hl j hj) (kk H locs ls hP hS hl)
theorem ws_lload {G : xG} {Z : xZ} {B : xB} {own : String} {cc : ByteArray} {nL d : Nat} {σ : xM} {lv : List (Nat × Value)} {pc : Nat} {st : List Value} {i : Nat} {x : Int64} (C : xC G Z B own cc nL d) (hd : decode cc pc = .ok (.lload i, 2)) (j : Nat) (hj : lv[j]? = some (i, .long x)) (kk : xWS G B nL σ lv (pc + 2) (.long x :: st)) : xWS G B nL σ lv pc st :=
  fun H locs ls hP hS hl => lv_lload C.1 C.2.1 hd (lv_at hl j hj) (kk H locs ls hP hS hl)
theorem ws_lstore_n {G : xG} {Z : xZ} {B : xB} {own : String} {cc : ByteArray} {nL d : Nat} {σ : xM} {lv : List (Nat × Value)} {pc : Nat} {st : List Value} {k : Fin 4} {i : Nat} {x : Int64} {lv2 : List (Nat × Value)} (C : xC G Z B own cc nL d) (hd : decode cc pc = .ok (.lstore_n k, 1)) (hi : (k : Nat) = i) (hn : i + 1 < nL) (hv : (i, Value.long x) :: lv.filter (fun q => !(q.1 == i) && (!(q.1 == i + 1) && !(q.1 + 1 == i && q.2.category == 2))) = lv2) (kk : xWS G B nL σ lv2 (pc + 1) st) : xWS G B nL σ lv pc (.long x :: st) :=
  fun H locs ls hP hS hl => lv_lstore_n C.1 C.2.1 hd hi hl hn hv (fun ls2 hl2 => kk H locs ls2 hP hS hl2)
theorem ws_lstore {G : xG} {Z : xZ} {B : xB} {own : String} {cc : ByteArray} {nL d : Nat} {σ : xM} {lv : List (Nat × Value)} {pc : Nat} {st : List Value} {i : Nat} {x : Int64} {lv2 : List (Nat × Value)} (C : xC G Z B own cc nL d) (hd : decode cc pc = .ok (.lstore i, 2)) (hn : i + 1 < nL) (hv : (i, Value.long x) :: lv.filter (fun q => !(q.1 == i) && (!(q.1 == i + 1) && !(q.1 + 1 == i && q.2.category == 2))) = lv2) (kk : xWS G B nL σ lv2 (pc + 2) st) : xWS G B nL σ lv pc (.long x :: st) :=
  fun H locs ls hP hS hl => lv_lstore C.1 C.2.1 hd hl hn hv (fun ls2 hl2 => kk H locs ls2 hP hS hl2)
theorem ws_aload_n {G : xG} {Z : xZ} {B : xB} {own : String} {cc : ByteArray} {nL d : Nat} {σ : xM} {lv : List (Nat × Value)} {pc : Nat} {st : List Value} {k : Fin 4} {i : Nat} {x : Nat} (C : xC G Z B own cc nL d) (hd : decode cc pc = .ok (.aload_n k, 1)) (hi : (k : Nat) = i) (j : Nat) (hj : lv[j]? = some (i, .ref x)) (kk : xWS G B nL σ lv (pc + 1) (.ref x :: st)) : xWS G B nL σ lv pc st :=
  fun H locs ls hP hS hl => lv_aload_n C.1 C.2.1 hd hi (lv_at hl j hj) (kk H locs ls hP hS hl)
theorem ws_aload {G : xG} {Z : xZ} {B : xB} {own : String} {cc : ByteArray} {nL d : Nat} {σ : xM} {lv : List (Nat × Value)} {pc : Nat} {st : List Value} {i : Nat} {x : Nat} (C : xC G Z B own cc nL d) (hd : decode cc pc = .ok (.aload i, 2)) (j : Nat) (hj : lv[j]? = some (i, .ref x)) (kk : xWS G B nL σ lv (pc + 2) (.ref x :: st)) : xWS G B nL σ lv pc st :=
  fun H locs ls hP hS hl => lv_aload C.1 C.2.1 hd (lv_at hl j hj) (kk H locs ls hP hS hl)
theorem ws_astore_n {G : xG} {Z : xZ} {B : xB} {own : String} {cc : ByteArray} {nL d : Nat} {σ : xM} {lv : List (Nat × Value)} {pc : Nat} {st : List Value} {k : Fin 4} {i : Nat} {x : Nat} {lv2 : List (Nat × Value)} (C : xC G Z B own cc nL d) (hd : decode cc pc = .ok (.astore_n k, 1)) (hi : (k : Nat) = i) (hn : i < nL) (hv : (i, Value.ref x) :: lv.filter (fun q => !(q.1 == i) && !(q.1 + 1 == i && q.2.category == 2)) = lv2) (kk : xWS G B nL σ lv2 (pc + 1) st) : xWS G B nL σ lv pc (.ref x :: st) :=
  fun H locs ls hP hS hl => lv_astore_n C.1 C.2.1 hd hi hl hn hv (fun ls2 hl2 => kk H locs ls2 hP hS hl2)
theorem ws_astore {G : xG} {Z : xZ} {B : xB} {own : String} {cc : ByteArray} {nL d : Nat} {σ : xM} {lv : List (Nat × Value)} {pc : Nat} {st : List Value} {i : Nat} {x : Nat} {lv2 : List (Nat × Value)} (C : xC G Z B own cc nL d) (hd : decode cc pc = .ok (.astore i, 2)) (hn : i < nL) (hv : (i, Value.ref x) :: lv.filter (fun q => !(q.1 == i) && !(q.1 + 1 == i && q.2.category == 2)) = lv2) (kk : xWS G B nL σ lv2 (pc + 2) st) : xWS G B nL σ lv pc (.ref x :: st) :=
  fun H locs ls hP hS hl => lv_astore C.1 C.2.1 hd hl hn hv (fun ls2 hl2 => kk H locs ls2 hP hS hl2)
theorem ws_iinc {G : xG} {Z : xZ} {B : xB} {own : String} {cc : ByteArray} {nL d : Nat} {σ : xM} {lv : List (Nat × Value)} {pc : Nat} {st : List Value} {i j : Nat} {n : Int} {x v : Int32} {lv2 : List (Nat × Value)} (C : xC G Z B own cc nL d) (hd : decode cc pc = .ok (.iinc i n, 3)) (hj : lv[j]? = some (i, .int x)) (hx : x + Int32.ofInt n = v) (hn : i < nL) (hv : (i, Value.int v) :: lv.filter (fun q => !(q.1 == i) && !(q.1 + 1 == i && q.2.category == 2)) = lv2) (kk : xWS G B nL σ lv2 (pc + 3) st) : xWS G B nL σ lv pc st :=
  fun H locs ls hP hS hl => lv_iinc C.1 C.2.1 hd hl hj hx hn hv (fun ls2 hl2 => kk H locs ls2 hP hS hl2)
theorem ws_iadd {G : xG} {Z : xZ} {B : xB} {own : String} {cc : ByteArray} {nL d : Nat} {σ : xM} {lv : List (Nat × Value)} {pc : Nat} {st : List Value} {x y : Int32} (C : xC G Z B own cc nL d) (hd : decode cc pc = .ok (.iadd, 1)) (k : xWS G B nL σ lv (pc + 1) (.int (x + y) :: st)) : xWS G B nL σ lv pc (.int y :: .int x :: st) :=
  fun H locs ls hP hS hl => lv_iadd C.1 C.2.1 hd (k H locs ls hP hS hl)
theorem ws_isub {G : xG} {Z : xZ} {B : xB} {own : String} {cc : ByteArray} {nL d : Nat} {σ : xM} {lv : List (Nat × Value)} {pc : Nat} {st : List Value} {x y : Int32} (C : xC G Z B own cc nL d) (hd : decode cc pc = .ok (.isub, 1)) (k : xWS G B nL σ lv (pc + 1) (.int (x - y) :: st)) : xWS G B nL σ lv pc (.int y :: .int x :: st) :=
  fun H locs ls hP hS hl => lv_isub C.1 C.2.1 hd (k H locs ls hP hS hl)
theorem ws_imul {G : xG} {Z : xZ} {B : xB} {own : String} {cc : ByteArray} {nL d : Nat} {σ : xM} {lv : List (Nat × Value)} {pc : Nat} {st : List Value} {x y : Int32} (C : xC G Z B own cc nL d) (hd : decode cc pc = .ok (.imul, 1)) (k : xWS G B nL σ lv (pc + 1) (.int (x * y) :: st)) : xWS G B nL σ lv pc (.int y :: .int x :: st) :=
  fun H locs ls hP hS hl => lv_imul C.1 C.2.1 hd (k H locs ls hP hS hl)
theorem ws_iand {G : xG} {Z : xZ} {B : xB} {own : String} {cc : ByteArray} {nL d : Nat} {σ : xM} {lv : List (Nat × Value)} {pc : Nat} {st : List Value} {x y : Int32} (C : xC G Z B own cc nL d) (hd : decode cc pc = .ok (.iand, 1)) (k : xWS G B nL σ lv (pc + 1) (.int (x &&& y) :: st)) : xWS G B nL σ lv pc (.int y :: .int x :: st) :=
  fun H locs ls hP hS hl => lv_iand C.1 C.2.1 hd (k H locs ls hP hS hl)
theorem ws_ior {G : xG} {Z : xZ} {B : xB} {own : String} {cc : ByteArray} {nL d : Nat} {σ : xM} {lv : List (Nat × Value)} {pc : Nat} {st : List Value} {x y : Int32} (C : xC G Z B own cc nL d) (hd : decode cc pc = .ok (.ior, 1)) (k : xWS G B nL σ lv (pc + 1) (.int (x ||| y) :: st)) : xWS G B nL σ lv pc (.int y :: .int x :: st) :=
  fun H locs ls hP hS hl => lv_ior C.1 C.2.1 hd (k H locs ls hP hS hl)
theorem ws_ixor {G : xG} {Z : xZ} {B : xB} {own : String} {cc : ByteArray} {nL d : Nat} {σ : xM} {lv : List (Nat × Value)} {pc : Nat} {st : List Value} {x y : Int32} (C : xC G Z B own cc nL d) (hd : decode cc pc = .ok (.ixor, 1)) (k : xWS G B nL σ lv (pc + 1) (.int (x ^^^ y) :: st)) : xWS G B nL σ lv pc (.int y :: .int x :: st) :=
  fun H locs ls hP hS hl => lv_ixor C.1 C.2.1 hd (k H locs ls hP hS hl)
theorem ws_ishl {G : xG} {Z : xZ} {B : xB} {own : String} {cc : ByteArray} {nL d : Nat} {σ : xM} {lv : List (Nat × Value)} {pc : Nat} {st : List Value} {x y : Int32} (C : xC G Z B own cc nL d) (hd : decode cc pc = .ok (.ishl, 1)) (k : xWS G B nL σ lv (pc + 1) (.int (x <<< (y &&& 31)) :: st)) : xWS G B nL σ lv pc (.int y :: .int x :: st) :=
  fun H locs ls hP hS hl => lv_ishl C.1 C.2.1 hd (k H locs ls hP hS hl)
theorem ws_ishr {G : xG} {Z : xZ} {B : xB} {own : String} {cc : ByteArray} {nL d : Nat} {σ : xM} {lv : List (Nat × Value)} {pc : Nat} {st : List Value} {x y : Int32} (C : xC G Z B own cc nL d) (hd : decode cc pc = .ok (.ishr, 1)) (k : xWS G B nL σ lv (pc + 1) (.int (x >>> (y &&& 31)) :: st)) : xWS G B nL σ lv pc (.int y :: .int x :: st) :=
  fun H locs ls hP hS hl => lv_ishr C.1 C.2.1 hd (k H locs ls hP hS hl)
theorem ws_idiv {G : xG} {Z : xZ} {B : xB} {own : String} {cc : ByteArray} {nL d : Nat} {σ : xM} {lv : List (Nat × Value)} {pc : Nat} {st : List Value} {x y : Int32} (C : xC G Z B own cc nL d) (hd : decode cc pc = .ok (.idiv, 1)) (hne : ¬ y = 0) (k : xWS G B nL σ lv (pc + 1) (.int (x / y) :: st)) : xWS G B nL σ lv pc (.int y :: .int x :: st) :=
  fun H locs ls hP hS hl => lv_idiv C.1 C.2.1 hd hne (k H locs ls hP hS hl)
theorem ws_irem {G : xG} {Z : xZ} {B : xB} {own : String} {cc : ByteArray} {nL d : Nat} {σ : xM} {lv : List (Nat × Value)} {pc : Nat} {st : List Value} {x y : Int32} (C : xC G Z B own cc nL d) (hd : decode cc pc = .ok (.irem, 1)) (hne : ¬ y = 0) (k : xWS G B nL σ lv (pc + 1) (.int (x - x / y * y) :: st)) : xWS G B nL σ lv pc (.int y :: .int x :: st) :=
  fun H locs ls hP hS hl => lv_irem C.1 C.2.1 hd hne (k H locs ls hP hS hl)
theorem ws_ineg {G : xG} {Z : xZ} {B : xB} {own : String} {cc : ByteArray} {nL d : Nat} {σ : xM} {lv : List (Nat × Value)} {pc : Nat} {st : List Value} {x : Int32} (C : xC G Z B own cc nL d) (hd : decode cc pc = .ok (.ineg, 1)) (k : xWS G B nL σ lv (pc + 1) (.int (-x) :: st)) : xWS G B nL σ lv pc (.int x :: st) :=
  fun H locs ls hP hS hl => lv_ineg C.1 C.2.1 hd (k H locs ls hP hS hl)
theorem ws_iushr {G : xG} {Z : xZ} {B : xB} {own : String} {cc : ByteArray} {nL d : Nat} {σ : xM} {lv : List (Nat × Value)} {pc : Nat} {st : List Value} {x y : Int32} (C : xC G Z B own cc nL d) (hd : decode cc pc = .ok (.iushr, 1)) (k : xWS G B nL σ lv (pc + 1) (.int ((x.toUInt32 >>> (y.toUInt32 &&& Int32.toUInt32 31)).toInt32) :: st)) : xWS G B nL σ lv pc (.int y :: .int x :: st) :=
  fun H locs ls hP hS hl => lv_iushr C.1 C.2.1 hd rfl (k H locs ls hP hS hl)
theorem ws_ladd {G : xG} {Z : xZ} {B : xB} {own : String} {cc : ByteArray} {nL d : Nat} {σ : xM} {lv : List (Nat × Value)} {pc : Nat} {st : List Value} {x y : Int64} (C : xC G Z B own cc nL d) (hd : decode cc pc = .ok (.ladd, 1)) (k : xWS G B nL σ lv (pc + 1) (.long (x + y) :: st)) : xWS G B nL σ lv pc (.long y :: .long x :: st) :=
  fun H locs ls hP hS hl => lv_ladd C.1 C.2.1 hd (k H locs ls hP hS hl)
theorem ws_lsub {G : xG} {Z : xZ} {B : xB} {own : String} {cc : ByteArray} {nL d : Nat} {σ : xM} {lv : List (Nat × Value)} {pc : Nat} {st : List Value} {x y : Int64} (C : xC G Z B own cc nL d) (hd : decode cc pc = .ok (.lsub, 1)) (k : xWS G B nL σ lv (pc + 1) (.long (x - y) :: st)) : xWS G B nL σ lv pc (.long y :: .long x :: st) :=
  fun H locs ls hP hS hl => lv_lsub C.1 C.2.1 hd (k H locs ls hP hS hl)
theorem ws_lmul {G : xG} {Z : xZ} {B : xB} {own : String} {cc : ByteArray} {nL d : Nat} {σ : xM} {lv : List (Nat × Value)} {pc : Nat} {st : List Value} {x y : Int64} (C : xC G Z B own cc nL d) (hd : decode cc pc = .ok (.lmul, 1)) (k : xWS G B nL σ lv (pc + 1) (.long (x * y) :: st)) : xWS G B nL σ lv pc (.long y :: .long x :: st) :=
  fun H locs ls hP hS hl => lv_lmul C.1 C.2.1 hd (k H locs ls hP hS hl)
theorem ws_land {G : xG} {Z : xZ} {B : xB} {own : String} {cc : ByteArray} {nL d : Nat} {σ : xM} {lv : List (Nat × Value)} {pc : Nat} {st : List Value} {x y : Int64} (C : xC G Z B own cc nL d) (hd : decode cc pc = .ok (.land, 1)) (k : xWS G B nL σ lv (pc + 1) (.long (x &&& y) :: st)) : xWS G B nL σ lv pc (.long y :: .long x :: st) :=
  fun H locs ls hP hS hl => lv_land C.1 C.2.1 hd (k H locs ls hP hS hl)
theorem ws_lor {G : xG} {Z : xZ} {B : xB} {own : String} {cc : ByteArray} {nL d : Nat} {σ : xM} {lv : List (Nat × Value)} {pc : Nat} {st : List Value} {x y : Int64} (C : xC G Z B own cc nL d) (hd : decode cc pc = .ok (.lor, 1)) (k : xWS G B nL σ lv (pc + 1) (.long (x ||| y) :: st)) : xWS G B nL σ lv pc (.long y :: .long x :: st) :=
  fun H locs ls hP hS hl => lv_lor C.1 C.2.1 hd (k H locs ls hP hS hl)
theorem ws_ldiv {G : xG} {Z : xZ} {B : xB} {own : String} {cc : ByteArray} {nL d : Nat} {σ : xM} {lv : List (Nat × Value)} {pc : Nat} {st : List Value} {x y : Int64} (C : xC G Z B own cc nL d) (hd : decode cc pc = .ok (.ldiv, 1)) (hne : ¬ y = 0) (k : xWS G B nL σ lv (pc + 1) (.long (x / y) :: st)) : xWS G B nL σ lv pc (.long y :: .long x :: st) :=
  fun H locs ls hP hS hl => lv_ldiv C.1 C.2.1 hd hne (k H locs ls hP hS hl)
theorem ws_lrem {G : xG} {Z : xZ} {B : xB} {own : String} {cc : ByteArray} {nL d : Nat} {σ : xM} {lv : List (Nat × Value)} {pc : Nat} {st : List Value} {x y : Int64} (C : xC G Z B own cc nL d) (hd : decode cc pc = .ok (.lrem, 1)) (hne : ¬ y = 0) (k : xWS G B nL σ lv (pc + 1) (.long (x - x / y * y) :: st)) : xWS G B nL σ lv pc (.long y :: .long x :: st) :=
  fun H locs ls hP hS hl => lv_lrem C.1 C.2.1 hd hne (k H locs ls hP hS hl)
theorem ws_i2l {G : xG} {Z : xZ} {B : xB} {own : String} {cc : ByteArray} {nL d : Nat} {σ : xM} {lv : List (Nat × Value)} {pc : Nat} {st : List Value} {x : Int32} (C : xC G Z B own cc nL d) (hd : decode cc pc = .ok (.i2l, 1)) (k : xWS G B nL σ lv (pc + 1) (.long x.toInt64 :: st)) : xWS G B nL σ lv pc (.int x :: st) :=
  fun H locs ls hP hS hl => lv_i2l C.1 C.2.1 hd rfl (k H locs ls hP hS hl)
theorem ws_l2i {G : xG} {Z : xZ} {B : xB} {own : String} {cc : ByteArray} {nL d : Nat} {σ : xM} {lv : List (Nat × Value)} {pc : Nat} {st : List Value} {x : Int64} (C : xC G Z B own cc nL d) (hd : decode cc pc = .ok (.l2i, 1)) (k : xWS G B nL σ lv (pc + 1) (.int x.toInt32 :: st)) : xWS G B nL σ lv pc (.long x :: st) :=
  fun H locs ls hP hS hl => lv_l2i C.1 C.2.1 hd rfl (k H locs ls hP hS hl)
theorem ws_i2b {G : xG} {Z : xZ} {B : xB} {own : String} {cc : ByteArray} {nL d : Nat} {σ : xM} {lv : List (Nat × Value)} {pc : Nat} {st : List Value} {x : Int32} (C : xC G Z B own cc nL d) (hd : decode cc pc = .ok (.i2b, 1)) (k : xWS G B nL σ lv (pc + 1) (.int x.toInt8.toInt32 :: st)) : xWS G B nL σ lv pc (.int x :: st) :=
  fun H locs ls hP hS hl => lv_i2b C.1 C.2.1 hd rfl (k H locs ls hP hS hl)
theorem ws_i2s {G : xG} {Z : xZ} {B : xB} {own : String} {cc : ByteArray} {nL d : Nat} {σ : xM} {lv : List (Nat × Value)} {pc : Nat} {st : List Value} {x : Int32} (C : xC G Z B own cc nL d) (hd : decode cc pc = .ok (.i2s, 1)) (k : xWS G B nL σ lv (pc + 1) (.int x.toInt16.toInt32 :: st)) : xWS G B nL σ lv pc (.int x :: st) :=
  fun H locs ls hP hS hl => lv_i2s C.1 C.2.1 hd rfl (k H locs ls hP hS hl)
theorem ws_i2c {G : xG} {Z : xZ} {B : xB} {own : String} {cc : ByteArray} {nL d : Nat} {σ : xM} {lv : List (Nat × Value)} {pc : Nat} {st : List Value} {x : Int32} (C : xC G Z B own cc nL d) (hd : decode cc pc = .ok (.i2c, 1)) (k : xWS G B nL σ lv (pc + 1) (.int (x.toUInt32 % 65536).toInt32 :: st)) : xWS G B nL σ lv pc (.int x :: st) :=
  fun H locs ls hP hS hl => lv_i2c C.1 C.2.1 hd rfl (k H locs ls hP hS hl)
theorem ws_lushr {G : xG} {Z : xZ} {B : xB} {own : String} {cc : ByteArray} {nL d : Nat} {σ : xM} {lv : List (Nat × Value)} {pc : Nat} {st : List Value} {x : Int64} {y : Int32} (C : xC G Z B own cc nL d) (hd : decode cc pc = .ok (.lushr, 1)) (k : xWS G B nL σ lv (pc + 1) (.long ((x.toUInt64 >>> (y.toInt64.toUInt64 &&& Int64.toUInt64 63)).toInt64) :: st)) : xWS G B nL σ lv pc (.int y :: .long x :: st) :=
  fun H locs ls hP hS hl => lv_lushr C.1 C.2.1 hd rfl (k H locs ls hP hS hl)
theorem ws_lshl {G : xG} {Z : xZ} {B : xB} {own : String} {cc : ByteArray} {nL d : Nat} {σ : xM} {lv : List (Nat × Value)} {pc : Nat} {st : List Value} {x : Int64} {y : Int32} (C : xC G Z B own cc nL d) (hd : decode cc pc = .ok (.lshl, 1)) (k : xWS G B nL σ lv (pc + 1) (.long (x <<< (y.toInt64 &&& 63)) :: st)) : xWS G B nL σ lv pc (.int y :: .long x :: st) :=
  fun H locs ls hP hS hl => lv_lshl C.1 C.2.1 hd rfl (k H locs ls hP hS hl)
theorem ws_lshr {G : xG} {Z : xZ} {B : xB} {own : String} {cc : ByteArray} {nL d : Nat} {σ : xM} {lv : List (Nat × Value)} {pc : Nat} {st : List Value} {x : Int64} {y : Int32} (C : xC G Z B own cc nL d) (hd : decode cc pc = .ok (.lshr, 1)) (k : xWS G B nL σ lv (pc + 1) (.long (x >>> (y.toInt64 &&& 63)) :: st)) : xWS G B nL σ lv pc (.int y :: .long x :: st) :=
  fun H locs ls hP hS hl => lv_lshr C.1 C.2.1 hd rfl (k H locs ls hP hS hl)
theorem ws_lcmp {G : xG} {Z : xZ} {B : xB} {own : String} {cc : ByteArray} {nL d : Nat} {σ : xM} {lv : List (Nat × Value)} {pc : Nat} {st : List Value} {x y : Int64} (C : xC G Z B own cc nL d) (hd : decode cc pc = .ok (.lcmp, 1)) (k : xWS G B nL σ lv (pc + 1) (.int (lg_cmp x y) :: st)) : xWS G B nL σ lv pc (.long y :: .long x :: st) :=
  fun H locs ls hP hS hl => W.lcmp C.1 C.2.1 hd (k H locs ls hP hS hl)
theorem ws_dup {G : xG} {Z : xZ} {B : xB} {own : String} {cc : ByteArray} {nL d : Nat} {σ : xM} {lv : List (Nat × Value)} {pc : Nat} {st : List Value} {va : Value} (C : xC G Z B own cc nL d) (hd : decode cc pc = .ok (.dup, 1)) (ha : va.category = 1) (k : xWS G B nL σ lv (pc + 1) (va :: va :: st)) : xWS G B nL σ lv pc (va :: st) :=
  fun H locs ls hP hS hl => lv_dup C.1 C.2.1 hd ha (k H locs ls hP hS hl)
theorem ws_pop {G : xG} {Z : xZ} {B : xB} {own : String} {cc : ByteArray} {nL d : Nat} {σ : xM} {lv : List (Nat × Value)} {pc : Nat} {st : List Value} {va : Value} (C : xC G Z B own cc nL d) (hd : decode cc pc = .ok (.pop, 1)) (ha : va.category = 1) (k : xWS G B nL σ lv (pc + 1) (st)) : xWS G B nL σ lv pc (va :: st) :=
  fun H locs ls hP hS hl => lv_pop C.1 C.2.1 hd ha (k H locs ls hP hS hl)
theorem ws_pop2 {G : xG} {Z : xZ} {B : xB} {own : String} {cc : ByteArray} {nL d : Nat} {σ : xM} {lv : List (Nat × Value)} {pc : Nat} {st : List Value} {va : Value} (C : xC G Z B own cc nL d) (hd : decode cc pc = .ok (.pop2, 1)) (ha : va.category = 2) (k : xWS G B nL σ lv (pc + 1) (st)) : xWS G B nL σ lv pc (va :: st) :=
  fun H locs ls hP hS hl => lv_pop2_2 C.1 C.2.1 hd ha (k H locs ls hP hS hl)
theorem ws_dup_x1 {G : xG} {Z : xZ} {B : xB} {own : String} {cc : ByteArray} {nL d : Nat} {σ : xM} {lv : List (Nat × Value)} {pc : Nat} {st : List Value} {va vb : Value} (C : xC G Z B own cc nL d) (hd : decode cc pc = .ok (.dup_x1, 1)) (ha : va.category = 1) (hb : vb.category = 1) (k : xWS G B nL σ lv (pc + 1) (va :: vb :: va :: st)) : xWS G B nL σ lv pc (va :: vb :: st) :=
  fun H locs ls hP hS hl => lv_dup_x1 C.1 C.2.1 hd ha hb (k H locs ls hP hS hl)
theorem ws_dup_x2 {G : xG} {Z : xZ} {B : xB} {own : String} {cc : ByteArray} {nL d : Nat} {σ : xM} {lv : List (Nat × Value)} {pc : Nat} {st : List Value} {va vb vd : Value} (C : xC G Z B own cc nL d) (hd : decode cc pc = .ok (.dup_x2, 1)) (ha : va.category = 1) (hb : vb.category = 1) (hd3 : vd.category = 1) (k : xWS G B nL σ lv (pc + 1) (va :: vb :: vd :: va :: st)) : xWS G B nL σ lv pc (va :: vb :: vd :: st) :=
  fun H locs ls hP hS hl => lv_dup_x2 C.1 C.2.1 hd ha hb hd3 (k H locs ls hP hS hl)
theorem ws_dup2_11 {G : xG} {Z : xZ} {B : xB} {own : String} {cc : ByteArray} {nL d : Nat} {σ : xM} {lv : List (Nat × Value)} {pc : Nat} {st : List Value} {va vb : Value} (C : xC G Z B own cc nL d) (hd : decode cc pc = .ok (.dup2, 1)) (ha : va.category = 1) (hb : vb.category = 1) (k : xWS G B nL σ lv (pc + 1) (va :: vb :: va :: vb :: st)) : xWS G B nL σ lv pc (va :: vb :: st) :=
  fun H locs ls hP hS hl => lv_dup2_11 C.1 C.2.1 hd ha hb (k H locs ls hP hS hl)
theorem ws_dup2_2 {G : xG} {Z : xZ} {B : xB} {own : String} {cc : ByteArray} {nL d : Nat} {σ : xM} {lv : List (Nat × Value)} {pc : Nat} {st : List Value} {va : Value} (C : xC G Z B own cc nL d) (hd : decode cc pc = .ok (.dup2, 1)) (ha : va.category = 2) (k : xWS G B nL σ lv (pc + 1) (va :: va :: st)) : xWS G B nL σ lv pc (va :: st) :=
  fun H locs ls hP hS hl => lv_dup2_2 C.1 C.2.1 hd ha (k H locs ls hP hS hl)
theorem ws_if_eq {G : xG} {Z : xZ} {B : xB} {own : String} {cc : ByteArray} {nL d : Nat} {σ : xM} {lv : List (Nat × Value)} {pc : Nat} {st : List Value} {x : Int32} {off : Int} {tgt : Nat} (C : xC G Z B own cc nL d) (hd : decode cc pc = .ok (.ifCond .eq off, 3)) (ht : (pc : Int) + off = (tgt : Int)) (kt : x = 0 → xWS G B nL σ lv tgt st) (kf : ¬ x = 0 → xWS G B nL σ lv (pc + 3) st) : xWS G B nL σ lv pc (.int x :: st) :=
  fun H locs ls hP hS hl => lv_if_eq C.1 C.2.1 hd ht (fun h => kt h H locs ls hP hS hl) (fun h => kf h H locs ls hP hS hl)
theorem ws_if_ne {G : xG} {Z : xZ} {B : xB} {own : String} {cc : ByteArray} {nL d : Nat} {σ : xM} {lv : List (Nat × Value)} {pc : Nat} {st : List Value} {x : Int32} {off : Int} {tgt : Nat} (C : xC G Z B own cc nL d) (hd : decode cc pc = .ok (.ifCond .ne off, 3)) (ht : (pc : Int) + off = (tgt : Int)) (kt : ¬ x = 0 → xWS G B nL σ lv tgt st) (kf : x = 0 → xWS G B nL σ lv (pc + 3) st) : xWS G B nL σ lv pc (.int x :: st) :=
  fun H locs ls hP hS hl => lv_if_ne C.1 C.2.1 hd ht (fun h => kt h H locs ls hP hS hl) (fun h => kf h H locs ls hP hS hl)
theorem ws_if_lt {G : xG} {Z : xZ} {B : xB} {own : String} {cc : ByteArray} {nL d : Nat} {σ : xM} {lv : List (Nat × Value)} {pc : Nat} {st : List Value} {x : Int32} {off : Int} {tgt : Nat} (C : xC G Z B own cc nL d) (hd : decode cc pc = .ok (.ifCond .lt off, 3)) (ht : (pc : Int) + off = (tgt : Int)) (kt : x < 0 → xWS G B nL σ lv tgt st) (kf : ¬ x < 0 → xWS G B nL σ lv (pc + 3) st) : xWS G B nL σ lv pc (.int x :: st) :=
  fun H locs ls hP hS hl => lv_if_lt C.1 C.2.1 hd ht (fun h => kt h H locs ls hP hS hl) (fun h => kf h H locs ls hP hS hl)
theorem ws_if_ge {G : xG} {Z : xZ} {B : xB} {own : String} {cc : ByteArray} {nL d : Nat} {σ : xM} {lv : List (Nat × Value)} {pc : Nat} {st : List Value} {x : Int32} {off : Int} {tgt : Nat} (C : xC G Z B own cc nL d) (hd : decode cc pc = .ok (.ifCond .ge off, 3)) (ht : (pc : Int) + off = (tgt : Int)) (kt : 0 ≤ x → xWS G B nL σ lv tgt st) (kf : ¬ 0 ≤ x → xWS G B nL σ lv (pc + 3) st) : xWS G B nL σ lv pc (.int x :: st) :=
  fun H locs ls hP hS hl => lv_if_ge C.1 C.2.1 hd ht (fun h => kt h H locs ls hP hS hl) (fun h => kf h H locs ls hP hS hl)
theorem ws_if_gt {G : xG} {Z : xZ} {B : xB} {own : String} {cc : ByteArray} {nL d : Nat} {σ : xM} {lv : List (Nat × Value)} {pc : Nat} {st : List Value} {x : Int32} {off : Int} {tgt : Nat} (C : xC G Z B own cc nL d) (hd : decode cc pc = .ok (.ifCond .gt off, 3)) (ht : (pc : Int) + off = (tgt : Int)) (kt : 0 < x → xWS G B nL σ lv tgt st) (kf : ¬ 0 < x → xWS G B nL σ lv (pc + 3) st) : xWS G B nL σ lv pc (.int x :: st) :=
  fun H locs ls hP hS hl => lv_if_gt C.1 C.2.1 hd ht (fun h => kt h H locs ls hP hS hl) (fun h => kf h H locs ls hP hS hl)
theorem ws_if_le {G : xG} {Z : xZ} {B : xB} {own : String} {cc : ByteArray} {nL d : Nat} {σ : xM} {lv : List (Nat × Value)} {pc : Nat} {st : List Value} {x : Int32} {off : Int} {tgt : Nat} (C : xC G Z B own cc nL d) (hd : decode cc pc = .ok (.ifCond .le off, 3)) (ht : (pc : Int) + off = (tgt : Int)) (kt : x ≤ 0 → xWS G B nL σ lv tgt st) (kf : ¬ x ≤ 0 → xWS G B nL σ lv (pc + 3) st) : xWS G B nL σ lv pc (.int x :: st) :=
  fun H locs ls hP hS hl => lv_if_le C.1 C.2.1 hd ht (fun h => kt h H locs ls hP hS hl) (fun h => kf h H locs ls hP hS hl)
theorem ws_icmp_eq {G : xG} {Z : xZ} {B : xB} {own : String} {cc : ByteArray} {nL d : Nat} {σ : xM} {lv : List (Nat × Value)} {pc : Nat} {st : List Value} {x y : Int32} {off : Int} {tgt : Nat} (C : xC G Z B own cc nL d) (hd : decode cc pc = .ok (.if_icmp .eq off, 3)) (ht : (pc : Int) + off = (tgt : Int)) (kt : x = y → xWS G B nL σ lv tgt st) (kf : ¬ x = y → xWS G B nL σ lv (pc + 3) st) : xWS G B nL σ lv pc (.int y :: .int x :: st) :=
  fun H locs ls hP hS hl => lv_icmp_eq C.1 C.2.1 hd ht (fun h => kt h H locs ls hP hS hl) (fun h => kf h H locs ls hP hS hl)
theorem ws_icmp_ne {G : xG} {Z : xZ} {B : xB} {own : String} {cc : ByteArray} {nL d : Nat} {σ : xM} {lv : List (Nat × Value)} {pc : Nat} {st : List Value} {x y : Int32} {off : Int} {tgt : Nat} (C : xC G Z B own cc nL d) (hd : decode cc pc = .ok (.if_icmp .ne off, 3)) (ht : (pc : Int) + off = (tgt : Int)) (kt : ¬ x = y → xWS G B nL σ lv tgt st) (kf : x = y → xWS G B nL σ lv (pc + 3) st) : xWS G B nL σ lv pc (.int y :: .int x :: st) :=
  fun H locs ls hP hS hl => lv_icmp_ne C.1 C.2.1 hd ht (fun h => kt h H locs ls hP hS hl) (fun h => kf h H locs ls hP hS hl)
theorem ws_icmp_lt {G : xG} {Z : xZ} {B : xB} {own : String} {cc : ByteArray} {nL d : Nat} {σ : xM} {lv : List (Nat × Value)} {pc : Nat} {st : List Value} {x y : Int32} {off : Int} {tgt : Nat} (C : xC G Z B own cc nL d) (hd : decode cc pc = .ok (.if_icmp .lt off, 3)) (ht : (pc : Int) + off = (tgt : Int)) (kt : x < y → xWS G B nL σ lv tgt st) (kf : ¬ x < y → xWS G B nL σ lv (pc + 3) st) : xWS G B nL σ lv pc (.int y :: .int x :: st) :=
  fun H locs ls hP hS hl => lv_icmp_lt C.1 C.2.1 hd ht (fun h => kt h H locs ls hP hS hl) (fun h => kf h H locs ls hP hS hl)
theorem ws_icmp_ge {G : xG} {Z : xZ} {B : xB} {own : String} {cc : ByteArray} {nL d : Nat} {σ : xM} {lv : List (Nat × Value)} {pc : Nat} {st : List Value} {x y : Int32} {off : Int} {tgt : Nat} (C : xC G Z B own cc nL d) (hd : decode cc pc = .ok (.if_icmp .ge off, 3)) (ht : (pc : Int) + off = (tgt : Int)) (kt : y ≤ x → xWS G B nL σ lv tgt st) (kf : ¬ y ≤ x → xWS G B nL σ lv (pc + 3) st) : xWS G B nL σ lv pc (.int y :: .int x :: st) :=
  fun H locs ls hP hS hl => lv_icmp_ge C.1 C.2.1 hd ht (fun h => kt h H locs ls hP hS hl) (fun h => kf h H locs ls hP hS hl)
theorem ws_icmp_gt {G : xG} {Z : xZ} {B : xB} {own : String} {cc : ByteArray} {nL d : Nat} {σ : xM} {lv : List (Nat × Value)} {pc : Nat} {st : List Value} {x y : Int32} {off : Int} {tgt : Nat} (C : xC G Z B own cc nL d) (hd : decode cc pc = .ok (.if_icmp .gt off, 3)) (ht : (pc : Int) + off = (tgt : Int)) (kt : y < x → xWS G B nL σ lv tgt st) (kf : ¬ y < x → xWS G B nL σ lv (pc + 3) st) : xWS G B nL σ lv pc (.int y :: .int x :: st) :=
  fun H locs ls hP hS hl => lv_icmp_gt C.1 C.2.1 hd ht (fun h => kt h H locs ls hP hS hl) (fun h => kf h H locs ls hP hS hl)
theorem ws_icmp_le {G : xG} {Z : xZ} {B : xB} {own : String} {cc : ByteArray} {nL d : Nat} {σ : xM} {lv : List (Nat × Value)} {pc : Nat} {st : List Value} {x y : Int32} {off : Int} {tgt : Nat} (C : xC G Z B own cc nL d) (hd : decode cc pc = .ok (.if_icmp .le off, 3)) (ht : (pc : Int) + off = (tgt : Int)) (kt : x ≤ y → xWS G B nL σ lv tgt st) (kf : ¬ x ≤ y → xWS G B nL σ lv (pc + 3) st) : xWS G B nL σ lv pc (.int y :: .int x :: st) :=
  fun H locs ls hP hS hl => lv_icmp_le C.1 C.2.1 hd ht (fun h => kt h H locs ls hP hS hl) (fun h => kf h H locs ls hP hS hl)
theorem ws_goto {G : xG} {Z : xZ} {B : xB} {own : String} {cc : ByteArray} {nL d : Nat} {σ : xM} {lv : List (Nat × Value)} {pc : Nat} {st : List Value} {off : Int} {tgt : Nat} (C : xC G Z B own cc nL d) (hd : decode cc pc = .ok (.goto off, 3)) (ht : (pc : Int) + off = (tgt : Int)) (k : xWS G B nL σ lv tgt st) : xWS G B nL σ lv pc st :=
  fun H locs ls hP hS hl => lv_goto C.1 C.2.1 hd ht (k H locs ls hP hS hl)
theorem ws_tableIn {G : xG} {Z : xZ} {B : xB} {own : String} {cc : ByteArray} {nL d : Nat} {σ : xM} {lv : List (Nat × Value)} {pc : Nat} {st : List Value} {dflt lo hi : Int} {offs : Array Int} {len : Nat} {x : Int32} {off : Int} {tgt : Nat} (C : xC G Z B own cc nL d) (hd : decode cc pc = .ok (.tableswitch dflt lo hi offs, len)) (h1 : ¬ x.toInt < lo) (h2 : ¬ hi < x.toInt) (ho : offs[(x.toInt - lo).toNat]? = some off) (ht : (pc : Int) + off = (tgt : Int)) (k : xWS G B nL σ lv tgt st) : xWS G B nL σ lv pc (.int x :: st) :=
  fun H locs ls hP hS hl => lv_tableIn C.1 C.2.1 hd h1 h2 ho ht (k H locs ls hP hS hl)
theorem ws_tableOut {G : xG} {Z : xZ} {B : xB} {own : String} {cc : ByteArray} {nL d : Nat} {σ : xM} {lv : List (Nat × Value)} {pc : Nat} {st : List Value} {dflt lo hi : Int} {offs : Array Int} {len : Nat} {x : Int32} {tgt : Nat} (C : xC G Z B own cc nL d) (hd : decode cc pc = .ok (.tableswitch dflt lo hi offs, len)) (h : x.toInt < lo ∨ hi < x.toInt) (ht : (pc : Int) + dflt = (tgt : Int)) (k : xWS G B nL σ lv tgt st) : xWS G B nL σ lv pc (.int x :: st) :=
  fun H locs ls hP hS hl => lv_tableOut C.1 C.2.1 hd h ht (k H locs ls hP hS hl)
theorem ws_lookup {G : xG} {Z : xZ} {B : xB} {own : String} {cc : ByteArray} {nL d : Nat} {σ : xM} {lv : List (Nat × Value)} {pc : Nat} {st : List Value} {dflt : Int} {ps : Array (Int × Int)} {len : Nat} {x : Int32} {off : Int} {tgt : Nat} (C : xC G Z B own cc nL d) (hd : decode cc pc = .ok (.lookupswitch dflt ps, len)) (hp : (ps.toList.zip (ps.toList.drop 1)).all (fun (a, next) => a.1 < next.1) = true) (ho : Op.lookupswitch.offset ps.toList dflt x.toInt = off) (ht : (pc : Int) + off = (tgt : Int)) (k : xWS G B nL σ lv tgt st) : xWS G B nL σ lv pc (.int x :: st) :=
  fun H locs ls hP hS hl => lv_lookup C.1 C.2.1 hd hp ho ht (k H locs ls hP hS hl)
theorem ws_ldc {G : xG} {Z : xZ} {B : xB} {own : String} {cc : ByteArray} {nL d : Nat} {σ : xM} {lv : List (Nat × Value)} {pc : Nat} {st : List Value} {index : Nat} {v : Int32} (C : xC G Z B own cc nL d) (hd : decode cc pc = .ok (.ldc index, 2)) (hw : Cond.constant own index v ∈ xTB) (k : xWS G B nL σ lv (pc + 2) (.int v :: st)) : xWS G B nL σ lv pc st :=
  fun H locs ls hP hS hl => lv_ldc C.1 C.2.1 C.2.2.2.1 (C.2.2.2.2.1 _ hw) hd (k H locs ls hP hS hl)
theorem ws_ldcw {G : xG} {Z : xZ} {B : xB} {own : String} {cc : ByteArray} {nL d : Nat} {σ : xM} {lv : List (Nat × Value)} {pc : Nat} {st : List Value} {index : Nat} {v : Int32} (C : xC G Z B own cc nL d) (hd : decode cc pc = .ok (.ldc_w index, 3)) (hw : Cond.constant own index v ∈ xTB) (k : xWS G B nL σ lv (pc + 3) (.int v :: st)) : xWS G B nL σ lv pc st :=
  fun H locs ls hP hS hl => lv_ldcw C.1 C.2.1 C.2.2.2.1 (C.2.2.2.2.1 _ hw) hd (k H locs ls hP hS hl)
theorem ws_ldc2 {G : xG} {Z : xZ} {B : xB} {own : String} {cc : ByteArray} {nL d : Nat} {σ : xM} {lv : List (Nat × Value)} {pc : Nat} {st : List Value} {index : Nat} {v : Int64} (C : xC G Z B own cc nL d) (hd : decode cc pc = .ok (.ldc2_w index, 3)) (hw : Cond.constantLong own index v ∈ xTB) (k : xWS G B nL σ lv (pc + 3) (.long v :: st)) : xWS G B nL σ lv pc st :=
  fun H locs ls hP hS hl => lv_ldc2 C.1 C.2.1 C.2.2.2.1 (C.2.2.2.2.1 _ hw) hd (k H locs ls hP hS hl)
theorem ws_ldcS {G : xG} {Z : xZ} {B : xB} {own : String} {cc : ByteArray} {nL d : Nat} {σ : xM} {lv : List (Nat × Value)} {pc : Nat} {st : List Value} {index i : Nat} {tx : String} (C : xC G Z B own cc nL d) (hd : decode cc pc = .ok (.ldc index, 2)) (hi : xSn[i]? = some (own, index, tx)) (k : xWS G B nL σ lv (pc + 2) (.ref (Z.1 i) :: st)) : xWS G B nL σ lv pc st :=
  fun H locs ls hP hS hl => va_ldcS C.1 C.2.1 C.2.2.2.1 (C.2.2.2.2.2.2.2.2.1.2.1 i _ hi) hd (k H locs ls hP hS hl)
/-- less of the locals -/
theorem ws_sub {G : xG} {Z : xZ} {B : xB} {own : String} {cc : ByteArray} {nL d : Nat} {σ : xM} {lv : List (Nat × Value)} {pc : Nat} {st : List Value} {lv2 : List (Nat × Value)} (ks : List Nat) (h : lv_pick lv ks = lv2) (k : xWS G B nL σ lv2 pc st) : xWS G B nL σ lv pc st :=
  fun H locs ls hP hS hl => k H locs ls hP hS (lv_sub hl ks h)
/-- a field of a kind of objects, and the word that links it -/
def xFd (own : String) (index ci k : Nat) : Prop := ∃ (C1 : String) (T : u_T) (N : Nat), vwCl[ci]? = some (C1, T, N) ∧ (∀ w ∈ u_ws C1 T N, w ∈ xTB) ∧ k < N ∧ Cond.fieldLink own index (T k).1 (T k).2.1 (T k).2.2.1 ∈ xTB
/-- one that may be written, of a type -/
def xFp (own : String) (index ci k : Nat) (ty : FieldType) : Prop := ∃ (C1 : String) (T : u_T) (N : Nat) (ty0 : Nat → FieldType), vwCl[ci]? = some (C1, T, N) ∧ (∀ w ∈ u_ws C1 T N, w ∈ xTB) ∧ k < N ∧ Cond.fieldLink own index (T k).1 (T k).2.1 (T k).2.2.1 ∈ xTB ∧
  (∀ k, k < N → parseFieldDescriptor (T k).2.2.1 = some (ty0 k)) ∧ (∀ a, a < N → ∀ b, b < N → a ≠ b → (T a).2.1 ≠ (T b).2.1) ∧ (T k).2.2.2 = false ∧ parseFieldDescriptor (T k).2.2.1 = some ty
/-- a cell's field, by the shape -/
def xSf (L : Nat → xSh) (N c ci k : Nat) (f : Option Nat ⊕ Nat) : Prop := c < N ∧ ∃ fl, L c = .inr (ci, fl) ∧ fl[k]? = some f
/-- a cell that is a row, by the shape -/
def xSr (L : Nat → xSh) (N c t n : Nat) : Prop := c < N ∧ ∃ ch, L c = .inl (t, n, ch)
def xSq (L : Nat → xSh) (N c t n : Nat) (r : Nat → Nat) : Prop := c < N ∧ ∃ ch, L c = .inl (t, n, ch) ∧ ∀ j, j < n → ch[j]? = some (some (r j))
theorem xct_o {L : Nat → xSh} {ad : Nat → Nat} {cA : Nat → ClassId} {s : xM} {c ci : Nat} {fl : List (Option Nat ⊕ Nat)} (h : L c = .inr (ci, fl)) : xct L ad cA s c = .inr (ci, fl.mapIdx (xfv ad s c)) := by unfold xct; rw [h]
theorem xct_r {L : Nat → xSh} {ad : Nat → Nat} {cA : Nat → ClassId} {s : xM} {c t n : Nat} {ch : List (Option Nat)} (h : L c = .inl (t, n, ch)) : xct L ad cA s c = .inl (cA t, n, if t = 1 then .inr (.inl (s.2 c)) else if t < 3 then .inl (s.1 c) else .inr (.inr (.inr (.inr fun k => (ch.getD k none).map ad)))) := by unfold xct; rw [h]
theorem xfv_at {ad : Nat → Nat} {s : xM} {c k : Nat} {fl : List (Option Nat ⊕ Nat)} {f : Option Nat ⊕ Nat} (h : fl[k]? = some f) : (fl.mapIdx (xfv ad s c))[k]? = some (xfv ad s c k f) := by rw [List.getElem?_mapIdx, h]; rfl
theorem si_upd {σ : xM} {c i : Nat} {v : Int32} : (si σ c i v).1 c = upd (σ.1 c) i v := by
  funext j
  show (if c = c ∧ j = i then v else σ.1 c j) = if j = i then v else σ.1 c j
  simp
theorem sl_upd {σ : xM} {c i : Nat} {v : Int64} : (sl σ c i v).2 c = vp_updL (σ.2 c) i v := by
  funext j
  show (if c = c ∧ j = i then v else σ.2 c j) = if j = i then v else σ.2 c j
  simp
theorem si_oth {σ : xM} {c i : Nat} {v : Int32} : ∀ c', c' ≠ c → (si σ c i v).1 c' = σ.1 c' ∧ (si σ c i v).2 c' = σ.2 c' := fun c' hc => ⟨by funext j; show gi (si σ c i v) c' j = gi σ c' j; rw [gi_si, if_neg (fun h => hc h.1)], rfl⟩
theorem sl_oth {σ : xM} {c i : Nat} {v : Int64} : ∀ c', c' ≠ c → (sl σ c i v).1 c' = σ.1 c' ∧ (sl σ c i v).2 c' = σ.2 c' := fun c' hc => ⟨rfl, by funext j; show gl (sl σ c i v) c' j = gl σ c' j; rw [gl_sl, if_neg (fun h => hc h.1)]⟩
theorem ws_get {G : xG} {Z : xZ} {B : xB} {own : String} {cc : ByteArray} {nL d : Nat} {σ : xM} {lv : List (Nat × Value)} {pc : Nat} {st : List Value} {index c ci k : Nat} {f : Option Nat ⊕ Nat} {v : Value} (C : xC G Z B own cc nL d) (hd : decode cc pc = .ok (.getfield index, 3)) (hF : xFd own index ci k) (hs : xSf G.1 G.2.1 c ci k f) (hv : xfv G.2.2.1 σ c k f = v) (kk : xWS G B nL σ lv (pc + 3) (v :: st)) : xWS G B nL σ lv pc (.ref (G.2.2.1 c) :: st) := by
  obtain ⟨C1, T, N, h1, h2, h3, h4⟩ := hF
  obtain ⟨h5, fl, h6, h7⟩ := hs
  subst hv
  intro H locs ls hP hS hl
  exact va_get C.1 C.2.1 (C.2.2.2.2.1) h2 C.2.2.2.1 C.2.2.2.2.2.2.1 hP c (by rw [xW_get h5, xct_o h6]) h1 k h3 (C.2.2.2.2.1 _ h4) (fun _ h => h) (xfv_at h7) hd (kk H locs ls hP hS hl)
theorem ws_puti {G : xG} {Z : xZ} {B : xB} {own : String} {cc : ByteArray} {nL d : Nat} {σ : xM} {lv : List (Nat × Value)} {pc : Nat} {st : List Value} {index c ci k : Nat} {ty : FieldType} {v : Int32} (C : xC G Z B own cc nL d) (hd : decode cc pc = .ok (.putfield index, 3)) (hF : xFp own index ci k ty) (hs : xSf G.1 G.2.1 c ci k (.inr 0)) (hn : narrow ty (.int v) = .int v) (hfit : fits ty (.int v) = true) (kk : xWS G B nL (si σ c k v) lv (pc + 3) st) : xWS G B nL σ lv pc (.int v :: .ref (G.2.2.1 c) :: st) := by
  obtain ⟨C1, T, N, ty0, h1, h2, h3, h4, a1, a2, a3, a4⟩ := hF
  obtain ⟨h5, fl, h6, h7⟩ := hs
  intro H locs ls hP hS hl
  refine va_put C.1 C.2.1 C.2.2.2.2.1 h2 ty0 a1 a2 C.2.2.2.1 C.2.2.2.2.2.2.1 hP (xC_D C) hS c (by rw [xW_get h5, xct_o h6]) h1 k h3 (C.2.2.2.2.1 _ h4) (fun _ h => h) a3 a4 hn hfit (by rw [List.length_mapIdx]; exact (List.getElem?_eq_some_iff.mp h7).1) hd (fun H1 locs1 hP1 _ hS1 => ?_)
  rw [xfv_set h7, xW_set (s := σ) (s' := si σ c k v) h5 si_oth (xct_o h6)] at hP1
  exact kk H1 locs1 ls hP1 hS1 hl
theorem ws_putl {G : xG} {Z : xZ} {B : xB} {own : String} {cc : ByteArray} {nL d : Nat} {σ : xM} {lv : List (Nat × Value)} {pc : Nat} {st : List Value} {index c ci k : Nat} {v : Int64} (C : xC G Z B own cc nL d) (hd : decode cc pc = .ok (.putfield index, 3)) (hF : xFp own index ci k .long) (hs : xSf G.1 G.2.1 c ci k (.inr 1)) (kk : xWS G B nL (sl σ c k v) lv (pc + 3) st) : xWS G B nL σ lv pc (.long v :: .ref (G.2.2.1 c) :: st) := by
  obtain ⟨C1, T, N, ty0, h1, h2, h3, h4, a1, a2, a3, a4⟩ := hF
  obtain ⟨h5, fl, h6, h7⟩ := hs
  intro H locs ls hP hS hl
  refine va_put C.1 C.2.1 C.2.2.2.2.1 h2 ty0 a1 a2 C.2.2.2.1 C.2.2.2.2.2.2.1 hP (xC_D C) hS c (by rw [xW_get h5, xct_o h6]) h1 k h3 (C.2.2.2.2.1 _ h4) (fun _ h => h) a3 a4 rfl rfl (by rw [List.length_mapIdx]; exact (List.getElem?_eq_some_iff.mp h7).1) hd (fun H1 locs1 hP1 _ hS1 => ?_)
  rw [xfv_setL h7, xW_set (s := σ) (s' := sl σ c k v) h5 sl_oth (xct_o h6)] at hP1
  exact kk H1 locs1 ls hP1 hS1 hl
theorem ws_iald {G : xG} {Z : xZ} {B : xB} {own : String} {cc : ByteArray} {nL d : Nat} {σ : xM} {lv : List (Nat × Value)} {pc : Nat} {st : List Value} {c n : Nat} {i : Int32} (C : xC G Z B own cc nL d) (hd : decode cc pc = .ok (.iaload, 1)) (hs : xSr G.1 G.2.1 c 0 n) (hi : inb i n = true) (kk : xWS G B nL σ lv (pc + 1) (.int (gi σ c i.toNatClampNeg) :: st)) : xWS G B nL σ lv pc (.int i :: .ref (G.2.2.1 c) :: st) := by
  obtain ⟨h5, ch, h6⟩ := hs
  intro H locs ls hP hS hl
  exact va_iald (f := σ.1 c) C.1 C.2.1 C.2.2.2.2.2.2.1 hP c 0 (by rw [xW_get h5, xct_r h6]; rfl) (xT_get (by decide)) (inb_in hi) hd (kk H locs ls hP hS hl)
theorem ws_lald {G : xG} {Z : xZ} {B : xB} {own : String} {cc : ByteArray} {nL d : Nat} {σ : xM} {lv : List (Nat × Value)} {pc : Nat} {st : List Value} {c n : Nat} {i : Int32} (C : xC G Z B own cc nL d) (hd : decode cc pc = .ok (.laload, 1)) (hs : xSr G.1 G.2.1 c 1 n) (hi : inb i n = true) (kk : xWS G B nL σ lv (pc + 1) (.long (gl σ c i.toNatClampNeg) :: st)) : xWS G B nL σ lv pc (.int i :: .ref (G.2.2.1 c) :: st) := by
  obtain ⟨h5, ch, h6⟩ := hs
  intro H locs ls hP hS hl
  exact va_lald (f := σ.2 c) C.1 C.2.1 C.2.2.2.2.2.2.1 hP c 1 (by rw [xW_get h5, xct_r h6]; rfl) (xT_get (by decide)) (inb_in hi) hd (kk H locs ls hP hS hl)
theorem ws_zald {G : xG} {Z : xZ} {B : xB} {own : String} {cc : ByteArray} {nL d : Nat} {σ : xM} {lv : List (Nat × Value)} {pc : Nat} {st : List Value} {c n : Nat} {i : Int32} (C : xC G Z B own cc nL d) (hd : decode cc pc = .ok (.baload, 1)) (hs : xSr G.1 G.2.1 c 2 n) (hi : inb i n = true) (kk : xWS G B nL σ lv (pc + 1) (.int (gi σ c i.toNatClampNeg) :: st)) : xWS G B nL σ lv pc (.int i :: .ref (G.2.2.1 c) :: st) := by
  obtain ⟨h5, ch, h6⟩ := hs
  intro H locs ls hP hS hl
  exact va_zald (f := σ.1 c) C.1 C.2.1 C.2.2.2.2.2.2.1 hP c 2 (by rw [xW_get h5, xct_r h6]; rfl) (xT_get (by decide)) (inb_in hi) hd (kk H locs ls hP hS hl)
theorem ws_iast {G : xG} {Z : xZ} {B : xB} {own : String} {cc : ByteArray} {nL d : Nat} {σ : xM} {lv : List (Nat × Value)} {pc : Nat} {st : List Value} {c n : Nat} {i x : Int32} (C : xC G Z B own cc nL d) (hd : decode cc pc = .ok (.iastore, 1)) (hs : xSr G.1 G.2.1 c 0 n) (hi : inb i n = true) (kk : xWS G B nL (si σ c i.toNatClampNeg x) lv (pc + 1) st) : xWS G B nL σ lv pc (.int x :: .int i :: .ref (G.2.2.1 c) :: st) := by
  obtain ⟨h5, ch, h6⟩ := hs
  intro H locs ls hP hS hl
  refine va_iast (f := σ.1 c) C.1 C.2.1 C.2.2.2.2.2.2.1 hP (xC_D C) hS c 0 (by rw [xW_get h5, xct_r h6]; rfl) (xT_get (by decide)) (inb_in hi) hd (fun H1 locs1 hP1 _ hS1 => ?_)
  rw [xW_set (s' := si σ c i.toNatClampNeg x) h5 si_oth (by rw [xct_r h6, si_upd]; rfl)] at hP1
  exact kk H1 locs1 ls hP1 hS1 hl
theorem ws_last {G : xG} {Z : xZ} {B : xB} {own : String} {cc : ByteArray} {nL d : Nat} {σ : xM} {lv : List (Nat × Value)} {pc : Nat} {st : List Value} {c n : Nat} {i : Int32} {x : Int64} (C : xC G Z B own cc nL d) (hd : decode cc pc = .ok (.lastore, 1)) (hs : xSr G.1 G.2.1 c 1 n) (hi : inb i n = true) (kk : xWS G B nL (sl σ c i.toNatClampNeg x) lv (pc + 1) st) : xWS G B nL σ lv pc (.long x :: .int i :: .ref (G.2.2.1 c) :: st) := by
  obtain ⟨h5, ch, h6⟩ := hs
  intro H locs ls hP hS hl
  refine va_last (f := σ.2 c) C.1 C.2.1 C.2.2.2.2.2.2.1 hP (xC_D C) hS c 1 (by rw [xW_get h5, xct_r h6]; rfl) (xT_get (by decide)) (inb_in hi) hd (fun H1 locs1 hP1 _ hS1 => ?_)
  rw [xW_set (s' := sl σ c i.toNatClampNeg x) h5 sl_oth (by rw [xct_r h6, sl_upd]; rfl)] at hP1
  exact kk H1 locs1 ls hP1 hS1 hl
theorem ws_zast {G : xG} {Z : xZ} {B : xB} {own : String} {cc : ByteArray} {nL d : Nat} {σ : xM} {lv : List (Nat × Value)} {pc : Nat} {st : List Value} {c n : Nat} {i x : Int32} (C : xC G Z B own cc nL d) (hd : decode cc pc = .ok (.bastore, 1)) (hs : xSr G.1 G.2.1 c 2 n) (hi : inb i n = true) (kk : xWS G B nL (si σ c i.toNatClampNeg (vp_nar .boolean x)) lv (pc + 1) st) : xWS G B nL σ lv pc (.int x :: .int i :: .ref (G.2.2.1 c) :: st) := by
  obtain ⟨h5, ch, h6⟩ := hs
  intro H locs ls hP hS hl
  refine va_zast (f := σ.1 c) C.1 C.2.1 C.2.2.2.2.2.2.1 hP (xC_D C) hS c 2 (by rw [xW_get h5, xct_r h6]; rfl) (xT_get (by decide)) (inb_in hi) hd (fun H1 locs1 hP1 _ hS1 => ?_)
  rw [xW_set (s' := si σ c i.toNatClampNeg (vp_nar .boolean x)) h5 si_oth (by rw [xct_r h6, si_upd]; rfl)] at hP1
  exact kk H1 locs1 ls hP1 hS1 hl
theorem ws_aald {G : xG} {Z : xZ} {B : xB} {own : String} {cc : ByteArray} {nL d : Nat} {σ : xM} {lv : List (Nat × Value)} {pc : Nat} {st : List Value} {c t n : Nat} {i : Int32} {r : Nat → Nat} (C : xC G Z B own cc nL d) (hd : decode cc pc = .ok (.aaload, 1)) (ht : 3 ≤ t ∧ t < 8) (hs : xSq G.1 G.2.1 c t n r) (hi : inb i n = true) (kk : xWS G B nL σ lv (pc + 1) (.ref (G.2.2.1 (r i.toNatClampNeg)) :: st)) : xWS G B nL σ lv pc (.int i :: .ref (G.2.2.1 c) :: st) := by
  obtain ⟨h5, ch, h6, h7⟩ := hs
  intro H locs ls hP hS hl
  have e : xct G.1 G.2.2.1 G.2.2.2.1 σ c = .inl (G.2.2.2.1 t, n, .inr (.inr (.inr (.inr fun k => (ch.getD k none).map G.2.2.1)))) := by
    rw [xct_r h6, if_neg (by omega), if_neg (by omega)]
  have hlt := inb_lt hi
  have hv : (ch.getD i.toNatClampNeg none).map G.2.2.1 = some (G.2.2.1 (r i.toNatClampNeg)) := by
    rw [List.getD_eq_getElem?_getD, h7 _ hlt]
    rfl
  have hcell : H[G.2.2.1 c]? = some (vp_cell (G.2.2.2.1 t) (n, .inr (.inr (.inr (.inr fun k => (ch.getD k none).map G.2.2.1))))) := hP c (G.2.2.1 c, .inl (G.2.2.2.1 t, n, .inr (.inr (.inr (.inr fun k => (ch.getD k none).map G.2.2.1))))) (by rw [xW_get h5, e])
  have hrefty : (xty t).isReference = true := by
    rcases ht with ⟨h3, h8⟩
    have : t = 3 ∨ t = 4 ∨ t = 5 ∨ t = 6 ∨ t = 7 := by omega
    rcases this with rfl | rfl | rfl | rfl | rfl <;> rfl
  refine W.aald (v := .ref (G.2.2.1 (r i.toNatClampNeg))) (ty := xty t) C.1 C.2.1 hcell ((C.2.2.2.2.2.2.1.2 t _ (xT_get ht.2)).1 n (fun j => va_rf ((ch.getD j none).map G.2.2.1))) hrefty (fun q => by cases q) (by show ¬ (i < 0 ∨ (arrV _ _ _).slots.size ≤ _); rw [arrV_size]; exact inb_in hi) (by show (arrV _ _ _).slots[_]? = _; rw [arrV_read _ _ hlt]; show some (va_rf ((ch.getD i.toNatClampNeg none).map G.2.2.1)) = _; rw [hv]; rfl) rfl rfl hd (kk H locs ls hP hS hl)
theorem ws_alen {G : xG} {Z : xZ} {B : xB} {own : String} {cc : ByteArray} {nL d : Nat} {σ : xM} {lv : List (Nat × Value)} {pc : Nat} {st : List Value} {c t n : Nat} {v : Int32} (C : xC G Z B own cc nL d) (hd : decode cc pc = .ok (.arraylength, 1)) (hs : xSr G.1 G.2.1 c t n) (ht : t < 8) (hv : Int32.ofNat n = v) (kk : xWS G B nL σ lv (pc + 1) (.int v :: st)) : xWS G B nL σ lv pc (.ref (G.2.2.1 c) :: st) := by
  obtain ⟨h5, ch, h6⟩ := hs
  intro H locs ls hP hS hl
  exact va_alen C.1 C.2.1 C.2.2.2.2.2.2.1 hP c t (by rw [xW_get h5, xct_r h6]) (xT_get ht) hv hd (kk H locs ls hP hS hl)

