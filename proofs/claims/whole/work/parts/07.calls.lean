/-! ===== contracts ===== -/
theorem xE_same {A : Nat → Prop} {Z : xZ} {u U : State} (h : xE A Z u) (hH : U.heap = u.heap) (hV : U.vm = u.vm) : xE A Z U := by
  have hv : u.vm.Alike U.vm := by rw [hV]; exact Vm.Alike.refl _
  obtain ⟨h1, h2, h3, h4, h5, h6, h7⟩ := h
  have hk : ∀ a : Nat, a < u.heap.size → ¬ A a → U.heap[a]? = u.heap[a]? := fun a _ _ => by rw [hH]
  refine ⟨(h1.moved hv).kept hk, fun i q hq => (h2 i q hq).same hV, fun i q hq => ⟨((h3 i q hq).1.moved hv).kept hk, ((h3 i q hq).2.moved hv).kept hk⟩, (h4.moved hv).kept hk, (h5.moved hv).kept hk, h6, fun w hw => ?_⟩
  have hn := h7 w hw
  have hf := (List.mem_filter.mp hw).2
  cases w <;> first | exact va_Nw.same rfl hV.symm hn | (simp at hf)
theorem xE.narrow {A A2 : Nat → Prop} {Z : xZ} {U : State} (h : xE A Z U) (hAB : ∀ q, A2 q → A q) : xE A2 Z U := by
  obtain ⟨h1, h2, h3, h4, h5, h6, h7⟩ := h
  exact ⟨h1.narrow hAB, h2, fun i q hq => ⟨(h3 i q hq).1.narrow hAB, (h3 i q hq).2.narrow hAB⟩, h4.narrow hAB, h5.narrow hAB, h6, h7⟩
def xPre (G : xG) (Z : xZ) (σ : xM) (U : State) : Prop := va_P G.2.2.2.2 vwCl (xW G σ) U.heap ∧ va_K G.2.2.2.2 vwCl (xT G.2.2.2.1) U ∧ xInj G ∧ xE (xA G) Z U
theorem xPre_blind {G : xG} {Z : xZ} {σ : xM} {av : List Value} : FrameBlind (va_Pc av (xPre G Z σ)) := by
  intro a U g mk q
  obtain ⟨q0, q1, q2, q3, q4⟩ := q
  exact ⟨q0, q1, va_K.moved (u := U) (U := U.calling g mk a) (Vm.Alike.refl U.vm) q2, q3, xE_same q4 rfl rfl⟩
def xQi (G : xG) (z : Int32 × xM) : Array Value → State → Outcome → State → Prop := va_Qi (fun (r : Int32) (u : xM) => r = z.1 ∧ u = z.2) (fun u t => va_P G.2.2.2.2 vwCl (xW G u) t.heap) (xA G)
def xQl (G : xG) (z : Int64 × xM) : Array Value → State → Outcome → State → Prop := va_Ql (fun (r : Int64) (u : xM) => r = z.1 ∧ u = z.2) (fun u t => va_P G.2.2.2.2 vwCl (xW G u) t.heap) (xA G)
def xQv (G : xG) (z : Int32 × xM) : Array Value → State → Outcome → State → Prop := va_Qv (fun (u : xM) => u = z.2) (fun u t => va_P G.2.2.2.2 vwCl (xW G u) t.heap) (xA G)
theorem xC_pre {G : xG} {Z : xZ} {B : xB} {own : String} {cc : ByteArray} {nL d : Nat} (C : xC G Z B own cc nL d) {σ : xM} {H : Heap} {locs : List Loc} (hP : va_P G.2.2.2.2 vwCl (xW G σ) H) (hS : va_S B.A B.s.heap H locs) (av : List Value) : ∀ U : State, U.heap = H → B.s.WarmedH U.vm → va_Pc av (xPre G Z σ) av.toArray U := fun U hU hW =>
  ⟨rfl, by rw [hU]; exact hP, va_K.moved hW.alike C.2.2.2.2.2.2.1, C.2.2.2.2.2.2.2.1, (xE_step C.2.2.2.2.2.2.2.2.1 hS hU hW).narrow C.2.2.2.2.2.2.2.2.2.2.2.1⟩
/-- what the words say of a method -/
def xMw (y : MethodName) (b : ByteArray) (nL : Nat) (rt : Option FieldType) (n : Nat) : Prop := Cond.code y b nL rt ∈ xTB ∧ Cond.initialized y.cls ∈ xTB ∧ (y.cls ≠ "java/lang/invoke/MethodHandle" ∧ y.cls ≠ "java/lang/invoke/VarHandle" ∧ (parseMethodDescriptor y.desc).map (fun d => d.parameters.length) = some n)
def xMwV (y : MethodName) : Prop := Cond.instanceMethod y ∈ xTB ∧ Cond.selects y.cls y y ∈ xTB
theorem xGood {y : MethodName} {b : ByteArray} {nL : Nat} {rt : Option FieldType} (h : Cond.code y b nL rt ∈ xTB) : GoodIn xTB (.code y b nL rt :: xTB) := fun w hw => by
  rcases List.mem_cons.mp hw with rfl | hw
  · exact xTB_good _ h
  · exact xTB_good _ hw
theorem xCallB {G : xG} {Z : xZ} {B : xB} {own : String} {cc : ByteArray} {nL d : Nat} (C : xC G Z B own cc nL d) {y : MethodName} {b : ByteArray} {nL2 d2 n idx : Nat} {rt : Option FieldType} (hw : xMw y b nL2 rt n) (hl : Cond.methodLink own idx y ∈ xTB) (hr : d2 + 1 ≤ d ∧ 8 + (nL2 + 11) + 40 * d2 ≤ 40 * d) : CallB B.R B.s B.a own idx y b nL2 rt (.code y b nL2 rt :: xTB) (xRm d2) 0 0 n :=
  callB_of n C.2.2.2.2.1 (xGood hw.1) rfl rfl rfl (C.2.2.2.2.1 _ hw.2.1) (C.2.2.2.2.1 _ hl) hw.2.2 ⟨Nat.le_trans hr.1 C.2.2.2.2.2.2.2.2.2.1, Nat.le_trans hr.2 C.2.2.2.2.2.2.2.2.2.2.1⟩
theorem xCallN {G : xG} {Z : xZ} {B : xB} {own : String} {cc : ByteArray} {nL d : Nat} (C : xC G Z B own cc nL d) {y : MethodName} {b : ByteArray} {nL2 d2 n idx : Nat} {host : String} {rt : Option FieldType} (hw : xMw y b nL2 rt n) (hl : Cond.methodLinkNest own idx y host ∈ xNw) (hr : d2 + 1 ≤ d ∧ 8 + (nL2 + 11) + 40 * d2 ≤ 40 * d) : va_CN B.R B.s B.a own idx y host b nL2 rt (.code y b nL2 rt :: xTB) (xRm d2) 0 0 n :=
  va_cnB n C.2.2.2.2.1 (xGood hw.1) rfl rfl rfl (C.2.2.2.2.2.2.2.2.1.2.2.2.2.2.2 _ hl) (C.2.2.2.2.1 _ hw.2.1) hw.2.2 ⟨Nat.le_trans hr.1 C.2.2.2.2.2.2.2.2.2.1, Nat.le_trans hr.2 C.2.2.2.2.2.2.2.2.2.2.1⟩
theorem xCallFix {G : xG} {Z : xZ} {B : xB} {own : String} {cc : ByteArray} {nL d : Nat} (C : xC G Z B own cc nL d) : CallFix B.p B.m B.c cc nL B.s B.a xTB own := ⟨C.1, C.2.1, C.2.2.1, C.2.2.2.1, C.2.2.2.2.1⟩
/-- an object of a kind, by the shape -/
def xSo (L : Nat → xSh) (N c : Nat) (nm : String) : Prop := c < N ∧ ∃ ci fl T n, L c = .inr (ci, fl) ∧ vwCl[ci]? = some (nm, T, n)
theorem xSo_recv {G : xG} {Z : xZ} {B : xB} {own : String} {cc : ByteArray} {nL d : Nat} (C : xC G Z B own cc nL d) {σ : xM} {H : Heap} (hP : va_P G.2.2.2.2 vwCl (xW G σ) H) {c : Nat} {nm : String} (h : xSo G.1 G.2.1 c nm) : ∃ cell : Cell, H[G.2.2.1 c]? = some cell ∧ cell.vm.isStatics = false ∧ B.s.vm.findClass nm = some cell.cls := by
  obtain ⟨h1, ci, fl, T, n, h2, h3⟩ := h
  exact va_recv C.2.2.2.2.2.2.1 hP h3 (q0 := c) (by rw [xW_get h1, xct_o h2])

def xMi (G : xG) (Z : xZ) (y : MethodName) (b : ByteArray) (nL d : Nat) (rt : FieldType) (av : List Value) (σ : xM) (z : Int32 × xM) : Prop := ∀ l : Launch, Met l y (.code y b nL (some rt) :: xTB) (xRm d) (va_Pc av (xPre G Z σ)) (xQi G z) 0 0 (xA G)
def xRi (G : xG) (B : xB) (rt : FieldType) (z : Int32 × xM) : Prop := B.t.sig.returnType = (some rt) ∧ B.Q = MQ B.b (xQi G z) B.a B.s 0 0 (xA G) ∧ B.k = 0 ∧ B.n = 0 ∧ B.A = xA G
theorem xMi_of {G : xG} {Z : xZ} {y : MethodName} {b : ByteArray} {nL d : Nat} {rt : FieldType} {av : List Value} {σ : xM} {z : Int32 × xM} (hy : plainName y.cls = true) (hn : (lg_sl av).length ≤ nL) (body : ∀ B : xB, xC G Z B y.cls b nL d → xRi G B rt z → xWS G B nL σ (lv_args 0 av) 0 []) : xMi G Z y b nL d rt av σ z := by
  intro l
  refine Met.ofW (cc := b) (maxL := nL) (ret := (some rt)) hy rfl ?_
  intro p e s m args below meth c s₁ X hml hv
  obtain ⟨rfl, hP, hK, hI, hE⟩ := hv
  have hts := atoms_spec (ws := Cond.code y b nL (some rt) :: xTB) X.pre
  have hown : s.vm.findClass y.cls = some m.cls := findClass_of_methodNamed X.named
  rw [lg_entry_eq]
  exact body (p, l, e, xRm d, s, m, av.toArray, below, meth, c, MQ below (xQi G z) av.toArray s 0 0 (xA G), 0, 0, xA G) ⟨X.exec, X.bytes, hml, hown, fun w hw => hts w (List.mem_cons_of_mem _ hw), X.notSynchronized, hK, hI, hE, Nat.le_refl _, Nat.le_refl _, fun _ h => h, Nat.zero_le _, Nat.zero_le _⟩ ⟨X.returns, rfl, rfl, rfl, rfl⟩ s.heap [] _ hP va_S.rf (lv_entry av hn)
theorem ws_calliV {G : xG} {Z : xZ} {B : xB} {own : String} {cc : ByteArray} {nL d : Nat} {σ : xM} {lv : List (Nat × Value)} {pc : Nat} {st : List Value} {y : MethodName} {b : ByteArray} {nL2 d2 n idx c : Nat} {rt : FieldType} {As rest : List Value} {z : Int32 × xM} (C : xC G Z B own cc nL d) (hM : xMi G Z y b nL2 d2 rt (.ref (G.2.2.1 c) :: As) σ z) (hd : decode cc pc = .ok (.invokevirtual idx, 3)) (hw : xMw y b nL2 (some rt) n) (hv : xMwV y) (hl : Cond.methodLink own idx y ∈ xTB) (ho : xSo G.1 G.2.1 c y.cls) (hn : As.length = n) (hst : st = As.reverse ++ .ref (G.2.2.1 c) :: rest) (hcat : (rest.map fun v => v.category).sum ≤ 8) (hr : d2 + 1 ≤ d ∧ 8 + (nL2 + 11) + 40 * d2 ≤ 40 * d) (kk : xWS G B nL z.2 lv (pc + 3) (.int z.1 :: rest)) : xWS G B nL σ lv pc st := by
  intro H locs ls hP hS hl2
  subst hst
  refine va_calli (A1 := xA G) (A0 := B.A) (va_runV (As := As) (rest := rest) (b := G.2.2.1 c) (C := y.cls) (xCallFix C) (hM B.l) ⟨xCallB C hw hl hr, C.2.2.2.2.1 _ hv.1, C.2.2.2.2.1 _ hv.2⟩ ⟨xPre_blind, xSo_recv C hP ho, xC_pre C hP hS _⟩ rfl hn hl2.1 rfl (lv_room hcat) hd ⟨C.2.2.2.2.2.2.2.2.2.2.2.2.1, C.2.2.2.2.2.2.2.2.2.2.2.2.2⟩) hS (fun q _ h => C.2.2.2.2.2.2.2.2.2.2.2.1 q h) (fun q h => C.2.2.2.2.2.2.2.2.2.2.2.1 q h) (fun r u t H1 locs1 ht _ hp hB _ _ hS1 => ?_)
  obtain ⟨rfl, rfl⟩ := hp
  rw [ht] at hB
  exact kk H1 locs1 ls hB hS1 hl2
theorem ws_calliS {G : xG} {Z : xZ} {B : xB} {own : String} {cc : ByteArray} {nL d : Nat} {σ : xM} {lv : List (Nat × Value)} {pc : Nat} {st : List Value} {y : MethodName} {b : ByteArray} {nL2 d2 n idx : Nat} {rt : FieldType} {As rest : List Value} {z : Int32 × xM} (C : xC G Z B own cc nL d) (hM : xMi G Z y b nL2 d2 rt As σ z) (hd : decode cc pc = .ok (.invokestatic idx, 3)) (hw : xMw y b nL2 (some rt) n) (hv : Cond.static y ∈ xTB) (hl : Cond.methodLink own idx y ∈ xTB) (hn : As.length = n) (hst : st = As.reverse ++ rest) (hcat : (rest.map fun v => v.category).sum ≤ 8) (hr : d2 + 1 ≤ d ∧ 8 + (nL2 + 11) + 40 * d2 ≤ 40 * d) (kk : xWS G B nL z.2 lv (pc + 3) (.int z.1 :: rest)) : xWS G B nL σ lv pc st := by
  intro H locs ls hP hS hl2
  subst hst
  refine va_calli (A1 := xA G) (A0 := B.A) (va_runS (As := As) (rest := rest) (xCallFix C) (hM B.l) ⟨xCallB C hw hl hr, C.2.2.2.2.1 _ hv⟩ ⟨xPre_blind, xC_pre C hP hS _⟩ rfl hn hl2.1 rfl (lv_room hcat) hd ⟨C.2.2.2.2.2.2.2.2.2.2.2.2.1, C.2.2.2.2.2.2.2.2.2.2.2.2.2⟩) hS (fun q _ h => C.2.2.2.2.2.2.2.2.2.2.2.1 q h) (fun q h => C.2.2.2.2.2.2.2.2.2.2.2.1 q h) (fun r u t H1 locs1 ht _ hp hB _ _ hS1 => ?_)
  obtain ⟨rfl, rfl⟩ := hp
  rw [ht] at hB
  exact kk H1 locs1 ls hB hS1 hl2
theorem ws_calliSN {G : xG} {Z : xZ} {B : xB} {own : String} {cc : ByteArray} {nL d : Nat} {σ : xM} {lv : List (Nat × Value)} {pc : Nat} {st : List Value} {y : MethodName} {b : ByteArray} {nL2 d2 n idx : Nat} {host : String} {rt : FieldType} {As rest : List Value} {z : Int32 × xM} (C : xC G Z B own cc nL d) (hM : xMi G Z y b nL2 d2 rt As σ z) (hd : decode cc pc = .ok (.invokestatic idx, 3)) (hw : xMw y b nL2 (some rt) n) (hv : Cond.static y ∈ xTB) (hl : Cond.methodLinkNest own idx y host ∈ xNw) (hn : As.length = n) (hst : st = As.reverse ++ rest) (hcat : (rest.map fun v => v.category).sum ≤ 8) (hr : d2 + 1 ≤ d ∧ 8 + (nL2 + 11) + 40 * d2 ≤ 40 * d) (kk : xWS G B nL z.2 lv (pc + 3) (.int z.1 :: rest)) : xWS G B nL σ lv pc st := by
  intro H locs ls hP hS hl2
  subst hst
  refine va_calli (A1 := xA G) (A0 := B.A) (va_runSN (As := As) (rest := rest) (xCallFix C) (hM B.l) ⟨xCallN C hw hl hr, C.2.2.2.2.1 _ hv, trivial⟩ ⟨xPre_blind, xC_pre C hP hS _⟩ rfl hn hl2.1 rfl (lv_room hcat) hd ⟨C.2.2.2.2.2.2.2.2.2.2.2.2.1, C.2.2.2.2.2.2.2.2.2.2.2.2.2⟩) hS (fun q _ h => C.2.2.2.2.2.2.2.2.2.2.2.1 q h) (fun q h => C.2.2.2.2.2.2.2.2.2.2.2.1 q h) (fun r u t H1 locs1 ht _ hp hB _ _ hS1 => ?_)
  obtain ⟨rfl, rfl⟩ := hp
  rw [ht] at hB
  exact kk H1 locs1 ls hB hS1 hl2
def xMl (G : xG) (Z : xZ) (y : MethodName) (b : ByteArray) (nL d : Nat) (av : List Value) (σ : xM) (z : Int64 × xM) : Prop := ∀ l : Launch, Met l y (.code y b nL (some .long) :: xTB) (xRm d) (va_Pc av (xPre G Z σ)) (xQl G z) 0 0 (xA G)
def xRl (G : xG) (B : xB) (z : Int64 × xM) : Prop := B.t.sig.returnType = (some .long) ∧ B.Q = MQ B.b (xQl G z) B.a B.s 0 0 (xA G) ∧ B.k = 0 ∧ B.n = 0 ∧ B.A = xA G
theorem xMl_of {G : xG} {Z : xZ} {y : MethodName} {b : ByteArray} {nL d : Nat} {av : List Value} {σ : xM} {z : Int64 × xM} (hy : plainName y.cls = true) (hn : (lg_sl av).length ≤ nL) (body : ∀ B : xB, xC G Z B y.cls b nL d → xRl G B z → xWS G B nL σ (lv_args 0 av) 0 []) : xMl G Z y b nL d av σ z := by
  intro l
  refine Met.ofW (cc := b) (maxL := nL) (ret := (some .long)) hy rfl ?_
  intro p e s m args below meth c s₁ X hml hv
  obtain ⟨rfl, hP, hK, hI, hE⟩ := hv
  have hts := atoms_spec (ws := Cond.code y b nL (some .long) :: xTB) X.pre
  have hown : s.vm.findClass y.cls = some m.cls := findClass_of_methodNamed X.named
  rw [lg_entry_eq]
  exact body (p, l, e, xRm d, s, m, av.toArray, below, meth, c, MQ below (xQl G z) av.toArray s 0 0 (xA G), 0, 0, xA G) ⟨X.exec, X.bytes, hml, hown, fun w hw => hts w (List.mem_cons_of_mem _ hw), X.notSynchronized, hK, hI, hE, Nat.le_refl _, Nat.le_refl _, fun _ h => h, Nat.zero_le _, Nat.zero_le _⟩ ⟨X.returns, rfl, rfl, rfl, rfl⟩ s.heap [] _ hP va_S.rf (lv_entry av hn)
theorem ws_calllV {G : xG} {Z : xZ} {B : xB} {own : String} {cc : ByteArray} {nL d : Nat} {σ : xM} {lv : List (Nat × Value)} {pc : Nat} {st : List Value} {y : MethodName} {b : ByteArray} {nL2 d2 n idx c : Nat} {As rest : List Value} {z : Int64 × xM} (C : xC G Z B own cc nL d) (hM : xMl G Z y b nL2 d2 (.ref (G.2.2.1 c) :: As) σ z) (hd : decode cc pc = .ok (.invokevirtual idx, 3)) (hw : xMw y b nL2 (some .long) n) (hv : xMwV y) (hl : Cond.methodLink own idx y ∈ xTB) (ho : xSo G.1 G.2.1 c y.cls) (hn : As.length = n) (hst : st = As.reverse ++ .ref (G.2.2.1 c) :: rest) (hcat : (rest.map fun v => v.category).sum ≤ 8) (hr : d2 + 1 ≤ d ∧ 8 + (nL2 + 11) + 40 * d2 ≤ 40 * d) (kk : xWS G B nL z.2 lv (pc + 3) (.long z.1 :: rest)) : xWS G B nL σ lv pc st := by
  intro H locs ls hP hS hl2
  subst hst
  refine va_calll (A1 := xA G) (A0 := B.A) (va_runV (As := As) (rest := rest) (b := G.2.2.1 c) (C := y.cls) (xCallFix C) (hM B.l) ⟨xCallB C hw hl hr, C.2.2.2.2.1 _ hv.1, C.2.2.2.2.1 _ hv.2⟩ ⟨xPre_blind, xSo_recv C hP ho, xC_pre C hP hS _⟩ rfl hn hl2.1 rfl (lv_room hcat) hd ⟨C.2.2.2.2.2.2.2.2.2.2.2.2.1, C.2.2.2.2.2.2.2.2.2.2.2.2.2⟩) hS (fun q _ h => C.2.2.2.2.2.2.2.2.2.2.2.1 q h) (fun q h => C.2.2.2.2.2.2.2.2.2.2.2.1 q h) (fun r u t H1 locs1 ht _ hp hB _ _ hS1 => ?_)
  obtain ⟨rfl, rfl⟩ := hp
  rw [ht] at hB
  exact kk H1 locs1 ls hB hS1 hl2
theorem ws_calllS {G : xG} {Z : xZ} {B : xB} {own : String} {cc : ByteArray} {nL d : Nat} {σ : xM} {lv : List (Nat × Value)} {pc : Nat} {st : List Value} {y : MethodName} {b : ByteArray} {nL2 d2 n idx : Nat} {As rest : List Value} {z : Int64 × xM} (C : xC G Z B own cc nL d) (hM : xMl G Z y b nL2 d2 As σ z) (hd : decode cc pc = .ok (.invokestatic idx, 3)) (hw : xMw y b nL2 (some .long) n) (hv : Cond.static y ∈ xTB) (hl : Cond.methodLink own idx y ∈ xTB) (hn : As.length = n) (hst : st = As.reverse ++ rest) (hcat : (rest.map fun v => v.category).sum ≤ 8) (hr : d2 + 1 ≤ d ∧ 8 + (nL2 + 11) + 40 * d2 ≤ 40 * d) (kk : xWS G B nL z.2 lv (pc + 3) (.long z.1 :: rest)) : xWS G B nL σ lv pc st := by
  intro H locs ls hP hS hl2
  subst hst
  refine va_calll (A1 := xA G) (A0 := B.A) (va_runS (As := As) (rest := rest) (xCallFix C) (hM B.l) ⟨xCallB C hw hl hr, C.2.2.2.2.1 _ hv⟩ ⟨xPre_blind, xC_pre C hP hS _⟩ rfl hn hl2.1 rfl (lv_room hcat) hd ⟨C.2.2.2.2.2.2.2.2.2.2.2.2.1, C.2.2.2.2.2.2.2.2.2.2.2.2.2⟩) hS (fun q _ h => C.2.2.2.2.2.2.2.2.2.2.2.1 q h) (fun q h => C.2.2.2.2.2.2.2.2.2.2.2.1 q h) (fun r u t H1 locs1 ht _ hp hB _ _ hS1 => ?_)
  obtain ⟨rfl, rfl⟩ := hp
  rw [ht] at hB
  exact kk H1 locs1 ls hB hS1 hl2
theorem ws_calllSN {G : xG} {Z : xZ} {B : xB} {own : String} {cc : ByteArray} {nL d : Nat} {σ : xM} {lv : List (Nat × Value)} {pc : Nat} {st : List Value} {y : MethodName} {b : ByteArray} {nL2 d2 n idx : Nat} {host : String} {As rest : List Value} {z : Int64 × xM} (C : xC G Z B own cc nL d) (hM : xMl G Z y b nL2 d2 As σ z) (hd : decode cc pc = .ok (.invokestatic idx, 3)) (hw : xMw y b nL2 (some .long) n) (hv : Cond.static y ∈ xTB) (hl : Cond.methodLinkNest own idx y host ∈ xNw) (hn : As.length = n) (hst : st = As.reverse ++ rest) (hcat : (rest.map fun v => v.category).sum ≤ 8) (hr : d2 + 1 ≤ d ∧ 8 + (nL2 + 11) + 40 * d2 ≤ 40 * d) (kk : xWS G B nL z.2 lv (pc + 3) (.long z.1 :: rest)) : xWS G B nL σ lv pc st := by
  intro H locs ls hP hS hl2
  subst hst
  refine va_calll (A1 := xA G) (A0 := B.A) (va_runSN (As := As) (rest := rest) (xCallFix C) (hM B.l) ⟨xCallN C hw hl hr, C.2.2.2.2.1 _ hv, trivial⟩ ⟨xPre_blind, xC_pre C hP hS _⟩ rfl hn hl2.1 rfl (lv_room hcat) hd ⟨C.2.2.2.2.2.2.2.2.2.2.2.2.1, C.2.2.2.2.2.2.2.2.2.2.2.2.2⟩) hS (fun q _ h => C.2.2.2.2.2.2.2.2.2.2.2.1 q h) (fun q h => C.2.2.2.2.2.2.2.2.2.2.2.1 q h) (fun r u t H1 locs1 ht _ hp hB _ _ hS1 => ?_)
  obtain ⟨rfl, rfl⟩ := hp
  rw [ht] at hB
  exact kk H1 locs1 ls hB hS1 hl2
def xMv (G : xG) (Z : xZ) (y : MethodName) (b : ByteArray) (nL d : Nat) (av : List Value) (σ : xM) (z : Int32 × xM) : Prop := ∀ l : Launch, Met l y (.code y b nL none :: xTB) (xRm d) (va_Pc av (xPre G Z σ)) (xQv G z) 0 0 (xA G)
def xRv (G : xG) (B : xB) (z : Int32 × xM) : Prop := B.t.sig.returnType = none ∧ B.Q = MQ B.b (xQv G z) B.a B.s 0 0 (xA G) ∧ B.k = 0 ∧ B.n = 0 ∧ B.A = xA G
theorem xMv_of {G : xG} {Z : xZ} {y : MethodName} {b : ByteArray} {nL d : Nat} {av : List Value} {σ : xM} {z : Int32 × xM} (hy : plainName y.cls = true) (hn : (lg_sl av).length ≤ nL) (body : ∀ B : xB, xC G Z B y.cls b nL d → xRv G B z → xWS G B nL σ (lv_args 0 av) 0 []) : xMv G Z y b nL d av σ z := by
  intro l
  refine Met.ofW (cc := b) (maxL := nL) (ret := none) hy rfl ?_
  intro p e s m args below meth c s₁ X hml hv
  obtain ⟨rfl, hP, hK, hI, hE⟩ := hv
  have hts := atoms_spec (ws := Cond.code y b nL none :: xTB) X.pre
  have hown : s.vm.findClass y.cls = some m.cls := findClass_of_methodNamed X.named
  rw [lg_entry_eq]
  exact body (p, l, e, xRm d, s, m, av.toArray, below, meth, c, MQ below (xQv G z) av.toArray s 0 0 (xA G), 0, 0, xA G) ⟨X.exec, X.bytes, hml, hown, fun w hw => hts w (List.mem_cons_of_mem _ hw), X.notSynchronized, hK, hI, hE, Nat.le_refl _, Nat.le_refl _, fun _ h => h, Nat.zero_le _, Nat.zero_le _⟩ ⟨X.returns, rfl, rfl, rfl, rfl⟩ s.heap [] _ hP va_S.rf (lv_entry av hn)
theorem ws_callvV {G : xG} {Z : xZ} {B : xB} {own : String} {cc : ByteArray} {nL d : Nat} {σ : xM} {lv : List (Nat × Value)} {pc : Nat} {st : List Value} {y : MethodName} {b : ByteArray} {nL2 d2 n idx c : Nat} {As rest : List Value} {z : Int32 × xM} (C : xC G Z B own cc nL d) (hM : xMv G Z y b nL2 d2 (.ref (G.2.2.1 c) :: As) σ z) (hd : decode cc pc = .ok (.invokevirtual idx, 3)) (hw : xMw y b nL2 none n) (hv : xMwV y) (hl : Cond.methodLink own idx y ∈ xTB) (ho : xSo G.1 G.2.1 c y.cls) (hn : As.length = n) (hst : st = As.reverse ++ .ref (G.2.2.1 c) :: rest) (hcat : (rest.map fun v => v.category).sum ≤ 8) (hr : d2 + 1 ≤ d ∧ 8 + (nL2 + 11) + 40 * d2 ≤ 40 * d) (kk : xWS G B nL z.2 lv (pc + 3) (rest)) : xWS G B nL σ lv pc st := by
  intro H locs ls hP hS hl2
  subst hst
  refine va_callv (A1 := xA G) (A0 := B.A) (va_runV (As := As) (rest := rest) (b := G.2.2.1 c) (C := y.cls) (xCallFix C) (hM B.l) ⟨xCallB C hw hl hr, C.2.2.2.2.1 _ hv.1, C.2.2.2.2.1 _ hv.2⟩ ⟨xPre_blind, xSo_recv C hP ho, xC_pre C hP hS _⟩ rfl hn hl2.1 rfl (lv_room hcat) hd ⟨C.2.2.2.2.2.2.2.2.2.2.2.2.1, C.2.2.2.2.2.2.2.2.2.2.2.2.2⟩) hS (fun q _ h => C.2.2.2.2.2.2.2.2.2.2.2.1 q h) (fun q h => C.2.2.2.2.2.2.2.2.2.2.2.1 q h) (fun u t H1 locs1 ht _ hp hB _ _ hS1 => ?_)
  obtain rfl := hp
  rw [ht] at hB
  exact kk H1 locs1 ls hB hS1 hl2
theorem ws_callvS {G : xG} {Z : xZ} {B : xB} {own : String} {cc : ByteArray} {nL d : Nat} {σ : xM} {lv : List (Nat × Value)} {pc : Nat} {st : List Value} {y : MethodName} {b : ByteArray} {nL2 d2 n idx : Nat} {As rest : List Value} {z : Int32 × xM} (C : xC G Z B own cc nL d) (hM : xMv G Z y b nL2 d2 As σ z) (hd : decode cc pc = .ok (.invokestatic idx, 3)) (hw : xMw y b nL2 none n) (hv : Cond.static y ∈ xTB) (hl : Cond.methodLink own idx y ∈ xTB) (hn : As.length = n) (hst : st = As.reverse ++ rest) (hcat : (rest.map fun v => v.category).sum ≤ 8) (hr : d2 + 1 ≤ d ∧ 8 + (nL2 + 11) + 40 * d2 ≤ 40 * d) (kk : xWS G B nL z.2 lv (pc + 3) (rest)) : xWS G B nL σ lv pc st := by
  intro H locs ls hP hS hl2
  subst hst
  refine va_callv (A1 := xA G) (A0 := B.A) (va_runS (As := As) (rest := rest) (xCallFix C) (hM B.l) ⟨xCallB C hw hl hr, C.2.2.2.2.1 _ hv⟩ ⟨xPre_blind, xC_pre C hP hS _⟩ rfl hn hl2.1 rfl (lv_room hcat) hd ⟨C.2.2.2.2.2.2.2.2.2.2.2.2.1, C.2.2.2.2.2.2.2.2.2.2.2.2.2⟩) hS (fun q _ h => C.2.2.2.2.2.2.2.2.2.2.2.1 q h) (fun q h => C.2.2.2.2.2.2.2.2.2.2.2.1 q h) (fun u t H1 locs1 ht _ hp hB _ _ hS1 => ?_)
  obtain rfl := hp
  rw [ht] at hB
  exact kk H1 locs1 ls hB hS1 hl2
theorem ws_callvSN {G : xG} {Z : xZ} {B : xB} {own : String} {cc : ByteArray} {nL d : Nat} {σ : xM} {lv : List (Nat × Value)} {pc : Nat} {st : List Value} {y : MethodName} {b : ByteArray} {nL2 d2 n idx : Nat} {host : String} {As rest : List Value} {z : Int32 × xM} (C : xC G Z B own cc nL d) (hM : xMv G Z y b nL2 d2 As σ z) (hd : decode cc pc = .ok (.invokestatic idx, 3)) (hw : xMw y b nL2 none n) (hv : Cond.static y ∈ xTB) (hl : Cond.methodLinkNest own idx y host ∈ xNw) (hn : As.length = n) (hst : st = As.reverse ++ rest) (hcat : (rest.map fun v => v.category).sum ≤ 8) (hr : d2 + 1 ≤ d ∧ 8 + (nL2 + 11) + 40 * d2 ≤ 40 * d) (kk : xWS G B nL z.2 lv (pc + 3) (rest)) : xWS G B nL σ lv pc st := by
  intro H locs ls hP hS hl2
  subst hst
  refine va_callv (A1 := xA G) (A0 := B.A) (va_runSN (As := As) (rest := rest) (xCallFix C) (hM B.l) ⟨xCallN C hw hl hr, C.2.2.2.2.1 _ hv, trivial⟩ ⟨xPre_blind, xC_pre C hP hS _⟩ rfl hn hl2.1 rfl (lv_room hcat) hd ⟨C.2.2.2.2.2.2.2.2.2.2.2.2.1, C.2.2.2.2.2.2.2.2.2.2.2.2.2⟩) hS (fun q _ h => C.2.2.2.2.2.2.2.2.2.2.2.1 q h) (fun q h => C.2.2.2.2.2.2.2.2.2.2.2.1 q h) (fun u t H1 locs1 ht _ hp hB _ _ hS1 => ?_)
  obtain rfl := hp
  rw [ht] at hB
  exact kk H1 locs1 ls hB hS1 hl2
theorem ws_ireti {G : xG} {Z : xZ} {B : xB} {own : String} {cc : ByteArray} {nL d : Nat} {σ : xM} {lv : List (Nat × Value)} {pc : Nat} {st : List Value} {rt : FieldType} {v : Int32} {z : Int32 × xM} (C : xC G Z B own cc nL d) (R : xRi G B rt z) (hd : decode cc pc = .ok (.ireturn, 1)) (hn : narrow rt (.int v) = .int v) (hz : some (v, σ) = some z) : xWS G B nL σ lv pc [.int v] := by
  cases hz
  intro H locs ls hP hS hl
  obtain ⟨R1, R2, R3, R4, R5⟩ := R
  rw [R2, R3, R4]
  rw [R5] at hS
  exact W.zret C.1 C.2.1 R1 hn (fun t ht hW => ⟨⟨v, σ, rfl, ⟨rfl, rfl⟩, by show va_P _ _ (xW G σ) t.heap; rw [ht]; exact hP⟩, hS.F ht⟩) hS.2.2 hd C.2.2.2.2.2.1
theorem ws_lret {G : xG} {Z : xZ} {B : xB} {own : String} {cc : ByteArray} {nL d : Nat} {σ : xM} {lv : List (Nat × Value)} {pc : Nat} {st : List Value} {v : Int64} {z : Int64 × xM} (C : xC G Z B own cc nL d) (R : xRl G B z) (hd : decode cc pc = .ok (.lreturn, 1)) (hz : some (v, σ) = some z) : xWS G B nL σ lv pc [.long v] := by
  cases hz
  intro H locs ls hP hS hl
  obtain ⟨R1, R2, R3, R4, R5⟩ := R
  rw [R2, R3, R4]
  rw [R5] at hS
  exact W.lret C.1 C.2.1 R1 (fun t ht hW => ⟨⟨v, σ, rfl, ⟨rfl, rfl⟩, by show va_P _ _ (xW G σ) t.heap; rw [ht]; exact hP⟩, hS.F ht⟩) hS.2.2 hd C.2.2.2.2.2.1
theorem ws_vret {G : xG} {Z : xZ} {B : xB} {own : String} {cc : ByteArray} {nL d : Nat} {σ : xM} {lv : List (Nat × Value)} {pc : Nat} {st : List Value} {z : Int32 × xM} (C : xC G Z B own cc nL d) (R : xRv G B z) (hd : decode cc pc = .ok (.return_, 1)) (hz : some ((0 : Int32), σ) = some z) : xWS G B nL σ lv pc [] := by
  cases hz
  intro H locs ls hP hS hl
  obtain ⟨R1, R2, R3, R4, R5⟩ := R
  rw [R2, R3, R4]
  rw [R5] at hS
  exact W.vret C.1 C.2.1 R1 (fun t ht hW => ⟨⟨σ, rfl, rfl, by show va_P _ _ (xW G σ) t.heap; rw [ht]; exact hP⟩, hS.F ht⟩) hS.2.2 hd C.2.2.2.2.2.1
/-! ===== the library's own members ===== -/
theorem ws_gets {G : xG} {Z : xZ} {B : xB} {own : String} {cc : ByteArray} {nL d : Nat} {σ : xM} {lv : List (Nat × Value)} {pc : Nat} {st : List Value} {index i : Nat} {q : String × List Int32} (C : xC G Z B own cc nL d) (hd : decode cc pc = .ok (.getstatic index, 3)) (hi : xSt[i]? = some q) (hl : Cond.fieldLink own index "BetweenStops" q.1 "[I" ∈ xTB) (kk : xWS G B nL σ lv (pc + 3) (.ref (Z.2.2.1 i) :: st)) : xWS G B nL σ lv pc st :=
  fun H locs ls hP hS hl2 => va_gets C.1 C.2.1 (C.2.2.2.2.2.2.2.2.1.2.2.1 i q hi).1 hS C.2.2.2.1 (C.2.2.2.2.1 _ hl) (fun _ h => h) hd (kk H locs ls hP hS hl2)
theorem ws_getsN {G : xG} {Z : xZ} {B : xB} {own : String} {cc : ByteArray} {nL d : Nat} {σ : xM} {lv : List (Nat × Value)} {pc : Nat} {st : List Value} {index i : Nat} {host : String} {q : String × List Int32} (C : xC G Z B own cc nL d) (hd : decode cc pc = .ok (.getstatic index, 3)) (hi : xSt[i]? = some q) (hl : Cond.fieldLinkNest own index "BetweenStops" q.1 "[I" host ∈ xNw) (kk : xWS G B nL σ lv (pc + 3) (.ref (Z.2.2.1 i) :: st)) : xWS G B nL σ lv pc st :=
  fun H locs ls hP hS hl2 => va_getsN C.1 C.2.1 (C.2.2.2.2.2.2.2.2.1.2.2.1 i q hi).1 hS C.2.2.2.1 (va_Nw.use rfl (C.2.2.2.2.2.2.2.2.1.2.2.2.2.2.2 _ hl)) (fun _ h => h) hd (kk H locs ls hP hS hl2)
theorem ws_sald {G : xG} {Z : xZ} {B : xB} {own : String} {cc : ByteArray} {nL d : Nat} {σ : xM} {lv : List (Nat × Value)} {pc : Nat} {st : List Value} {i : Nat} {q : String × List Int32} {n : Nat} {j : Int32} (C : xC G Z B own cc nL d) (hd : decode cc pc = .ok (.iaload, 1)) (hi : xSt[i]? = some q) (hn : q.2.length = n) (hj : inb j n = true) (kk : xWS G B nL σ lv (pc + 1) (.int (q.2.getD j.toNatClampNeg 0) :: st)) : xWS G B nL σ lv pc (.int j :: .ref (Z.2.2.1 i) :: st) := by
  subst hn
  exact fun H locs ls hP hS hl2 => va_ti C.1 C.2.1 (C.2.2.2.2.2.2.2.2.1.2.2.1 i q hi).2 hS (inb_in hj) rfl hd (kk H locs ls hP hS hl2)
/-- what a call of a member of Math wants of the words -/
def xMa (own : String) (idx : Nat) (y : MethodName) (b : ByteArray) (n : Nat) : Prop := Cond.methodLink own idx y ∈ xTB ∧ Cond.static y ∈ xTB ∧ Cond.initialized "java/lang/Math" ∈ xTB ∧ Cond.code y b n (some .int) ∈ xTB
theorem ws_max {G : xG} {Z : xZ} {B : xB} {own : String} {cc : ByteArray} {nL d : Nat} {σ : xM} {lv : List (Nat × Value)} {pc : Nat} {st : List Value} {idx : Nat} {x y : Int32} (C : xC G Z B own cc nL d) (hd : decode cc pc = .ok (.invokestatic idx, 3)) (hw : xMa own idx Lib.Math.max.name Lib.Math.max.code 2) (hcat : (st.map fun v => v.category).sum ≤ 8) (hr : 1 ≤ d) (kk : xWS G B nL σ lv (pc + 3) (.int (if x < y then y else x) :: st)) : xWS G B nL σ lv pc (.int y :: .int x :: st) :=
  fun H locs ls hP hS hl => va_mmax C.1 C.2.1 (C.2.2.1.trans hl.1.symm) C.2.2.2.1 (C.2.2.2.2.1 _ hw.1) (C.2.2.2.2.1 _ hw.2.1) (C.2.2.2.2.1 _ hw.2.2.1) (C.2.2.2.2.1 _ hw.2.2.2) (Nat.le_trans hr C.2.2.2.2.2.2.2.2.2.1) (by have := C.2.2.2.2.2.2.2.2.2.2.1; omega) C.2.2.2.2.2.2.2.2.2.2.2.2.1 C.2.2.2.2.2.2.2.2.2.2.2.2.2 hd (kk H locs ls hP hS hl)
theorem ws_min {G : xG} {Z : xZ} {B : xB} {own : String} {cc : ByteArray} {nL d : Nat} {σ : xM} {lv : List (Nat × Value)} {pc : Nat} {st : List Value} {idx : Nat} {x y : Int32} (C : xC G Z B own cc nL d) (hd : decode cc pc = .ok (.invokestatic idx, 3)) (hw : xMa own idx Lib.Math.min.name Lib.Math.min.code 2) (hcat : (st.map fun v => v.category).sum ≤ 8) (hr : 1 ≤ d) (kk : xWS G B nL σ lv (pc + 3) (.int (if y < x then y else x) :: st)) : xWS G B nL σ lv pc (.int y :: .int x :: st) :=
  fun H locs ls hP hS hl => va_mmin C.1 C.2.1 (C.2.2.1.trans hl.1.symm) C.2.2.2.1 (C.2.2.2.2.1 _ hw.1) (C.2.2.2.2.1 _ hw.2.1) (C.2.2.2.2.1 _ hw.2.2.1) (C.2.2.2.2.1 _ hw.2.2.2) (Nat.le_trans hr C.2.2.2.2.2.2.2.2.2.1) (by have := C.2.2.2.2.2.2.2.2.2.2.1; omega) C.2.2.2.2.2.2.2.2.2.2.2.2.1 C.2.2.2.2.2.2.2.2.2.2.2.2.2 hd (kk H locs ls hP hS hl)
def xAc (own : String) (idx : Nat) : Prop := Cond.methodLink own idx arraycopyName ∈ xTB ∧ Cond.native arraycopyName ∈ xTB ∧ Cond.static arraycopyName ∈ xTB ∧ Cond.initialized "java/lang/System" ∈ xTB
theorem ws_abs {G : xG} {Z : xZ} {B : xB} {own : String} {cc : ByteArray} {nL d : Nat} {σ : xM} {lv : List (Nat × Value)} {pc : Nat} {st : List Value} {idx : Nat} {x : Int32} (C : xC G Z B own cc nL d) (hd : decode cc pc = .ok (.invokestatic idx, 3)) (hw : xMa own idx Lib.Math.abs.name Lib.Math.abs.code 1) (hcat : (st.map fun v => v.category).sum ≤ 8) (hr : 1 ≤ d) (kk : xWS G B nL σ lv (pc + 3) (.int (if 0 ≤ x then x else 0 - x) :: st)) : xWS G B nL σ lv pc (.int x :: st) :=
  fun H locs ls hP hS hl => va_mabs C.1 C.2.1 (C.2.2.1.trans hl.1.symm) C.2.2.2.1 (C.2.2.2.2.1 _ hw.1) (C.2.2.2.2.1 _ hw.2.1) (C.2.2.2.2.1 _ hw.2.2.1) (C.2.2.2.2.1 _ hw.2.2.2) (Nat.le_trans hr C.2.2.2.2.2.2.2.2.2.1) (by have := C.2.2.2.2.2.2.2.2.2.2.1; omega) C.2.2.2.2.2.2.2.2.2.2.2.2.1 C.2.2.2.2.2.2.2.2.2.2.2.2.2 hd (kk H locs ls hP hS hl)
/-- may n numbers be copied from place p0 of a row of m0 to place p1 of one of m1 -/
def cpb (p0 p1 n : Int32) (m0 m1 : Nat) : Bool := decide (¬ p0 < 0 ∧ ¬ p1 < 0 ∧ ¬ n < 0 ∧ p0.toNatClampNeg + n.toNatClampNeg ≤ m0 ∧ p1.toNatClampNeg + n.toNatClampNeg ≤ m1)
theorem scp_set {L : Nat → xSh} {ad : Nat → Nat} {cA : Nat → ClassId} {σ : xM} {c0 c1 p0 p1 n m1 : Nat} {ch : List (Option Nat)} (h : L c1 = .inl (0, m1, ch)) : xct L ad cA (scp σ c0 p0 c1 p1 n) c1 = .inl (cA 0, m1, .inl (va_cpy (σ.1 c0) (σ.1 c1) p0 p1 n)) := by
  rw [xct_r h]
  show Sum.inl (cA 0, m1, Sum.inl _) = _
  congr 4
  funext j
  show (if c1 = c1 ∧ p1 ≤ j ∧ j < p1 + n then σ.1 c0 (p0 + (j - p1)) else σ.1 c1 j) = if p1 ≤ j ∧ j < p1 + n then σ.1 c0 (p0 + (j - p1)) else σ.1 c1 j
  simp
theorem scp_oth {σ : xM} {c0 c1 p0 p1 n : Nat} : ∀ c', c' ≠ c1 → (scp σ c0 p0 c1 p1 n).1 c' = σ.1 c' ∧ (scp σ c0 p0 c1 p1 n).2 c' = σ.2 c' := fun c' hc => ⟨by funext j; show gi (scp σ c0 p0 c1 p1 n) c' j = gi σ c' j; rw [gi_scp, if_neg (fun h => hc h.1)], rfl⟩
theorem ws_copy {G : xG} {Z : xZ} {B : xB} {own : String} {cc : ByteArray} {nL d : Nat} {σ : xM} {lv : List (Nat × Value)} {pc : Nat} {st : List Value} {idx c0 c1 m0 m1 : Nat} {p0 p1 n : Int32} (C : xC G Z B own cc nL d) (hd : decode cc pc = .ok (.invokestatic idx, 3)) (hw : xAc own idx) (h0 : xSr G.1 G.2.1 c0 0 m0) (h1 : xSr G.1 G.2.1 c1 0 m1) (hb : cpb p0 p1 n m0 m1 = true) (hcat : (st.map fun v => v.category).sum ≤ 8) (hr : 1 ≤ d) (kk : xWS G B nL (scp σ c0 p0.toNatClampNeg c1 p1.toNatClampNeg n.toNatClampNeg) lv (pc + 3) st) : xWS G B nL σ lv pc (.int n :: .int p1 :: .ref (G.2.2.1 c1) :: .int p0 :: .ref (G.2.2.1 c0) :: st) := by
  obtain ⟨a0, ch0, b0⟩ := h0
  obtain ⟨a1, ch1, b1⟩ := h1
  obtain ⟨q1, q2, q3, q4, q5⟩ := of_decide_eq_true hb
  intro H locs ls hP hS hl
  have hroom : (st.map fun v => v.category).sum + (nativeFrameWords "java/lang/System" "arraycopy" 5 + 11) ≤ B.R.locals := by
    have h1 := C.2.2.2.2.2.2.2.2.2.2.1
    have e : nativeFrameWords "java/lang/System" "arraycopy" 5 + 11 ≤ 32 := by decide +kernel
    omega
  refine va_copyi (f := σ.1 c0) (g := σ.1 c1) (ty := .int) C.1 C.2.1 (C.2.2.1.trans hl.1.symm) C.2.2.2.1 (C.2.2.2.2.1 _ hw.1) (C.2.2.2.2.1 _ hw.2.1) (C.2.2.2.2.1 _ hw.2.2.1) (C.2.2.2.2.1 _ hw.2.2.2) C.2.2.2.2.2.2.1 hP (xC_D C) hS c0 c1 0 0 (by rw [xW_get a0, xct_r b0]; rfl) (by rw [xW_get a1, xct_r b1]; rfl) (xT_get (by decide)) (xT_get (by decide)) rfl q1 q2 q3 q4 q5 (fun _ _ => rfl) (Nat.le_trans hr C.2.2.2.2.2.2.2.2.2.1) hroom hd (fun H1 locs1 hP1 _ hS1 => ?_)
  rw [xW_set (s := σ) (s' := scp σ c0 p0.toNatClampNeg c1 p1.toNatClampNeg n.toNatClampNeg) a1 scp_oth (scp_set b1)] at hP1
  exact kk H1 locs1 ls hP1 hS1 hl

