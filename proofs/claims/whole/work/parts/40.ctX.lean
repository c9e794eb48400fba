set_option maxRecDepth 20000 in
set_option maxHeartbeats 4000000 in
theorem mc_X3_init_3 (Y : xY) (Z : xZ) : xMc Z yX3_init cX3_init 1 1 0 0 [.ref (Y.1 11)] sx15 Y sxm7 sx15 sxm7 := by
  refine xMc_of (by decide) rfl (Nat.le_of_ble_eq_true rfl) (fun B C R => ?_)
  have C : xC (Gl sx15 Y) Z (xBk B 0 0) "BetweenStops$Stop" cX3_init 1 1 := C
  have hA : ∀ q, B.s.heap.size ≤ q → B.A q := fun q h => by rw [R.2.2.1]; exact Or.inr h
  have HK : ∀ {k2 : Nat}, k2 ≤ 0 → k2 ≤ B.R.cells := fun h => by rw [R.2.2.2.2.1]; exact h
  have HN : ∀ {n2 : Nat}, n2 ≤ 0 → n2 ≤ B.R.slots := fun h => by rw [R.2.2.2.2.2.1]; exact h
  show xWS (Gl sx15 Y) (xBk B 0 0) 1 sxm7 [(0, .ref (Y.1 11))] 0 []
  refine ws_aload_n (pc := 0) C dX3_init_0 rfl 0 rfl ?_
  refine wg_obj (pc := 1) C dX3_init_1 kl_X3_3 kz_inst kz_code (Nat.le_of_ble_eq_true rfl) (by decide) ?_
  exact wg_ret C R rfl (fun _ _ => rfl) dX3_init_4
set_option maxRecDepth 20000 in
set_option maxHeartbeats 4000000 in
theorem mc_X3_init_4 (Y : xY) (Z : xZ) : xMc Z yX3_init cX3_init 1 1 0 0 [.ref (Y.1 12)] sx17 Y sxm7 sx17 sxm7 := by
  refine xMc_of (by decide) rfl (Nat.le_of_ble_eq_true rfl) (fun B C R => ?_)
  have C : xC (Gl sx17 Y) Z (xBk B 0 0) "BetweenStops$Stop" cX3_init 1 1 := C
  have hA : ∀ q, B.s.heap.size ≤ q → B.A q := fun q h => by rw [R.2.2.1]; exact Or.inr h
  have HK : ∀ {k2 : Nat}, k2 ≤ 0 → k2 ≤ B.R.cells := fun h => by rw [R.2.2.2.2.1]; exact h
  have HN : ∀ {n2 : Nat}, n2 ≤ 0 → n2 ≤ B.R.slots := fun h => by rw [R.2.2.2.2.2.1]; exact h
  show xWS (Gl sx17 Y) (xBk B 0 0) 1 sxm7 [(0, .ref (Y.1 12))] 0 []
  refine ws_aload_n (pc := 0) C dX3_init_0 rfl 0 rfl ?_
  refine wg_obj (pc := 1) C dX3_init_1 kl_X3_3 kz_inst kz_code (Nat.le_of_ble_eq_true rfl) (by decide) ?_
  exact wg_ret C R rfl (fun _ _ => rfl) dX3_init_4
set_option maxRecDepth 20000 in
set_option maxHeartbeats 4000000 in
theorem mc_X3_init_5 (Y : xY) (Z : xZ) : xMc Z yX3_init cX3_init 1 1 0 0 [.ref (Y.1 13)] sx19 Y sxm7 sx19 sxm7 := by
  refine xMc_of (by decide) rfl (Nat.le_of_ble_eq_true rfl) (fun B C R => ?_)
  have C : xC (Gl sx19 Y) Z (xBk B 0 0) "BetweenStops$Stop" cX3_init 1 1 := C
  have hA : ∀ q, B.s.heap.size ≤ q → B.A q := fun q h => by rw [R.2.2.1]; exact Or.inr h
  have HK : ∀ {k2 : Nat}, k2 ≤ 0 → k2 ≤ B.R.cells := fun h => by rw [R.2.2.2.2.1]; exact h
  have HN : ∀ {n2 : Nat}, n2 ≤ 0 → n2 ≤ B.R.slots := fun h => by rw [R.2.2.2.2.2.1]; exact h
  show xWS (Gl sx19 Y) (xBk B 0 0) 1 sxm7 [(0, .ref (Y.1 13))] 0 []
  refine ws_aload_n (pc := 0) C dX3_init_0 rfl 0 rfl ?_
  refine wg_obj (pc := 1) C dX3_init_1 kl_X3_3 kz_inst kz_code (Nat.le_of_ble_eq_true rfl) (by decide) ?_
  exact wg_ret C R rfl (fun _ _ => rfl) dX3_init_4
set_option maxRecDepth 20000 in
set_option maxHeartbeats 4000000 in
theorem mc_X3_init_6 (Y : xY) (Z : xZ) : xMc Z yX3_init cX3_init 1 1 0 0 [.ref (Y.1 14)] sx21 Y sxm7 sx21 sxm7 := by
  refine xMc_of (by decide) rfl (Nat.le_of_ble_eq_true rfl) (fun B C R => ?_)
  have C : xC (Gl sx21 Y) Z (xBk B 0 0) "BetweenStops$Stop" cX3_init 1 1 := C
  have hA : ∀ q, B.s.heap.size ≤ q → B.A q := fun q h => by rw [R.2.2.1]; exact Or.inr h
  have HK : ∀ {k2 : Nat}, k2 ≤ 0 → k2 ≤ B.R.cells := fun h => by rw [R.2.2.2.2.1]; exact h
  have HN : ∀ {n2 : Nat}, n2 ≤ 0 → n2 ≤ B.R.slots := fun h => by rw [R.2.2.2.2.2.1]; exact h
  show xWS (Gl sx21 Y) (xBk B 0 0) 1 sxm7 [(0, .ref (Y.1 14))] 0 []
  refine ws_aload_n (pc := 0) C dX3_init_0 rfl 0 rfl ?_
  refine wg_obj (pc := 1) C dX3_init_1 kl_X3_3 kz_inst kz_code (Nat.le_of_ble_eq_true rfl) (by decide) ?_
  exact wg_ret C R rfl (fun _ _ => rfl) dX3_init_4
set_option maxRecDepth 20000 in
set_option maxHeartbeats 4000000 in
theorem mc_X3_init_7 (Y : xY) (Z : xZ) : xMc Z yX3_init cX3_init 1 1 0 0 [.ref (Y.1 15)] sx23 Y sxm7 sx23 sxm7 := by
  refine xMc_of (by decide) rfl (Nat.le_of_ble_eq_true rfl) (fun B C R => ?_)
  have C : xC (Gl sx23 Y) Z (xBk B 0 0) "BetweenStops$Stop" cX3_init 1 1 := C
  have hA : ∀ q, B.s.heap.size ≤ q → B.A q := fun q h => by rw [R.2.2.1]; exact Or.inr h
  have HK : ∀ {k2 : Nat}, k2 ≤ 0 → k2 ≤ B.R.cells := fun h => by rw [R.2.2.2.2.1]; exact h
  have HN : ∀ {n2 : Nat}, n2 ≤ 0 → n2 ≤ B.R.slots := fun h => by rw [R.2.2.2.2.2.1]; exact h
  show xWS (Gl sx23 Y) (xBk B 0 0) 1 sxm7 [(0, .ref (Y.1 15))] 0 []
  refine ws_aload_n (pc := 0) C dX3_init_0 rfl 0 rfl ?_
  refine wg_obj (pc := 1) C dX3_init_1 kl_X3_3 kz_inst kz_code (Nat.le_of_ble_eq_true rfl) (by decide) ?_
  exact wg_ret C R rfl (fun _ _ => rfl) dX3_init_4
set_option maxRecDepth 20000 in
set_option maxHeartbeats 4000000 in
theorem mc_X3_init_8 (Y : xY) (Z : xZ) : xMc Z yX3_init cX3_init 1 1 0 0 [.ref (Y.1 16)] sx25 Y sxm7 sx25 sxm7 := by
  refine xMc_of (by decide) rfl (Nat.le_of_ble_eq_true rfl) (fun B C R => ?_)
  have C : xC (Gl sx25 Y) Z (xBk B 0 0) "BetweenStops$Stop" cX3_init 1 1 := C
  have hA : ∀ q, B.s.heap.size ≤ q → B.A q := fun q h => by rw [R.2.2.1]; exact Or.inr h
  have HK : ∀ {k2 : Nat}, k2 ≤ 0 → k2 ≤ B.R.cells := fun h => by rw [R.2.2.2.2.1]; exact h
  have HN : ∀ {n2 : Nat}, n2 ≤ 0 → n2 ≤ B.R.slots := fun h => by rw [R.2.2.2.2.2.1]; exact h
  show xWS (Gl sx25 Y) (xBk B 0 0) 1 sxm7 [(0, .ref (Y.1 16))] 0 []
  refine ws_aload_n (pc := 0) C dX3_init_0 rfl 0 rfl ?_
  refine wg_obj (pc := 1) C dX3_init_1 kl_X3_3 kz_inst kz_code (Nat.le_of_ble_eq_true rfl) (by decide) ?_
  exact wg_ret C R rfl (fun _ _ => rfl) dX3_init_4
set_option maxRecDepth 20000 in
set_option maxHeartbeats 4000000 in
theorem mc_X3_init_9 (Y : xY) (Z : xZ) : xMc Z yX3_init cX3_init 1 1 0 0 [.ref (Y.1 17)] sx27 Y sxm7 sx27 sxm7 := by
  refine xMc_of (by decide) rfl (Nat.le_of_ble_eq_true rfl) (fun B C R => ?_)
  have C : xC (Gl sx27 Y) Z (xBk B 0 0) "BetweenStops$Stop" cX3_init 1 1 := C
  have hA : ∀ q, B.s.heap.size ≤ q → B.A q := fun q h => by rw [R.2.2.1]; exact Or.inr h
  have HK : ∀ {k2 : Nat}, k2 ≤ 0 → k2 ≤ B.R.cells := fun h => by rw [R.2.2.2.2.1]; exact h
  have HN : ∀ {n2 : Nat}, n2 ≤ 0 → n2 ≤ B.R.slots := fun h => by rw [R.2.2.2.2.2.1]; exact h
  show xWS (Gl sx27 Y) (xBk B 0 0) 1 sxm7 [(0, .ref (Y.1 17))] 0 []
  refine ws_aload_n (pc := 0) C dX3_init_0 rfl 0 rfl ?_
  refine wg_obj (pc := 1) C dX3_init_1 kl_X3_3 kz_inst kz_code (Nat.le_of_ble_eq_true rfl) (by decide) ?_
  exact wg_ret C R rfl (fun _ _ => rfl) dX3_init_4
set_option maxRecDepth 20000 in
set_option maxHeartbeats 4000000 in
theorem mc_X3_init_10 (Y : xY) (Z : xZ) : xMc Z yX3_init cX3_init 1 1 0 0 [.ref (Y.1 18)] sx29 Y sxm7 sx29 sxm7 := by
  refine xMc_of (by decide) rfl (Nat.le_of_ble_eq_true rfl) (fun B C R => ?_)
  have C : xC (Gl sx29 Y) Z (xBk B 0 0) "BetweenStops$Stop" cX3_init 1 1 := C
  have hA : ∀ q, B.s.heap.size ≤ q → B.A q := fun q h => by rw [R.2.2.1]; exact Or.inr h
  have HK : ∀ {k2 : Nat}, k2 ≤ 0 → k2 ≤ B.R.cells := fun h => by rw [R.2.2.2.2.1]; exact h
  have HN : ∀ {n2 : Nat}, n2 ≤ 0 → n2 ≤ B.R.slots := fun h => by rw [R.2.2.2.2.2.1]; exact h
  show xWS (Gl sx29 Y) (xBk B 0 0) 1 sxm7 [(0, .ref (Y.1 18))] 0 []
  refine ws_aload_n (pc := 0) C dX3_init_0 rfl 0 rfl ?_
  refine wg_obj (pc := 1) C dX3_init_1 kl_X3_3 kz_inst kz_code (Nat.le_of_ble_eq_true rfl) (by decide) ?_
  exact wg_ret C R rfl (fun _ _ => rfl) dX3_init_4
set_option maxRecDepth 20000 in
set_option maxHeartbeats 4000000 in
theorem mc_X7_init_11 (Y : xY) (Z : xZ) : xMc Z yX7_init cX7_init 1 1 0 0 [.ref (Y.1 19)] sx31 Y sxm7 sx31 sxm7 := by
  refine xMc_of (by decide) rfl (Nat.le_of_ble_eq_true rfl) (fun B C R => ?_)
  have C : xC (Gl sx31 Y) Z (xBk B 0 0) "BetweenStops$Trip" cX7_init 1 1 := C
  have hA : ∀ q, B.s.heap.size ≤ q → B.A q := fun q h => by rw [R.2.2.1]; exact Or.inr h
  have HK : ∀ {k2 : Nat}, k2 ≤ 0 → k2 ≤ B.R.cells := fun h => by rw [R.2.2.2.2.1]; exact h
  have HN : ∀ {n2 : Nat}, n2 ≤ 0 → n2 ≤ B.R.slots := fun h => by rw [R.2.2.2.2.2.1]; exact h
  show xWS (Gl sx31 Y) (xBk B 0 0) 1 sxm7 [(0, .ref (Y.1 19))] 0 []
  refine ws_aload_n (pc := 0) C dX7_init_0 rfl 0 rfl ?_
  refine wg_obj (pc := 1) C dX7_init_1 kl_X7_1 kz_inst kz_code (Nat.le_of_ble_eq_true rfl) (by decide) ?_
  exact wg_ret C R rfl (fun _ _ => rfl) dX7_init_4
set_option maxRecDepth 20000 in
set_option maxHeartbeats 4000000 in
theorem mc_X7_init_12 (Y : xY) (Z : xZ) : xMc Z yX7_init cX7_init 1 1 0 0 [.ref (Y.1 20)] sx33 Y sxm7 sx33 sxm7 := by
  refine xMc_of (by decide) rfl (Nat.le_of_ble_eq_true rfl) (fun B C R => ?_)
  have C : xC (Gl sx33 Y) Z (xBk B 0 0) "BetweenStops$Trip" cX7_init 1 1 := C
  have hA : ∀ q, B.s.heap.size ≤ q → B.A q := fun q h => by rw [R.2.2.1]; exact Or.inr h
  have HK : ∀ {k2 : Nat}, k2 ≤ 0 → k2 ≤ B.R.cells := fun h => by rw [R.2.2.2.2.1]; exact h
  have HN : ∀ {n2 : Nat}, n2 ≤ 0 → n2 ≤ B.R.slots := fun h => by rw [R.2.2.2.2.2.1]; exact h
  show xWS (Gl sx33 Y) (xBk B 0 0) 1 sxm7 [(0, .ref (Y.1 20))] 0 []
  refine ws_aload_n (pc := 0) C dX7_init_0 rfl 0 rfl ?_
  refine wg_obj (pc := 1) C dX7_init_1 kl_X7_1 kz_inst kz_code (Nat.le_of_ble_eq_true rfl) (by decide) ?_
  exact wg_ret C R rfl (fun _ _ => rfl) dX7_init_4
set_option maxRecDepth 20000 in
set_option maxHeartbeats 4000000 in
theorem mc_X7_init_13 (Y : xY) (Z : xZ) : xMc Z yX7_init cX7_init 1 1 0 0 [.ref (Y.1 21)] sx35 Y sxm7 sx35 sxm7 := by
  refine xMc_of (by decide) rfl (Nat.le_of_ble_eq_true rfl) (fun B C R => ?_)
  have C : xC (Gl sx35 Y) Z (xBk B 0 0) "BetweenStops$Trip" cX7_init 1 1 := C
  have hA : ∀ q, B.s.heap.size ≤ q → B.A q := fun q h => by rw [R.2.2.1]; exact Or.inr h
  have HK : ∀ {k2 : Nat}, k2 ≤ 0 → k2 ≤ B.R.cells := fun h => by rw [R.2.2.2.2.1]; exact h
  have HN : ∀ {n2 : Nat}, n2 ≤ 0 → n2 ≤ B.R.slots := fun h => by rw [R.2.2.2.2.2.1]; exact h
  show xWS (Gl sx35 Y) (xBk B 0 0) 1 sxm7 [(0, .ref (Y.1 21))] 0 []
  refine ws_aload_n (pc := 0) C dX7_init_0 rfl 0 rfl ?_
  refine wg_obj (pc := 1) C dX7_init_1 kl_X7_1 kz_inst kz_code (Nat.le_of_ble_eq_true rfl) (by decide) ?_
  exact wg_ret C R rfl (fun _ _ => rfl) dX7_init_4
set_option maxRecDepth 20000 in
set_option maxHeartbeats 4000000 in
theorem mc_X7_init_14 (Y : xY) (Z : xZ) : xMc Z yX7_init cX7_init 1 1 0 0 [.ref (Y.1 22)] sx37 Y sxm7 sx37 sxm7 := by
  refine xMc_of (by decide) rfl (Nat.le_of_ble_eq_true rfl) (fun B C R => ?_)
  have C : xC (Gl sx37 Y) Z (xBk B 0 0) "BetweenStops$Trip" cX7_init 1 1 := C
  have hA : ∀ q, B.s.heap.size ≤ q → B.A q := fun q h => by rw [R.2.2.1]; exact Or.inr h
  have HK : ∀ {k2 : Nat}, k2 ≤ 0 → k2 ≤ B.R.cells := fun h => by rw [R.2.2.2.2.1]; exact h
  have HN : ∀ {n2 : Nat}, n2 ≤ 0 → n2 ≤ B.R.slots := fun h => by rw [R.2.2.2.2.2.1]; exact h
  show xWS (Gl sx37 Y) (xBk B 0 0) 1 sxm7 [(0, .ref (Y.1 22))] 0 []
  refine ws_aload_n (pc := 0) C dX7_init_0 rfl 0 rfl ?_
  refine wg_obj (pc := 1) C dX7_init_1 kl_X7_1 kz_inst kz_code (Nat.le_of_ble_eq_true rfl) (by decide) ?_
  exact wg_ret C R rfl (fun _ _ => rfl) dX7_init_4
set_option maxRecDepth 20000 in
set_option maxHeartbeats 4000000 in
theorem mc_X7_init_15 (Y : xY) (Z : xZ) : xMc Z yX7_init cX7_init 1 1 0 0 [.ref (Y.1 23)] sx39 Y sxm7 sx39 sxm7 := by
  refine xMc_of (by decide) rfl (Nat.le_of_ble_eq_true rfl) (fun B C R => ?_)
  have C : xC (Gl sx39 Y) Z (xBk B 0 0) "BetweenStops$Trip" cX7_init 1 1 := C
  have hA : ∀ q, B.s.heap.size ≤ q → B.A q := fun q h => by rw [R.2.2.1]; exact Or.inr h
  have HK : ∀ {k2 : Nat}, k2 ≤ 0 → k2 ≤ B.R.cells := fun h => by rw [R.2.2.2.2.1]; exact h
  have HN : ∀ {n2 : Nat}, n2 ≤ 0 → n2 ≤ B.R.slots := fun h => by rw [R.2.2.2.2.2.1]; exact h
  show xWS (Gl sx39 Y) (xBk B 0 0) 1 sxm7 [(0, .ref (Y.1 23))] 0 []
  refine ws_aload_n (pc := 0) C dX7_init_0 rfl 0 rfl ?_
  refine wg_obj (pc := 1) C dX7_init_1 kl_X7_1 kz_inst kz_code (Nat.le_of_ble_eq_true rfl) (by decide) ?_
  exact wg_ret C R rfl (fun _ _ => rfl) dX7_init_4
set_option maxRecDepth 20000 in
set_option maxHeartbeats 4000000 in
theorem mc_X7_init_16 (Y : xY) (Z : xZ) : xMc Z yX7_init cX7_init 1 1 0 0 [.ref (Y.1 24)] sx41 Y sxm7 sx41 sxm7 := by
  refine xMc_of (by decide) rfl (Nat.le_of_ble_eq_true rfl) (fun B C R => ?_)
  have C : xC (Gl sx41 Y) Z (xBk B 0 0) "BetweenStops$Trip" cX7_init 1 1 := C
  have hA : ∀ q, B.s.heap.size ≤ q → B.A q := fun q h => by rw [R.2.2.1]; exact Or.inr h
  have HK : ∀ {k2 : Nat}, k2 ≤ 0 → k2 ≤ B.R.cells := fun h => by rw [R.2.2.2.2.1]; exact h
  have HN : ∀ {n2 : Nat}, n2 ≤ 0 → n2 ≤ B.R.slots := fun h => by rw [R.2.2.2.2.2.1]; exact h
  show xWS (Gl sx41 Y) (xBk B 0 0) 1 sxm7 [(0, .ref (Y.1 24))] 0 []
  refine ws_aload_n (pc := 0) C dX7_init_0 rfl 0 rfl ?_
  refine wg_obj (pc := 1) C dX7_init_1 kl_X7_1 kz_inst kz_code (Nat.le_of_ble_eq_true rfl) (by decide) ?_
  exact wg_ret C R rfl (fun _ _ => rfl) dX7_init_4
set_option maxRecDepth 20000 in
set_option maxHeartbeats 4000000 in
theorem mc_X7_init_17 (Y : xY) (Z : xZ) : xMc Z yX7_init cX7_init 1 1 0 0 [.ref (Y.1 25)] sx43 Y sxm7 sx43 sxm7 := by
  refine xMc_of (by decide) rfl (Nat.le_of_ble_eq_true rfl) (fun B C R => ?_)
  have C : xC (Gl sx43 Y) Z (xBk B 0 0) "BetweenStops$Trip" cX7_init 1 1 := C
  have hA : ∀ q, B.s.heap.size ≤ q → B.A q := fun q h => by rw [R.2.2.1]; exact Or.inr h
  have HK : ∀ {k2 : Nat}, k2 ≤ 0 → k2 ≤ B.R.cells := fun h => by rw [R.2.2.2.2.1]; exact h
  have HN : ∀ {n2 : Nat}, n2 ≤ 0 → n2 ≤ B.R.slots := fun h => by rw [R.2.2.2.2.2.1]; exact h
  show xWS (Gl sx43 Y) (xBk B 0 0) 1 sxm7 [(0, .ref (Y.1 25))] 0 []
  refine ws_aload_n (pc := 0) C dX7_init_0 rfl 0 rfl ?_
  refine wg_obj (pc := 1) C dX7_init_1 kl_X7_1 kz_inst kz_code (Nat.le_of_ble_eq_true rfl) (by decide) ?_
  exact wg_ret C R rfl (fun _ _ => rfl) dX7_init_4
set_option maxRecDepth 20000 in
set_option maxHeartbeats 4000000 in
theorem mc_X7_init_18 (Y : xY) (Z : xZ) : xMc Z yX7_init cX7_init 1 1 0 0 [.ref (Y.1 26)] sx45 Y sxm7 sx45 sxm7 := by
  refine xMc_of (by decide) rfl (Nat.le_of_ble_eq_true rfl) (fun B C R => ?_)
  have C : xC (Gl sx45 Y) Z (xBk B 0 0) "BetweenStops$Trip" cX7_init 1 1 := C
  have hA : ∀ q, B.s.heap.size ≤ q → B.A q := fun q h => by rw [R.2.2.1]; exact Or.inr h
  have HK : ∀ {k2 : Nat}, k2 ≤ 0 → k2 ≤ B.R.cells := fun h => by rw [R.2.2.2.2.1]; exact h
  have HN : ∀ {n2 : Nat}, n2 ≤ 0 → n2 ≤ B.R.slots := fun h => by rw [R.2.2.2.2.2.1]; exact h
  show xWS (Gl sx45 Y) (xBk B 0 0) 1 sxm7 [(0, .ref (Y.1 26))] 0 []
  refine ws_aload_n (pc := 0) C dX7_init_0 rfl 0 rfl ?_
  refine wg_obj (pc := 1) C dX7_init_1 kl_X7_1 kz_inst kz_code (Nat.le_of_ble_eq_true rfl) (by decide) ?_
  exact wg_ret C R rfl (fun _ _ => rfl) dX7_init_4
set_option maxRecDepth 20000 in
set_option maxHeartbeats 4000000 in
theorem mc_X6_init_2 (Y : xY) (Z : xZ) : xMc Z yX6_init cX6_init 2 2 25 256 [.ref (Y.1 1)] sx2 Y x0 sx46 sxm7 := by
  refine xMc_of (by decide) rfl (Nat.le_of_ble_eq_true rfl) (fun B C R => ?_)
  have C : xC (Gl sx2 Y) Z (xBk B 0 0) "BetweenStops$Town" cX6_init 2 2 := C
  have hA : ∀ q, B.s.heap.size ≤ q → B.A q := fun q h => by rw [R.2.2.1]; exact Or.inr h
  have HK : ∀ {k2 : Nat}, k2 ≤ 25 → k2 ≤ B.R.cells := fun h => by rw [R.2.2.2.2.1]; exact h
  have HN : ∀ {n2 : Nat}, n2 ≤ 256 → n2 ≤ B.R.slots := fun h => by rw [R.2.2.2.2.2.1]; exact h
  show xWS (Gl sx2 Y) (xBk B 0 0) 2 x0 [(0, .ref (Y.1 1))] 0 []
  refine ws_aload_n (pc := 0) C dX6_init_0 rfl 0 rfl ?_
  refine wg_obj (pc := 1) C dX6_init_1 kl_X6_3 kz_inst kz_code (Nat.le_of_ble_eq_true rfl) (by decide) ?_
  refine ws_aload_n (pc := 4) C dX6_init_4 rfl 0 rfl ?_
  refine ws_bipush (pc := 5) C dX6_init_5 cb_41 ?_
  refine wg_newa (l2 := sx3) (t := 0) (N' := 41) (fun a => [(0, .ref (a 1))]) (fun a => [.ref (a 1)]) C dX6_init_7 (by decide) rfl kar_int hA sx2_w rfl (xmz0 2 (by decide)).1 (xmz0 2 (by decide)).2 (by decide) (by decide) (by decide) rfl rfl (HK (k2 := 1) (by decide)) (HN (n2 := 41) (by decide)) (fun a h => ⟨by simp only [h 1 (Nat.le_of_ble_eq_true rfl)], by simp only [h 1 (Nat.le_of_ble_eq_true rfl)]⟩) (fun a1 h1 C => ?_)
  have g1 : ∀ c, c < 2 → a1 c = Y.1 c := fun c hc => (h1 c (Nat.lt_of_lt_of_le hc (Nat.le_of_ble_eq_true rfl)))
  have C : xC (Gl sx3 (a1, Y.2)) Z (xBk B 1 41) "BetweenStops$Town" cX6_init 2 2 := C
  show xWS (Gl sx3 (a1, Y.2)) (xBk B 1 41) 2 x0 [(0, .ref (a1 1))] 9 [.ref (a1 2), .ref (a1 1)]
  refine wg_putr (l2 := sx4) (k := 0) (r := 2) (i := 1) (pc := 9) C dX6_init_9 rfl hin_6 tyX6 tyX6_ok nmX6 (by decide) kf_X6_9 rfl rfl (tyX6_ok 0 (by decide)) rfl rfl R.2.1 sx3_at1 (by decide) rfl (fun C => ?_)
  refine ws_aload_n (pc := 12) C dX6_init_12 rfl 0 rfl ?_
  refine ws_bipush (pc := 13) C dX6_init_13 cb_41 ?_
  refine wg_newa (l2 := sx5) (t := 0) (N' := 41) (fun a => [(0, .ref (a 1))]) (fun a => [.ref (a 1)]) C dX6_init_15 (by decide) rfl kar_int hA sx4_w rfl (xmz0 3 (by decide)).1 (xmz0 3 (by decide)).2 (by decide) (by decide) (by decide) rfl rfl (HK (k2 := 2) (by decide)) (HN (n2 := 82) (by decide)) (fun a h => ⟨by simp only [h 1 (Nat.le_of_ble_eq_true rfl)], by simp only [h 1 (Nat.le_of_ble_eq_true rfl)]⟩) (fun a2 h2 C => ?_)
  have g2 : ∀ c, c < 2 → a2 c = Y.1 c := fun c hc => (h2 c (Nat.lt_of_lt_of_le hc (Nat.le_of_ble_eq_true rfl))).trans (g1 c hc)
  have C : xC (Gl sx5 (a2, Y.2)) Z (xBk B 2 82) "BetweenStops$Town" cX6_init 2 2 := C
  show xWS (Gl sx5 (a2, Y.2)) (xBk B 2 82) 2 x0 [(0, .ref (a2 1))] 17 [.ref (a2 3), .ref (a2 1)]
  refine wg_putr (l2 := sx6) (k := 1) (r := 3) (i := 1) (pc := 17) C dX6_init_17 rfl hin_6 tyX6 tyX6_ok nmX6 (by decide) kf_X6_15 rfl rfl (tyX6_ok 1 (by decide)) rfl rfl R.2.1 sx5_at1 (by decide) rfl (fun C => ?_)
  refine ws_aload_n (pc := 20) C dX6_init_20 rfl 0 rfl ?_
  refine ws_bipush (pc := 21) C dX6_init_21 cb_41 ?_
  refine wg_newa (l2 := sx7) (t := 0) (N' := 41) (fun a => [(0, .ref (a 1))]) (fun a => [.ref (a 1)]) C dX6_init_23 (by decide) rfl kar_int hA sx6_w rfl (xmz0 4 (by decide)).1 (xmz0 4 (by decide)).2 (by decide) (by decide) (by decide) rfl rfl (HK (k2 := 3) (by decide)) (HN (n2 := 123) (by decide)) (fun a h => ⟨by simp only [h 1 (Nat.le_of_ble_eq_true rfl)], by simp only [h 1 (Nat.le_of_ble_eq_true rfl)]⟩) (fun a3 h3 C => ?_)
  have g3 : ∀ c, c < 2 → a3 c = Y.1 c := fun c hc => (h3 c (Nat.lt_of_lt_of_le hc (Nat.le_of_ble_eq_true rfl))).trans (g2 c hc)
  have C : xC (Gl sx7 (a3, Y.2)) Z (xBk B 3 123) "BetweenStops$Town" cX6_init 2 2 := C
  show xWS (Gl sx7 (a3, Y.2)) (xBk B 3 123) 2 x0 [(0, .ref (a3 1))] 25 [.ref (a3 4), .ref (a3 1)]
  refine wg_putr (l2 := sx8) (k := 2) (r := 4) (i := 1) (pc := 25) C dX6_init_25 rfl hin_6 tyX6 tyX6_ok nmX6 (by decide) kf_X6_18 rfl rfl (tyX6_ok 2 (by decide)) rfl rfl R.2.1 sx7_at1 (by decide) rfl (fun C => ?_)
  refine ws_aload_n (pc := 28) C dX6_init_28 rfl 0 rfl ?_
  refine ws_iconst (pc := 29) C dX6_init_29 ci_3 ?_
  refine ws_bipush (pc := 30) C dX6_init_30 cb_6 ?_
  refine wg_mna (l2 := sx9) (N' := 3) (M' := 6) (fun a => [(0, .ref (a 1))]) (fun a => [.ref (a 1)]) C dX6_init_32 kcl_X6_21 R.2.2.2.1.2.2.2.2 kar_int hA sx8_w rfl (fun c hc => (xmz0 c (Nat.le_trans (Nat.le_of_ble_eq_true rfl) hc)).1) (by decide) (by decide) (by decide) (by decide) (by decide) (by decide) rfl rfl (HK (k2 := 7) (by decide)) (HN (n2 := 144) (by decide)) (fun a h => ⟨by simp only [h 1 (Nat.le_of_ble_eq_true rfl)], by simp only [h 1 (Nat.le_of_ble_eq_true rfl)]⟩) (fun a4 h4 C => ?_)
  have g4 : ∀ c, c < 2 → a4 c = Y.1 c := fun c hc => (h4 c (Nat.lt_of_lt_of_le hc (Nat.le_of_ble_eq_true rfl))).trans (g3 c hc)
  have C : xC (Gl sx9 (a4, Y.2)) Z (xBk B 7 144) "BetweenStops$Town" cX6_init 2 2 := C
  show xWS (Gl sx9 (a4, Y.2)) (xBk B 7 144) 2 x0 [(0, .ref (a4 1))] 36 [.ref (a4 5), .ref (a4 1)]
  refine wg_putr (l2 := sx10) (k := 3) (r := 5) (i := 1) (pc := 36) C dX6_init_36 rfl hin_6 tyX6 tyX6_ok nmX6 (by decide) kf_X6_23 rfl rfl (tyX6_ok 3 (by decide)) rfl rfl R.2.1 sx9_at1 (by decide) rfl (fun C => ?_)
  refine ws_aload_n (pc := 39) C dX6_init_39 rfl 0 rfl ?_
  refine ws_sipush (pc := 40) C dX6_init_40 cs_300 ?_
  refine ws_putI (σ2 := sxm1) (pc := 43) C dX6_init_43 fp_X6_26 (xSf_of sx10_at1 rfl) rfl ?_
  refine ws_aload_n (pc := 46) C dX6_init_46 rfl 0 rfl ?_
  refine ws_iconst (pc := 47) C dX6_init_47 ci_3 ?_
  refine ws_putI (σ2 := sxm2) (pc := 48) C dX6_init_48 fp_X6_30 (xSf_of sx10_at1 rfl) rfl ?_
  refine ws_aload_n (pc := 51) C dX6_init_51 rfl 0 rfl ?_
  refine ws_bipush (pc := 52) C dX6_init_52 cb_8 ?_
  refine wg_newq (l2 := sx11) (t := 4) (N' := 8) (fun a => [(0, .ref (a 1))]) (fun a => [.ref (a 1)]) C dX6_init_54 (by decide) rfl kcl_X6_33 R.2.2.2.1.1 hA sx10_w rfl (by decide) (by decide) (by decide) rfl rfl (HK (k2 := 8) (by decide)) (HN (n2 := 152) (by decide)) (fun a h => ⟨by simp only [h 1 (Nat.le_of_ble_eq_true rfl)], by simp only [h 1 (Nat.le_of_ble_eq_true rfl)]⟩) (fun a5 h5 C => ?_)
  have g5 : ∀ c, c < 2 → a5 c = Y.1 c := fun c hc => (h5 c (Nat.lt_of_lt_of_le hc (Nat.le_of_ble_eq_true rfl))).trans (g4 c hc)
  have C : xC (Gl sx11 (a5, Y.2)) Z (xBk B 8 152) "BetweenStops$Town" cX6_init 2 2 := C
  show xWS (Gl sx11 (a5, Y.2)) (xBk B 8 152) 2 sxm2 [(0, .ref (a5 1))] 57 [.ref (a5 9), .ref (a5 1)]
  refine wg_putr (l2 := sx12) (k := 6) (r := 9) (i := 1) (pc := 57) C dX6_init_57 rfl hin_6 tyX6 tyX6_ok nmX6 (by decide) kf_X6_35 rfl rfl (tyX6_ok 6 (by decide)) rfl rfl R.2.1 sx11_at1 (by decide) rfl (fun C => ?_)
  refine ws_aload_n (pc := 60) C dX6_init_60 rfl 0 rfl ?_
  refine ws_iconst (pc := 61) C dX6_init_61 ci_0 ?_
  refine ws_putI (σ2 := sxm3) (pc := 62) C dX6_init_62 fp_X6_39 (xSf_of sx12_at1 rfl) rfl ?_
  refine ws_aload_n (pc := 65) C dX6_init_65 rfl 0 rfl ?_
  refine ws_bipush (pc := 66) C dX6_init_66 cb_8 ?_
  refine wg_newq (l2 := sx13) (t := 5) (N' := 8) (fun a => [(0, .ref (a 1))]) (fun a => [.ref (a 1)]) C dX6_init_68 (by decide) rfl kcl_X6_42 R.2.2.2.1.2.1 hA sx12_w rfl (by decide) (by decide) (by decide) rfl rfl (HK (k2 := 9) (by decide)) (HN (n2 := 160) (by decide)) (fun a h => ⟨by simp only [h 1 (Nat.le_of_ble_eq_true rfl)], by simp only [h 1 (Nat.le_of_ble_eq_true rfl)]⟩) (fun a6 h6 C => ?_)
  have g6 : ∀ c, c < 2 → a6 c = Y.1 c := fun c hc => (h6 c (Nat.lt_of_lt_of_le hc (Nat.le_of_ble_eq_true rfl))).trans (g5 c hc)
  have C : xC (Gl sx13 (a6, Y.2)) Z (xBk B 9 160) "BetweenStops$Town" cX6_init 2 2 := C
  show xWS (Gl sx13 (a6, Y.2)) (xBk B 9 160) 2 sxm3 [(0, .ref (a6 1))] 71 [.ref (a6 10), .ref (a6 1)]
  refine wg_putr (l2 := sx14) (k := 8) (r := 10) (i := 1) (pc := 71) C dX6_init_71 rfl hin_6 tyX6 tyX6_ok nmX6 (by decide) kf_X6_44 rfl rfl (tyX6_ok 8 (by decide)) rfl rfl R.2.1 sx13_at1 (by decide) rfl (fun C => ?_)
  refine ws_aload_n (pc := 74) C dX6_init_74 rfl 0 rfl ?_
  refine ws_iconst (pc := 75) C dX6_init_75 ci_0 ?_
  refine ws_putI (σ2 := sxm4) (pc := 76) C dX6_init_76 fp_X6_48 (xSf_of sx14_at1 rfl) rfl ?_
  refine ws_iconst (pc := 79) C dX6_init_79 ci_0 ?_
  refine ws_istore_n (pc := 80) C dX6_init_80 rfl (by decide) rfl ?_
  refine ws_iload_n (pc := 81) C dX6_init_81 rfl 0 rfl ?_
  refine ws_iconst (pc := 82) C dX6_init_82 ci_3 ?_
  refine ws_icmp_ge (pc := 83) (tgt := 111) C dX6_init_83 (by decide) (fun c => absurd c (by decide)) (fun _ => ?_)
  refine ws_getsN (i := 2) (pc := 86) C dX6_init_86 rfl kg_X6_51 ?_
  refine ws_iload_n (pc := 89) C dX6_init_89 rfl 0 rfl ?_
  refine ws_bipush (pc := 90) C dX6_init_90 cb_6 ?_
  refine ws_imul (pc := 92) C dX6_init_92 ?_
  refine ws_aload_n (pc := 93) C dX6_init_93 rfl 1 rfl ?_
  refine ws_getr (r := 5) (pc := 94) C dX6_init_94 fd_X6_23 (xSf_of sx14_at1 rfl) ?_
  refine ws_iload_n (pc := 97) C dX6_init_97 rfl 0 rfl ?_
  refine ws_aaldK (q := 6) (r := fun j => 6 + 1 * j) (pc := 98) C dX6_init_98 (by decide) (xSq_of sx14_at5 (fun j h => match j, h with | 0, _ => rfl | 1, _ => rfl | 2, _ => rfl | j + 3, h => absurd h (by omega))) (by decide +kernel) (by decide : ((0 : Int32)).toNatClampNeg = 0) rfl ?_
  refine ws_iconst (pc := 99) C dX6_init_99 ci_0 ?_
  refine ws_bipush (pc := 100) C dX6_init_100 cb_6 ?_
  refine ws_copyS (σ2 := sxm5) (pc := 102) C dX6_init_102 ac_X6_54 rfl (xSr_of sx14_at6) (by decide +kernel) (Nat.le_of_ble_eq_true rfl) (by decide) rfl ?_
  refine ws_iinc (v := (1 : Int32)) (j := 0) (pc := 105) C dX6_init_105 rfl (by decide) (by decide) rfl ?_
  refine ws_goto (pc := 108) (tgt := 81) C dX6_init_108 (by decide) ?_
  refine ws_iload_n (pc := 81) C dX6_init_81 rfl 0 rfl ?_
  refine ws_iconst (pc := 82) C dX6_init_82 ci_3 ?_
  refine ws_icmp_ge (pc := 83) (tgt := 111) C dX6_init_83 (by decide) (fun c => absurd c (by decide)) (fun _ => ?_)
  refine ws_getsN (i := 2) (pc := 86) C dX6_init_86 rfl kg_X6_51 ?_
  refine ws_iload_n (pc := 89) C dX6_init_89 rfl 0 rfl ?_
  refine ws_bipush (pc := 90) C dX6_init_90 cb_6 ?_
  refine ws_imul (pc := 92) C dX6_init_92 ?_
  refine ws_aload_n (pc := 93) C dX6_init_93 rfl 1 rfl ?_
  refine ws_getr (r := 5) (pc := 94) C dX6_init_94 fd_X6_23 (xSf_of sx14_at1 rfl) ?_
  refine ws_iload_n (pc := 97) C dX6_init_97 rfl 0 rfl ?_
  refine ws_aaldK (q := 7) (r := fun j => 6 + 1 * j) (pc := 98) C dX6_init_98 (by decide) (xSq_of sx14_at5 (fun j h => match j, h with | 0, _ => rfl | 1, _ => rfl | 2, _ => rfl | j + 3, h => absurd h (by omega))) (by decide +kernel) (by decide : ((1 : Int32)).toNatClampNeg = 1) rfl ?_
  refine ws_iconst (pc := 99) C dX6_init_99 ci_0 ?_
  refine ws_bipush (pc := 100) C dX6_init_100 cb_6 ?_
  refine ws_copyS (σ2 := sxm6) (pc := 102) C dX6_init_102 ac_X6_54 rfl (xSr_of sx14_at7) (by decide +kernel) (Nat.le_of_ble_eq_true rfl) (by decide) rfl ?_
  refine ws_iinc (v := (2 : Int32)) (j := 0) (pc := 105) C dX6_init_105 rfl (by decide) (by decide) rfl ?_
  refine ws_goto (pc := 108) (tgt := 81) C dX6_init_108 (by decide) ?_
  refine ws_iload_n (pc := 81) C dX6_init_81 rfl 0 rfl ?_
  refine ws_iconst (pc := 82) C dX6_init_82 ci_3 ?_
  refine ws_icmp_ge (pc := 83) (tgt := 111) C dX6_init_83 (by decide) (fun c => absurd c (by decide)) (fun _ => ?_)
  refine ws_getsN (i := 2) (pc := 86) C dX6_init_86 rfl kg_X6_51 ?_
  refine ws_iload_n (pc := 89) C dX6_init_89 rfl 0 rfl ?_
  refine ws_bipush (pc := 90) C dX6_init_90 cb_6 ?_
  refine ws_imul (pc := 92) C dX6_init_92 ?_
  refine ws_aload_n (pc := 93) C dX6_init_93 rfl 1 rfl ?_
  refine ws_getr (r := 5) (pc := 94) C dX6_init_94 fd_X6_23 (xSf_of sx14_at1 rfl) ?_
  refine ws_iload_n (pc := 97) C dX6_init_97 rfl 0 rfl ?_
  refine ws_aaldK (q := 8) (r := fun j => 6 + 1 * j) (pc := 98) C dX6_init_98 (by decide) (xSq_of sx14_at5 (fun j h => match j, h with | 0, _ => rfl | 1, _ => rfl | 2, _ => rfl | j + 3, h => absurd h (by omega))) (by decide +kernel) (by decide : ((2 : Int32)).toNatClampNeg = 2) rfl ?_
  refine ws_iconst (pc := 99) C dX6_init_99 ci_0 ?_
  refine ws_bipush (pc := 100) C dX6_init_100 cb_6 ?_
  refine ws_copyS (σ2 := sxm7) (pc := 102) C dX6_init_102 ac_X6_54 rfl (xSr_of sx14_at8) (by decide +kernel) (Nat.le_of_ble_eq_true rfl) (by decide) rfl ?_
  refine ws_iinc (v := (3 : Int32)) (j := 0) (pc := 105) C dX6_init_105 rfl (by decide) (by decide) rfl ?_
  refine ws_goto (pc := 108) (tgt := 81) C dX6_init_108 (by decide) ?_
  refine ws_iload_n (pc := 81) C dX6_init_81 rfl 0 rfl ?_
  refine ws_iconst (pc := 82) C dX6_init_82 ci_3 ?_
  refine ws_icmp_ge (pc := 83) (tgt := 111) C dX6_init_83 (by decide) (fun _ => ?_) (fun c => absurd (by decide) c)
  refine ws_iconst (pc := 111) C dX6_init_111 ci_0 ?_
  refine ws_istore_n (pc := 112) C dX6_init_112 rfl (by decide) rfl ?_
  refine ws_iload_n (pc := 113) C dX6_init_113 rfl 0 rfl ?_
  refine ws_bipush (pc := 114) C dX6_init_114 cb_8 ?_
  refine ws_icmp_ge (pc := 116) (tgt := 138) C dX6_init_116 (by decide) (fun c => absurd c (by decide)) (fun _ => ?_)
  refine ws_aload_n (pc := 119) C dX6_init_119 rfl 1 rfl ?_
  refine ws_getr (r := 9) (pc := 120) C dX6_init_120 fd_X6_35 (xSf_of sx14_at1 rfl) ?_
  refine ws_iload_n (pc := 123) C dX6_init_123 rfl 0 rfl ?_
  refine wg_new (l2 := sx15) (fl := [.inr 0, .inr 0, .inr 0, .inr 0, .inr 0, .inr 0, .inr 0, .inr 0]) (fun a => [(1, .int (0 : Int32)), (0, .ref (a 1))]) (fun a => [.int (0 : Int32), .ref (a 9)]) C dX6_init_124 rfl hin_3 tyX3 tyX3_ok kcl_X6_33 kq_X3 ki_X3 hA sx14_w rfl (sxm7_z  11 (by decide)).1 (sxm7_z  11 (by decide)).2 (fun j h => match j, h with | 0, _ => ⟨_, rfl, rfl⟩ | 1, _ => ⟨_, rfl, rfl⟩ | 2, _ => ⟨_, rfl, rfl⟩ | 3, _ => ⟨_, rfl, rfl⟩ | 4, _ => ⟨_, rfl, rfl⟩ | 5, _ => ⟨_, rfl, rfl⟩ | 6, _ => ⟨_, rfl, rfl⟩ | 7, _ => ⟨_, rfl, rfl⟩ | j + 8, h => absurd h (by omega)) (xnul_of (by decide)) rfl rfl (HK (k2 := 10) (by decide)) (HN (n2 := 168) (by decide)) (fun a h => ⟨by simp only [h 1 (Nat.le_of_ble_eq_true rfl)], by simp only [h 9 (Nat.le_of_ble_eq_true rfl)]⟩) (fun a7 h7 C => ?_)
  have g7 : ∀ c, c < 2 → a7 c = Y.1 c := fun c hc => (h7 c (Nat.lt_of_lt_of_le hc (Nat.le_of_ble_eq_true rfl))).trans (g6 c hc)
  have C : xC (Gl sx15 (a7, Y.2)) Z (xBk B 10 168) "BetweenStops$Town" cX6_init 2 2 := C
  show xWS (Gl sx15 (a7, Y.2)) (xBk B 10 168) 2 sxm7 [(1, .int (0 : Int32)), (0, .ref (a7 1))] 127 [.ref (a7 11), .int (0 : Int32), .ref (a7 9)]
  refine ws_dup (pc := 127) C dX6_init_127 rfl ?_
  refine wg_init (l2 := sx15) (σ2 := sxm7) (r := 11) (pc := 128) (fun a => [(1, .int (0 : Int32)), (0, .ref (a 1))]) (fun a => [.ref (a 11), .int (0 : Int32), .ref (a 9)]) [] C R.2.2.2.1 (mc_X3_init_3 _ _) dX6_init_128 mw_X3_init kw_X6_60 hA rfl (st := [.ref (a7 11), .ref (a7 11), .int (0 : Int32), .ref (a7 9)]) rfl (Nat.le_of_ble_eq_true rfl) ⟨by decide, by decide⟩ rfl rfl (HK (k2 := 10) (by decide)) (HN (n2 := 168) (by decide)) (fun a h => ⟨by simp only [h 1 (Nat.le_of_ble_eq_true rfl)], by simp only [h 9 (Nat.le_of_ble_eq_true rfl), h 11 (Nat.le_of_ble_eq_true rfl)]⟩) (fun a8 h8 C => ?_)
  have g8 : ∀ c, c < 2 → a8 c = Y.1 c := fun c hc => (h8 c (Nat.lt_of_lt_of_le hc (Nat.le_of_ble_eq_true rfl))).trans (g7 c hc)
  have C : xC (Gl sx15 (a8, Y.2)) Z (xBk B 10 168) "BetweenStops$Town" cX6_init 2 2 := C
  show xWS (Gl sx15 (a8, Y.2)) (xBk B 10 168) 2 sxm7 [(1, .int (0 : Int32)), (0, .ref (a8 1))] 131 [.ref (a8 11), .int (0 : Int32), .ref (a8 9)]
  refine wg_astq (l2 := sx16) (r := 11) (i := 9) (pc := 131) C dX6_init_131 (by decide) sx15_at9 sx15_at11 rfl rfl rfl (by decide +kernel) (j := 0) (by decide) rfl (fun C => ?_)
  refine ws_iinc (v := (1 : Int32)) (j := 0) (pc := 132) C dX6_init_132 rfl (by decide) (by decide) rfl ?_
  refine ws_goto (pc := 135) (tgt := 113) C dX6_init_135 (by decide) ?_
  refine ws_iload_n (pc := 113) C dX6_init_113 rfl 0 rfl ?_
  refine ws_bipush (pc := 114) C dX6_init_114 cb_8 ?_
  refine ws_icmp_ge (pc := 116) (tgt := 138) C dX6_init_116 (by decide) (fun c => absurd c (by decide)) (fun _ => ?_)
  refine ws_aload_n (pc := 119) C dX6_init_119 rfl 1 rfl ?_
  refine ws_getr (r := 9) (pc := 120) C dX6_init_120 fd_X6_35 (xSf_of sx16_at1 rfl) ?_
  refine ws_iload_n (pc := 123) C dX6_init_123 rfl 0 rfl ?_
  refine wg_new (l2 := sx17) (fl := [.inr 0, .inr 0, .inr 0, .inr 0, .inr 0, .inr 0, .inr 0, .inr 0]) (fun a => [(1, .int (1 : Int32)), (0, .ref (a 1))]) (fun a => [.int (1 : Int32), .ref (a 9)]) C dX6_init_124 rfl hin_3 tyX3 tyX3_ok kcl_X6_33 kq_X3 ki_X3 hA sx16_w rfl (sxm7_z  12 (by decide)).1 (sxm7_z  12 (by decide)).2 (fun j h => match j, h with | 0, _ => ⟨_, rfl, rfl⟩ | 1, _ => ⟨_, rfl, rfl⟩ | 2, _ => ⟨_, rfl, rfl⟩ | 3, _ => ⟨_, rfl, rfl⟩ | 4, _ => ⟨_, rfl, rfl⟩ | 5, _ => ⟨_, rfl, rfl⟩ | 6, _ => ⟨_, rfl, rfl⟩ | 7, _ => ⟨_, rfl, rfl⟩ | j + 8, h => absurd h (by omega)) (xnul_of (by decide)) rfl rfl (HK (k2 := 11) (by decide)) (HN (n2 := 176) (by decide)) (fun a h => ⟨by simp only [h 1 (Nat.le_of_ble_eq_true rfl)], by simp only [h 9 (Nat.le_of_ble_eq_true rfl)]⟩) (fun a9 h9 C => ?_)
  have g9 : ∀ c, c < 2 → a9 c = Y.1 c := fun c hc => (h9 c (Nat.lt_of_lt_of_le hc (Nat.le_of_ble_eq_true rfl))).trans (g8 c hc)
  have C : xC (Gl sx17 (a9, Y.2)) Z (xBk B 11 176) "BetweenStops$Town" cX6_init 2 2 := C
  show xWS (Gl sx17 (a9, Y.2)) (xBk B 11 176) 2 sxm7 [(1, .int (1 : Int32)), (0, .ref (a9 1))] 127 [.ref (a9 12), .int (1 : Int32), .ref (a9 9)]
  refine ws_dup (pc := 127) C dX6_init_127 rfl ?_
  refine wg_init (l2 := sx17) (σ2 := sxm7) (r := 12) (pc := 128) (fun a => [(1, .int (1 : Int32)), (0, .ref (a 1))]) (fun a => [.ref (a 12), .int (1 : Int32), .ref (a 9)]) [] C R.2.2.2.1 (mc_X3_init_4 _ _) dX6_init_128 mw_X3_init kw_X6_60 hA rfl (st := [.ref (a9 12), .ref (a9 12), .int (1 : Int32), .ref (a9 9)]) rfl (Nat.le_of_ble_eq_true rfl) ⟨by decide, by decide⟩ rfl rfl (HK (k2 := 11) (by decide)) (HN (n2 := 176) (by decide)) (fun a h => ⟨by simp only [h 1 (Nat.le_of_ble_eq_true rfl)], by simp only [h 9 (Nat.le_of_ble_eq_true rfl), h 12 (Nat.le_of_ble_eq_true rfl)]⟩) (fun a10 h10 C => ?_)
  have g10 : ∀ c, c < 2 → a10 c = Y.1 c := fun c hc => (h10 c (Nat.lt_of_lt_of_le hc (Nat.le_of_ble_eq_true rfl))).trans (g9 c hc)
  have C : xC (Gl sx17 (a10, Y.2)) Z (xBk B 11 176) "BetweenStops$Town" cX6_init 2 2 := C
  show xWS (Gl sx17 (a10, Y.2)) (xBk B 11 176) 2 sxm7 [(1, .int (1 : Int32)), (0, .ref (a10 1))] 131 [.ref (a10 12), .int (1 : Int32), .ref (a10 9)]
  refine wg_astq (l2 := sx18) (r := 12) (i := 9) (pc := 131) C dX6_init_131 (by decide) sx17_at9 sx17_at12 rfl rfl rfl (by decide +kernel) (j := 1) (by decide) rfl (fun C => ?_)
  refine ws_iinc (v := (2 : Int32)) (j := 0) (pc := 132) C dX6_init_132 rfl (by decide) (by decide) rfl ?_
  refine ws_goto (pc := 135) (tgt := 113) C dX6_init_135 (by decide) ?_
  refine ws_iload_n (pc := 113) C dX6_init_113 rfl 0 rfl ?_
  refine ws_bipush (pc := 114) C dX6_init_114 cb_8 ?_
  refine ws_icmp_ge (pc := 116) (tgt := 138) C dX6_init_116 (by decide) (fun c => absurd c (by decide)) (fun _ => ?_)
  refine ws_aload_n (pc := 119) C dX6_init_119 rfl 1 rfl ?_
  refine ws_getr (r := 9) (pc := 120) C dX6_init_120 fd_X6_35 (xSf_of sx18_at1 rfl) ?_
  refine ws_iload_n (pc := 123) C dX6_init_123 rfl 0 rfl ?_
  refine wg_new (l2 := sx19) (fl := [.inr 0, .inr 0, .inr 0, .inr 0, .inr 0, .inr 0, .inr 0, .inr 0]) (fun a => [(1, .int (2 : Int32)), (0, .ref (a 1))]) (fun a => [.int (2 : Int32), .ref (a 9)]) C dX6_init_124 rfl hin_3 tyX3 tyX3_ok kcl_X6_33 kq_X3 ki_X3 hA sx18_w rfl (sxm7_z  13 (by decide)).1 (sxm7_z  13 (by decide)).2 (fun j h => match j, h with | 0, _ => ⟨_, rfl, rfl⟩ | 1, _ => ⟨_, rfl, rfl⟩ | 2, _ => ⟨_, rfl, rfl⟩ | 3, _ => ⟨_, rfl, rfl⟩ | 4, _ => ⟨_, rfl, rfl⟩ | 5, _ => ⟨_, rfl, rfl⟩ | 6, _ => ⟨_, rfl, rfl⟩ | 7, _ => ⟨_, rfl, rfl⟩ | j + 8, h => absurd h (by omega)) (xnul_of (by decide)) rfl rfl (HK (k2 := 12) (by decide)) (HN (n2 := 184) (by decide)) (fun a h => ⟨by simp only [h 1 (Nat.le_of_ble_eq_true rfl)], by simp only [h 9 (Nat.le_of_ble_eq_true rfl)]⟩) (fun a11 h11 C => ?_)
  have g11 : ∀ c, c < 2 → a11 c = Y.1 c := fun c hc => (h11 c (Nat.lt_of_lt_of_le hc (Nat.le_of_ble_eq_true rfl))).trans (g10 c hc)
  have C : xC (Gl sx19 (a11, Y.2)) Z (xBk B 12 184) "BetweenStops$Town" cX6_init 2 2 := C
  show xWS (Gl sx19 (a11, Y.2)) (xBk B 12 184) 2 sxm7 [(1, .int (2 : Int32)), (0, .ref (a11 1))] 127 [.ref (a11 13), .int (2 : Int32), .ref (a11 9)]
  refine ws_dup (pc := 127) C dX6_init_127 rfl ?_
  refine wg_init (l2 := sx19) (σ2 := sxm7) (r := 13) (pc := 128) (fun a => [(1, .int (2 : Int32)), (0, .ref (a 1))]) (fun a => [.ref (a 13), .int (2 : Int32), .ref (a 9)]) [] C R.2.2.2.1 (mc_X3_init_5 _ _) dX6_init_128 mw_X3_init kw_X6_60 hA rfl (st := [.ref (a11 13), .ref (a11 13), .int (2 : Int32), .ref (a11 9)]) rfl (Nat.le_of_ble_eq_true rfl) ⟨by decide, by decide⟩ rfl rfl (HK (k2 := 12) (by decide)) (HN (n2 := 184) (by decide)) (fun a h => ⟨by simp only [h 1 (Nat.le_of_ble_eq_true rfl)], by simp only [h 9 (Nat.le_of_ble_eq_true rfl), h 13 (Nat.le_of_ble_eq_true rfl)]⟩) (fun a12 h12 C => ?_)
  have g12 : ∀ c, c < 2 → a12 c = Y.1 c := fun c hc => (h12 c (Nat.lt_of_lt_of_le hc (Nat.le_of_ble_eq_true rfl))).trans (g11 c hc)
  have C : xC (Gl sx19 (a12, Y.2)) Z (xBk B 12 184) "BetweenStops$Town" cX6_init 2 2 := C
  show xWS (Gl sx19 (a12, Y.2)) (xBk B 12 184) 2 sxm7 [(1, .int (2 : Int32)), (0, .ref (a12 1))] 131 [.ref (a12 13), .int (2 : Int32), .ref (a12 9)]
  refine wg_astq (l2 := sx20) (r := 13) (i := 9) (pc := 131) C dX6_init_131 (by decide) sx19_at9 sx19_at13 rfl rfl rfl (by decide +kernel) (j := 2) (by decide) rfl (fun C => ?_)
  refine ws_iinc (v := (3 : Int32)) (j := 0) (pc := 132) C dX6_init_132 rfl (by decide) (by decide) rfl ?_
  refine ws_goto (pc := 135) (tgt := 113) C dX6_init_135 (by decide) ?_
  refine ws_iload_n (pc := 113) C dX6_init_113 rfl 0 rfl ?_
  refine ws_bipush (pc := 114) C dX6_init_114 cb_8 ?_
  refine ws_icmp_ge (pc := 116) (tgt := 138) C dX6_init_116 (by decide) (fun c => absurd c (by decide)) (fun _ => ?_)
  refine ws_aload_n (pc := 119) C dX6_init_119 rfl 1 rfl ?_
  refine ws_getr (r := 9) (pc := 120) C dX6_init_120 fd_X6_35 (xSf_of sx20_at1 rfl) ?_
  refine ws_iload_n (pc := 123) C dX6_init_123 rfl 0 rfl ?_
  refine wg_new (l2 := sx21) (fl := [.inr 0, .inr 0, .inr 0, .inr 0, .inr 0, .inr 0, .inr 0, .inr 0]) (fun a => [(1, .int (3 : Int32)), (0, .ref (a 1))]) (fun a => [.int (3 : Int32), .ref (a 9)]) C dX6_init_124 rfl hin_3 tyX3 tyX3_ok kcl_X6_33 kq_X3 ki_X3 hA sx20_w rfl (sxm7_z  14 (by decide)).1 (sxm7_z  14 (by decide)).2 (fun j h => match j, h with | 0, _ => ⟨_, rfl, rfl⟩ | 1, _ => ⟨_, rfl, rfl⟩ | 2, _ => ⟨_, rfl, rfl⟩ | 3, _ => ⟨_, rfl, rfl⟩ | 4, _ => ⟨_, rfl, rfl⟩ | 5, _ => ⟨_, rfl, rfl⟩ | 6, _ => ⟨_, rfl, rfl⟩ | 7, _ => ⟨_, rfl, rfl⟩ | j + 8, h => absurd h (by omega)) (xnul_of (by decide)) rfl rfl (HK (k2 := 13) (by decide)) (HN (n2 := 192) (by decide)) (fun a h => ⟨by simp only [h 1 (Nat.le_of_ble_eq_true rfl)], by simp only [h 9 (Nat.le_of_ble_eq_true rfl)]⟩) (fun a13 h13 C => ?_)
  have g13 : ∀ c, c < 2 → a13 c = Y.1 c := fun c hc => (h13 c (Nat.lt_of_lt_of_le hc (Nat.le_of_ble_eq_true rfl))).trans (g12 c hc)
  have C : xC (Gl sx21 (a13, Y.2)) Z (xBk B 13 192) "BetweenStops$Town" cX6_init 2 2 := C
  show xWS (Gl sx21 (a13, Y.2)) (xBk B 13 192) 2 sxm7 [(1, .int (3 : Int32)), (0, .ref (a13 1))] 127 [.ref (a13 14), .int (3 : Int32), .ref (a13 9)]
  refine ws_dup (pc := 127) C dX6_init_127 rfl ?_
  refine wg_init (l2 := sx21) (σ2 := sxm7) (r := 14) (pc := 128) (fun a => [(1, .int (3 : Int32)), (0, .ref (a 1))]) (fun a => [.ref (a 14), .int (3 : Int32), .ref (a 9)]) [] C R.2.2.2.1 (mc_X3_init_6 _ _) dX6_init_128 mw_X3_init kw_X6_60 hA rfl (st := [.ref (a13 14), .ref (a13 14), .int (3 : Int32), .ref (a13 9)]) rfl (Nat.le_of_ble_eq_true rfl) ⟨by decide, by decide⟩ rfl rfl (HK (k2 := 13) (by decide)) (HN (n2 := 192) (by decide)) (fun a h => ⟨by simp only [h 1 (Nat.le_of_ble_eq_true rfl)], by simp only [h 9 (Nat.le_of_ble_eq_true rfl), h 14 (Nat.le_of_ble_eq_true rfl)]⟩) (fun a14 h14 C => ?_)
  have g14 : ∀ c, c < 2 → a14 c = Y.1 c := fun c hc => (h14 c (Nat.lt_of_lt_of_le hc (Nat.le_of_ble_eq_true rfl))).trans (g13 c hc)
  have C : xC (Gl sx21 (a14, Y.2)) Z (xBk B 13 192) "BetweenStops$Town" cX6_init 2 2 := C
  show xWS (Gl sx21 (a14, Y.2)) (xBk B 13 192) 2 sxm7 [(1, .int (3 : Int32)), (0, .ref (a14 1))] 131 [.ref (a14 14), .int (3 : Int32), .ref (a14 9)]
  refine wg_astq (l2 := sx22) (r := 14) (i := 9) (pc := 131) C dX6_init_131 (by decide) sx21_at9 sx21_at14 rfl rfl rfl (by decide +kernel) (j := 3) (by decide) rfl (fun C => ?_)
  refine ws_iinc (v := (4 : Int32)) (j := 0) (pc := 132) C dX6_init_132 rfl (by decide) (by decide) rfl ?_
  refine ws_goto (pc := 135) (tgt := 113) C dX6_init_135 (by decide) ?_
  refine ws_iload_n (pc := 113) C dX6_init_113 rfl 0 rfl ?_
  refine ws_bipush (pc := 114) C dX6_init_114 cb_8 ?_
  refine ws_icmp_ge (pc := 116) (tgt := 138) C dX6_init_116 (by decide) (fun c => absurd c (by decide)) (fun _ => ?_)
  refine ws_aload_n (pc := 119) C dX6_init_119 rfl 1 rfl ?_
  refine ws_getr (r := 9) (pc := 120) C dX6_init_120 fd_X6_35 (xSf_of sx22_at1 rfl) ?_
  refine ws_iload_n (pc := 123) C dX6_init_123 rfl 0 rfl ?_
  refine wg_new (l2 := sx23) (fl := [.inr 0, .inr 0, .inr 0, .inr 0, .inr 0, .inr 0, .inr 0, .inr 0]) (fun a => [(1, .int (4 : Int32)), (0, .ref (a 1))]) (fun a => [.int (4 : Int32), .ref (a 9)]) C dX6_init_124 rfl hin_3 tyX3 tyX3_ok kcl_X6_33 kq_X3 ki_X3 hA sx22_w rfl (sxm7_z  15 (by decide)).1 (sxm7_z  15 (by decide)).2 (fun j h => match j, h with | 0, _ => ⟨_, rfl, rfl⟩ | 1, _ => ⟨_, rfl, rfl⟩ | 2, _ => ⟨_, rfl, rfl⟩ | 3, _ => ⟨_, rfl, rfl⟩ | 4, _ => ⟨_, rfl, rfl⟩ | 5, _ => ⟨_, rfl, rfl⟩ | 6, _ => ⟨_, rfl, rfl⟩ | 7, _ => ⟨_, rfl, rfl⟩ | j + 8, h => absurd h (by omega)) (xnul_of (by decide)) rfl rfl (HK (k2 := 14) (by decide)) (HN (n2 := 200) (by decide)) (fun a h => ⟨by simp only [h 1 (Nat.le_of_ble_eq_true rfl)], by simp only [h 9 (Nat.le_of_ble_eq_true rfl)]⟩) (fun a15 h15 C => ?_)
  have g15 : ∀ c, c < 2 → a15 c = Y.1 c := fun c hc => (h15 c (Nat.lt_of_lt_of_le hc (Nat.le_of_ble_eq_true rfl))).trans (g14 c hc)
  have C : xC (Gl sx23 (a15, Y.2)) Z (xBk B 14 200) "BetweenStops$Town" cX6_init 2 2 := C
  show xWS (Gl sx23 (a15, Y.2)) (xBk B 14 200) 2 sxm7 [(1, .int (4 : Int32)), (0, .ref (a15 1))] 127 [.ref (a15 15), .int (4 : Int32), .ref (a15 9)]
  refine ws_dup (pc := 127) C dX6_init_127 rfl ?_
  refine wg_init (l2 := sx23) (σ2 := sxm7) (r := 15) (pc := 128) (fun a => [(1, .int (4 : Int32)), (0, .ref (a 1))]) (fun a => [.ref (a 15), .int (4 : Int32), .ref (a 9)]) [] C R.2.2.2.1 (mc_X3_init_7 _ _) dX6_init_128 mw_X3_init kw_X6_60 hA rfl (st := [.ref (a15 15), .ref (a15 15), .int (4 : Int32), .ref (a15 9)]) rfl (Nat.le_of_ble_eq_true rfl) ⟨by decide, by decide⟩ rfl rfl (HK (k2 := 14) (by decide)) (HN (n2 := 200) (by decide)) (fun a h => ⟨by simp only [h 1 (Nat.le_of_ble_eq_true rfl)], by simp only [h 9 (Nat.le_of_ble_eq_true rfl), h 15 (Nat.le_of_ble_eq_true rfl)]⟩) (fun a16 h16 C => ?_)
  have g16 : ∀ c, c < 2 → a16 c = Y.1 c := fun c hc => (h16 c (Nat.lt_of_lt_of_le hc (Nat.le_of_ble_eq_true rfl))).trans (g15 c hc)
  have C : xC (Gl sx23 (a16, Y.2)) Z (xBk B 14 200) "BetweenStops$Town" cX6_init 2 2 := C
  show xWS (Gl sx23 (a16, Y.2)) (xBk B 14 200) 2 sxm7 [(1, .int (4 : Int32)), (0, .ref (a16 1))] 131 [.ref (a16 15), .int (4 : Int32), .ref (a16 9)]
  refine wg_astq (l2 := sx24) (r := 15) (i := 9) (pc := 131) C dX6_init_131 (by decide) sx23_at9 sx23_at15 rfl rfl rfl (by decide +kernel) (j := 4) (by decide) rfl (fun C => ?_)
  refine ws_iinc (v := (5 : Int32)) (j := 0) (pc := 132) C dX6_init_132 rfl (by decide) (by decide) rfl ?_
  refine ws_goto (pc := 135) (tgt := 113) C dX6_init_135 (by decide) ?_
  refine ws_iload_n (pc := 113) C dX6_init_113 rfl 0 rfl ?_
  refine ws_bipush (pc := 114) C dX6_init_114 cb_8 ?_
  refine ws_icmp_ge (pc := 116) (tgt := 138) C dX6_init_116 (by decide) (fun c => absurd c (by decide)) (fun _ => ?_)
  refine ws_aload_n (pc := 119) C dX6_init_119 rfl 1 rfl ?_
  refine ws_getr (r := 9) (pc := 120) C dX6_init_120 fd_X6_35 (xSf_of sx24_at1 rfl) ?_
  refine ws_iload_n (pc := 123) C dX6_init_123 rfl 0 rfl ?_
  refine wg_new (l2 := sx25) (fl := [.inr 0, .inr 0, .inr 0, .inr 0, .inr 0, .inr 0, .inr 0, .inr 0]) (fun a => [(1, .int (5 : Int32)), (0, .ref (a 1))]) (fun a => [.int (5 : Int32), .ref (a 9)]) C dX6_init_124 rfl hin_3 tyX3 tyX3_ok kcl_X6_33 kq_X3 ki_X3 hA sx24_w rfl (sxm7_z  16 (by decide)).1 (sxm7_z  16 (by decide)).2 (fun j h => match j, h with | 0, _ => ⟨_, rfl, rfl⟩ | 1, _ => ⟨_, rfl, rfl⟩ | 2, _ => ⟨_, rfl, rfl⟩ | 3, _ => ⟨_, rfl, rfl⟩ | 4, _ => ⟨_, rfl, rfl⟩ | 5, _ => ⟨_, rfl, rfl⟩ | 6, _ => ⟨_, rfl, rfl⟩ | 7, _ => ⟨_, rfl, rfl⟩ | j + 8, h => absurd h (by omega)) (xnul_of (by decide)) rfl rfl (HK (k2 := 15) (by decide)) (HN (n2 := 208) (by decide)) (fun a h => ⟨by simp only [h 1 (Nat.le_of_ble_eq_true rfl)], by simp only [h 9 (Nat.le_of_ble_eq_true rfl)]⟩) (fun a17 h17 C => ?_)
  have g17 : ∀ c, c < 2 → a17 c = Y.1 c := fun c hc => (h17 c (Nat.lt_of_lt_of_le hc (Nat.le_of_ble_eq_true rfl))).trans (g16 c hc)
  have C : xC (Gl sx25 (a17, Y.2)) Z (xBk B 15 208) "BetweenStops$Town" cX6_init 2 2 := C
  show xWS (Gl sx25 (a17, Y.2)) (xBk B 15 208) 2 sxm7 [(1, .int (5 : Int32)), (0, .ref (a17 1))] 127 [.ref (a17 16), .int (5 : Int32), .ref (a17 9)]
  refine ws_dup (pc := 127) C dX6_init_127 rfl ?_
  refine wg_init (l2 := sx25) (σ2 := sxm7) (r := 16) (pc := 128) (fun a => [(1, .int (5 : Int32)), (0, .ref (a 1))]) (fun a => [.ref (a 16), .int (5 : Int32), .ref (a 9)]) [] C R.2.2.2.1 (mc_X3_init_8 _ _) dX6_init_128 mw_X3_init kw_X6_60 hA rfl (st := [.ref (a17 16), .ref (a17 16), .int (5 : Int32), .ref (a17 9)]) rfl (Nat.le_of_ble_eq_true rfl) ⟨by decide, by decide⟩ rfl rfl (HK (k2 := 15) (by decide)) (HN (n2 := 208) (by decide)) (fun a h => ⟨by simp only [h 1 (Nat.le_of_ble_eq_true rfl)], by simp only [h 9 (Nat.le_of_ble_eq_true rfl), h 16 (Nat.le_of_ble_eq_true rfl)]⟩) (fun a18 h18 C => ?_)
  have g18 : ∀ c, c < 2 → a18 c = Y.1 c := fun c hc => (h18 c (Nat.lt_of_lt_of_le hc (Nat.le_of_ble_eq_true rfl))).trans (g17 c hc)
  have C : xC (Gl sx25 (a18, Y.2)) Z (xBk B 15 208) "BetweenStops$Town" cX6_init 2 2 := C
  show xWS (Gl sx25 (a18, Y.2)) (xBk B 15 208) 2 sxm7 [(1, .int (5 : Int32)), (0, .ref (a18 1))] 131 [.ref (a18 16), .int (5 : Int32), .ref (a18 9)]
  refine wg_astq (l2 := sx26) (r := 16) (i := 9) (pc := 131) C dX6_init_131 (by decide) sx25_at9 sx25_at16 rfl rfl rfl (by decide +kernel) (j := 5) (by decide) rfl (fun C => ?_)
  refine ws_iinc (v := (6 : Int32)) (j := 0) (pc := 132) C dX6_init_132 rfl (by decide) (by decide) rfl ?_
  refine ws_goto (pc := 135) (tgt := 113) C dX6_init_135 (by decide) ?_
  refine ws_iload_n (pc := 113) C dX6_init_113 rfl 0 rfl ?_
  refine ws_bipush (pc := 114) C dX6_init_114 cb_8 ?_
  refine ws_icmp_ge (pc := 116) (tgt := 138) C dX6_init_116 (by decide) (fun c => absurd c (by decide)) (fun _ => ?_)
  refine ws_aload_n (pc := 119) C dX6_init_119 rfl 1 rfl ?_
  refine ws_getr (r := 9) (pc := 120) C dX6_init_120 fd_X6_35 (xSf_of sx26_at1 rfl) ?_
  refine ws_iload_n (pc := 123) C dX6_init_123 rfl 0 rfl ?_
  refine wg_new (l2 := sx27) (fl := [.inr 0, .inr 0, .inr 0, .inr 0, .inr 0, .inr 0, .inr 0, .inr 0]) (fun a => [(1, .int (6 : Int32)), (0, .ref (a 1))]) (fun a => [.int (6 : Int32), .ref (a 9)]) C dX6_init_124 rfl hin_3 tyX3 tyX3_ok kcl_X6_33 kq_X3 ki_X3 hA sx26_w rfl (sxm7_z  17 (by decide)).1 (sxm7_z  17 (by decide)).2 (fun j h => match j, h with | 0, _ => ⟨_, rfl, rfl⟩ | 1, _ => ⟨_, rfl, rfl⟩ | 2, _ => ⟨_, rfl, rfl⟩ | 3, _ => ⟨_, rfl, rfl⟩ | 4, _ => ⟨_, rfl, rfl⟩ | 5, _ => ⟨_, rfl, rfl⟩ | 6, _ => ⟨_, rfl, rfl⟩ | 7, _ => ⟨_, rfl, rfl⟩ | j + 8, h => absurd h (by omega)) (xnul_of (by decide)) rfl rfl (HK (k2 := 16) (by decide)) (HN (n2 := 216) (by decide)) (fun a h => ⟨by simp only [h 1 (Nat.le_of_ble_eq_true rfl)], by simp only [h 9 (Nat.le_of_ble_eq_true rfl)]⟩) (fun a19 h19 C => ?_)
  have g19 : ∀ c, c < 2 → a19 c = Y.1 c := fun c hc => (h19 c (Nat.lt_of_lt_of_le hc (Nat.le_of_ble_eq_true rfl))).trans (g18 c hc)
  have C : xC (Gl sx27 (a19, Y.2)) Z (xBk B 16 216) "BetweenStops$Town" cX6_init 2 2 := C
  show xWS (Gl sx27 (a19, Y.2)) (xBk B 16 216) 2 sxm7 [(1, .int (6 : Int32)), (0, .ref (a19 1))] 127 [.ref (a19 17), .int (6 : Int32), .ref (a19 9)]
  refine ws_dup (pc := 127) C dX6_init_127 rfl ?_
  refine wg_init (l2 := sx27) (σ2 := sxm7) (r := 17) (pc := 128) (fun a => [(1, .int (6 : Int32)), (0, .ref (a 1))]) (fun a => [.ref (a 17), .int (6 : Int32), .ref (a 9)]) [] C R.2.2.2.1 (mc_X3_init_9 _ _) dX6_init_128 mw_X3_init kw_X6_60 hA rfl (st := [.ref (a19 17), .ref (a19 17), .int (6 : Int32), .ref (a19 9)]) rfl (Nat.le_of_ble_eq_true rfl) ⟨by decide, by decide⟩ rfl rfl (HK (k2 := 16) (by decide)) (HN (n2 := 216) (by decide)) (fun a h => ⟨by simp only [h 1 (Nat.le_of_ble_eq_true rfl)], by simp only [h 9 (Nat.le_of_ble_eq_true rfl), h 17 (Nat.le_of_ble_eq_true rfl)]⟩) (fun a20 h20 C => ?_)
  have g20 : ∀ c, c < 2 → a20 c = Y.1 c := fun c hc => (h20 c (Nat.lt_of_lt_of_le hc (Nat.le_of_ble_eq_true rfl))).trans (g19 c hc)
  have C : xC (Gl sx27 (a20, Y.2)) Z (xBk B 16 216) "BetweenStops$Town" cX6_init 2 2 := C
  show xWS (Gl sx27 (a20, Y.2)) (xBk B 16 216) 2 sxm7 [(1, .int (6 : Int32)), (0, .ref (a20 1))] 131 [.ref (a20 17), .int (6 : Int32), .ref (a20 9)]
  refine wg_astq (l2 := sx28) (r := 17) (i := 9) (pc := 131) C dX6_init_131 (by decide) sx27_at9 sx27_at17 rfl rfl rfl (by decide +kernel) (j := 6) (by decide) rfl (fun C => ?_)
  refine ws_iinc (v := (7 : Int32)) (j := 0) (pc := 132) C dX6_init_132 rfl (by decide) (by decide) rfl ?_
  refine ws_goto (pc := 135) (tgt := 113) C dX6_init_135 (by decide) ?_
  refine ws_iload_n (pc := 113) C dX6_init_113 rfl 0 rfl ?_
  refine ws_bipush (pc := 114) C dX6_init_114 cb_8 ?_
  refine ws_icmp_ge (pc := 116) (tgt := 138) C dX6_init_116 (by decide) (fun c => absurd c (by decide)) (fun _ => ?_)
  refine ws_aload_n (pc := 119) C dX6_init_119 rfl 1 rfl ?_
  refine ws_getr (r := 9) (pc := 120) C dX6_init_120 fd_X6_35 (xSf_of sx28_at1 rfl) ?_
  refine ws_iload_n (pc := 123) C dX6_init_123 rfl 0 rfl ?_
  refine wg_new (l2 := sx29) (fl := [.inr 0, .inr 0, .inr 0, .inr 0, .inr 0, .inr 0, .inr 0, .inr 0]) (fun a => [(1, .int (7 : Int32)), (0, .ref (a 1))]) (fun a => [.int (7 : Int32), .ref (a 9)]) C dX6_init_124 rfl hin_3 tyX3 tyX3_ok kcl_X6_33 kq_X3 ki_X3 hA sx28_w rfl (sxm7_z  18 (by decide)).1 (sxm7_z  18 (by decide)).2 (fun j h => match j, h with | 0, _ => ⟨_, rfl, rfl⟩ | 1, _ => ⟨_, rfl, rfl⟩ | 2, _ => ⟨_, rfl, rfl⟩ | 3, _ => ⟨_, rfl, rfl⟩ | 4, _ => ⟨_, rfl, rfl⟩ | 5, _ => ⟨_, rfl, rfl⟩ | 6, _ => ⟨_, rfl, rfl⟩ | 7, _ => ⟨_, rfl, rfl⟩ | j + 8, h => absurd h (by omega)) (xnul_of (by decide)) rfl rfl (HK (k2 := 17) (by decide)) (HN (n2 := 224) (by decide)) (fun a h => ⟨by simp only [h 1 (Nat.le_of_ble_eq_true rfl)], by simp only [h 9 (Nat.le_of_ble_eq_true rfl)]⟩) (fun a21 h21 C => ?_)
  have g21 : ∀ c, c < 2 → a21 c = Y.1 c := fun c hc => (h21 c (Nat.lt_of_lt_of_le hc (Nat.le_of_ble_eq_true rfl))).trans (g20 c hc)
  have C : xC (Gl sx29 (a21, Y.2)) Z (xBk B 17 224) "BetweenStops$Town" cX6_init 2 2 := C
  show xWS (Gl sx29 (a21, Y.2)) (xBk B 17 224) 2 sxm7 [(1, .int (7 : Int32)), (0, .ref (a21 1))] 127 [.ref (a21 18), .int (7 : Int32), .ref (a21 9)]
  refine ws_dup (pc := 127) C dX6_init_127 rfl ?_
  refine wg_init (l2 := sx29) (σ2 := sxm7) (r := 18) (pc := 128) (fun a => [(1, .int (7 : Int32)), (0, .ref (a 1))]) (fun a => [.ref (a 18), .int (7 : Int32), .ref (a 9)]) [] C R.2.2.2.1 (mc_X3_init_10 _ _) dX6_init_128 mw_X3_init kw_X6_60 hA rfl (st := [.ref (a21 18), .ref (a21 18), .int (7 : Int32), .ref (a21 9)]) rfl (Nat.le_of_ble_eq_true rfl) ⟨by decide, by decide⟩ rfl rfl (HK (k2 := 17) (by decide)) (HN (n2 := 224) (by decide)) (fun a h => ⟨by simp only [h 1 (Nat.le_of_ble_eq_true rfl)], by simp only [h 9 (Nat.le_of_ble_eq_true rfl), h 18 (Nat.le_of_ble_eq_true rfl)]⟩) (fun a22 h22 C => ?_)
  have g22 : ∀ c, c < 2 → a22 c = Y.1 c := fun c hc => (h22 c (Nat.lt_of_lt_of_le hc (Nat.le_of_ble_eq_true rfl))).trans (g21 c hc)
  have C : xC (Gl sx29 (a22, Y.2)) Z (xBk B 17 224) "BetweenStops$Town" cX6_init 2 2 := C
  show xWS (Gl sx29 (a22, Y.2)) (xBk B 17 224) 2 sxm7 [(1, .int (7 : Int32)), (0, .ref (a22 1))] 131 [.ref (a22 18), .int (7 : Int32), .ref (a22 9)]
  refine wg_astq (l2 := sx30) (r := 18) (i := 9) (pc := 131) C dX6_init_131 (by decide) sx29_at9 sx29_at18 rfl rfl rfl (by decide +kernel) (j := 7) (by decide) rfl (fun C => ?_)
  refine ws_iinc (v := (8 : Int32)) (j := 0) (pc := 132) C dX6_init_132 rfl (by decide) (by decide) rfl ?_
  refine ws_goto (pc := 135) (tgt := 113) C dX6_init_135 (by decide) ?_
  refine ws_iload_n (pc := 113) C dX6_init_113 rfl 0 rfl ?_
  refine ws_bipush (pc := 114) C dX6_init_114 cb_8 ?_
  refine ws_icmp_ge (pc := 116) (tgt := 138) C dX6_init_116 (by decide) (fun _ => ?_) (fun c => absurd (by decide) c)
  refine ws_iconst (pc := 138) C dX6_init_138 ci_0 ?_
  refine ws_istore_n (pc := 139) C dX6_init_139 rfl (by decide) rfl ?_
  refine ws_iload_n (pc := 140) C dX6_init_140 rfl 0 rfl ?_
  refine ws_bipush (pc := 141) C dX6_init_141 cb_8 ?_
  refine ws_icmp_ge (pc := 143) (tgt := 165) C dX6_init_143 (by decide) (fun c => absurd c (by decide)) (fun _ => ?_)
  refine ws_aload_n (pc := 146) C dX6_init_146 rfl 1 rfl ?_
  refine ws_getr (r := 10) (pc := 147) C dX6_init_147 fd_X6_44 (xSf_of sx30_at1 rfl) ?_
  refine ws_iload_n (pc := 150) C dX6_init_150 rfl 0 rfl ?_
  refine wg_new (l2 := sx31) (fl := [.inr 0, .inr 0, .inr 0, .inr 0]) (fun a => [(1, .int (0 : Int32)), (0, .ref (a 1))]) (fun a => [.int (0 : Int32), .ref (a 10)]) C dX6_init_151 rfl hin_7 tyX7 tyX7_ok kcl_X6_42 kq_X7 ki_X7 hA sx30_w rfl (sxm7_z  19 (by decide)).1 (sxm7_z  19 (by decide)).2 (fun j h => match j, h with | 0, _ => ⟨_, rfl, rfl⟩ | 1, _ => ⟨_, rfl, rfl⟩ | 2, _ => ⟨_, rfl, rfl⟩ | 3, _ => ⟨_, rfl, rfl⟩ | j + 4, h => absurd h (by omega)) (xnul_of (by decide)) rfl rfl (HK (k2 := 18) (by decide)) (HN (n2 := 228) (by decide)) (fun a h => ⟨by simp only [h 1 (Nat.le_of_ble_eq_true rfl)], by simp only [h 10 (Nat.le_of_ble_eq_true rfl)]⟩) (fun a23 h23 C => ?_)
  have g23 : ∀ c, c < 2 → a23 c = Y.1 c := fun c hc => (h23 c (Nat.lt_of_lt_of_le hc (Nat.le_of_ble_eq_true rfl))).trans (g22 c hc)
  have C : xC (Gl sx31 (a23, Y.2)) Z (xBk B 18 228) "BetweenStops$Town" cX6_init 2 2 := C
  show xWS (Gl sx31 (a23, Y.2)) (xBk B 18 228) 2 sxm7 [(1, .int (0 : Int32)), (0, .ref (a23 1))] 154 [.ref (a23 19), .int (0 : Int32), .ref (a23 10)]
  refine ws_dup (pc := 154) C dX6_init_154 rfl ?_
  refine wg_init (l2 := sx31) (σ2 := sxm7) (r := 19) (pc := 155) (fun a => [(1, .int (0 : Int32)), (0, .ref (a 1))]) (fun a => [.ref (a 19), .int (0 : Int32), .ref (a 10)]) [] C R.2.2.2.1 (mc_X7_init_11 _ _) dX6_init_155 mw_X7_init kw_X6_61 hA rfl (st := [.ref (a23 19), .ref (a23 19), .int (0 : Int32), .ref (a23 10)]) rfl (Nat.le_of_ble_eq_true rfl) ⟨by decide, by decide⟩ rfl rfl (HK (k2 := 18) (by decide)) (HN (n2 := 228) (by decide)) (fun a h => ⟨by simp only [h 1 (Nat.le_of_ble_eq_true rfl)], by simp only [h 10 (Nat.le_of_ble_eq_true rfl), h 19 (Nat.le_of_ble_eq_true rfl)]⟩) (fun a24 h24 C => ?_)
  have g24 : ∀ c, c < 2 → a24 c = Y.1 c := fun c hc => (h24 c (Nat.lt_of_lt_of_le hc (Nat.le_of_ble_eq_true rfl))).trans (g23 c hc)
  have C : xC (Gl sx31 (a24, Y.2)) Z (xBk B 18 228) "BetweenStops$Town" cX6_init 2 2 := C
  show xWS (Gl sx31 (a24, Y.2)) (xBk B 18 228) 2 sxm7 [(1, .int (0 : Int32)), (0, .ref (a24 1))] 158 [.ref (a24 19), .int (0 : Int32), .ref (a24 10)]
  refine wg_astq (l2 := sx32) (r := 19) (i := 10) (pc := 158) C dX6_init_158 (by decide) sx31_at10 sx31_at19 rfl rfl rfl (by decide +kernel) (j := 0) (by decide) rfl (fun C => ?_)
  refine ws_iinc (v := (1 : Int32)) (j := 0) (pc := 159) C dX6_init_159 rfl (by decide) (by decide) rfl ?_
  refine ws_goto (pc := 162) (tgt := 140) C dX6_init_162 (by decide) ?_
  refine ws_iload_n (pc := 140) C dX6_init_140 rfl 0 rfl ?_
  refine ws_bipush (pc := 141) C dX6_init_141 cb_8 ?_
  refine ws_icmp_ge (pc := 143) (tgt := 165) C dX6_init_143 (by decide) (fun c => absurd c (by decide)) (fun _ => ?_)
  refine ws_aload_n (pc := 146) C dX6_init_146 rfl 1 rfl ?_
  refine ws_getr (r := 10) (pc := 147) C dX6_init_147 fd_X6_44 (xSf_of sx32_at1 rfl) ?_
  refine ws_iload_n (pc := 150) C dX6_init_150 rfl 0 rfl ?_
  refine wg_new (l2 := sx33) (fl := [.inr 0, .inr 0, .inr 0, .inr 0]) (fun a => [(1, .int (1 : Int32)), (0, .ref (a 1))]) (fun a => [.int (1 : Int32), .ref (a 10)]) C dX6_init_151 rfl hin_7 tyX7 tyX7_ok kcl_X6_42 kq_X7 ki_X7 hA sx32_w rfl (sxm7_z  20 (by decide)).1 (sxm7_z  20 (by decide)).2 (fun j h => match j, h with | 0, _ => ⟨_, rfl, rfl⟩ | 1, _ => ⟨_, rfl, rfl⟩ | 2, _ => ⟨_, rfl, rfl⟩ | 3, _ => ⟨_, rfl, rfl⟩ | j + 4, h => absurd h (by omega)) (xnul_of (by decide)) rfl rfl (HK (k2 := 19) (by decide)) (HN (n2 := 232) (by decide)) (fun a h => ⟨by simp only [h 1 (Nat.le_of_ble_eq_true rfl)], by simp only [h 10 (Nat.le_of_ble_eq_true rfl)]⟩) (fun a25 h25 C => ?_)
  have g25 : ∀ c, c < 2 → a25 c = Y.1 c := fun c hc => (h25 c (Nat.lt_of_lt_of_le hc (Nat.le_of_ble_eq_true rfl))).trans (g24 c hc)
  have C : xC (Gl sx33 (a25, Y.2)) Z (xBk B 19 232) "BetweenStops$Town" cX6_init 2 2 := C
  show xWS (Gl sx33 (a25, Y.2)) (xBk B 19 232) 2 sxm7 [(1, .int (1 : Int32)), (0, .ref (a25 1))] 154 [.ref (a25 20), .int (1 : Int32), .ref (a25 10)]
  refine ws_dup (pc := 154) C dX6_init_154 rfl ?_
  refine wg_init (l2 := sx33) (σ2 := sxm7) (r := 20) (pc := 155) (fun a => [(1, .int (1 : Int32)), (0, .ref (a 1))]) (fun a => [.ref (a 20), .int (1 : Int32), .ref (a 10)]) [] C R.2.2.2.1 (mc_X7_init_12 _ _) dX6_init_155 mw_X7_init kw_X6_61 hA rfl (st := [.ref (a25 20), .ref (a25 20), .int (1 : Int32), .ref (a25 10)]) rfl (Nat.le_of_ble_eq_true rfl) ⟨by decide, by decide⟩ rfl rfl (HK (k2 := 19) (by decide)) (HN (n2 := 232) (by decide)) (fun a h => ⟨by simp only [h 1 (Nat.le_of_ble_eq_true rfl)], by simp only [h 10 (Nat.le_of_ble_eq_true rfl), h 20 (Nat.le_of_ble_eq_true rfl)]⟩) (fun a26 h26 C => ?_)
  have g26 : ∀ c, c < 2 → a26 c = Y.1 c := fun c hc => (h26 c (Nat.lt_of_lt_of_le hc (Nat.le_of_ble_eq_true rfl))).trans (g25 c hc)
  have C : xC (Gl sx33 (a26, Y.2)) Z (xBk B 19 232) "BetweenStops$Town" cX6_init 2 2 := C
  show xWS (Gl sx33 (a26, Y.2)) (xBk B 19 232) 2 sxm7 [(1, .int (1 : Int32)), (0, .ref (a26 1))] 158 [.ref (a26 20), .int (1 : Int32), .ref (a26 10)]
  refine wg_astq (l2 := sx34) (r := 20) (i := 10) (pc := 158) C dX6_init_158 (by decide) sx33_at10 sx33_at20 rfl rfl rfl (by decide +kernel) (j := 1) (by decide) rfl (fun C => ?_)
  refine ws_iinc (v := (2 : Int32)) (j := 0) (pc := 159) C dX6_init_159 rfl (by decide) (by decide) rfl ?_
  refine ws_goto (pc := 162) (tgt := 140) C dX6_init_162 (by decide) ?_
  refine ws_iload_n (pc := 140) C dX6_init_140 rfl 0 rfl ?_
  refine ws_bipush (pc := 141) C dX6_init_141 cb_8 ?_
  refine ws_icmp_ge (pc := 143) (tgt := 165) C dX6_init_143 (by decide) (fun c => absurd c (by decide)) (fun _ => ?_)
  refine ws_aload_n (pc := 146) C dX6_init_146 rfl 1 rfl ?_
  refine ws_getr (r := 10) (pc := 147) C dX6_init_147 fd_X6_44 (xSf_of sx34_at1 rfl) ?_
  refine ws_iload_n (pc := 150) C dX6_init_150 rfl 0 rfl ?_
  refine wg_new (l2 := sx35) (fl := [.inr 0, .inr 0, .inr 0, .inr 0]) (fun a => [(1, .int (2 : Int32)), (0, .ref (a 1))]) (fun a => [.int (2 : Int32), .ref (a 10)]) C dX6_init_151 rfl hin_7 tyX7 tyX7_ok kcl_X6_42 kq_X7 ki_X7 hA sx34_w rfl (sxm7_z  21 (by decide)).1 (sxm7_z  21 (by decide)).2 (fun j h => match j, h with | 0, _ => ⟨_, rfl, rfl⟩ | 1, _ => ⟨_, rfl, rfl⟩ | 2, _ => ⟨_, rfl, rfl⟩ | 3, _ => ⟨_, rfl, rfl⟩ | j + 4, h => absurd h (by omega)) (xnul_of (by decide)) rfl rfl (HK (k2 := 20) (by decide)) (HN (n2 := 236) (by decide)) (fun a h => ⟨by simp only [h 1 (Nat.le_of_ble_eq_true rfl)], by simp only [h 10 (Nat.le_of_ble_eq_true rfl)]⟩) (fun a27 h27 C => ?_)
  have g27 : ∀ c, c < 2 → a27 c = Y.1 c := fun c hc => (h27 c (Nat.lt_of_lt_of_le hc (Nat.le_of_ble_eq_true rfl))).trans (g26 c hc)
  have C : xC (Gl sx35 (a27, Y.2)) Z (xBk B 20 236) "BetweenStops$Town" cX6_init 2 2 := C
  show xWS (Gl sx35 (a27, Y.2)) (xBk B 20 236) 2 sxm7 [(1, .int (2 : Int32)), (0, .ref (a27 1))] 154 [.ref (a27 21), .int (2 : Int32), .ref (a27 10)]
  refine ws_dup (pc := 154) C dX6_init_154 rfl ?_
  refine wg_init (l2 := sx35) (σ2 := sxm7) (r := 21) (pc := 155) (fun a => [(1, .int (2 : Int32)), (0, .ref (a 1))]) (fun a => [.ref (a 21), .int (2 : Int32), .ref (a 10)]) [] C R.2.2.2.1 (mc_X7_init_13 _ _) dX6_init_155 mw_X7_init kw_X6_61 hA rfl (st := [.ref (a27 21), .ref (a27 21), .int (2 : Int32), .ref (a27 10)]) rfl (Nat.le_of_ble_eq_true rfl) ⟨by decide, by decide⟩ rfl rfl (HK (k2 := 20) (by decide)) (HN (n2 := 236) (by decide)) (fun a h => ⟨by simp only [h 1 (Nat.le_of_ble_eq_true rfl)], by simp only [h 10 (Nat.le_of_ble_eq_true rfl), h 21 (Nat.le_of_ble_eq_true rfl)]⟩) (fun a28 h28 C => ?_)
  have g28 : ∀ c, c < 2 → a28 c = Y.1 c := fun c hc => (h28 c (Nat.lt_of_lt_of_le hc (Nat.le_of_ble_eq_true rfl))).trans (g27 c hc)
  have C : xC (Gl sx35 (a28, Y.2)) Z (xBk B 20 236) "BetweenStops$Town" cX6_init 2 2 := C
  show xWS (Gl sx35 (a28, Y.2)) (xBk B 20 236) 2 sxm7 [(1, .int (2 : Int32)), (0, .ref (a28 1))] 158 [.ref (a28 21), .int (2 : Int32), .ref (a28 10)]
  refine wg_astq (l2 := sx36) (r := 21) (i := 10) (pc := 158) C dX6_init_158 (by decide) sx35_at10 sx35_at21 rfl rfl rfl (by decide +kernel) (j := 2) (by decide) rfl (fun C => ?_)
  refine ws_iinc (v := (3 : Int32)) (j := 0) (pc := 159) C dX6_init_159 rfl (by decide) (by decide) rfl ?_
  refine ws_goto (pc := 162) (tgt := 140) C dX6_init_162 (by decide) ?_
  refine ws_iload_n (pc := 140) C dX6_init_140 rfl 0 rfl ?_
  refine ws_bipush (pc := 141) C dX6_init_141 cb_8 ?_
  refine ws_icmp_ge (pc := 143) (tgt := 165) C dX6_init_143 (by decide) (fun c => absurd c (by decide)) (fun _ => ?_)
  refine ws_aload_n (pc := 146) C dX6_init_146 rfl 1 rfl ?_
  refine ws_getr (r := 10) (pc := 147) C dX6_init_147 fd_X6_44 (xSf_of sx36_at1 rfl) ?_
  refine ws_iload_n (pc := 150) C dX6_init_150 rfl 0 rfl ?_
  refine wg_new (l2 := sx37) (fl := [.inr 0, .inr 0, .inr 0, .inr 0]) (fun a => [(1, .int (3 : Int32)), (0, .ref (a 1))]) (fun a => [.int (3 : Int32), .ref (a 10)]) C dX6_init_151 rfl hin_7 tyX7 tyX7_ok kcl_X6_42 kq_X7 ki_X7 hA sx36_w rfl (sxm7_z  22 (by decide)).1 (sxm7_z  22 (by decide)).2 (fun j h => match j, h with | 0, _ => ⟨_, rfl, rfl⟩ | 1, _ => ⟨_, rfl, rfl⟩ | 2, _ => ⟨_, rfl, rfl⟩ | 3, _ => ⟨_, rfl, rfl⟩ | j + 4, h => absurd h (by omega)) (xnul_of (by decide)) rfl rfl (HK (k2 := 21) (by decide)) (HN (n2 := 240) (by decide)) (fun a h => ⟨by simp only [h 1 (Nat.le_of_ble_eq_true rfl)], by simp only [h 10 (Nat.le_of_ble_eq_true rfl)]⟩) (fun a29 h29 C => ?_)
  have g29 : ∀ c, c < 2 → a29 c = Y.1 c := fun c hc => (h29 c (Nat.lt_of_lt_of_le hc (Nat.le_of_ble_eq_true rfl))).trans (g28 c hc)
  have C : xC (Gl sx37 (a29, Y.2)) Z (xBk B 21 240) "BetweenStops$Town" cX6_init 2 2 := C
  show xWS (Gl sx37 (a29, Y.2)) (xBk B 21 240) 2 sxm7 [(1, .int (3 : Int32)), (0, .ref (a29 1))] 154 [.ref (a29 22), .int (3 : Int32), .ref (a29 10)]
  refine ws_dup (pc := 154) C dX6_init_154 rfl ?_
  refine wg_init (l2 := sx37) (σ2 := sxm7) (r := 22) (pc := 155) (fun a => [(1, .int (3 : Int32)), (0, .ref (a 1))]) (fun a => [.ref (a 22), .int (3 : Int32), .ref (a 10)]) [] C R.2.2.2.1 (mc_X7_init_14 _ _) dX6_init_155 mw_X7_init kw_X6_61 hA rfl (st := [.ref (a29 22), .ref (a29 22), .int (3 : Int32), .ref (a29 10)]) rfl (Nat.le_of_ble_eq_true rfl) ⟨by decide, by decide⟩ rfl rfl (HK (k2 := 21) (by decide)) (HN (n2 := 240) (by decide)) (fun a h => ⟨by simp only [h 1 (Nat.le_of_ble_eq_true rfl)], by simp only [h 10 (Nat.le_of_ble_eq_true rfl), h 22 (Nat.le_of_ble_eq_true rfl)]⟩) (fun a30 h30 C => ?_)
  have g30 : ∀ c, c < 2 → a30 c = Y.1 c := fun c hc => (h30 c (Nat.lt_of_lt_of_le hc (Nat.le_of_ble_eq_true rfl))).trans (g29 c hc)
  have C : xC (Gl sx37 (a30, Y.2)) Z (xBk B 21 240) "BetweenStops$Town" cX6_init 2 2 := C
  show xWS (Gl sx37 (a30, Y.2)) (xBk B 21 240) 2 sxm7 [(1, .int (3 : Int32)), (0, .ref (a30 1))] 158 [.ref (a30 22), .int (3 : Int32), .ref (a30 10)]
  refine wg_astq (l2 := sx38) (r := 22) (i := 10) (pc := 158) C dX6_init_158 (by decide) sx37_at10 sx37_at22 rfl rfl rfl (by decide +kernel) (j := 3) (by decide) rfl (fun C => ?_)
  refine ws_iinc (v := (4 : Int32)) (j := 0) (pc := 159) C dX6_init_159 rfl (by decide) (by decide) rfl ?_
  refine ws_goto (pc := 162) (tgt := 140) C dX6_init_162 (by decide) ?_
  refine ws_iload_n (pc := 140) C dX6_init_140 rfl 0 rfl ?_
  refine ws_bipush (pc := 141) C dX6_init_141 cb_8 ?_
  refine ws_icmp_ge (pc := 143) (tgt := 165) C dX6_init_143 (by decide) (fun c => absurd c (by decide)) (fun _ => ?_)
  refine ws_aload_n (pc := 146) C dX6_init_146 rfl 1 rfl ?_
  refine ws_getr (r := 10) (pc := 147) C dX6_init_147 fd_X6_44 (xSf_of sx38_at1 rfl) ?_
  refine ws_iload_n (pc := 150) C dX6_init_150 rfl 0 rfl ?_
  refine wg_new (l2 := sx39) (fl := [.inr 0, .inr 0, .inr 0, .inr 0]) (fun a => [(1, .int (4 : Int32)), (0, .ref (a 1))]) (fun a => [.int (4 : Int32), .ref (a 10)]) C dX6_init_151 rfl hin_7 tyX7 tyX7_ok kcl_X6_42 kq_X7 ki_X7 hA sx38_w rfl (sxm7_z  23 (by decide)).1 (sxm7_z  23 (by decide)).2 (fun j h => match j, h with | 0, _ => ⟨_, rfl, rfl⟩ | 1, _ => ⟨_, rfl, rfl⟩ | 2, _ => ⟨_, rfl, rfl⟩ | 3, _ => ⟨_, rfl, rfl⟩ | j + 4, h => absurd h (by omega)) (xnul_of (by decide)) rfl rfl (HK (k2 := 22) (by decide)) (HN (n2 := 244) (by decide)) (fun a h => ⟨by simp only [h 1 (Nat.le_of_ble_eq_true rfl)], by simp only [h 10 (Nat.le_of_ble_eq_true rfl)]⟩) (fun a31 h31 C => ?_)
  have g31 : ∀ c, c < 2 → a31 c = Y.1 c := fun c hc => (h31 c (Nat.lt_of_lt_of_le hc (Nat.le_of_ble_eq_true rfl))).trans (g30 c hc)
  have C : xC (Gl sx39 (a31, Y.2)) Z (xBk B 22 244) "BetweenStops$Town" cX6_init 2 2 := C
  show xWS (Gl sx39 (a31, Y.2)) (xBk B 22 244) 2 sxm7 [(1, .int (4 : Int32)), (0, .ref (a31 1))] 154 [.ref (a31 23), .int (4 : Int32), .ref (a31 10)]
  refine ws_dup (pc := 154) C dX6_init_154 rfl ?_
  refine wg_init (l2 := sx39) (σ2 := sxm7) (r := 23) (pc := 155) (fun a => [(1, .int (4 : Int32)), (0, .ref (a 1))]) (fun a => [.ref (a 23), .int (4 : Int32), .ref (a 10)]) [] C R.2.2.2.1 (mc_X7_init_15 _ _) dX6_init_155 mw_X7_init kw_X6_61 hA rfl (st := [.ref (a31 23), .ref (a31 23), .int (4 : Int32), .ref (a31 10)]) rfl (Nat.le_of_ble_eq_true rfl) ⟨by decide, by decide⟩ rfl rfl (HK (k2 := 22) (by decide)) (HN (n2 := 244) (by decide)) (fun a h => ⟨by simp only [h 1 (Nat.le_of_ble_eq_true rfl)], by simp only [h 10 (Nat.le_of_ble_eq_true rfl), h 23 (Nat.le_of_ble_eq_true rfl)]⟩) (fun a32 h32 C => ?_)
  have g32 : ∀ c, c < 2 → a32 c = Y.1 c := fun c hc => (h32 c (Nat.lt_of_lt_of_le hc (Nat.le_of_ble_eq_true rfl))).trans (g31 c hc)
  have C : xC (Gl sx39 (a32, Y.2)) Z (xBk B 22 244) "BetweenStops$Town" cX6_init 2 2 := C
  show xWS (Gl sx39 (a32, Y.2)) (xBk B 22 244) 2 sxm7 [(1, .int (4 : Int32)), (0, .ref (a32 1))] 158 [.ref (a32 23), .int (4 : Int32), .ref (a32 10)]
  refine wg_astq (l2 := sx40) (r := 23) (i := 10) (pc := 158) C dX6_init_158 (by decide) sx39_at10 sx39_at23 rfl rfl rfl (by decide +kernel) (j := 4) (by decide) rfl (fun C => ?_)
  refine ws_iinc (v := (5 : Int32)) (j := 0) (pc := 159) C dX6_init_159 rfl (by decide) (by decide) rfl ?_
  refine ws_goto (pc := 162) (tgt := 140) C dX6_init_162 (by decide) ?_
  refine ws_iload_n (pc := 140) C dX6_init_140 rfl 0 rfl ?_
  refine ws_bipush (pc := 141) C dX6_init_141 cb_8 ?_
  refine ws_icmp_ge (pc := 143) (tgt := 165) C dX6_init_143 (by decide) (fun c => absurd c (by decide)) (fun _ => ?_)
  refine ws_aload_n (pc := 146) C dX6_init_146 rfl 1 rfl ?_
  refine ws_getr (r := 10) (pc := 147) C dX6_init_147 fd_X6_44 (xSf_of sx40_at1 rfl) ?_
  refine ws_iload_n (pc := 150) C dX6_init_150 rfl 0 rfl ?_
  refine wg_new (l2 := sx41) (fl := [.inr 0, .inr 0, .inr 0, .inr 0]) (fun a => [(1, .int (5 : Int32)), (0, .ref (a 1))]) (fun a => [.int (5 : Int32), .ref (a 10)]) C dX6_init_151 rfl hin_7 tyX7 tyX7_ok kcl_X6_42 kq_X7 ki_X7 hA sx40_w rfl (sxm7_z  24 (by decide)).1 (sxm7_z  24 (by decide)).2 (fun j h => match j, h with | 0, _ => ⟨_, rfl, rfl⟩ | 1, _ => ⟨_, rfl, rfl⟩ | 2, _ => ⟨_, rfl, rfl⟩ | 3, _ => ⟨_, rfl, rfl⟩ | j + 4, h => absurd h (by omega)) (xnul_of (by decide)) rfl rfl (HK (k2 := 23) (by decide)) (HN (n2 := 248) (by decide)) (fun a h => ⟨by simp only [h 1 (Nat.le_of_ble_eq_true rfl)], by simp only [h 10 (Nat.le_of_ble_eq_true rfl)]⟩) (fun a33 h33 C => ?_)
  have g33 : ∀ c, c < 2 → a33 c = Y.1 c := fun c hc => (h33 c (Nat.lt_of_lt_of_le hc (Nat.le_of_ble_eq_true rfl))).trans (g32 c hc)
  have C : xC (Gl sx41 (a33, Y.2)) Z (xBk B 23 248) "BetweenStops$Town" cX6_init 2 2 := C
  show xWS (Gl sx41 (a33, Y.2)) (xBk B 23 248) 2 sxm7 [(1, .int (5 : Int32)), (0, .ref (a33 1))] 154 [.ref (a33 24), .int (5 : Int32), .ref (a33 10)]
  refine ws_dup (pc := 154) C dX6_init_154 rfl ?_
  refine wg_init (l2 := sx41) (σ2 := sxm7) (r := 24) (pc := 155) (fun a => [(1, .int (5 : Int32)), (0, .ref (a 1))]) (fun a => [.ref (a 24), .int (5 : Int32), .ref (a 10)]) [] C R.2.2.2.1 (mc_X7_init_16 _ _) dX6_init_155 mw_X7_init kw_X6_61 hA rfl (st := [.ref (a33 24), .ref (a33 24), .int (5 : Int32), .ref (a33 10)]) rfl (Nat.le_of_ble_eq_true rfl) ⟨by decide, by decide⟩ rfl rfl (HK (k2 := 23) (by decide)) (HN (n2 := 248) (by decide)) (fun a h => ⟨by simp only [h 1 (Nat.le_of_ble_eq_true rfl)], by simp only [h 10 (Nat.le_of_ble_eq_true rfl), h 24 (Nat.le_of_ble_eq_true rfl)]⟩) (fun a34 h34 C => ?_)
  have g34 : ∀ c, c < 2 → a34 c = Y.1 c := fun c hc => (h34 c (Nat.lt_of_lt_of_le hc (Nat.le_of_ble_eq_true rfl))).trans (g33 c hc)
  have C : xC (Gl sx41 (a34, Y.2)) Z (xBk B 23 248) "BetweenStops$Town" cX6_init 2 2 := C
  show xWS (Gl sx41 (a34, Y.2)) (xBk B 23 248) 2 sxm7 [(1, .int (5 : Int32)), (0, .ref (a34 1))] 158 [.ref (a34 24), .int (5 : Int32), .ref (a34 10)]
  refine wg_astq (l2 := sx42) (r := 24) (i := 10) (pc := 158) C dX6_init_158 (by decide) sx41_at10 sx41_at24 rfl rfl rfl (by decide +kernel) (j := 5) (by decide) rfl (fun C => ?_)
  refine ws_iinc (v := (6 : Int32)) (j := 0) (pc := 159) C dX6_init_159 rfl (by decide) (by decide) rfl ?_
  refine ws_goto (pc := 162) (tgt := 140) C dX6_init_162 (by decide) ?_
  refine ws_iload_n (pc := 140) C dX6_init_140 rfl 0 rfl ?_
  refine ws_bipush (pc := 141) C dX6_init_141 cb_8 ?_
  refine ws_icmp_ge (pc := 143) (tgt := 165) C dX6_init_143 (by decide) (fun c => absurd c (by decide)) (fun _ => ?_)
  refine ws_aload_n (pc := 146) C dX6_init_146 rfl 1 rfl ?_
  refine ws_getr (r := 10) (pc := 147) C dX6_init_147 fd_X6_44 (xSf_of sx42_at1 rfl) ?_
  refine ws_iload_n (pc := 150) C dX6_init_150 rfl 0 rfl ?_
  refine wg_new (l2 := sx43) (fl := [.inr 0, .inr 0, .inr 0, .inr 0]) (fun a => [(1, .int (6 : Int32)), (0, .ref (a 1))]) (fun a => [.int (6 : Int32), .ref (a 10)]) C dX6_init_151 rfl hin_7 tyX7 tyX7_ok kcl_X6_42 kq_X7 ki_X7 hA sx42_w rfl (sxm7_z  25 (by decide)).1 (sxm7_z  25 (by decide)).2 (fun j h => match j, h with | 0, _ => ⟨_, rfl, rfl⟩ | 1, _ => ⟨_, rfl, rfl⟩ | 2, _ => ⟨_, rfl, rfl⟩ | 3, _ => ⟨_, rfl, rfl⟩ | j + 4, h => absurd h (by omega)) (xnul_of (by decide)) rfl rfl (HK (k2 := 24) (by decide)) (HN (n2 := 252) (by decide)) (fun a h => ⟨by simp only [h 1 (Nat.le_of_ble_eq_true rfl)], by simp only [h 10 (Nat.le_of_ble_eq_true rfl)]⟩) (fun a35 h35 C => ?_)
  have g35 : ∀ c, c < 2 → a35 c = Y.1 c := fun c hc => (h35 c (Nat.lt_of_lt_of_le hc (Nat.le_of_ble_eq_true rfl))).trans (g34 c hc)
  have C : xC (Gl sx43 (a35, Y.2)) Z (xBk B 24 252) "BetweenStops$Town" cX6_init 2 2 := C
  show xWS (Gl sx43 (a35, Y.2)) (xBk B 24 252) 2 sxm7 [(1, .int (6 : Int32)), (0, .ref (a35 1))] 154 [.ref (a35 25), .int (6 : Int32), .ref (a35 10)]
  refine ws_dup (pc := 154) C dX6_init_154 rfl ?_
  refine wg_init (l2 := sx43) (σ2 := sxm7) (r := 25) (pc := 155) (fun a => [(1, .int (6 : Int32)), (0, .ref (a 1))]) (fun a => [.ref (a 25), .int (6 : Int32), .ref (a 10)]) [] C R.2.2.2.1 (mc_X7_init_17 _ _) dX6_init_155 mw_X7_init kw_X6_61 hA rfl (st := [.ref (a35 25), .ref (a35 25), .int (6 : Int32), .ref (a35 10)]) rfl (Nat.le_of_ble_eq_true rfl) ⟨by decide, by decide⟩ rfl rfl (HK (k2 := 24) (by decide)) (HN (n2 := 252) (by decide)) (fun a h => ⟨by simp only [h 1 (Nat.le_of_ble_eq_true rfl)], by simp only [h 10 (Nat.le_of_ble_eq_true rfl), h 25 (Nat.le_of_ble_eq_true rfl)]⟩) (fun a36 h36 C => ?_)
  have g36 : ∀ c, c < 2 → a36 c = Y.1 c := fun c hc => (h36 c (Nat.lt_of_lt_of_le hc (Nat.le_of_ble_eq_true rfl))).trans (g35 c hc)
  have C : xC (Gl sx43 (a36, Y.2)) Z (xBk B 24 252) "BetweenStops$Town" cX6_init 2 2 := C
  show xWS (Gl sx43 (a36, Y.2)) (xBk B 24 252) 2 sxm7 [(1, .int (6 : Int32)), (0, .ref (a36 1))] 158 [.ref (a36 25), .int (6 : Int32), .ref (a36 10)]
  refine wg_astq (l2 := sx44) (r := 25) (i := 10) (pc := 158) C dX6_init_158 (by decide) sx43_at10 sx43_at25 rfl rfl rfl (by decide +kernel) (j := 6) (by decide) rfl (fun C => ?_)
  refine ws_iinc (v := (7 : Int32)) (j := 0) (pc := 159) C dX6_init_159 rfl (by decide) (by decide) rfl ?_
  refine ws_goto (pc := 162) (tgt := 140) C dX6_init_162 (by decide) ?_
  refine ws_iload_n (pc := 140) C dX6_init_140 rfl 0 rfl ?_
  refine ws_bipush (pc := 141) C dX6_init_141 cb_8 ?_
  refine ws_icmp_ge (pc := 143) (tgt := 165) C dX6_init_143 (by decide) (fun c => absurd c (by decide)) (fun _ => ?_)
  refine ws_aload_n (pc := 146) C dX6_init_146 rfl 1 rfl ?_
  refine ws_getr (r := 10) (pc := 147) C dX6_init_147 fd_X6_44 (xSf_of sx44_at1 rfl) ?_
  refine ws_iload_n (pc := 150) C dX6_init_150 rfl 0 rfl ?_
  refine wg_new (l2 := sx45) (fl := [.inr 0, .inr 0, .inr 0, .inr 0]) (fun a => [(1, .int (7 : Int32)), (0, .ref (a 1))]) (fun a => [.int (7 : Int32), .ref (a 10)]) C dX6_init_151 rfl hin_7 tyX7 tyX7_ok kcl_X6_42 kq_X7 ki_X7 hA sx44_w rfl (sxm7_z  26 (by decide)).1 (sxm7_z  26 (by decide)).2 (fun j h => match j, h with | 0, _ => ⟨_, rfl, rfl⟩ | 1, _ => ⟨_, rfl, rfl⟩ | 2, _ => ⟨_, rfl, rfl⟩ | 3, _ => ⟨_, rfl, rfl⟩ | j + 4, h => absurd h (by omega)) (xnul_of (by decide)) rfl rfl (HK (k2 := 25) (by decide)) (HN (n2 := 256) (by decide)) (fun a h => ⟨by simp only [h 1 (Nat.le_of_ble_eq_true rfl)], by simp only [h 10 (Nat.le_of_ble_eq_true rfl)]⟩) (fun a37 h37 C => ?_)
  have g37 : ∀ c, c < 2 → a37 c = Y.1 c := fun c hc => (h37 c (Nat.lt_of_lt_of_le hc (Nat.le_of_ble_eq_true rfl))).trans (g36 c hc)
  have C : xC (Gl sx45 (a37, Y.2)) Z (xBk B 25 256) "BetweenStops$Town" cX6_init 2 2 := C
  show xWS (Gl sx45 (a37, Y.2)) (xBk B 25 256) 2 sxm7 [(1, .int (7 : Int32)), (0, .ref (a37 1))] 154 [.ref (a37 26), .int (7 : Int32), .ref (a37 10)]
  refine ws_dup (pc := 154) C dX6_init_154 rfl ?_
  refine wg_init (l2 := sx45) (σ2 := sxm7) (r := 26) (pc := 155) (fun a => [(1, .int (7 : Int32)), (0, .ref (a 1))]) (fun a => [.ref (a 26), .int (7 : Int32), .ref (a 10)]) [] C R.2.2.2.1 (mc_X7_init_18 _ _) dX6_init_155 mw_X7_init kw_X6_61 hA rfl (st := [.ref (a37 26), .ref (a37 26), .int (7 : Int32), .ref (a37 10)]) rfl (Nat.le_of_ble_eq_true rfl) ⟨by decide, by decide⟩ rfl rfl (HK (k2 := 25) (by decide)) (HN (n2 := 256) (by decide)) (fun a h => ⟨by simp only [h 1 (Nat.le_of_ble_eq_true rfl)], by simp only [h 10 (Nat.le_of_ble_eq_true rfl), h 26 (Nat.le_of_ble_eq_true rfl)]⟩) (fun a38 h38 C => ?_)
  have g38 : ∀ c, c < 2 → a38 c = Y.1 c := fun c hc => (h38 c (Nat.lt_of_lt_of_le hc (Nat.le_of_ble_eq_true rfl))).trans (g37 c hc)
  have C : xC (Gl sx45 (a38, Y.2)) Z (xBk B 25 256) "BetweenStops$Town" cX6_init 2 2 := C
  show xWS (Gl sx45 (a38, Y.2)) (xBk B 25 256) 2 sxm7 [(1, .int (7 : Int32)), (0, .ref (a38 1))] 158 [.ref (a38 26), .int (7 : Int32), .ref (a38 10)]
  refine wg_astq (l2 := sx46) (r := 26) (i := 10) (pc := 158) C dX6_init_158 (by decide) sx45_at10 sx45_at26 rfl rfl rfl (by decide +kernel) (j := 7) (by decide) rfl (fun C => ?_)
  refine ws_iinc (v := (8 : Int32)) (j := 0) (pc := 159) C dX6_init_159 rfl (by decide) (by decide) rfl ?_
  refine ws_goto (pc := 162) (tgt := 140) C dX6_init_162 (by decide) ?_
  refine ws_iload_n (pc := 140) C dX6_init_140 rfl 0 rfl ?_
  refine ws_bipush (pc := 141) C dX6_init_141 cb_8 ?_
  refine ws_icmp_ge (pc := 143) (tgt := 165) C dX6_init_143 (by decide) (fun _ => ?_) (fun c => absurd (by decide) c)
  exact wg_ret C R rfl g38 dX6_init_165
set_option maxRecDepth 20000 in
set_option maxHeartbeats 4000000 in
theorem mc_X8_init_19 (Y : xY) (Z : xZ) : xMc Z yX8_init cX8_init 2 1 49 454 [.ref (Y.1 27), .ref (Y.1 1)] sx48 Y sxm7 sx79 sxm8 := by
  refine xMc_of (by decide) rfl (Nat.le_of_ble_eq_true rfl) (fun B C R => ?_)
  have C : xC (Gl sx48 Y) Z (xBk B 0 0) "BetweenStops$Ways" cX8_init 2 1 := C
  have hA : ∀ q, B.s.heap.size ≤ q → B.A q := fun q h => by rw [R.2.2.1]; exact Or.inr h
  have HK : ∀ {k2 : Nat}, k2 ≤ 49 → k2 ≤ B.R.cells := fun h => by rw [R.2.2.2.2.1]; exact h
  have HN : ∀ {n2 : Nat}, n2 ≤ 454 → n2 ≤ B.R.slots := fun h => by rw [R.2.2.2.2.2.1]; exact h
  show xWS (Gl sx48 Y) (xBk B 0 0) 2 sxm7 [(0, .ref (Y.1 27)), (1, .ref (Y.1 1))] 0 []
  refine ws_aload_n (pc := 0) C dX8_init_0 rfl 0 rfl ?_
  refine wg_obj (pc := 1) C dX8_init_1 kl_X8_3 kz_inst kz_code (Nat.le_of_ble_eq_true rfl) (by decide) ?_
  refine ws_aload_n (pc := 4) C dX8_init_4 rfl 0 rfl ?_
  refine ws_bipush (pc := 5) C dX8_init_5 cb_8 ?_
  refine wg_newa (l2 := sx49) (t := 0) (N' := 8) (fun a => [(0, .ref (a 27)), (1, .ref (a 1))]) (fun a => [.ref (a 27)]) C dX8_init_7 (by decide) rfl kar_int hA sx48_w rfl (sxm7_z 28 (by decide)).1 (sxm7_z 28 (by decide)).2 (by decide) (by decide) (by decide) rfl rfl (HK (k2 := 1) (by decide)) (HN (n2 := 8) (by decide)) (fun a h => ⟨by simp only [h 1 (Nat.le_of_ble_eq_true rfl), h 27 (Nat.le_of_ble_eq_true rfl)], by simp only [h 27 (Nat.le_of_ble_eq_true rfl)]⟩) (fun a1 h1 C => ?_)
  have g1 : ∀ c, c < 28 → a1 c = Y.1 c := fun c hc => (h1 c (Nat.lt_of_lt_of_le hc (Nat.le_of_ble_eq_true rfl)))
  have C : xC (Gl sx49 (a1, Y.2)) Z (xBk B 1 8) "BetweenStops$Ways" cX8_init 2 1 := C
  show xWS (Gl sx49 (a1, Y.2)) (xBk B 1 8) 2 sxm7 [(0, .ref (a1 27)), (1, .ref (a1 1))] 9 [.ref (a1 28), .ref (a1 27)]
  refine wg_putr (l2 := sx50) (k := 1) (r := 28) (i := 27) (pc := 9) C dX8_init_9 rfl hin_8 tyX8 tyX8_ok nmX8 (by decide) kf_X8_9 rfl rfl (tyX8_ok 1 (by decide)) rfl rfl R.2.1 sx49_at27 (by decide) rfl (fun C => ?_)
  refine ws_aload_n (pc := 12) C dX8_init_12 rfl 0 rfl ?_
  refine ws_bipush (pc := 13) C dX8_init_13 cb_8 ?_
  refine wg_newa (l2 := sx51) (t := 0) (N' := 8) (fun a => [(0, .ref (a 27)), (1, .ref (a 1))]) (fun a => [.ref (a 27)]) C dX8_init_15 (by decide) rfl kar_int hA sx50_w rfl (sxm7_z 29 (by decide)).1 (sxm7_z 29 (by decide)).2 (by decide) (by decide) (by decide) rfl rfl (HK (k2 := 2) (by decide)) (HN (n2 := 16) (by decide)) (fun a h => ⟨by simp only [h 1 (Nat.le_of_ble_eq_true rfl), h 27 (Nat.le_of_ble_eq_true rfl)], by simp only [h 27 (Nat.le_of_ble_eq_true rfl)]⟩) (fun a2 h2 C => ?_)
  have g2 : ∀ c, c < 28 → a2 c = Y.1 c := fun c hc => (h2 c (Nat.lt_of_lt_of_le hc (Nat.le_of_ble_eq_true rfl))).trans (g1 c hc)
  have C : xC (Gl sx51 (a2, Y.2)) Z (xBk B 2 16) "BetweenStops$Ways" cX8_init 2 1 := C
  show xWS (Gl sx51 (a2, Y.2)) (xBk B 2 16) 2 sxm7 [(0, .ref (a2 27)), (1, .ref (a2 1))] 17 [.ref (a2 29), .ref (a2 27)]
  refine wg_putr (l2 := sx52) (k := 2) (r := 29) (i := 27) (pc := 17) C dX8_init_17 rfl hin_8 tyX8 tyX8_ok nmX8 (by decide) kf_X8_15 rfl rfl (tyX8_ok 2 (by decide)) rfl rfl R.2.1 sx51_at27 (by decide) rfl (fun C => ?_)
  refine ws_aload_n (pc := 20) C dX8_init_20 rfl 0 rfl ?_
  refine ws_bipush (pc := 21) C dX8_init_21 cb_8 ?_
  refine wg_newa (l2 := sx53) (t := 0) (N' := 8) (fun a => [(0, .ref (a 27)), (1, .ref (a 1))]) (fun a => [.ref (a 27)]) C dX8_init_23 (by decide) rfl kar_int hA sx52_w rfl (sxm7_z 30 (by decide)).1 (sxm7_z 30 (by decide)).2 (by decide) (by decide) (by decide) rfl rfl (HK (k2 := 3) (by decide)) (HN (n2 := 24) (by decide)) (fun a h => ⟨by simp only [h 1 (Nat.le_of_ble_eq_true rfl), h 27 (Nat.le_of_ble_eq_true rfl)], by simp only [h 27 (Nat.le_of_ble_eq_true rfl)]⟩) (fun a3 h3 C => ?_)
  have g3 : ∀ c, c < 28 → a3 c = Y.1 c := fun c hc => (h3 c (Nat.lt_of_lt_of_le hc (Nat.le_of_ble_eq_true rfl))).trans (g2 c hc)
  have C : xC (Gl sx53 (a3, Y.2)) Z (xBk B 3 24) "BetweenStops$Ways" cX8_init 2 1 := C
  show xWS (Gl sx53 (a3, Y.2)) (xBk B 3 24) 2 sxm7 [(0, .ref (a3 27)), (1, .ref (a3 1))] 25 [.ref (a3 30), .ref (a3 27)]
  refine wg_putr (l2 := sx54) (k := 3) (r := 30) (i := 27) (pc := 25) C dX8_init_25 rfl hin_8 tyX8 tyX8_ok nmX8 (by decide) kf_X8_18 rfl rfl (tyX8_ok 3 (by decide)) rfl rfl R.2.1 sx53_at27 (by decide) rfl (fun C => ?_)
  refine ws_aload_n (pc := 28) C dX8_init_28 rfl 0 rfl ?_
  refine ws_bipush (pc := 29) C dX8_init_29 cb_8 ?_
  refine ws_bipush (pc := 31) C dX8_init_31 cb_8 ?_
  refine wg_mna (l2 := sx55) (N' := 8) (M' := 8) (fun a => [(0, .ref (a 27)), (1, .ref (a 1))]) (fun a => [.ref (a 27)]) C dX8_init_33 kcl_X8_21 R.2.2.2.1.2.2.2.2 kar_int hA sx54_w rfl (fun c hc => (sxm7_z c (Nat.le_trans (Nat.le_of_ble_eq_true rfl) hc)).1) (by decide) (by decide) (by decide) (by decide) (by decide) (by decide) rfl rfl (HK (k2 := 12) (by decide)) (HN (n2 := 96) (by decide)) (fun a h => ⟨by simp only [h 1 (Nat.le_of_ble_eq_true rfl), h 27 (Nat.le_of_ble_eq_true rfl)], by simp only [h 27 (Nat.le_of_ble_eq_true rfl)]⟩) (fun a4 h4 C => ?_)
  have g4 : ∀ c, c < 28 → a4 c = Y.1 c := fun c hc => (h4 c (Nat.lt_of_lt_of_le hc (Nat.le_of_ble_eq_true rfl))).trans (g3 c hc)
  have C : xC (Gl sx55 (a4, Y.2)) Z (xBk B 12 96) "BetweenStops$Ways" cX8_init 2 1 := C
  show xWS (Gl sx55 (a4, Y.2)) (xBk B 12 96) 2 sxm7 [(0, .ref (a4 27)), (1, .ref (a4 1))] 37 [.ref (a4 31), .ref (a4 27)]
  refine wg_putr (l2 := sx56) (k := 4) (r := 31) (i := 27) (pc := 37) C dX8_init_37 rfl hin_8 tyX8 tyX8_ok nmX8 (by decide) kf_X8_23 rfl rfl (tyX8_ok 4 (by decide)) rfl rfl R.2.1 sx55_at27 (by decide) rfl (fun C => ?_)
  refine ws_aload_n (pc := 40) C dX8_init_40 rfl 0 rfl ?_
  refine ws_bipush (pc := 41) C dX8_init_41 cb_8 ?_
  refine ws_bipush (pc := 43) C dX8_init_43 cb_8 ?_
  refine wg_mna (l2 := sx57) (N' := 8) (M' := 8) (fun a => [(0, .ref (a 27)), (1, .ref (a 1))]) (fun a => [.ref (a 27)]) C dX8_init_45 kcl_X8_21 R.2.2.2.1.2.2.2.2 kar_int hA sx56_w rfl (fun c hc => (sxm7_z c (Nat.le_trans (Nat.le_of_ble_eq_true rfl) hc)).1) (by decide) (by decide) (by decide) (by decide) (by decide) (by decide) rfl rfl (HK (k2 := 21) (by decide)) (HN (n2 := 168) (by decide)) (fun a h => ⟨by simp only [h 1 (Nat.le_of_ble_eq_true rfl), h 27 (Nat.le_of_ble_eq_true rfl)], by simp only [h 27 (Nat.le_of_ble_eq_true rfl)]⟩) (fun a5 h5 C => ?_)
  have g5 : ∀ c, c < 28 → a5 c = Y.1 c := fun c hc => (h5 c (Nat.lt_of_lt_of_le hc (Nat.le_of_ble_eq_true rfl))).trans (g4 c hc)
  have C : xC (Gl sx57 (a5, Y.2)) Z (xBk B 21 168) "BetweenStops$Ways" cX8_init 2 1 := C
  show xWS (Gl sx57 (a5, Y.2)) (xBk B 21 168) 2 sxm7 [(0, .ref (a5 27)), (1, .ref (a5 1))] 49 [.ref (a5 40), .ref (a5 27)]
  refine wg_putr (l2 := sx58) (k := 5) (r := 40) (i := 27) (pc := 49) C dX8_init_49 rfl hin_8 tyX8 tyX8_ok nmX8 (by decide) kf_X8_26 rfl rfl (tyX8_ok 5 (by decide)) rfl rfl R.2.1 sx57_at27 (by decide) rfl (fun C => ?_)
  refine ws_aload_n (pc := 52) C dX8_init_52 rfl 0 rfl ?_
  refine ws_bipush (pc := 53) C dX8_init_53 cb_8 ?_
  refine wg_newa (l2 := sx59) (t := 0) (N' := 8) (fun a => [(0, .ref (a 27)), (1, .ref (a 1))]) (fun a => [.ref (a 27)]) C dX8_init_55 (by decide) rfl kar_int hA sx58_w rfl (sxm7_z 49 (by decide)).1 (sxm7_z 49 (by decide)).2 (by decide) (by decide) (by decide) rfl rfl (HK (k2 := 22) (by decide)) (HN (n2 := 176) (by decide)) (fun a h => ⟨by simp only [h 1 (Nat.le_of_ble_eq_true rfl), h 27 (Nat.le_of_ble_eq_true rfl)], by simp only [h 27 (Nat.le_of_ble_eq_true rfl)]⟩) (fun a6 h6 C => ?_)
  have g6 : ∀ c, c < 28 → a6 c = Y.1 c := fun c hc => (h6 c (Nat.lt_of_lt_of_le hc (Nat.le_of_ble_eq_true rfl))).trans (g5 c hc)
  have C : xC (Gl sx59 (a6, Y.2)) Z (xBk B 22 176) "BetweenStops$Ways" cX8_init 2 1 := C
  show xWS (Gl sx59 (a6, Y.2)) (xBk B 22 176) 2 sxm7 [(0, .ref (a6 27)), (1, .ref (a6 1))] 57 [.ref (a6 49), .ref (a6 27)]
  refine wg_putr (l2 := sx60) (k := 6) (r := 49) (i := 27) (pc := 57) C dX8_init_57 rfl hin_8 tyX8 tyX8_ok nmX8 (by decide) kf_X8_29 rfl rfl (tyX8_ok 6 (by decide)) rfl rfl R.2.1 sx59_at27 (by decide) rfl (fun C => ?_)
  refine ws_aload_n (pc := 60) C dX8_init_60 rfl 0 rfl ?_
  refine ws_iconst (pc := 61) C dX8_init_61 ci_0 ?_
  refine ws_putI (σ2 := sxm8) (pc := 62) C dX8_init_62 fp_X8_32 (xSf_of sx60_at27 rfl) rfl ?_
  refine ws_aload_n (pc := 65) C dX8_init_65 rfl 0 rfl ?_
  refine ws_iconst (pc := 66) C dX8_init_66 ci_2 ?_
  refine ws_bipush (pc := 67) C dX8_init_67 cb_42 ?_
  refine wg_mna (l2 := sx61) (N' := 2) (M' := 42) (fun a => [(0, .ref (a 27)), (1, .ref (a 1))]) (fun a => [.ref (a 27)]) C dX8_init_69 kcl_X8_21 R.2.2.2.1.2.2.2.2 kar_int hA sx60_w rfl (fun c hc => (sxm8_z c (Nat.le_trans (Nat.le_of_ble_eq_true rfl) hc)).1) (by decide) (by decide) (by decide) (by decide) (by decide) (by decide) rfl rfl (HK (k2 := 25) (by decide)) (HN (n2 := 262) (by decide)) (fun a h => ⟨by simp only [h 1 (Nat.le_of_ble_eq_true rfl), h 27 (Nat.le_of_ble_eq_true rfl)], by simp only [h 27 (Nat.le_of_ble_eq_true rfl)]⟩) (fun a7 h7 C => ?_)
  have g7 : ∀ c, c < 28 → a7 c = Y.1 c := fun c hc => (h7 c (Nat.lt_of_lt_of_le hc (Nat.le_of_ble_eq_true rfl))).trans (g6 c hc)
  have C : xC (Gl sx61 (a7, Y.2)) Z (xBk B 25 262) "BetweenStops$Ways" cX8_init 2 1 := C
  show xWS (Gl sx61 (a7, Y.2)) (xBk B 25 262) 2 sxm8 [(0, .ref (a7 27)), (1, .ref (a7 1))] 73 [.ref (a7 50), .ref (a7 27)]
  refine wg_putr (l2 := sx62) (k := 8) (r := 50) (i := 27) (pc := 73) C dX8_init_73 rfl hin_8 tyX8 tyX8_ok nmX8 (by decide) kf_X8_36 rfl rfl (tyX8_ok 8 (by decide)) rfl rfl R.2.1 sx61_at27 (by decide) rfl (fun C => ?_)
  refine ws_aload_n (pc := 76) C dX8_init_76 rfl 0 rfl ?_
  refine ws_bipush (pc := 77) C dX8_init_77 cb_8 ?_
  refine ws_bipush (pc := 79) C dX8_init_79 cb_8 ?_
  refine wg_mna (l2 := sx63) (N' := 8) (M' := 8) (fun a => [(0, .ref (a 27)), (1, .ref (a 1))]) (fun a => [.ref (a 27)]) C dX8_init_81 kcl_X8_21 R.2.2.2.1.2.2.2.2 kar_int hA sx62_w rfl (fun c hc => (sxm8_z c (Nat.le_trans (Nat.le_of_ble_eq_true rfl) hc)).1) (by decide) (by decide) (by decide) (by decide) (by decide) (by decide) rfl rfl (HK (k2 := 34) (by decide)) (HN (n2 := 334) (by decide)) (fun a h => ⟨by simp only [h 1 (Nat.le_of_ble_eq_true rfl), h 27 (Nat.le_of_ble_eq_true rfl)], by simp only [h 27 (Nat.le_of_ble_eq_true rfl)]⟩) (fun a8 h8 C => ?_)
  have g8 : ∀ c, c < 28 → a8 c = Y.1 c := fun c hc => (h8 c (Nat.lt_of_lt_of_le hc (Nat.le_of_ble_eq_true rfl))).trans (g7 c hc)
  have C : xC (Gl sx63 (a8, Y.2)) Z (xBk B 34 334) "BetweenStops$Ways" cX8_init 2 1 := C
  show xWS (Gl sx63 (a8, Y.2)) (xBk B 34 334) 2 sxm8 [(0, .ref (a8 27)), (1, .ref (a8 1))] 85 [.ref (a8 53), .ref (a8 27)]
  refine wg_putr (l2 := sx64) (k := 9) (r := 53) (i := 27) (pc := 85) C dX8_init_85 rfl hin_8 tyX8 tyX8_ok nmX8 (by decide) kf_X8_39 rfl rfl (tyX8_ok 9 (by decide)) rfl rfl R.2.1 sx63_at27 (by decide) rfl (fun C => ?_)
  refine ws_aload_n (pc := 88) C dX8_init_88 rfl 0 rfl ?_
  refine ws_bipush (pc := 89) C dX8_init_89 cb_8 ?_
  refine ws_bipush (pc := 91) C dX8_init_91 cb_8 ?_
  refine wg_mna (l2 := sx65) (N' := 8) (M' := 8) (fun a => [(0, .ref (a 27)), (1, .ref (a 1))]) (fun a => [.ref (a 27)]) C dX8_init_93 kcl_X8_21 R.2.2.2.1.2.2.2.2 kar_int hA sx64_w rfl (fun c hc => (sxm8_z c (Nat.le_trans (Nat.le_of_ble_eq_true rfl) hc)).1) (by decide) (by decide) (by decide) (by decide) (by decide) (by decide) rfl rfl (HK (k2 := 43) (by decide)) (HN (n2 := 406) (by decide)) (fun a h => ⟨by simp only [h 1 (Nat.le_of_ble_eq_true rfl), h 27 (Nat.le_of_ble_eq_true rfl)], by simp only [h 27 (Nat.le_of_ble_eq_true rfl)]⟩) (fun a9 h9 C => ?_)
  have g9 : ∀ c, c < 28 → a9 c = Y.1 c := fun c hc => (h9 c (Nat.lt_of_lt_of_le hc (Nat.le_of_ble_eq_true rfl))).trans (g8 c hc)
  have C : xC (Gl sx65 (a9, Y.2)) Z (xBk B 43 406) "BetweenStops$Ways" cX8_init 2 1 := C
  show xWS (Gl sx65 (a9, Y.2)) (xBk B 43 406) 2 sxm8 [(0, .ref (a9 27)), (1, .ref (a9 1))] 97 [.ref (a9 62), .ref (a9 27)]
  refine wg_putr (l2 := sx66) (k := 10) (r := 62) (i := 27) (pc := 97) C dX8_init_97 rfl hin_8 tyX8 tyX8_ok nmX8 (by decide) kf_X8_42 rfl rfl (tyX8_ok 10 (by decide)) rfl rfl R.2.1 sx65_at27 (by decide) rfl (fun C => ?_)
  refine ws_aload_n (pc := 100) C dX8_init_100 rfl 0 rfl ?_
  refine ws_bipush (pc := 101) C dX8_init_101 cb_8 ?_
  refine wg_newa (l2 := sx67) (t := 0) (N' := 8) (fun a => [(0, .ref (a 27)), (1, .ref (a 1))]) (fun a => [.ref (a 27)]) C dX8_init_103 (by decide) rfl kar_int hA sx66_w rfl (sxm8_z 71 (by decide)).1 (sxm8_z 71 (by decide)).2 (by decide) (by decide) (by decide) rfl rfl (HK (k2 := 44) (by decide)) (HN (n2 := 414) (by decide)) (fun a h => ⟨by simp only [h 1 (Nat.le_of_ble_eq_true rfl), h 27 (Nat.le_of_ble_eq_true rfl)], by simp only [h 27 (Nat.le_of_ble_eq_true rfl)]⟩) (fun a10 h10 C => ?_)
  have g10 : ∀ c, c < 28 → a10 c = Y.1 c := fun c hc => (h10 c (Nat.lt_of_lt_of_le hc (Nat.le_of_ble_eq_true rfl))).trans (g9 c hc)
  have C : xC (Gl sx67 (a10, Y.2)) Z (xBk B 44 414) "BetweenStops$Ways" cX8_init 2 1 := C
  show xWS (Gl sx67 (a10, Y.2)) (xBk B 44 414) 2 sxm8 [(0, .ref (a10 27)), (1, .ref (a10 1))] 105 [.ref (a10 71), .ref (a10 27)]
  refine wg_putr (l2 := sx68) (k := 11) (r := 71) (i := 27) (pc := 105) C dX8_init_105 rfl hin_8 tyX8 tyX8_ok nmX8 (by decide) kf_X8_45 rfl rfl (tyX8_ok 11 (by decide)) rfl rfl R.2.1 sx67_at27 (by decide) rfl (fun C => ?_)
  refine ws_aload_n (pc := 108) C dX8_init_108 rfl 0 rfl ?_
  refine ws_bipush (pc := 109) C dX8_init_109 cb_8 ?_
  refine wg_newa (l2 := sx69) (t := 0) (N' := 8) (fun a => [(0, .ref (a 27)), (1, .ref (a 1))]) (fun a => [.ref (a 27)]) C dX8_init_111 (by decide) rfl kar_int hA sx68_w rfl (sxm8_z 72 (by decide)).1 (sxm8_z 72 (by decide)).2 (by decide) (by decide) (by decide) rfl rfl (HK (k2 := 45) (by decide)) (HN (n2 := 422) (by decide)) (fun a h => ⟨by simp only [h 1 (Nat.le_of_ble_eq_true rfl), h 27 (Nat.le_of_ble_eq_true rfl)], by simp only [h 27 (Nat.le_of_ble_eq_true rfl)]⟩) (fun a11 h11 C => ?_)
  have g11 : ∀ c, c < 28 → a11 c = Y.1 c := fun c hc => (h11 c (Nat.lt_of_lt_of_le hc (Nat.le_of_ble_eq_true rfl))).trans (g10 c hc)
  have C : xC (Gl sx69 (a11, Y.2)) Z (xBk B 45 422) "BetweenStops$Ways" cX8_init 2 1 := C
  show xWS (Gl sx69 (a11, Y.2)) (xBk B 45 422) 2 sxm8 [(0, .ref (a11 27)), (1, .ref (a11 1))] 113 [.ref (a11 72), .ref (a11 27)]
  refine wg_putr (l2 := sx70) (k := 12) (r := 72) (i := 27) (pc := 113) C dX8_init_113 rfl hin_8 tyX8 tyX8_ok nmX8 (by decide) kf_X8_48 rfl rfl (tyX8_ok 12 (by decide)) rfl rfl R.2.1 sx69_at27 (by decide) rfl (fun C => ?_)
  refine ws_aload_n (pc := 116) C dX8_init_116 rfl 0 rfl ?_
  refine ws_bipush (pc := 117) C dX8_init_117 cb_8 ?_
  refine wg_newa (l2 := sx71) (t := 0) (N' := 8) (fun a => [(0, .ref (a 27)), (1, .ref (a 1))]) (fun a => [.ref (a 27)]) C dX8_init_119 (by decide) rfl kar_int hA sx70_w rfl (sxm8_z 73 (by decide)).1 (sxm8_z 73 (by decide)).2 (by decide) (by decide) (by decide) rfl rfl (HK (k2 := 46) (by decide)) (HN (n2 := 430) (by decide)) (fun a h => ⟨by simp only [h 1 (Nat.le_of_ble_eq_true rfl), h 27 (Nat.le_of_ble_eq_true rfl)], by simp only [h 27 (Nat.le_of_ble_eq_true rfl)]⟩) (fun a12 h12 C => ?_)
  have g12 : ∀ c, c < 28 → a12 c = Y.1 c := fun c hc => (h12 c (Nat.lt_of_lt_of_le hc (Nat.le_of_ble_eq_true rfl))).trans (g11 c hc)
  have C : xC (Gl sx71 (a12, Y.2)) Z (xBk B 46 430) "BetweenStops$Ways" cX8_init 2 1 := C
  show xWS (Gl sx71 (a12, Y.2)) (xBk B 46 430) 2 sxm8 [(0, .ref (a12 27)), (1, .ref (a12 1))] 121 [.ref (a12 73), .ref (a12 27)]
  refine wg_putr (l2 := sx72) (k := 13) (r := 73) (i := 27) (pc := 121) C dX8_init_121 rfl hin_8 tyX8 tyX8_ok nmX8 (by decide) kf_X8_51 rfl rfl (tyX8_ok 13 (by decide)) rfl rfl R.2.1 sx71_at27 (by decide) rfl (fun C => ?_)
  refine ws_aload_n (pc := 124) C dX8_init_124 rfl 0 rfl ?_
  refine ws_bipush (pc := 125) C dX8_init_125 cb_8 ?_
  refine wg_newa (l2 := sx73) (t := 0) (N' := 8) (fun a => [(0, .ref (a 27)), (1, .ref (a 1))]) (fun a => [.ref (a 27)]) C dX8_init_127 (by decide) rfl kar_int hA sx72_w rfl (sxm8_z 74 (by decide)).1 (sxm8_z 74 (by decide)).2 (by decide) (by decide) (by decide) rfl rfl (HK (k2 := 47) (by decide)) (HN (n2 := 438) (by decide)) (fun a h => ⟨by simp only [h 1 (Nat.le_of_ble_eq_true rfl), h 27 (Nat.le_of_ble_eq_true rfl)], by simp only [h 27 (Nat.le_of_ble_eq_true rfl)]⟩) (fun a13 h13 C => ?_)
  have g13 : ∀ c, c < 28 → a13 c = Y.1 c := fun c hc => (h13 c (Nat.lt_of_lt_of_le hc (Nat.le_of_ble_eq_true rfl))).trans (g12 c hc)
  have C : xC (Gl sx73 (a13, Y.2)) Z (xBk B 47 438) "BetweenStops$Ways" cX8_init 2 1 := C
  show xWS (Gl sx73 (a13, Y.2)) (xBk B 47 438) 2 sxm8 [(0, .ref (a13 27)), (1, .ref (a13 1))] 129 [.ref (a13 74), .ref (a13 27)]
  refine wg_putr (l2 := sx74) (k := 14) (r := 74) (i := 27) (pc := 129) C dX8_init_129 rfl hin_8 tyX8 tyX8_ok nmX8 (by decide) kf_X8_54 rfl rfl (tyX8_ok 14 (by decide)) rfl rfl R.2.1 sx73_at27 (by decide) rfl (fun C => ?_)
  refine ws_aload_n (pc := 132) C dX8_init_132 rfl 0 rfl ?_
  refine ws_bipush (pc := 133) C dX8_init_133 cb_8 ?_
  refine wg_newa (l2 := sx75) (t := 0) (N' := 8) (fun a => [(0, .ref (a 27)), (1, .ref (a 1))]) (fun a => [.ref (a 27)]) C dX8_init_135 (by decide) rfl kar_int hA sx74_w rfl (sxm8_z 75 (by decide)).1 (sxm8_z 75 (by decide)).2 (by decide) (by decide) (by decide) rfl rfl (HK (k2 := 48) (by decide)) (HN (n2 := 446) (by decide)) (fun a h => ⟨by simp only [h 1 (Nat.le_of_ble_eq_true rfl), h 27 (Nat.le_of_ble_eq_true rfl)], by simp only [h 27 (Nat.le_of_ble_eq_true rfl)]⟩) (fun a14 h14 C => ?_)
  have g14 : ∀ c, c < 28 → a14 c = Y.1 c := fun c hc => (h14 c (Nat.lt_of_lt_of_le hc (Nat.le_of_ble_eq_true rfl))).trans (g13 c hc)
  have C : xC (Gl sx75 (a14, Y.2)) Z (xBk B 48 446) "BetweenStops$Ways" cX8_init 2 1 := C
  show xWS (Gl sx75 (a14, Y.2)) (xBk B 48 446) 2 sxm8 [(0, .ref (a14 27)), (1, .ref (a14 1))] 137 [.ref (a14 75), .ref (a14 27)]
  refine wg_putr (l2 := sx76) (k := 15) (r := 75) (i := 27) (pc := 137) C dX8_init_137 rfl hin_8 tyX8 tyX8_ok nmX8 (by decide) kf_X8_57 rfl rfl (tyX8_ok 15 (by decide)) rfl rfl R.2.1 sx75_at27 (by decide) rfl (fun C => ?_)
  refine ws_aload_n (pc := 140) C dX8_init_140 rfl 0 rfl ?_
  refine ws_bipush (pc := 141) C dX8_init_141 cb_8 ?_
  refine wg_newa (l2 := sx77) (t := 0) (N' := 8) (fun a => [(0, .ref (a 27)), (1, .ref (a 1))]) (fun a => [.ref (a 27)]) C dX8_init_143 (by decide) rfl kar_int hA sx76_w rfl (sxm8_z 76 (by decide)).1 (sxm8_z 76 (by decide)).2 (by decide) (by decide) (by decide) rfl rfl (HK (k2 := 49) (by decide)) (HN (n2 := 454) (by decide)) (fun a h => ⟨by simp only [h 1 (Nat.le_of_ble_eq_true rfl), h 27 (Nat.le_of_ble_eq_true rfl)], by simp only [h 27 (Nat.le_of_ble_eq_true rfl)]⟩) (fun a15 h15 C => ?_)
  have g15 : ∀ c, c < 28 → a15 c = Y.1 c := fun c hc => (h15 c (Nat.lt_of_lt_of_le hc (Nat.le_of_ble_eq_true rfl))).trans (g14 c hc)
  have C : xC (Gl sx77 (a15, Y.2)) Z (xBk B 49 454) "BetweenStops$Ways" cX8_init 2 1 := C
  show xWS (Gl sx77 (a15, Y.2)) (xBk B 49 454) 2 sxm8 [(0, .ref (a15 27)), (1, .ref (a15 1))] 145 [.ref (a15 76), .ref (a15 27)]
  refine wg_putr (l2 := sx78) (k := 16) (r := 76) (i := 27) (pc := 145) C dX8_init_145 rfl hin_8 tyX8 tyX8_ok nmX8 (by decide) kf_X8_60 rfl rfl (tyX8_ok 16 (by decide)) rfl rfl R.2.1 sx77_at27 (by decide) rfl (fun C => ?_)
  refine ws_aload_n (pc := 148) C dX8_init_148 rfl 0 rfl ?_
  refine ws_aload_n (pc := 149) C dX8_init_149 rfl 1 rfl ?_
  refine wg_putr (l2 := sx79) (k := 0) (r := 1) (i := 27) (pc := 150) C dX8_init_150 rfl hin_8 tyX8 tyX8_ok nmX8 (by decide) kf_X8_63 rfl rfl (tyX8_ok 0 (by decide)) rfl rfl R.2.1 sx78_at27 (by decide) rfl (fun C => ?_)
  exact wg_ret C R rfl g15 dX8_init_153
set_option maxRecDepth 20000 in
set_option maxHeartbeats 4000000 in
theorem mc_X4_init_20 (Y : xY) (Z : xZ) : xMc Z yX4_init cX4_init 1 1 1 160 [.ref (Y.1 77)] sx81 Y sxm8 sx83 sxm13 := by
  refine xMc_of (by decide) rfl (Nat.le_of_ble_eq_true rfl) (fun B C R => ?_)
  have C : xC (Gl sx81 Y) Z (xBk B 0 0) "BetweenStops$Tape" cX4_init 1 1 := C
  have hA : ∀ q, B.s.heap.size ≤ q → B.A q := fun q h => by rw [R.2.2.1]; exact Or.inr h
  have HK : ∀ {k2 : Nat}, k2 ≤ 1 → k2 ≤ B.R.cells := fun h => by rw [R.2.2.2.2.1]; exact h
  have HN : ∀ {n2 : Nat}, n2 ≤ 160 → n2 ≤ B.R.slots := fun h => by rw [R.2.2.2.2.2.1]; exact h
  show xWS (Gl sx81 Y) (xBk B 0 0) 1 sxm8 [(0, .ref (Y.1 77))] 0 []
  refine ws_aload_n (pc := 0) C dX4_init_0 rfl 0 rfl ?_
  refine wg_obj (pc := 1) C dX4_init_1 kl_X4_3 kz_inst kz_code (Nat.le_of_ble_eq_true rfl) (by decide) ?_
  refine ws_aload_n (pc := 4) C dX4_init_4 rfl 0 rfl ?_
  refine ws_sipush (pc := 5) C dX4_init_5 cs_160 ?_
  refine wg_newa (l2 := sx82) (t := 0) (N' := 160) (fun a => [(0, .ref (a 77))]) (fun a => [.ref (a 77)]) C dX4_init_8 (by decide) rfl kar_int hA sx81_w rfl (sxm8_z 78 (by decide)).1 (sxm8_z 78 (by decide)).2 (by decide) (by decide) (by decide) rfl rfl (HK (k2 := 1) (by decide)) (HN (n2 := 160) (by decide)) (fun a h => ⟨by simp only [h 77 (Nat.le_of_ble_eq_true rfl)], by simp only [h 77 (Nat.le_of_ble_eq_true rfl)]⟩) (fun a1 h1 C => ?_)
  have g1 : ∀ c, c < 78 → a1 c = Y.1 c := fun c hc => (h1 c (Nat.lt_of_lt_of_le hc (Nat.le_of_ble_eq_true rfl)))
  have C : xC (Gl sx82 (a1, Y.2)) Z (xBk B 1 160) "BetweenStops$Tape" cX4_init 1 1 := C
  show xWS (Gl sx82 (a1, Y.2)) (xBk B 1 160) 1 sxm8 [(0, .ref (a1 77))] 10 [.ref (a1 78), .ref (a1 77)]
  refine wg_putr (l2 := sx83) (k := 0) (r := 78) (i := 77) (pc := 10) C dX4_init_10 rfl hin_4 tyX4 tyX4_ok nmX4 (by decide) kf_X4_9 rfl rfl (tyX4_ok 0 (by decide)) rfl rfl R.2.1 sx82_at77 (by decide) rfl (fun C => ?_)
  refine ws_aload_n (pc := 13) C dX4_init_13 rfl 0 rfl ?_
  refine ws_iconst (pc := 14) C dX4_init_14 ci_0 ?_
  refine ws_putI (σ2 := sxm9) (pc := 15) C dX4_init_15 fp_X4_15 (xSf_of sx83_at77 rfl) rfl ?_
  refine ws_aload_n (pc := 18) C dX4_init_18 rfl 0 rfl ?_
  refine ws_iconst (pc := 19) C dX4_init_19 ci_0 ?_
  refine ws_putI (σ2 := sxm10) (pc := 20) C dX4_init_20 fp_X4_19 (xSf_of sx83_at77 rfl) rfl ?_
  refine ws_aload_n (pc := 23) C dX4_init_23 rfl 0 rfl ?_
  refine ws_iconst (pc := 24) C dX4_init_24 ci_0 ?_
  refine ws_putI (σ2 := sxm11) (pc := 25) C dX4_init_25 fp_X4_22 (xSf_of sx83_at77 rfl) rfl ?_
  refine ws_aload_n (pc := 28) C dX4_init_28 rfl 0 rfl ?_
  refine ws_iconst (pc := 29) C dX4_init_29 ci_0 ?_
  refine ws_putI (σ2 := sxm12) (pc := 30) C dX4_init_30 fp_X4_25 (xSf_of sx83_at77 rfl) rfl ?_
  refine ws_aload_n (pc := 33) C dX4_init_33 rfl 0 rfl ?_
  refine ws_iconst (pc := 34) C dX4_init_34 ci_0 ?_
  refine ws_putI (σ2 := sxm13) (pc := 35) C dX4_init_35 fp_X4_28 (xSf_of sx83_at77 rfl) rfl ?_
  exact wg_ret C R rfl g1 dX4_init_38
set_option maxRecDepth 20000 in
set_option maxHeartbeats 4000000 in
theorem mc_X1_init_21 (Y : xY) (Z : xZ) : xMc Z yX1_init cX1_init 2 1 0 0 [.ref (Y.1 79), .ref (Y.1 77)] sx85 Y sxm13 sx86 sxm13 := by
  refine xMc_of (by decide) rfl (Nat.le_of_ble_eq_true rfl) (fun B C R => ?_)
  have C : xC (Gl sx85 Y) Z (xBk B 0 0) "BetweenStops$Reader" cX1_init 2 1 := C
  have hA : ∀ q, B.s.heap.size ≤ q → B.A q := fun q h => by rw [R.2.2.1]; exact Or.inr h
  have HK : ∀ {k2 : Nat}, k2 ≤ 0 → k2 ≤ B.R.cells := fun h => by rw [R.2.2.2.2.1]; exact h
  have HN : ∀ {n2 : Nat}, n2 ≤ 0 → n2 ≤ B.R.slots := fun h => by rw [R.2.2.2.2.2.1]; exact h
  show xWS (Gl sx85 Y) (xBk B 0 0) 2 sxm13 [(0, .ref (Y.1 79)), (1, .ref (Y.1 77))] 0 []
  refine ws_aload_n (pc := 0) C dX1_init_0 rfl 0 rfl ?_
  refine wg_obj (pc := 1) C dX1_init_1 kl_X1_3 kz_inst kz_code (Nat.le_of_ble_eq_true rfl) (by decide) ?_
  refine ws_aload_n (pc := 4) C dX1_init_4 rfl 0 rfl ?_
  refine ws_aload_n (pc := 5) C dX1_init_5 rfl 1 rfl ?_
  refine wg_putr (l2 := sx86) (k := 0) (r := 77) (i := 79) (pc := 6) C dX1_init_6 rfl hin_1 tyX1 tyX1_ok nmX1 (by decide) kf_X1_9 rfl rfl (tyX1_ok 0 (by decide)) rfl rfl R.2.1 sx85_at79 (by decide) rfl (fun C => ?_)
  exact wg_ret C R rfl (fun _ _ => rfl) dX1_init_9
set_option maxRecDepth 20000 in
set_option maxHeartbeats 4000000 in
theorem mc_X0_init_22 (Y : xY) (Z : xZ) : xMc Z yX0_init cX0_init 1 1 8 86 [.ref (Y.1 81)] sx90 Y sxm15 sx100 sxm16 := by
  refine xMc_of (by decide) rfl (Nat.le_of_ble_eq_true rfl) (fun B C R => ?_)
  have C : xC (Gl sx90 Y) Z (xBk B 0 0) "BetweenStops$Image" cX0_init 1 1 := C
  have hA : ∀ q, B.s.heap.size ≤ q → B.A q := fun q h => by rw [R.2.2.1]; exact Or.inr h
  have HK : ∀ {k2 : Nat}, k2 ≤ 8 → k2 ≤ B.R.cells := fun h => by rw [R.2.2.2.2.1]; exact h
  have HN : ∀ {n2 : Nat}, n2 ≤ 86 → n2 ≤ B.R.slots := fun h => by rw [R.2.2.2.2.2.1]; exact h
  show xWS (Gl sx90 Y) (xBk B 0 0) 1 sxm15 [(0, .ref (Y.1 81))] 0 []
  refine ws_aload_n (pc := 0) C dX0_init_0 rfl 0 rfl ?_
  refine wg_obj (pc := 1) C dX0_init_1 kl_X0_3 kz_inst kz_code (Nat.le_of_ble_eq_true rfl) (by decide) ?_
  refine ws_aload_n (pc := 4) C dX0_init_4 rfl 0 rfl ?_
  refine ws_iconst (pc := 5) C dX0_init_5 ci_0 ?_
  refine ws_putZ (σ2 := sxm16) (pc := 6) C dX0_init_6 fp_X0_9 (xSf_of sx90_at81 rfl) isZ0 rfl ?_
  refine ws_aload_n (pc := 9) C dX0_init_9 rfl 0 rfl ?_
  refine ws_bipush (pc := 10) C dX0_init_10 cb_41 ?_
  refine wg_newa (l2 := sx91) (t := 0) (N' := 41) (fun a => [(0, .ref (a 81))]) (fun a => [.ref (a 81)]) C dX0_init_12 (by decide) rfl kar_int hA sx90_w rfl (sxm16_z 82 (by decide)).1 (sxm16_z 82 (by decide)).2 (by decide) (by decide) (by decide) rfl rfl (HK (k2 := 1) (by decide)) (HN (n2 := 41) (by decide)) (fun a h => ⟨by simp only [h 81 (Nat.le_of_ble_eq_true rfl)], by simp only [h 81 (Nat.le_of_ble_eq_true rfl)]⟩) (fun a1 h1 C => ?_)
  have g1 : ∀ c, c < 82 → a1 c = Y.1 c := fun c hc => (h1 c (Nat.lt_of_lt_of_le hc (Nat.le_of_ble_eq_true rfl)))
  have C : xC (Gl sx91 (a1, Y.2)) Z (xBk B 1 41) "BetweenStops$Image" cX0_init 1 1 := C
  show xWS (Gl sx91 (a1, Y.2)) (xBk B 1 41) 1 sxm16 [(0, .ref (a1 81))] 14 [.ref (a1 82), .ref (a1 81)]
  refine wg_putr (l2 := sx92) (k := 2) (r := 82) (i := 81) (pc := 14) C dX0_init_14 rfl hin_0 tyX0 tyX0_ok nmX0 (by decide) kf_X0_15 rfl rfl (tyX0_ok 2 (by decide)) rfl rfl R.2.1 sx91_at81 (by decide) rfl (fun C => ?_)
  refine ws_aload_n (pc := 17) C dX0_init_17 rfl 0 rfl ?_
  refine ws_iconst (pc := 18) C dX0_init_18 ci_3 ?_
  refine ws_bipush (pc := 19) C dX0_init_19 cb_6 ?_
  refine wg_mna (l2 := sx93) (N' := 3) (M' := 6) (fun a => [(0, .ref (a 81))]) (fun a => [.ref (a 81)]) C dX0_init_21 kcl_X0_19 R.2.2.2.1.2.2.2.2 kar_int hA sx92_w rfl (fun c hc => (sxm16_z c (Nat.le_trans (Nat.le_of_ble_eq_true rfl) hc)).1) (by decide) (by decide) (by decide) (by decide) (by decide) (by decide) rfl rfl (HK (k2 := 5) (by decide)) (HN (n2 := 62) (by decide)) (fun a h => ⟨by simp only [h 81 (Nat.le_of_ble_eq_true rfl)], by simp only [h 81 (Nat.le_of_ble_eq_true rfl)]⟩) (fun a2 h2 C => ?_)
  have g2 : ∀ c, c < 82 → a2 c = Y.1 c := fun c hc => (h2 c (Nat.lt_of_lt_of_le hc (Nat.le_of_ble_eq_true rfl))).trans (g1 c hc)
  have C : xC (Gl sx93 (a2, Y.2)) Z (xBk B 5 62) "BetweenStops$Image" cX0_init 1 1 := C
  show xWS (Gl sx93 (a2, Y.2)) (xBk B 5 62) 1 sxm16 [(0, .ref (a2 81))] 25 [.ref (a2 83), .ref (a2 81)]
  refine wg_putr (l2 := sx94) (k := 3) (r := 83) (i := 81) (pc := 25) C dX0_init_25 rfl hin_0 tyX0 tyX0_ok nmX0 (by decide) kf_X0_21 rfl rfl (tyX0_ok 3 (by decide)) rfl rfl R.2.1 sx93_at81 (by decide) rfl (fun C => ?_)
  refine ws_aload_n (pc := 28) C dX0_init_28 rfl 0 rfl ?_
  refine ws_bipush (pc := 29) C dX0_init_29 cb_8 ?_
  refine wg_newa (l2 := sx95) (t := 2) (N' := 8) (fun a => [(0, .ref (a 81))]) (fun a => [.ref (a 81)]) C dX0_init_31 (by decide) rfl kar_boolean hA sx94_w rfl (sxm16_z 87 (by decide)).1 (sxm16_z 87 (by decide)).2 (by decide) (by decide) (by decide) rfl rfl (HK (k2 := 6) (by decide)) (HN (n2 := 70) (by decide)) (fun a h => ⟨by simp only [h 81 (Nat.le_of_ble_eq_true rfl)], by simp only [h 81 (Nat.le_of_ble_eq_true rfl)]⟩) (fun a3 h3 C => ?_)
  have g3 : ∀ c, c < 82 → a3 c = Y.1 c := fun c hc => (h3 c (Nat.lt_of_lt_of_le hc (Nat.le_of_ble_eq_true rfl))).trans (g2 c hc)
  have C : xC (Gl sx95 (a3, Y.2)) Z (xBk B 6 70) "BetweenStops$Image" cX0_init 1 1 := C
  show xWS (Gl sx95 (a3, Y.2)) (xBk B 6 70) 1 sxm16 [(0, .ref (a3 81))] 33 [.ref (a3 87), .ref (a3 81)]
  refine wg_putr (l2 := sx96) (k := 7) (r := 87) (i := 81) (pc := 33) C dX0_init_33 rfl hin_0 tyX0 tyX0_ok nmX0 (by decide) kf_X0_24 rfl rfl (tyX0_ok 7 (by decide)) rfl rfl R.2.1 sx95_at81 (by decide) rfl (fun C => ?_)
  refine ws_aload_n (pc := 36) C dX0_init_36 rfl 0 rfl ?_
  refine ws_bipush (pc := 37) C dX0_init_37 cb_8 ?_
  refine wg_newa (l2 := sx97) (t := 0) (N' := 8) (fun a => [(0, .ref (a 81))]) (fun a => [.ref (a 81)]) C dX0_init_39 (by decide) rfl kar_int hA sx96_w rfl (sxm16_z 88 (by decide)).1 (sxm16_z 88 (by decide)).2 (by decide) (by decide) (by decide) rfl rfl (HK (k2 := 7) (by decide)) (HN (n2 := 78) (by decide)) (fun a h => ⟨by simp only [h 81 (Nat.le_of_ble_eq_true rfl)], by simp only [h 81 (Nat.le_of_ble_eq_true rfl)]⟩) (fun a4 h4 C => ?_)
  have g4 : ∀ c, c < 82 → a4 c = Y.1 c := fun c hc => (h4 c (Nat.lt_of_lt_of_le hc (Nat.le_of_ble_eq_true rfl))).trans (g3 c hc)
  have C : xC (Gl sx97 (a4, Y.2)) Z (xBk B 7 78) "BetweenStops$Image" cX0_init 1 1 := C
  show xWS (Gl sx97 (a4, Y.2)) (xBk B 7 78) 1 sxm16 [(0, .ref (a4 81))] 41 [.ref (a4 88), .ref (a4 81)]
  refine wg_putr (l2 := sx98) (k := 8) (r := 88) (i := 81) (pc := 41) C dX0_init_41 rfl hin_0 tyX0 tyX0_ok nmX0 (by decide) kf_X0_28 rfl rfl (tyX0_ok 8 (by decide)) rfl rfl R.2.1 sx97_at81 (by decide) rfl (fun C => ?_)
  refine ws_aload_n (pc := 44) C dX0_init_44 rfl 0 rfl ?_
  refine ws_bipush (pc := 45) C dX0_init_45 cb_8 ?_
  refine wg_newa (l2 := sx99) (t := 0) (N' := 8) (fun a => [(0, .ref (a 81))]) (fun a => [.ref (a 81)]) C dX0_init_47 (by decide) rfl kar_int hA sx98_w rfl (sxm16_z 89 (by decide)).1 (sxm16_z 89 (by decide)).2 (by decide) (by decide) (by decide) rfl rfl (HK (k2 := 8) (by decide)) (HN (n2 := 86) (by decide)) (fun a h => ⟨by simp only [h 81 (Nat.le_of_ble_eq_true rfl)], by simp only [h 81 (Nat.le_of_ble_eq_true rfl)]⟩) (fun a5 h5 C => ?_)
  have g5 : ∀ c, c < 82 → a5 c = Y.1 c := fun c hc => (h5 c (Nat.lt_of_lt_of_le hc (Nat.le_of_ble_eq_true rfl))).trans (g4 c hc)
  have C : xC (Gl sx99 (a5, Y.2)) Z (xBk B 8 86) "BetweenStops$Image" cX0_init 1 1 := C
  show xWS (Gl sx99 (a5, Y.2)) (xBk B 8 86) 1 sxm16 [(0, .ref (a5 81))] 49 [.ref (a5 89), .ref (a5 81)]
  refine wg_putr (l2 := sx100) (k := 9) (r := 89) (i := 81) (pc := 49) C dX0_init_49 rfl hin_0 tyX0 tyX0_ok nmX0 (by decide) kf_X0_31 rfl rfl (tyX0_ok 9 (by decide)) rfl rfl R.2.1 sx99_at81 (by decide) rfl (fun C => ?_)
  exact wg_ret C R rfl g5 dX0_init_52
set_option maxRecDepth 20000 in
set_option maxHeartbeats 4000000 in
theorem mc_X5_init_23 (Y : xY) (Z : xZ) : xMc Z yX5_init cX5_init 1 1 3 203 [.ref (Y.1 97)] sx116 Y sxm16 sx122 sxm18 := by
  refine xMc_of (by decide) rfl (Nat.le_of_ble_eq_true rfl) (fun B C R => ?_)
  have C : xC (Gl sx116 Y) Z (xBk B 0 0) "BetweenStops$Text" cX5_init 1 1 := C
  have hA : ∀ q, B.s.heap.size ≤ q → B.A q := fun q h => by rw [R.2.2.1]; exact Or.inr h
  have HK : ∀ {k2 : Nat}, k2 ≤ 3 → k2 ≤ B.R.cells := fun h => by rw [R.2.2.2.2.1]; exact h
  have HN : ∀ {n2 : Nat}, n2 ≤ 203 → n2 ≤ B.R.slots := fun h => by rw [R.2.2.2.2.2.1]; exact h
  show xWS (Gl sx116 Y) (xBk B 0 0) 1 sxm16 [(0, .ref (Y.1 97))] 0 []
  refine ws_aload_n (pc := 0) C dX5_init_0 rfl 0 rfl ?_
  refine wg_obj (pc := 1) C dX5_init_1 kl_X5_3 kz_inst kz_code (Nat.le_of_ble_eq_true rfl) (by decide) ?_
  refine ws_aload_n (pc := 4) C dX5_init_4 rfl 0 rfl ?_
  refine ws_sipush (pc := 5) C dX5_init_5 cs_160 ?_
  refine wg_newa (l2 := sx117) (t := 0) (N' := 160) (fun a => [(0, .ref (a 97))]) (fun a => [.ref (a 97)]) C dX5_init_8 (by decide) rfl kar_int hA sx116_w rfl (sxm16_z 98 (by decide)).1 (sxm16_z 98 (by decide)).2 (by decide) (by decide) (by decide) rfl rfl (HK (k2 := 1) (by decide)) (HN (n2 := 160) (by decide)) (fun a h => ⟨by simp only [h 97 (Nat.le_of_ble_eq_true rfl)], by simp only [h 97 (Nat.le_of_ble_eq_true rfl)]⟩) (fun a1 h1 C => ?_)
  have g1 : ∀ c, c < 98 → a1 c = Y.1 c := fun c hc => (h1 c (Nat.lt_of_lt_of_le hc (Nat.le_of_ble_eq_true rfl)))
  have C : xC (Gl sx117 (a1, Y.2)) Z (xBk B 1 160) "BetweenStops$Text" cX5_init 1 1 := C
  show xWS (Gl sx117 (a1, Y.2)) (xBk B 1 160) 1 sxm16 [(0, .ref (a1 97))] 10 [.ref (a1 98), .ref (a1 97)]
  refine wg_putr (l2 := sx118) (k := 0) (r := 98) (i := 97) (pc := 10) C dX5_init_10 rfl hin_5 tyX5 tyX5_ok nmX5 (by decide) kf_X5_9 rfl rfl (tyX5_ok 0 (by decide)) rfl rfl R.2.1 sx117_at97 (by decide) rfl (fun C => ?_)
  refine ws_aload_n (pc := 13) C dX5_init_13 rfl 0 rfl ?_
  refine ws_iconst (pc := 14) C dX5_init_14 ci_3 ?_
  refine wg_newa (l2 := sx119) (t := 0) (N' := 3) (fun a => [(0, .ref (a 97))]) (fun a => [.ref (a 97)]) C dX5_init_15 (by decide) rfl kar_int hA sx118_w rfl (sxm16_z 99 (by decide)).1 (sxm16_z 99 (by decide)).2 (by decide) (by decide) (by decide) rfl rfl (HK (k2 := 2) (by decide)) (HN (n2 := 163) (by decide)) (fun a h => ⟨by simp only [h 97 (Nat.le_of_ble_eq_true rfl)], by simp only [h 97 (Nat.le_of_ble_eq_true rfl)]⟩) (fun a2 h2 C => ?_)
  have g2 : ∀ c, c < 98 → a2 c = Y.1 c := fun c hc => (h2 c (Nat.lt_of_lt_of_le hc (Nat.le_of_ble_eq_true rfl))).trans (g1 c hc)
  have C : xC (Gl sx119 (a2, Y.2)) Z (xBk B 2 163) "BetweenStops$Text" cX5_init 1 1 := C
  show xWS (Gl sx119 (a2, Y.2)) (xBk B 2 163) 1 sxm16 [(0, .ref (a2 97))] 17 [.ref (a2 99), .ref (a2 97)]
  refine wg_putr (l2 := sx120) (k := 1) (r := 99) (i := 97) (pc := 17) C dX5_init_17 rfl hin_5 tyX5 tyX5_ok nmX5 (by decide) kf_X5_15 rfl rfl (tyX5_ok 1 (by decide)) rfl rfl R.2.1 sx119_at97 (by decide) rfl (fun C => ?_)
  refine ws_aload_n (pc := 20) C dX5_init_20 rfl 0 rfl ?_
  refine ws_bipush (pc := 21) C dX5_init_21 cb_40 ?_
  refine wg_newa (l2 := sx121) (t := 0) (N' := 40) (fun a => [(0, .ref (a 97))]) (fun a => [.ref (a 97)]) C dX5_init_23 (by decide) rfl kar_int hA sx120_w rfl (sxm16_z 100 (by decide)).1 (sxm16_z 100 (by decide)).2 (by decide) (by decide) (by decide) rfl rfl (HK (k2 := 3) (by decide)) (HN (n2 := 203) (by decide)) (fun a h => ⟨by simp only [h 97 (Nat.le_of_ble_eq_true rfl)], by simp only [h 97 (Nat.le_of_ble_eq_true rfl)]⟩) (fun a3 h3 C => ?_)
  have g3 : ∀ c, c < 98 → a3 c = Y.1 c := fun c hc => (h3 c (Nat.lt_of_lt_of_le hc (Nat.le_of_ble_eq_true rfl))).trans (g2 c hc)
  have C : xC (Gl sx121 (a3, Y.2)) Z (xBk B 3 203) "BetweenStops$Text" cX5_init 1 1 := C
  show xWS (Gl sx121 (a3, Y.2)) (xBk B 3 203) 1 sxm16 [(0, .ref (a3 97))] 25 [.ref (a3 100), .ref (a3 97)]
  refine wg_putr (l2 := sx122) (k := 2) (r := 100) (i := 97) (pc := 25) C dX5_init_25 rfl hin_5 tyX5 tyX5_ok nmX5 (by decide) kf_X5_18 rfl rfl (tyX5_ok 2 (by decide)) rfl rfl R.2.1 sx121_at97 (by decide) rfl (fun C => ?_)
  refine ws_aload_n (pc := 28) C dX5_init_28 rfl 0 rfl ?_
  refine ws_iconst (pc := 29) C dX5_init_29 ci_0 ?_
  refine ws_putI (σ2 := sxm17) (pc := 30) C dX5_init_30 fp_X5_21 (xSf_of sx122_at97 rfl) rfl ?_
  refine ws_aload_n (pc := 33) C dX5_init_33 rfl 0 rfl ?_
  refine ws_iconst (pc := 34) C dX5_init_34 ci_0 ?_
  refine ws_putI (σ2 := sxm18) (pc := 35) C dX5_init_35 fp_X5_25 (xSf_of sx122_at97 rfl) rfl ?_
  exact wg_ret C R rfl g3 dX5_init_38
set_option maxRecDepth 20000 in
set_option maxHeartbeats 4000000 in
theorem mc_X5_init_24 (Y : xY) (Z : xZ) : xMc Z yX5_init cX5_init 1 1 3 203 [.ref (Y.1 101)] sx124 Y sxm18 sx130 sxm20 := by
  refine xMc_of (by decide) rfl (Nat.le_of_ble_eq_true rfl) (fun B C R => ?_)
  have C : xC (Gl sx124 Y) Z (xBk B 0 0) "BetweenStops$Text" cX5_init 1 1 := C
  have hA : ∀ q, B.s.heap.size ≤ q → B.A q := fun q h => by rw [R.2.2.1]; exact Or.inr h
  have HK : ∀ {k2 : Nat}, k2 ≤ 3 → k2 ≤ B.R.cells := fun h => by rw [R.2.2.2.2.1]; exact h
  have HN : ∀ {n2 : Nat}, n2 ≤ 203 → n2 ≤ B.R.slots := fun h => by rw [R.2.2.2.2.2.1]; exact h
  show xWS (Gl sx124 Y) (xBk B 0 0) 1 sxm18 [(0, .ref (Y.1 101))] 0 []
  refine ws_aload_n (pc := 0) C dX5_init_0 rfl 0 rfl ?_
  refine wg_obj (pc := 1) C dX5_init_1 kl_X5_3 kz_inst kz_code (Nat.le_of_ble_eq_true rfl) (by decide) ?_
  refine ws_aload_n (pc := 4) C dX5_init_4 rfl 0 rfl ?_
  refine ws_sipush (pc := 5) C dX5_init_5 cs_160 ?_
  refine wg_newa (l2 := sx125) (t := 0) (N' := 160) (fun a => [(0, .ref (a 101))]) (fun a => [.ref (a 101)]) C dX5_init_8 (by decide) rfl kar_int hA sx124_w rfl (sxm18_z 102 (by decide)).1 (sxm18_z 102 (by decide)).2 (by decide) (by decide) (by decide) rfl rfl (HK (k2 := 1) (by decide)) (HN (n2 := 160) (by decide)) (fun a h => ⟨by simp only [h 101 (Nat.le_of_ble_eq_true rfl)], by simp only [h 101 (Nat.le_of_ble_eq_true rfl)]⟩) (fun a1 h1 C => ?_)
  have g1 : ∀ c, c < 102 → a1 c = Y.1 c := fun c hc => (h1 c (Nat.lt_of_lt_of_le hc (Nat.le_of_ble_eq_true rfl)))
  have C : xC (Gl sx125 (a1, Y.2)) Z (xBk B 1 160) "BetweenStops$Text" cX5_init 1 1 := C
  show xWS (Gl sx125 (a1, Y.2)) (xBk B 1 160) 1 sxm18 [(0, .ref (a1 101))] 10 [.ref (a1 102), .ref (a1 101)]
  refine wg_putr (l2 := sx126) (k := 0) (r := 102) (i := 101) (pc := 10) C dX5_init_10 rfl hin_5 tyX5 tyX5_ok nmX5 (by decide) kf_X5_9 rfl rfl (tyX5_ok 0 (by decide)) rfl rfl R.2.1 sx125_at101 (by decide) rfl (fun C => ?_)
  refine ws_aload_n (pc := 13) C dX5_init_13 rfl 0 rfl ?_
  refine ws_iconst (pc := 14) C dX5_init_14 ci_3 ?_
  refine wg_newa (l2 := sx127) (t := 0) (N' := 3) (fun a => [(0, .ref (a 101))]) (fun a => [.ref (a 101)]) C dX5_init_15 (by decide) rfl kar_int hA sx126_w rfl (sxm18_z 103 (by decide)).1 (sxm18_z 103 (by decide)).2 (by decide) (by decide) (by decide) rfl rfl (HK (k2 := 2) (by decide)) (HN (n2 := 163) (by decide)) (fun a h => ⟨by simp only [h 101 (Nat.le_of_ble_eq_true rfl)], by simp only [h 101 (Nat.le_of_ble_eq_true rfl)]⟩) (fun a2 h2 C => ?_)
  have g2 : ∀ c, c < 102 → a2 c = Y.1 c := fun c hc => (h2 c (Nat.lt_of_lt_of_le hc (Nat.le_of_ble_eq_true rfl))).trans (g1 c hc)
  have C : xC (Gl sx127 (a2, Y.2)) Z (xBk B 2 163) "BetweenStops$Text" cX5_init 1 1 := C
  show xWS (Gl sx127 (a2, Y.2)) (xBk B 2 163) 1 sxm18 [(0, .ref (a2 101))] 17 [.ref (a2 103), .ref (a2 101)]
  refine wg_putr (l2 := sx128) (k := 1) (r := 103) (i := 101) (pc := 17) C dX5_init_17 rfl hin_5 tyX5 tyX5_ok nmX5 (by decide) kf_X5_15 rfl rfl (tyX5_ok 1 (by decide)) rfl rfl R.2.1 sx127_at101 (by decide) rfl (fun C => ?_)
  refine ws_aload_n (pc := 20) C dX5_init_20 rfl 0 rfl ?_
  refine ws_bipush (pc := 21) C dX5_init_21 cb_40 ?_
  refine wg_newa (l2 := sx129) (t := 0) (N' := 40) (fun a => [(0, .ref (a 101))]) (fun a => [.ref (a 101)]) C dX5_init_23 (by decide) rfl kar_int hA sx128_w rfl (sxm18_z 104 (by decide)).1 (sxm18_z 104 (by decide)).2 (by decide) (by decide) (by decide) rfl rfl (HK (k2 := 3) (by decide)) (HN (n2 := 203) (by decide)) (fun a h => ⟨by simp only [h 101 (Nat.le_of_ble_eq_true rfl)], by simp only [h 101 (Nat.le_of_ble_eq_true rfl)]⟩) (fun a3 h3 C => ?_)
  have g3 : ∀ c, c < 102 → a3 c = Y.1 c := fun c hc => (h3 c (Nat.lt_of_lt_of_le hc (Nat.le_of_ble_eq_true rfl))).trans (g2 c hc)
  have C : xC (Gl sx129 (a3, Y.2)) Z (xBk B 3 203) "BetweenStops$Text" cX5_init 1 1 := C
  show xWS (Gl sx129 (a3, Y.2)) (xBk B 3 203) 1 sxm18 [(0, .ref (a3 101))] 25 [.ref (a3 104), .ref (a3 101)]
  refine wg_putr (l2 := sx130) (k := 2) (r := 104) (i := 101) (pc := 25) C dX5_init_25 rfl hin_5 tyX5 tyX5_ok nmX5 (by decide) kf_X5_18 rfl rfl (tyX5_ok 2 (by decide)) rfl rfl R.2.1 sx129_at101 (by decide) rfl (fun C => ?_)
  refine ws_aload_n (pc := 28) C dX5_init_28 rfl 0 rfl ?_
  refine ws_iconst (pc := 29) C dX5_init_29 ci_0 ?_
  refine ws_putI (σ2 := sxm19) (pc := 30) C dX5_init_30 fp_X5_21 (xSf_of sx130_at101 rfl) rfl ?_
  refine ws_aload_n (pc := 33) C dX5_init_33 rfl 0 rfl ?_
  refine ws_iconst (pc := 34) C dX5_init_34 ci_0 ?_
  refine ws_putI (σ2 := sxm20) (pc := 35) C dX5_init_35 fp_X5_25 (xSf_of sx130_at101 rfl) rfl ?_
  exact wg_ret C R rfl g3 dX5_init_38
set_option maxRecDepth 20000 in
set_option maxHeartbeats 4000000 in
theorem mc_X5_init_25 (Y : xY) (Z : xZ) : xMc Z yX5_init cX5_init 1 1 3 203 [.ref (Y.1 105)] sx132 Y sxm20 sx138 sxm22 := by
  refine xMc_of (by decide) rfl (Nat.le_of_ble_eq_true rfl) (fun B C R => ?_)
  have C : xC (Gl sx132 Y) Z (xBk B 0 0) "BetweenStops$Text" cX5_init 1 1 := C
  have hA : ∀ q, B.s.heap.size ≤ q → B.A q := fun q h => by rw [R.2.2.1]; exact Or.inr h
  have HK : ∀ {k2 : Nat}, k2 ≤ 3 → k2 ≤ B.R.cells := fun h => by rw [R.2.2.2.2.1]; exact h
  have HN : ∀ {n2 : Nat}, n2 ≤ 203 → n2 ≤ B.R.slots := fun h => by rw [R.2.2.2.2.2.1]; exact h
  show xWS (Gl sx132 Y) (xBk B 0 0) 1 sxm20 [(0, .ref (Y.1 105))] 0 []
  refine ws_aload_n (pc := 0) C dX5_init_0 rfl 0 rfl ?_
  refine wg_obj (pc := 1) C dX5_init_1 kl_X5_3 kz_inst kz_code (Nat.le_of_ble_eq_true rfl) (by decide) ?_
  refine ws_aload_n (pc := 4) C dX5_init_4 rfl 0 rfl ?_
  refine ws_sipush (pc := 5) C dX5_init_5 cs_160 ?_
  refine wg_newa (l2 := sx133) (t := 0) (N' := 160) (fun a => [(0, .ref (a 105))]) (fun a => [.ref (a 105)]) C dX5_init_8 (by decide) rfl kar_int hA sx132_w rfl (sxm20_z 106 (by decide)).1 (sxm20_z 106 (by decide)).2 (by decide) (by decide) (by decide) rfl rfl (HK (k2 := 1) (by decide)) (HN (n2 := 160) (by decide)) (fun a h => ⟨by simp only [h 105 (Nat.le_of_ble_eq_true rfl)], by simp only [h 105 (Nat.le_of_ble_eq_true rfl)]⟩) (fun a1 h1 C => ?_)
  have g1 : ∀ c, c < 106 → a1 c = Y.1 c := fun c hc => (h1 c (Nat.lt_of_lt_of_le hc (Nat.le_of_ble_eq_true rfl)))
  have C : xC (Gl sx133 (a1, Y.2)) Z (xBk B 1 160) "BetweenStops$Text" cX5_init 1 1 := C
  show xWS (Gl sx133 (a1, Y.2)) (xBk B 1 160) 1 sxm20 [(0, .ref (a1 105))] 10 [.ref (a1 106), .ref (a1 105)]
  refine wg_putr (l2 := sx134) (k := 0) (r := 106) (i := 105) (pc := 10) C dX5_init_10 rfl hin_5 tyX5 tyX5_ok nmX5 (by decide) kf_X5_9 rfl rfl (tyX5_ok 0 (by decide)) rfl rfl R.2.1 sx133_at105 (by decide) rfl (fun C => ?_)
  refine ws_aload_n (pc := 13) C dX5_init_13 rfl 0 rfl ?_
  refine ws_iconst (pc := 14) C dX5_init_14 ci_3 ?_
  refine wg_newa (l2 := sx135) (t := 0) (N' := 3) (fun a => [(0, .ref (a 105))]) (fun a => [.ref (a 105)]) C dX5_init_15 (by decide) rfl kar_int hA sx134_w rfl (sxm20_z 107 (by decide)).1 (sxm20_z 107 (by decide)).2 (by decide) (by decide) (by decide) rfl rfl (HK (k2 := 2) (by decide)) (HN (n2 := 163) (by decide)) (fun a h => ⟨by simp only [h 105 (Nat.le_of_ble_eq_true rfl)], by simp only [h 105 (Nat.le_of_ble_eq_true rfl)]⟩) (fun a2 h2 C => ?_)
  have g2 : ∀ c, c < 106 → a2 c = Y.1 c := fun c hc => (h2 c (Nat.lt_of_lt_of_le hc (Nat.le_of_ble_eq_true rfl))).trans (g1 c hc)
  have C : xC (Gl sx135 (a2, Y.2)) Z (xBk B 2 163) "BetweenStops$Text" cX5_init 1 1 := C
  show xWS (Gl sx135 (a2, Y.2)) (xBk B 2 163) 1 sxm20 [(0, .ref (a2 105))] 17 [.ref (a2 107), .ref (a2 105)]
  refine wg_putr (l2 := sx136) (k := 1) (r := 107) (i := 105) (pc := 17) C dX5_init_17 rfl hin_5 tyX5 tyX5_ok nmX5 (by decide) kf_X5_15 rfl rfl (tyX5_ok 1 (by decide)) rfl rfl R.2.1 sx135_at105 (by decide) rfl (fun C => ?_)
  refine ws_aload_n (pc := 20) C dX5_init_20 rfl 0 rfl ?_
  refine ws_bipush (pc := 21) C dX5_init_21 cb_40 ?_
  refine wg_newa (l2 := sx137) (t := 0) (N' := 40) (fun a => [(0, .ref (a 105))]) (fun a => [.ref (a 105)]) C dX5_init_23 (by decide) rfl kar_int hA sx136_w rfl (sxm20_z 108 (by decide)).1 (sxm20_z 108 (by decide)).2 (by decide) (by decide) (by decide) rfl rfl (HK (k2 := 3) (by decide)) (HN (n2 := 203) (by decide)) (fun a h => ⟨by simp only [h 105 (Nat.le_of_ble_eq_true rfl)], by simp only [h 105 (Nat.le_of_ble_eq_true rfl)]⟩) (fun a3 h3 C => ?_)
  have g3 : ∀ c, c < 106 → a3 c = Y.1 c := fun c hc => (h3 c (Nat.lt_of_lt_of_le hc (Nat.le_of_ble_eq_true rfl))).trans (g2 c hc)
  have C : xC (Gl sx137 (a3, Y.2)) Z (xBk B 3 203) "BetweenStops$Text" cX5_init 1 1 := C
  show xWS (Gl sx137 (a3, Y.2)) (xBk B 3 203) 1 sxm20 [(0, .ref (a3 105))] 25 [.ref (a3 108), .ref (a3 105)]
  refine wg_putr (l2 := sx138) (k := 2) (r := 108) (i := 105) (pc := 25) C dX5_init_25 rfl hin_5 tyX5 tyX5_ok nmX5 (by decide) kf_X5_18 rfl rfl (tyX5_ok 2 (by decide)) rfl rfl R.2.1 sx137_at105 (by decide) rfl (fun C => ?_)
  refine ws_aload_n (pc := 28) C dX5_init_28 rfl 0 rfl ?_
  refine ws_iconst (pc := 29) C dX5_init_29 ci_0 ?_
  refine ws_putI (σ2 := sxm21) (pc := 30) C dX5_init_30 fp_X5_21 (xSf_of sx138_at105 rfl) rfl ?_
  refine ws_aload_n (pc := 33) C dX5_init_33 rfl 0 rfl ?_
  refine ws_iconst (pc := 34) C dX5_init_34 ci_0 ?_
  refine ws_putI (σ2 := sxm22) (pc := 35) C dX5_init_35 fp_X5_25 (xSf_of sx138_at105 rfl) rfl ?_
  exact wg_ret C R rfl g3 dX5_init_38
set_option maxRecDepth 20000 in
set_option maxHeartbeats 4000000 in
theorem mc_X5_init_26 (Y : xY) (Z : xZ) : xMc Z yX5_init cX5_init 1 1 3 203 [.ref (Y.1 109)] sx140 Y sxm22 sx146 sxm24 := by
  refine xMc_of (by decide) rfl (Nat.le_of_ble_eq_true rfl) (fun B C R => ?_)
  have C : xC (Gl sx140 Y) Z (xBk B 0 0) "BetweenStops$Text" cX5_init 1 1 := C
  have hA : ∀ q, B.s.heap.size ≤ q → B.A q := fun q h => by rw [R.2.2.1]; exact Or.inr h
  have HK : ∀ {k2 : Nat}, k2 ≤ 3 → k2 ≤ B.R.cells := fun h => by rw [R.2.2.2.2.1]; exact h
  have HN : ∀ {n2 : Nat}, n2 ≤ 203 → n2 ≤ B.R.slots := fun h => by rw [R.2.2.2.2.2.1]; exact h
  show xWS (Gl sx140 Y) (xBk B 0 0) 1 sxm22 [(0, .ref (Y.1 109))] 0 []
  refine ws_aload_n (pc := 0) C dX5_init_0 rfl 0 rfl ?_
  refine wg_obj (pc := 1) C dX5_init_1 kl_X5_3 kz_inst kz_code (Nat.le_of_ble_eq_true rfl) (by decide) ?_
  refine ws_aload_n (pc := 4) C dX5_init_4 rfl 0 rfl ?_
  refine ws_sipush (pc := 5) C dX5_init_5 cs_160 ?_
  refine wg_newa (l2 := sx141) (t := 0) (N' := 160) (fun a => [(0, .ref (a 109))]) (fun a => [.ref (a 109)]) C dX5_init_8 (by decide) rfl kar_int hA sx140_w rfl (sxm22_z 110 (by decide)).1 (sxm22_z 110 (by decide)).2 (by decide) (by decide) (by decide) rfl rfl (HK (k2 := 1) (by decide)) (HN (n2 := 160) (by decide)) (fun a h => ⟨by simp only [h 109 (Nat.le_of_ble_eq_true rfl)], by simp only [h 109 (Nat.le_of_ble_eq_true rfl)]⟩) (fun a1 h1 C => ?_)
  have g1 : ∀ c, c < 110 → a1 c = Y.1 c := fun c hc => (h1 c (Nat.lt_of_lt_of_le hc (Nat.le_of_ble_eq_true rfl)))
  have C : xC (Gl sx141 (a1, Y.2)) Z (xBk B 1 160) "BetweenStops$Text" cX5_init 1 1 := C
  show xWS (Gl sx141 (a1, Y.2)) (xBk B 1 160) 1 sxm22 [(0, .ref (a1 109))] 10 [.ref (a1 110), .ref (a1 109)]
  refine wg_putr (l2 := sx142) (k := 0) (r := 110) (i := 109) (pc := 10) C dX5_init_10 rfl hin_5 tyX5 tyX5_ok nmX5 (by decide) kf_X5_9 rfl rfl (tyX5_ok 0 (by decide)) rfl rfl R.2.1 sx141_at109 (by decide) rfl (fun C => ?_)
  refine ws_aload_n (pc := 13) C dX5_init_13 rfl 0 rfl ?_
  refine ws_iconst (pc := 14) C dX5_init_14 ci_3 ?_
  refine wg_newa (l2 := sx143) (t := 0) (N' := 3) (fun a => [(0, .ref (a 109))]) (fun a => [.ref (a 109)]) C dX5_init_15 (by decide) rfl kar_int hA sx142_w rfl (sxm22_z 111 (by decide)).1 (sxm22_z 111 (by decide)).2 (by decide) (by decide) (by decide) rfl rfl (HK (k2 := 2) (by decide)) (HN (n2 := 163) (by decide)) (fun a h => ⟨by simp only [h 109 (Nat.le_of_ble_eq_true rfl)], by simp only [h 109 (Nat.le_of_ble_eq_true rfl)]⟩) (fun a2 h2 C => ?_)
  have g2 : ∀ c, c < 110 → a2 c = Y.1 c := fun c hc => (h2 c (Nat.lt_of_lt_of_le hc (Nat.le_of_ble_eq_true rfl))).trans (g1 c hc)
  have C : xC (Gl sx143 (a2, Y.2)) Z (xBk B 2 163) "BetweenStops$Text" cX5_init 1 1 := C
  show xWS (Gl sx143 (a2, Y.2)) (xBk B 2 163) 1 sxm22 [(0, .ref (a2 109))] 17 [.ref (a2 111), .ref (a2 109)]
  refine wg_putr (l2 := sx144) (k := 1) (r := 111) (i := 109) (pc := 17) C dX5_init_17 rfl hin_5 tyX5 tyX5_ok nmX5 (by decide) kf_X5_15 rfl rfl (tyX5_ok 1 (by decide)) rfl rfl R.2.1 sx143_at109 (by decide) rfl (fun C => ?_)
  refine ws_aload_n (pc := 20) C dX5_init_20 rfl 0 rfl ?_
  refine ws_bipush (pc := 21) C dX5_init_21 cb_40 ?_
  refine wg_newa (l2 := sx145) (t := 0) (N' := 40) (fun a => [(0, .ref (a 109))]) (fun a => [.ref (a 109)]) C dX5_init_23 (by decide) rfl kar_int hA sx144_w rfl (sxm22_z 112 (by decide)).1 (sxm22_z 112 (by decide)).2 (by decide) (by decide) (by decide) rfl rfl (HK (k2 := 3) (by decide)) (HN (n2 := 203) (by decide)) (fun a h => ⟨by simp only [h 109 (Nat.le_of_ble_eq_true rfl)], by simp only [h 109 (Nat.le_of_ble_eq_true rfl)]⟩) (fun a3 h3 C => ?_)
  have g3 : ∀ c, c < 110 → a3 c = Y.1 c := fun c hc => (h3 c (Nat.lt_of_lt_of_le hc (Nat.le_of_ble_eq_true rfl))).trans (g2 c hc)
  have C : xC (Gl sx145 (a3, Y.2)) Z (xBk B 3 203) "BetweenStops$Text" cX5_init 1 1 := C
  show xWS (Gl sx145 (a3, Y.2)) (xBk B 3 203) 1 sxm22 [(0, .ref (a3 109))] 25 [.ref (a3 112), .ref (a3 109)]
  refine wg_putr (l2 := sx146) (k := 2) (r := 112) (i := 109) (pc := 25) C dX5_init_25 rfl hin_5 tyX5 tyX5_ok nmX5 (by decide) kf_X5_18 rfl rfl (tyX5_ok 2 (by decide)) rfl rfl R.2.1 sx145_at109 (by decide) rfl (fun C => ?_)
  refine ws_aload_n (pc := 28) C dX5_init_28 rfl 0 rfl ?_
  refine ws_iconst (pc := 29) C dX5_init_29 ci_0 ?_
  refine ws_putI (σ2 := sxm23) (pc := 30) C dX5_init_30 fp_X5_21 (xSf_of sx146_at109 rfl) rfl ?_
  refine ws_aload_n (pc := 33) C dX5_init_33 rfl 0 rfl ?_
  refine ws_iconst (pc := 34) C dX5_init_34 ci_0 ?_
  refine ws_putI (σ2 := sxm24) (pc := 35) C dX5_init_35 fp_X5_25 (xSf_of sx146_at109 rfl) rfl ?_
  exact wg_ret C R rfl g3 dX5_init_38
set_option maxRecDepth 20000 in
set_option maxHeartbeats 4000000 in
theorem mc_X5_init_27 (Y : xY) (Z : xZ) : xMc Z yX5_init cX5_init 1 1 3 203 [.ref (Y.1 113)] sx148 Y sxm24 sx154 sxm26 := by
  refine xMc_of (by decide) rfl (Nat.le_of_ble_eq_true rfl) (fun B C R => ?_)
  have C : xC (Gl sx148 Y) Z (xBk B 0 0) "BetweenStops$Text" cX5_init 1 1 := C
  have hA : ∀ q, B.s.heap.size ≤ q → B.A q := fun q h => by rw [R.2.2.1]; exact Or.inr h
  have HK : ∀ {k2 : Nat}, k2 ≤ 3 → k2 ≤ B.R.cells := fun h => by rw [R.2.2.2.2.1]; exact h
  have HN : ∀ {n2 : Nat}, n2 ≤ 203 → n2 ≤ B.R.slots := fun h => by rw [R.2.2.2.2.2.1]; exact h
  show xWS (Gl sx148 Y) (xBk B 0 0) 1 sxm24 [(0, .ref (Y.1 113))] 0 []
  refine ws_aload_n (pc := 0) C dX5_init_0 rfl 0 rfl ?_
  refine wg_obj (pc := 1) C dX5_init_1 kl_X5_3 kz_inst kz_code (Nat.le_of_ble_eq_true rfl) (by decide) ?_
  refine ws_aload_n (pc := 4) C dX5_init_4 rfl 0 rfl ?_
  refine ws_sipush (pc := 5) C dX5_init_5 cs_160 ?_
  refine wg_newa (l2 := sx149) (t := 0) (N' := 160) (fun a => [(0, .ref (a 113))]) (fun a => [.ref (a 113)]) C dX5_init_8 (by decide) rfl kar_int hA sx148_w rfl (sxm24_z 114 (by decide)).1 (sxm24_z 114 (by decide)).2 (by decide) (by decide) (by decide) rfl rfl (HK (k2 := 1) (by decide)) (HN (n2 := 160) (by decide)) (fun a h => ⟨by simp only [h 113 (Nat.le_of_ble_eq_true rfl)], by simp only [h 113 (Nat.le_of_ble_eq_true rfl)]⟩) (fun a1 h1 C => ?_)
  have g1 : ∀ c, c < 114 → a1 c = Y.1 c := fun c hc => (h1 c (Nat.lt_of_lt_of_le hc (Nat.le_of_ble_eq_true rfl)))
  have C : xC (Gl sx149 (a1, Y.2)) Z (xBk B 1 160) "BetweenStops$Text" cX5_init 1 1 := C
  show xWS (Gl sx149 (a1, Y.2)) (xBk B 1 160) 1 sxm24 [(0, .ref (a1 113))] 10 [.ref (a1 114), .ref (a1 113)]
  refine wg_putr (l2 := sx150) (k := 0) (r := 114) (i := 113) (pc := 10) C dX5_init_10 rfl hin_5 tyX5 tyX5_ok nmX5 (by decide) kf_X5_9 rfl rfl (tyX5_ok 0 (by decide)) rfl rfl R.2.1 sx149_at113 (by decide) rfl (fun C => ?_)
  refine ws_aload_n (pc := 13) C dX5_init_13 rfl 0 rfl ?_
  refine ws_iconst (pc := 14) C dX5_init_14 ci_3 ?_
  refine wg_newa (l2 := sx151) (t := 0) (N' := 3) (fun a => [(0, .ref (a 113))]) (fun a => [.ref (a 113)]) C dX5_init_15 (by decide) rfl kar_int hA sx150_w rfl (sxm24_z 115 (by decide)).1 (sxm24_z 115 (by decide)).2 (by decide) (by decide) (by decide) rfl rfl (HK (k2 := 2) (by decide)) (HN (n2 := 163) (by decide)) (fun a h => ⟨by simp only [h 113 (Nat.le_of_ble_eq_true rfl)], by simp only [h 113 (Nat.le_of_ble_eq_true rfl)]⟩) (fun a2 h2 C => ?_)
  have g2 : ∀ c, c < 114 → a2 c = Y.1 c := fun c hc => (h2 c (Nat.lt_of_lt_of_le hc (Nat.le_of_ble_eq_true rfl))).trans (g1 c hc)
  have C : xC (Gl sx151 (a2, Y.2)) Z (xBk B 2 163) "BetweenStops$Text" cX5_init 1 1 := C
  show xWS (Gl sx151 (a2, Y.2)) (xBk B 2 163) 1 sxm24 [(0, .ref (a2 113))] 17 [.ref (a2 115), .ref (a2 113)]
  refine wg_putr (l2 := sx152) (k := 1) (r := 115) (i := 113) (pc := 17) C dX5_init_17 rfl hin_5 tyX5 tyX5_ok nmX5 (by decide) kf_X5_15 rfl rfl (tyX5_ok 1 (by decide)) rfl rfl R.2.1 sx151_at113 (by decide) rfl (fun C => ?_)
  refine ws_aload_n (pc := 20) C dX5_init_20 rfl 0 rfl ?_
  refine ws_bipush (pc := 21) C dX5_init_21 cb_40 ?_
  refine wg_newa (l2 := sx153) (t := 0) (N' := 40) (fun a => [(0, .ref (a 113))]) (fun a => [.ref (a 113)]) C dX5_init_23 (by decide) rfl kar_int hA sx152_w rfl (sxm24_z 116 (by decide)).1 (sxm24_z 116 (by decide)).2 (by decide) (by decide) (by decide) rfl rfl (HK (k2 := 3) (by decide)) (HN (n2 := 203) (by decide)) (fun a h => ⟨by simp only [h 113 (Nat.le_of_ble_eq_true rfl)], by simp only [h 113 (Nat.le_of_ble_eq_true rfl)]⟩) (fun a3 h3 C => ?_)
  have g3 : ∀ c, c < 114 → a3 c = Y.1 c := fun c hc => (h3 c (Nat.lt_of_lt_of_le hc (Nat.le_of_ble_eq_true rfl))).trans (g2 c hc)
  have C : xC (Gl sx153 (a3, Y.2)) Z (xBk B 3 203) "BetweenStops$Text" cX5_init 1 1 := C
  show xWS (Gl sx153 (a3, Y.2)) (xBk B 3 203) 1 sxm24 [(0, .ref (a3 113))] 25 [.ref (a3 116), .ref (a3 113)]
  refine wg_putr (l2 := sx154) (k := 2) (r := 116) (i := 113) (pc := 25) C dX5_init_25 rfl hin_5 tyX5 tyX5_ok nmX5 (by decide) kf_X5_18 rfl rfl (tyX5_ok 2 (by decide)) rfl rfl R.2.1 sx153_at113 (by decide) rfl (fun C => ?_)
  refine ws_aload_n (pc := 28) C dX5_init_28 rfl 0 rfl ?_
  refine ws_iconst (pc := 29) C dX5_init_29 ci_0 ?_
  refine ws_putI (σ2 := sxm25) (pc := 30) C dX5_init_30 fp_X5_21 (xSf_of sx154_at113 rfl) rfl ?_
  refine ws_aload_n (pc := 33) C dX5_init_33 rfl 0 rfl ?_
  refine ws_iconst (pc := 34) C dX5_init_34 ci_0 ?_
  refine ws_putI (σ2 := sxm26) (pc := 35) C dX5_init_35 fp_X5_25 (xSf_of sx154_at113 rfl) rfl ?_
  exact wg_ret C R rfl g3 dX5_init_38
set_option maxRecDepth 20000 in
set_option maxHeartbeats 4000000 in
theorem mc_X5_init_28 (Y : xY) (Z : xZ) : xMc Z yX5_init cX5_init 1 1 3 203 [.ref (Y.1 117)] sx156 Y sxm26 sx162 sxm28 := by
  refine xMc_of (by decide) rfl (Nat.le_of_ble_eq_true rfl) (fun B C R => ?_)
  have C : xC (Gl sx156 Y) Z (xBk B 0 0) "BetweenStops$Text" cX5_init 1 1 := C
  have hA : ∀ q, B.s.heap.size ≤ q → B.A q := fun q h => by rw [R.2.2.1]; exact Or.inr h
  have HK : ∀ {k2 : Nat}, k2 ≤ 3 → k2 ≤ B.R.cells := fun h => by rw [R.2.2.2.2.1]; exact h
  have HN : ∀ {n2 : Nat}, n2 ≤ 203 → n2 ≤ B.R.slots := fun h => by rw [R.2.2.2.2.2.1]; exact h
  show xWS (Gl sx156 Y) (xBk B 0 0) 1 sxm26 [(0, .ref (Y.1 117))] 0 []
  refine ws_aload_n (pc := 0) C dX5_init_0 rfl 0 rfl ?_
  refine wg_obj (pc := 1) C dX5_init_1 kl_X5_3 kz_inst kz_code (Nat.le_of_ble_eq_true rfl) (by decide) ?_
  refine ws_aload_n (pc := 4) C dX5_init_4 rfl 0 rfl ?_
  refine ws_sipush (pc := 5) C dX5_init_5 cs_160 ?_
  refine wg_newa (l2 := sx157) (t := 0) (N' := 160) (fun a => [(0, .ref (a 117))]) (fun a => [.ref (a 117)]) C dX5_init_8 (by decide) rfl kar_int hA sx156_w rfl (sxm26_z 118 (by decide)).1 (sxm26_z 118 (by decide)).2 (by decide) (by decide) (by decide) rfl rfl (HK (k2 := 1) (by decide)) (HN (n2 := 160) (by decide)) (fun a h => ⟨by simp only [h 117 (Nat.le_of_ble_eq_true rfl)], by simp only [h 117 (Nat.le_of_ble_eq_true rfl)]⟩) (fun a1 h1 C => ?_)
  have g1 : ∀ c, c < 118 → a1 c = Y.1 c := fun c hc => (h1 c (Nat.lt_of_lt_of_le hc (Nat.le_of_ble_eq_true rfl)))
  have C : xC (Gl sx157 (a1, Y.2)) Z (xBk B 1 160) "BetweenStops$Text" cX5_init 1 1 := C
  show xWS (Gl sx157 (a1, Y.2)) (xBk B 1 160) 1 sxm26 [(0, .ref (a1 117))] 10 [.ref (a1 118), .ref (a1 117)]
  refine wg_putr (l2 := sx158) (k := 0) (r := 118) (i := 117) (pc := 10) C dX5_init_10 rfl hin_5 tyX5 tyX5_ok nmX5 (by decide) kf_X5_9 rfl rfl (tyX5_ok 0 (by decide)) rfl rfl R.2.1 sx157_at117 (by decide) rfl (fun C => ?_)
  refine ws_aload_n (pc := 13) C dX5_init_13 rfl 0 rfl ?_
  refine ws_iconst (pc := 14) C dX5_init_14 ci_3 ?_
  refine wg_newa (l2 := sx159) (t := 0) (N' := 3) (fun a => [(0, .ref (a 117))]) (fun a => [.ref (a 117)]) C dX5_init_15 (by decide) rfl kar_int hA sx158_w rfl (sxm26_z 119 (by decide)).1 (sxm26_z 119 (by decide)).2 (by decide) (by decide) (by decide) rfl rfl (HK (k2 := 2) (by decide)) (HN (n2 := 163) (by decide)) (fun a h => ⟨by simp only [h 117 (Nat.le_of_ble_eq_true rfl)], by simp only [h 117 (Nat.le_of_ble_eq_true rfl)]⟩) (fun a2 h2 C => ?_)
  have g2 : ∀ c, c < 118 → a2 c = Y.1 c := fun c hc => (h2 c (Nat.lt_of_lt_of_le hc (Nat.le_of_ble_eq_true rfl))).trans (g1 c hc)
  have C : xC (Gl sx159 (a2, Y.2)) Z (xBk B 2 163) "BetweenStops$Text" cX5_init 1 1 := C
  show xWS (Gl sx159 (a2, Y.2)) (xBk B 2 163) 1 sxm26 [(0, .ref (a2 117))] 17 [.ref (a2 119), .ref (a2 117)]
  refine wg_putr (l2 := sx160) (k := 1) (r := 119) (i := 117) (pc := 17) C dX5_init_17 rfl hin_5 tyX5 tyX5_ok nmX5 (by decide) kf_X5_15 rfl rfl (tyX5_ok 1 (by decide)) rfl rfl R.2.1 sx159_at117 (by decide) rfl (fun C => ?_)
  refine ws_aload_n (pc := 20) C dX5_init_20 rfl 0 rfl ?_
  refine ws_bipush (pc := 21) C dX5_init_21 cb_40 ?_
  refine wg_newa (l2 := sx161) (t := 0) (N' := 40) (fun a => [(0, .ref (a 117))]) (fun a => [.ref (a 117)]) C dX5_init_23 (by decide) rfl kar_int hA sx160_w rfl (sxm26_z 120 (by decide)).1 (sxm26_z 120 (by decide)).2 (by decide) (by decide) (by decide) rfl rfl (HK (k2 := 3) (by decide)) (HN (n2 := 203) (by decide)) (fun a h => ⟨by simp only [h 117 (Nat.le_of_ble_eq_true rfl)], by simp only [h 117 (Nat.le_of_ble_eq_true rfl)]⟩) (fun a3 h3 C => ?_)
  have g3 : ∀ c, c < 118 → a3 c = Y.1 c := fun c hc => (h3 c (Nat.lt_of_lt_of_le hc (Nat.le_of_ble_eq_true rfl))).trans (g2 c hc)
  have C : xC (Gl sx161 (a3, Y.2)) Z (xBk B 3 203) "BetweenStops$Text" cX5_init 1 1 := C
  show xWS (Gl sx161 (a3, Y.2)) (xBk B 3 203) 1 sxm26 [(0, .ref (a3 117))] 25 [.ref (a3 120), .ref (a3 117)]
  refine wg_putr (l2 := sx162) (k := 2) (r := 120) (i := 117) (pc := 25) C dX5_init_25 rfl hin_5 tyX5 tyX5_ok nmX5 (by decide) kf_X5_18 rfl rfl (tyX5_ok 2 (by decide)) rfl rfl R.2.1 sx161_at117 (by decide) rfl (fun C => ?_)
  refine ws_aload_n (pc := 28) C dX5_init_28 rfl 0 rfl ?_
  refine ws_iconst (pc := 29) C dX5_init_29 ci_0 ?_
  refine ws_putI (σ2 := sxm27) (pc := 30) C dX5_init_30 fp_X5_21 (xSf_of sx162_at117 rfl) rfl ?_
  refine ws_aload_n (pc := 33) C dX5_init_33 rfl 0 rfl ?_
  refine ws_iconst (pc := 34) C dX5_init_34 ci_0 ?_
  refine ws_putI (σ2 := sxm28) (pc := 35) C dX5_init_35 fp_X5_25 (xSf_of sx162_at117 rfl) rfl ?_
  exact wg_ret C R rfl g3 dX5_init_38
set_option maxRecDepth 20000 in
set_option maxHeartbeats 4000000 in
theorem mc_X2_init_29 (Y : xY) (Z : xZ) : xMc Z yX2_init cX2_init 1 1 1 41 [.ref (Y.1 121)] sx164 Y sxm28 sx166 sxm30 := by
  refine xMc_of (by decide) rfl (Nat.le_of_ble_eq_true rfl) (fun B C R => ?_)
  have C : xC (Gl sx164 Y) Z (xBk B 0 0) "BetweenStops$Sheet" cX2_init 1 1 := C
  have hA : ∀ q, B.s.heap.size ≤ q → B.A q := fun q h => by rw [R.2.2.1]; exact Or.inr h
  have HK : ∀ {k2 : Nat}, k2 ≤ 1 → k2 ≤ B.R.cells := fun h => by rw [R.2.2.2.2.1]; exact h
  have HN : ∀ {n2 : Nat}, n2 ≤ 41 → n2 ≤ B.R.slots := fun h => by rw [R.2.2.2.2.2.1]; exact h
  show xWS (Gl sx164 Y) (xBk B 0 0) 1 sxm28 [(0, .ref (Y.1 121))] 0 []
  refine ws_aload_n (pc := 0) C dX2_init_0 rfl 0 rfl ?_
  refine wg_obj (pc := 1) C dX2_init_1 kl_X2_3 kz_inst kz_code (Nat.le_of_ble_eq_true rfl) (by decide) ?_
  refine ws_aload_n (pc := 4) C dX2_init_4 rfl 0 rfl ?_
  refine ws_bipush (pc := 5) C dX2_init_5 cb_41 ?_
  refine wg_newa (l2 := sx165) (t := 0) (N' := 41) (fun a => [(0, .ref (a 121))]) (fun a => [.ref (a 121)]) C dX2_init_7 (by decide) rfl kar_int hA sx164_w rfl (sxm28_z 122 (by decide)).1 (sxm28_z 122 (by decide)).2 (by decide) (by decide) (by decide) rfl rfl (HK (k2 := 1) (by decide)) (HN (n2 := 41) (by decide)) (fun a h => ⟨by simp only [h 121 (Nat.le_of_ble_eq_true rfl)], by simp only [h 121 (Nat.le_of_ble_eq_true rfl)]⟩) (fun a1 h1 C => ?_)
  have g1 : ∀ c, c < 122 → a1 c = Y.1 c := fun c hc => (h1 c (Nat.lt_of_lt_of_le hc (Nat.le_of_ble_eq_true rfl)))
  have C : xC (Gl sx165 (a1, Y.2)) Z (xBk B 1 41) "BetweenStops$Sheet" cX2_init 1 1 := C
  show xWS (Gl sx165 (a1, Y.2)) (xBk B 1 41) 1 sxm28 [(0, .ref (a1 121))] 9 [.ref (a1 122), .ref (a1 121)]
  refine wg_putr (l2 := sx166) (k := 0) (r := 122) (i := 121) (pc := 9) C dX2_init_9 rfl hin_2 tyX2 tyX2_ok nmX2 (by decide) kf_X2_9 rfl rfl (tyX2_ok 0 (by decide)) rfl rfl R.2.1 sx165_at121 (by decide) rfl (fun C => ?_)
  refine ws_aload_n (pc := 12) C dX2_init_12 rfl 0 rfl ?_
  refine ws_iconst (pc := 13) C dX2_init_13 ci_m1 ?_
  refine ws_putI (σ2 := sxm29) (pc := 14) C dX2_init_14 fp_X2_15 (xSf_of sx166_at121 rfl) rfl ?_
  refine ws_aload_n (pc := 17) C dX2_init_17 rfl 0 rfl ?_
  refine ws_iconst (pc := 18) C dX2_init_18 ci_0 ?_
  refine ws_putI (σ2 := sxm30) (pc := 19) C dX2_init_19 fp_X2_19 (xSf_of sx166_at121 rfl) rfl ?_
  exact wg_ret C R rfl g1 dX2_init_22
set_option maxRecDepth 20000 in
set_option maxHeartbeats 4000000 in
theorem mc_X2_init_30 (Y : xY) (Z : xZ) : xMc Z yX2_init cX2_init 1 1 1 41 [.ref (Y.1 123)] sx168 Y sxm30 sx170 sxm32 := by
  refine xMc_of (by decide) rfl (Nat.le_of_ble_eq_true rfl) (fun B C R => ?_)
  have C : xC (Gl sx168 Y) Z (xBk B 0 0) "BetweenStops$Sheet" cX2_init 1 1 := C
  have hA : ∀ q, B.s.heap.size ≤ q → B.A q := fun q h => by rw [R.2.2.1]; exact Or.inr h
  have HK : ∀ {k2 : Nat}, k2 ≤ 1 → k2 ≤ B.R.cells := fun h => by rw [R.2.2.2.2.1]; exact h
  have HN : ∀ {n2 : Nat}, n2 ≤ 41 → n2 ≤ B.R.slots := fun h => by rw [R.2.2.2.2.2.1]; exact h
  show xWS (Gl sx168 Y) (xBk B 0 0) 1 sxm30 [(0, .ref (Y.1 123))] 0 []
  refine ws_aload_n (pc := 0) C dX2_init_0 rfl 0 rfl ?_
  refine wg_obj (pc := 1) C dX2_init_1 kl_X2_3 kz_inst kz_code (Nat.le_of_ble_eq_true rfl) (by decide) ?_
  refine ws_aload_n (pc := 4) C dX2_init_4 rfl 0 rfl ?_
  refine ws_bipush (pc := 5) C dX2_init_5 cb_41 ?_
  refine wg_newa (l2 := sx169) (t := 0) (N' := 41) (fun a => [(0, .ref (a 123))]) (fun a => [.ref (a 123)]) C dX2_init_7 (by decide) rfl kar_int hA sx168_w rfl (sxm30_z 124 (by decide)).1 (sxm30_z 124 (by decide)).2 (by decide) (by decide) (by decide) rfl rfl (HK (k2 := 1) (by decide)) (HN (n2 := 41) (by decide)) (fun a h => ⟨by simp only [h 123 (Nat.le_of_ble_eq_true rfl)], by simp only [h 123 (Nat.le_of_ble_eq_true rfl)]⟩) (fun a1 h1 C => ?_)
  have g1 : ∀ c, c < 124 → a1 c = Y.1 c := fun c hc => (h1 c (Nat.lt_of_lt_of_le hc (Nat.le_of_ble_eq_true rfl)))
  have C : xC (Gl sx169 (a1, Y.2)) Z (xBk B 1 41) "BetweenStops$Sheet" cX2_init 1 1 := C
  show xWS (Gl sx169 (a1, Y.2)) (xBk B 1 41) 1 sxm30 [(0, .ref (a1 123))] 9 [.ref (a1 124), .ref (a1 123)]
  refine wg_putr (l2 := sx170) (k := 0) (r := 124) (i := 123) (pc := 9) C dX2_init_9 rfl hin_2 tyX2 tyX2_ok nmX2 (by decide) kf_X2_9 rfl rfl (tyX2_ok 0 (by decide)) rfl rfl R.2.1 sx169_at123 (by decide) rfl (fun C => ?_)
  refine ws_aload_n (pc := 12) C dX2_init_12 rfl 0 rfl ?_
  refine ws_iconst (pc := 13) C dX2_init_13 ci_m1 ?_
  refine ws_putI (σ2 := sxm31) (pc := 14) C dX2_init_14 fp_X2_15 (xSf_of sx170_at123 rfl) rfl ?_
  refine ws_aload_n (pc := 17) C dX2_init_17 rfl 0 rfl ?_
  refine ws_iconst (pc := 18) C dX2_init_18 ci_0 ?_
  refine ws_putI (σ2 := sxm32) (pc := 19) C dX2_init_19 fp_X2_19 (xSf_of sx170_at123 rfl) rfl ?_
  exact wg_ret C R rfl g1 dX2_init_22
set_option maxRecDepth 20000 in
set_option maxHeartbeats 4000000 in
theorem mc_X2_init_31 (Y : xY) (Z : xZ) : xMc Z yX2_init cX2_init 1 1 1 41 [.ref (Y.1 125)] sx172 Y sxm32 sx174 sxm34 := by
  refine xMc_of (by decide) rfl (Nat.le_of_ble_eq_true rfl) (fun B C R => ?_)
  have C : xC (Gl sx172 Y) Z (xBk B 0 0) "BetweenStops$Sheet" cX2_init 1 1 := C
  have hA : ∀ q, B.s.heap.size ≤ q → B.A q := fun q h => by rw [R.2.2.1]; exact Or.inr h
  have HK : ∀ {k2 : Nat}, k2 ≤ 1 → k2 ≤ B.R.cells := fun h => by rw [R.2.2.2.2.1]; exact h
  have HN : ∀ {n2 : Nat}, n2 ≤ 41 → n2 ≤ B.R.slots := fun h => by rw [R.2.2.2.2.2.1]; exact h
  show xWS (Gl sx172 Y) (xBk B 0 0) 1 sxm32 [(0, .ref (Y.1 125))] 0 []
  refine ws_aload_n (pc := 0) C dX2_init_0 rfl 0 rfl ?_
  refine wg_obj (pc := 1) C dX2_init_1 kl_X2_3 kz_inst kz_code (Nat.le_of_ble_eq_true rfl) (by decide) ?_
  refine ws_aload_n (pc := 4) C dX2_init_4 rfl 0 rfl ?_
  refine ws_bipush (pc := 5) C dX2_init_5 cb_41 ?_
  refine wg_newa (l2 := sx173) (t := 0) (N' := 41) (fun a => [(0, .ref (a 125))]) (fun a => [.ref (a 125)]) C dX2_init_7 (by decide) rfl kar_int hA sx172_w rfl (sxm32_z 126 (by decide)).1 (sxm32_z 126 (by decide)).2 (by decide) (by decide) (by decide) rfl rfl (HK (k2 := 1) (by decide)) (HN (n2 := 41) (by decide)) (fun a h => ⟨by simp only [h 125 (Nat.le_of_ble_eq_true rfl)], by simp only [h 125 (Nat.le_of_ble_eq_true rfl)]⟩) (fun a1 h1 C => ?_)
  have g1 : ∀ c, c < 126 → a1 c = Y.1 c := fun c hc => (h1 c (Nat.lt_of_lt_of_le hc (Nat.le_of_ble_eq_true rfl)))
  have C : xC (Gl sx173 (a1, Y.2)) Z (xBk B 1 41) "BetweenStops$Sheet" cX2_init 1 1 := C
  show xWS (Gl sx173 (a1, Y.2)) (xBk B 1 41) 1 sxm32 [(0, .ref (a1 125))] 9 [.ref (a1 126), .ref (a1 125)]
  refine wg_putr (l2 := sx174) (k := 0) (r := 126) (i := 125) (pc := 9) C dX2_init_9 rfl hin_2 tyX2 tyX2_ok nmX2 (by decide) kf_X2_9 rfl rfl (tyX2_ok 0 (by decide)) rfl rfl R.2.1 sx173_at125 (by decide) rfl (fun C => ?_)
  refine ws_aload_n (pc := 12) C dX2_init_12 rfl 0 rfl ?_
  refine ws_iconst (pc := 13) C dX2_init_13 ci_m1 ?_
  refine ws_putI (σ2 := sxm33) (pc := 14) C dX2_init_14 fp_X2_15 (xSf_of sx174_at125 rfl) rfl ?_
  refine ws_aload_n (pc := 17) C dX2_init_17 rfl 0 rfl ?_
  refine ws_iconst (pc := 18) C dX2_init_18 ci_0 ?_
  refine ws_putI (σ2 := sxm34) (pc := 19) C dX2_init_19 fp_X2_19 (xSf_of sx174_at125 rfl) rfl ?_
  exact wg_ret C R rfl g1 dX2_init_22
set_option maxRecDepth 20000 in
set_option maxHeartbeats 4000000 in
theorem mc_X2_init_32 (Y : xY) (Z : xZ) : xMc Z yX2_init cX2_init 1 1 1 41 [.ref (Y.1 127)] sx176 Y sxm34 sx178 sxm36 := by
  refine xMc_of (by decide) rfl (Nat.le_of_ble_eq_true rfl) (fun B C R => ?_)
  have C : xC (Gl sx176 Y) Z (xBk B 0 0) "BetweenStops$Sheet" cX2_init 1 1 := C
  have hA : ∀ q, B.s.heap.size ≤ q → B.A q := fun q h => by rw [R.2.2.1]; exact Or.inr h
  have HK : ∀ {k2 : Nat}, k2 ≤ 1 → k2 ≤ B.R.cells := fun h => by rw [R.2.2.2.2.1]; exact h
  have HN : ∀ {n2 : Nat}, n2 ≤ 41 → n2 ≤ B.R.slots := fun h => by rw [R.2.2.2.2.2.1]; exact h
  show xWS (Gl sx176 Y) (xBk B 0 0) 1 sxm34 [(0, .ref (Y.1 127))] 0 []
  refine ws_aload_n (pc := 0) C dX2_init_0 rfl 0 rfl ?_
  refine wg_obj (pc := 1) C dX2_init_1 kl_X2_3 kz_inst kz_code (Nat.le_of_ble_eq_true rfl) (by decide) ?_
  refine ws_aload_n (pc := 4) C dX2_init_4 rfl 0 rfl ?_
  refine ws_bipush (pc := 5) C dX2_init_5 cb_41 ?_
  refine wg_newa (l2 := sx177) (t := 0) (N' := 41) (fun a => [(0, .ref (a 127))]) (fun a => [.ref (a 127)]) C dX2_init_7 (by decide) rfl kar_int hA sx176_w rfl (sxm34_z 128 (by decide)).1 (sxm34_z 128 (by decide)).2 (by decide) (by decide) (by decide) rfl rfl (HK (k2 := 1) (by decide)) (HN (n2 := 41) (by decide)) (fun a h => ⟨by simp only [h 127 (Nat.le_of_ble_eq_true rfl)], by simp only [h 127 (Nat.le_of_ble_eq_true rfl)]⟩) (fun a1 h1 C => ?_)
  have g1 : ∀ c, c < 128 → a1 c = Y.1 c := fun c hc => (h1 c (Nat.lt_of_lt_of_le hc (Nat.le_of_ble_eq_true rfl)))
  have C : xC (Gl sx177 (a1, Y.2)) Z (xBk B 1 41) "BetweenStops$Sheet" cX2_init 1 1 := C
  show xWS (Gl sx177 (a1, Y.2)) (xBk B 1 41) 1 sxm34 [(0, .ref (a1 127))] 9 [.ref (a1 128), .ref (a1 127)]
  refine wg_putr (l2 := sx178) (k := 0) (r := 128) (i := 127) (pc := 9) C dX2_init_9 rfl hin_2 tyX2 tyX2_ok nmX2 (by decide) kf_X2_9 rfl rfl (tyX2_ok 0 (by decide)) rfl rfl R.2.1 sx177_at127 (by decide) rfl (fun C => ?_)
  refine ws_aload_n (pc := 12) C dX2_init_12 rfl 0 rfl ?_
  refine ws_iconst (pc := 13) C dX2_init_13 ci_m1 ?_
  refine ws_putI (σ2 := sxm35) (pc := 14) C dX2_init_14 fp_X2_15 (xSf_of sx178_at127 rfl) rfl ?_
  refine ws_aload_n (pc := 17) C dX2_init_17 rfl 0 rfl ?_
  refine ws_iconst (pc := 18) C dX2_init_18 ci_0 ?_
  refine ws_putI (σ2 := sxm36) (pc := 19) C dX2_init_19 fp_X2_19 (xSf_of sx178_at127 rfl) rfl ?_
  exact wg_ret C R rfl g1 dX2_init_22
theorem sx179_end : sx179 = lX := xgL (by decide +kernel)
set_option maxRecDepth 20000 in
set_option maxHeartbeats 8000000 in
theorem mc_X9_init (Y : xY) (Z : xZ) {z : Int32 × xM} (h : fX9_init_T195 sxm36 = some z) : xMc Z yX9_init cX9_init 2 206 128 2498 [.ref (Y.1 0)] sx1 Y x0 lX z.2 := by
  refine xMc_of (by decide) rfl (Nat.le_of_ble_eq_true rfl) (fun B C R => ?_)
  have C : xC (Gl sx1 Y) Z (xBk B 0 0) "BetweenStops" cX9_init 2 206 := C
  have hA : ∀ q, B.s.heap.size ≤ q → B.A q := fun q h => by rw [R.2.2.1]; exact Or.inr h
  have HK : ∀ {k2 : Nat}, k2 ≤ 128 → k2 ≤ B.R.cells := fun h => by rw [R.2.2.2.2.1]; exact h
  have HN : ∀ {n2 : Nat}, n2 ≤ 2498 → n2 ≤ B.R.slots := fun h => by rw [R.2.2.2.2.2.1]; exact h
  show xWS (Gl sx1 Y) (xBk B 0 0) 2 x0 [(0, .ref (Y.1 0))] 0 []
  refine ws_aload_n (pc := 0) C dX9_init_0 rfl 0 rfl ?_
  refine wg_obj (pc := 1) C dX9_init_1 kl_X9_1 kz_inst kz_code (Nat.le_of_ble_eq_true rfl) (by decide) ?_
  refine ws_aload_n (pc := 4) C dX9_init_4 rfl 0 rfl ?_
  refine wg_new (l2 := sx2) (fl := [.inl none, .inl none, .inl none, .inl none, .inr 0, .inr 0, .inl none, .inr 0, .inl none, .inr 0]) (fun a => [(0, .ref (a 0))]) (fun a => [.ref (a 0)]) C dX9_init_5 rfl hin_6 tyX6 tyX6_ok kcl_X9_7 kq_X6 ki_X6 hA sx1_w rfl (xmz0  1 (by decide)).1 (xmz0  1 (by decide)).2 (fun j h => match j, h with | 0, _ => ⟨_, rfl, rfl⟩ | 1, _ => ⟨_, rfl, rfl⟩ | 2, _ => ⟨_, rfl, rfl⟩ | 3, _ => ⟨_, rfl, rfl⟩ | 4, _ => ⟨_, rfl, rfl⟩ | 5, _ => ⟨_, rfl, rfl⟩ | 6, _ => ⟨_, rfl, rfl⟩ | 7, _ => ⟨_, rfl, rfl⟩ | 8, _ => ⟨_, rfl, rfl⟩ | 9, _ => ⟨_, rfl, rfl⟩ | j + 10, h => absurd h (by omega)) (xnul_of (by decide)) rfl rfl (HK (k2 := 1) (by decide)) (HN (n2 := 10) (by decide)) (fun a h => ⟨by simp only [h 0 (Nat.le_of_ble_eq_true rfl)], by simp only [h 0 (Nat.le_of_ble_eq_true rfl)]⟩) (fun a1 h1 C => ?_)
  have g1 : ∀ c, c < 1 → a1 c = Y.1 c := fun c hc => (h1 c (Nat.lt_of_lt_of_le hc (Nat.le_of_ble_eq_true rfl)))
  have C : xC (Gl sx2 (a1, Y.2)) Z (xBk B 1 10) "BetweenStops" cX9_init 2 206 := C
  show xWS (Gl sx2 (a1, Y.2)) (xBk B 1 10) 2 x0 [(0, .ref (a1 0))] 8 [.ref (a1 1), .ref (a1 0)]
  refine ws_dup (pc := 8) C dX9_init_8 rfl ?_
  refine wg_init (l2 := sx46) (σ2 := sxm7) (r := 1) (pc := 9) (fun a => [(0, .ref (a 0))]) (fun a => [.ref (a 1), .ref (a 0)]) [] C R.2.2.2.1 (mc_X6_init_2 _ _) dX9_init_9 mw_X6_init kw_X9_9 hA rfl (st := [.ref (a1 1), .ref (a1 1), .ref (a1 0)]) rfl (Nat.le_of_ble_eq_true rfl) ⟨by decide, by decide⟩ rfl rfl (HK (k2 := 26) (by decide)) (HN (n2 := 266) (by decide)) (fun a h => ⟨by simp only [h 0 (Nat.le_of_ble_eq_true rfl)], by simp only [h 0 (Nat.le_of_ble_eq_true rfl), h 1 (Nat.le_of_ble_eq_true rfl)]⟩) (fun a2 h2 C => ?_)
  have g2 : ∀ c, c < 1 → a2 c = Y.1 c := fun c hc => (h2 c (Nat.lt_of_lt_of_le hc (Nat.le_of_ble_eq_true rfl))).trans (g1 c hc)
  have C : xC (Gl sx46 (a2, Y.2)) Z (xBk B 26 266) "BetweenStops" cX9_init 2 206 := C
  show xWS (Gl sx46 (a2, Y.2)) (xBk B 26 266) 2 sxm7 [(0, .ref (a2 0))] 12 [.ref (a2 1), .ref (a2 0)]
  refine wg_putr (l2 := sx47) (k := 0) (r := 1) (i := 0) (pc := 12) C dX9_init_12 rfl hin_9 tyX9 tyX9_ok nmX9 (by decide) kf_X9_10 rfl rfl (tyX9_ok 0 (by decide)) rfl rfl R.2.1 sx46_at0 (by decide) rfl (fun C => ?_)
  refine ws_aload_n (pc := 15) C dX9_init_15 rfl 0 rfl ?_
  refine wg_new (l2 := sx48) (fl := [.inl none, .inl none, .inl none, .inl none, .inl none, .inl none, .inl none, .inr 0, .inl none, .inl none, .inl none, .inl none, .inl none, .inl none, .inl none, .inl none, .inl none]) (fun a => [(0, .ref (a 0))]) (fun a => [.ref (a 0)]) C dX9_init_16 rfl hin_8 tyX8 tyX8_ok kcl_X9_16 kq_X8 ki_X8 hA sx47_w rfl (sxm7_z  27 (by decide)).1 (sxm7_z  27 (by decide)).2 (fun j h => match j, h with | 0, _ => ⟨_, rfl, rfl⟩ | 1, _ => ⟨_, rfl, rfl⟩ | 2, _ => ⟨_, rfl, rfl⟩ | 3, _ => ⟨_, rfl, rfl⟩ | 4, _ => ⟨_, rfl, rfl⟩ | 5, _ => ⟨_, rfl, rfl⟩ | 6, _ => ⟨_, rfl, rfl⟩ | 7, _ => ⟨_, rfl, rfl⟩ | 8, _ => ⟨_, rfl, rfl⟩ | 9, _ => ⟨_, rfl, rfl⟩ | 10, _ => ⟨_, rfl, rfl⟩ | 11, _ => ⟨_, rfl, rfl⟩ | 12, _ => ⟨_, rfl, rfl⟩ | 13, _ => ⟨_, rfl, rfl⟩ | 14, _ => ⟨_, rfl, rfl⟩ | 15, _ => ⟨_, rfl, rfl⟩ | 16, _ => ⟨_, rfl, rfl⟩ | j + 17, h => absurd h (by omega)) (xnul_of (by decide)) rfl rfl (HK (k2 := 27) (by decide)) (HN (n2 := 283) (by decide)) (fun a h => ⟨by simp only [h 0 (Nat.le_of_ble_eq_true rfl)], by simp only [h 0 (Nat.le_of_ble_eq_true rfl)]⟩) (fun a3 h3 C => ?_)
  have g3 : ∀ c, c < 1 → a3 c = Y.1 c := fun c hc => (h3 c (Nat.lt_of_lt_of_le hc (Nat.le_of_ble_eq_true rfl))).trans (g2 c hc)
  have C : xC (Gl sx48 (a3, Y.2)) Z (xBk B 27 283) "BetweenStops" cX9_init 2 206 := C
  show xWS (Gl sx48 (a3, Y.2)) (xBk B 27 283) 2 sxm7 [(0, .ref (a3 0))] 19 [.ref (a3 27), .ref (a3 0)]
  refine ws_dup (pc := 19) C dX9_init_19 rfl ?_
  refine ws_aload_n (pc := 20) C dX9_init_20 rfl 0 rfl ?_
  refine ws_getr (r := 1) (pc := 21) C dX9_init_21 fd_X9_10 (xSf_of sx48_at0 rfl) ?_
  refine wg_init (l2 := sx79) (σ2 := sxm8) (r := 27) (pc := 24) (fun a => [(0, .ref (a 0))]) (fun a => [.ref (a 27), .ref (a 0)]) [.ref (a3 1)] C R.2.2.2.1 (mc_X8_init_19 _ _) dX9_init_24 mw_X8_init kw_X9_18 hA rfl (st := [.ref (a3 1), .ref (a3 27), .ref (a3 27), .ref (a3 0)]) rfl (Nat.le_of_ble_eq_true rfl) ⟨by decide, by decide⟩ rfl rfl (HK (k2 := 76) (by decide)) (HN (n2 := 737) (by decide)) (fun a h => ⟨by simp only [h 0 (Nat.le_of_ble_eq_true rfl)], by simp only [h 0 (Nat.le_of_ble_eq_true rfl), h 27 (Nat.le_of_ble_eq_true rfl)]⟩) (fun a4 h4 C => ?_)
  have g4 : ∀ c, c < 1 → a4 c = Y.1 c := fun c hc => (h4 c (Nat.lt_of_lt_of_le hc (Nat.le_of_ble_eq_true rfl))).trans (g3 c hc)
  have C : xC (Gl sx79 (a4, Y.2)) Z (xBk B 76 737) "BetweenStops" cX9_init 2 206 := C
  show xWS (Gl sx79 (a4, Y.2)) (xBk B 76 737) 2 sxm8 [(0, .ref (a4 0))] 27 [.ref (a4 27), .ref (a4 0)]
  refine wg_putr (l2 := sx80) (k := 1) (r := 27) (i := 0) (pc := 27) C dX9_init_27 rfl hin_9 tyX9 tyX9_ok nmX9 (by decide) kf_X9_21 rfl rfl (tyX9_ok 1 (by decide)) rfl rfl R.2.1 sx79_at0 (by decide) rfl (fun C => ?_)
  refine ws_aload_n (pc := 30) C dX9_init_30 rfl 0 rfl ?_
  refine wg_new (l2 := sx81) (fl := [.inl none, .inr 0, .inr 0, .inr 0, .inr 0, .inr 0]) (fun a => [(0, .ref (a 0))]) (fun a => [.ref (a 0)]) C dX9_init_31 rfl hin_4 tyX4 tyX4_ok kcl_X9_25 kq_X4 ki_X4 hA sx80_w rfl (sxm8_z  77 (by decide)).1 (sxm8_z  77 (by decide)).2 (fun j h => match j, h with | 0, _ => ⟨_, rfl, rfl⟩ | 1, _ => ⟨_, rfl, rfl⟩ | 2, _ => ⟨_, rfl, rfl⟩ | 3, _ => ⟨_, rfl, rfl⟩ | 4, _ => ⟨_, rfl, rfl⟩ | 5, _ => ⟨_, rfl, rfl⟩ | j + 6, h => absurd h (by omega)) (xnul_of (by decide)) rfl rfl (HK (k2 := 77) (by decide)) (HN (n2 := 743) (by decide)) (fun a h => ⟨by simp only [h 0 (Nat.le_of_ble_eq_true rfl)], by simp only [h 0 (Nat.le_of_ble_eq_true rfl)]⟩) (fun a5 h5 C => ?_)
  have g5 : ∀ c, c < 1 → a5 c = Y.1 c := fun c hc => (h5 c (Nat.lt_of_lt_of_le hc (Nat.le_of_ble_eq_true rfl))).trans (g4 c hc)
  have C : xC (Gl sx81 (a5, Y.2)) Z (xBk B 77 743) "BetweenStops" cX9_init 2 206 := C
  show xWS (Gl sx81 (a5, Y.2)) (xBk B 77 743) 2 sxm8 [(0, .ref (a5 0))] 34 [.ref (a5 77), .ref (a5 0)]
  refine ws_dup (pc := 34) C dX9_init_34 rfl ?_
  refine wg_init (l2 := sx83) (σ2 := sxm13) (r := 77) (pc := 35) (fun a => [(0, .ref (a 0))]) (fun a => [.ref (a 77), .ref (a 0)]) [] C R.2.2.2.1 (mc_X4_init_20 _ _) dX9_init_35 mw_X4_init kw_X9_27 hA rfl (st := [.ref (a5 77), .ref (a5 77), .ref (a5 0)]) rfl (Nat.le_of_ble_eq_true rfl) ⟨by decide, by decide⟩ rfl rfl (HK (k2 := 78) (by decide)) (HN (n2 := 903) (by decide)) (fun a h => ⟨by simp only [h 0 (Nat.le_of_ble_eq_true rfl)], by simp only [h 0 (Nat.le_of_ble_eq_true rfl), h 77 (Nat.le_of_ble_eq_true rfl)]⟩) (fun a6 h6 C => ?_)
  have g6 : ∀ c, c < 1 → a6 c = Y.1 c := fun c hc => (h6 c (Nat.lt_of_lt_of_le hc (Nat.le_of_ble_eq_true rfl))).trans (g5 c hc)
  have C : xC (Gl sx83 (a6, Y.2)) Z (xBk B 78 903) "BetweenStops" cX9_init 2 206 := C
  show xWS (Gl sx83 (a6, Y.2)) (xBk B 78 903) 2 sxm13 [(0, .ref (a6 0))] 38 [.ref (a6 77), .ref (a6 0)]
  refine wg_putr (l2 := sx84) (k := 2) (r := 77) (i := 0) (pc := 38) C dX9_init_38 rfl hin_9 tyX9 tyX9_ok nmX9 (by decide) kf_X9_28 rfl rfl (tyX9_ok 2 (by decide)) rfl rfl R.2.1 sx83_at0 (by decide) rfl (fun C => ?_)
  refine ws_aload_n (pc := 41) C dX9_init_41 rfl 0 rfl ?_
  refine wg_new (l2 := sx85) (fl := [.inl none]) (fun a => [(0, .ref (a 0))]) (fun a => [.ref (a 0)]) C dX9_init_42 rfl hin_1 tyX1 tyX1_ok kcl_X9_32 kq_X1 ki_X1 hA sx84_w rfl (sxm13_z  79 (by decide)).1 (sxm13_z  79 (by decide)).2 (fun j h => match j, h with | 0, _ => ⟨_, rfl, rfl⟩ | j + 1, h => absurd h (by omega)) (xnul_of (by decide)) rfl rfl (HK (k2 := 79) (by decide)) (HN (n2 := 904) (by decide)) (fun a h => ⟨by simp only [h 0 (Nat.le_of_ble_eq_true rfl)], by simp only [h 0 (Nat.le_of_ble_eq_true rfl)]⟩) (fun a7 h7 C => ?_)
  have g7 : ∀ c, c < 1 → a7 c = Y.1 c := fun c hc => (h7 c (Nat.lt_of_lt_of_le hc (Nat.le_of_ble_eq_true rfl))).trans (g6 c hc)
  have C : xC (Gl sx85 (a7, Y.2)) Z (xBk B 79 904) "BetweenStops" cX9_init 2 206 := C
  show xWS (Gl sx85 (a7, Y.2)) (xBk B 79 904) 2 sxm13 [(0, .ref (a7 0))] 45 [.ref (a7 79), .ref (a7 0)]
  refine ws_dup (pc := 45) C dX9_init_45 rfl ?_
  refine ws_aload_n (pc := 46) C dX9_init_46 rfl 0 rfl ?_
  refine ws_getr (r := 77) (pc := 47) C dX9_init_47 fd_X9_28 (xSf_of sx85_at0 rfl) ?_
  refine wg_init (l2 := sx86) (σ2 := sxm13) (r := 79) (pc := 50) (fun a => [(0, .ref (a 0))]) (fun a => [.ref (a 79), .ref (a 0)]) [.ref (a7 77)] C R.2.2.2.1 (mc_X1_init_21 _ _) dX9_init_50 mw_X1_init kw_X9_34 hA rfl (st := [.ref (a7 77), .ref (a7 79), .ref (a7 79), .ref (a7 0)]) rfl (Nat.le_of_ble_eq_true rfl) ⟨by decide, by decide⟩ rfl rfl (HK (k2 := 79) (by decide)) (HN (n2 := 904) (by decide)) (fun a h => ⟨by simp only [h 0 (Nat.le_of_ble_eq_true rfl)], by simp only [h 0 (Nat.le_of_ble_eq_true rfl), h 79 (Nat.le_of_ble_eq_true rfl)]⟩) (fun a8 h8 C => ?_)
  have g8 : ∀ c, c < 1 → a8 c = Y.1 c := fun c hc => (h8 c (Nat.lt_of_lt_of_le hc (Nat.le_of_ble_eq_true rfl))).trans (g7 c hc)
  have C : xC (Gl sx86 (a8, Y.2)) Z (xBk B 79 904) "BetweenStops" cX9_init 2 206 := C
  show xWS (Gl sx86 (a8, Y.2)) (xBk B 79 904) 2 sxm13 [(0, .ref (a8 0))] 53 [.ref (a8 79), .ref (a8 0)]
  refine wg_putr (l2 := sx87) (k := 3) (r := 79) (i := 0) (pc := 53) C dX9_init_53 rfl hin_9 tyX9 tyX9_ok nmX9 (by decide) kf_X9_37 rfl rfl (tyX9_ok 3 (by decide)) rfl rfl R.2.1 sx86_at0 (by decide) rfl (fun C => ?_)
  refine ws_aload_n (pc := 56) C dX9_init_56 rfl 0 rfl ?_
  refine ws_bipush (pc := 57) C dX9_init_57 cb_6 ?_
  refine wg_newq (l2 := sx88) (t := 6) (N' := 6) (fun a => [(0, .ref (a 0))]) (fun a => [.ref (a 0)]) C dX9_init_59 (by decide) rfl kcl_X9_41 R.2.2.2.1.2.2.1 hA sx87_w rfl (by decide) (by decide) (by decide) rfl rfl (HK (k2 := 80) (by decide)) (HN (n2 := 910) (by decide)) (fun a h => ⟨by simp only [h 0 (Nat.le_of_ble_eq_true rfl)], by simp only [h 0 (Nat.le_of_ble_eq_true rfl)]⟩) (fun a9 h9 C => ?_)
  have g9 : ∀ c, c < 1 → a9 c = Y.1 c := fun c hc => (h9 c (Nat.lt_of_lt_of_le hc (Nat.le_of_ble_eq_true rfl))).trans (g8 c hc)
  have C : xC (Gl sx88 (a9, Y.2)) Z (xBk B 80 910) "BetweenStops" cX9_init 2 206 := C
  show xWS (Gl sx88 (a9, Y.2)) (xBk B 80 910) 2 sxm13 [(0, .ref (a9 0))] 62 [.ref (a9 80), .ref (a9 0)]
  refine wg_putr (l2 := sx89) (k := 4) (r := 80) (i := 0) (pc := 62) C dX9_init_62 rfl hin_9 tyX9 tyX9_ok nmX9 (by decide) kf_X9_43 rfl rfl (tyX9_ok 4 (by decide)) rfl rfl R.2.1 sx88_at0 (by decide) rfl (fun C => ?_)
  refine ws_aload_n (pc := 65) C dX9_init_65 rfl 0 rfl ?_
  refine ws_iconst (pc := 66) C dX9_init_66 ci_1 ?_
  refine ws_putI (σ2 := sxm14) (pc := 67) C dX9_init_67 fp_X9_47 (xSf_of sx89_at0 rfl) rfl ?_
  refine ws_aload_n (pc := 70) C dX9_init_70 rfl 0 rfl ?_
  refine ws_iconst (pc := 71) C dX9_init_71 ci_0 ?_
  refine ws_putI (σ2 := sxm15) (pc := 72) C dX9_init_72 fp_X9_51 (xSf_of sx89_at0 rfl) rfl ?_
  refine ws_aload_n (pc := 75) C dX9_init_75 rfl 0 rfl ?_
  refine wg_new (l2 := sx90) (fl := [.inr 0, .inr 0, .inl none, .inl none, .inr 0, .inr 0, .inr 0, .inl none, .inl none, .inl none, .inr 0]) (fun a => [(0, .ref (a 0))]) (fun a => [.ref (a 0)]) C dX9_init_76 rfl hin_0 tyX0 tyX0_ok kcl_X9_54 kq_X0 ki_X0 hA sx89_w rfl (sxm15_z  81 (by decide)).1 (sxm15_z  81 (by decide)).2 (fun j h => match j, h with | 0, _ => ⟨_, rfl, rfl⟩ | 1, _ => ⟨_, rfl, rfl⟩ | 2, _ => ⟨_, rfl, rfl⟩ | 3, _ => ⟨_, rfl, rfl⟩ | 4, _ => ⟨_, rfl, rfl⟩ | 5, _ => ⟨_, rfl, rfl⟩ | 6, _ => ⟨_, rfl, rfl⟩ | 7, _ => ⟨_, rfl, rfl⟩ | 8, _ => ⟨_, rfl, rfl⟩ | 9, _ => ⟨_, rfl, rfl⟩ | 10, _ => ⟨_, rfl, rfl⟩ | j + 11, h => absurd h (by omega)) (xnul_of (by decide)) rfl rfl (HK (k2 := 81) (by decide)) (HN (n2 := 921) (by decide)) (fun a h => ⟨by simp only [h 0 (Nat.le_of_ble_eq_true rfl)], by simp only [h 0 (Nat.le_of_ble_eq_true rfl)]⟩) (fun a10 h10 C => ?_)
  have g10 : ∀ c, c < 1 → a10 c = Y.1 c := fun c hc => (h10 c (Nat.lt_of_lt_of_le hc (Nat.le_of_ble_eq_true rfl))).trans (g9 c hc)
  have C : xC (Gl sx90 (a10, Y.2)) Z (xBk B 81 921) "BetweenStops" cX9_init 2 206 := C
  show xWS (Gl sx90 (a10, Y.2)) (xBk B 81 921) 2 sxm15 [(0, .ref (a10 0))] 79 [.ref (a10 81), .ref (a10 0)]
  refine ws_dup (pc := 79) C dX9_init_79 rfl ?_
  refine wg_init (l2 := sx100) (σ2 := sxm16) (r := 81) (pc := 80) (fun a => [(0, .ref (a 0))]) (fun a => [.ref (a 81), .ref (a 0)]) [] C R.2.2.2.1 (mc_X0_init_22 _ _) dX9_init_80 mw_X0_init kw_X9_56 hA rfl (st := [.ref (a10 81), .ref (a10 81), .ref (a10 0)]) rfl (Nat.le_of_ble_eq_true rfl) ⟨by decide, by decide⟩ rfl rfl (HK (k2 := 89) (by decide)) (HN (n2 := 1007) (by decide)) (fun a h => ⟨by simp only [h 0 (Nat.le_of_ble_eq_true rfl)], by simp only [h 0 (Nat.le_of_ble_eq_true rfl), h 81 (Nat.le_of_ble_eq_true rfl)]⟩) (fun a11 h11 C => ?_)
  have g11 : ∀ c, c < 1 → a11 c = Y.1 c := fun c hc => (h11 c (Nat.lt_of_lt_of_le hc (Nat.le_of_ble_eq_true rfl))).trans (g10 c hc)
  have C : xC (Gl sx100 (a11, Y.2)) Z (xBk B 89 1007) "BetweenStops" cX9_init 2 206 := C
  show xWS (Gl sx100 (a11, Y.2)) (xBk B 89 1007) 2 sxm16 [(0, .ref (a11 0))] 83 [.ref (a11 81), .ref (a11 0)]
  refine wg_putr (l2 := sx101) (k := 7) (r := 81) (i := 0) (pc := 83) C dX9_init_83 rfl hin_9 tyX9 tyX9_ok nmX9 (by decide) kf_X9_57 rfl rfl (tyX9_ok 7 (by decide)) rfl rfl R.2.1 sx100_at0 (by decide) rfl (fun C => ?_)
  refine ws_aload_n (pc := 86) C dX9_init_86 rfl 0 rfl ?_
  refine ws_iconst (pc := 87) C dX9_init_87 ci_4 ?_
  refine wg_newq (l2 := sx102) (t := 7) (N' := 4) (fun a => [(0, .ref (a 0))]) (fun a => [.ref (a 0)]) C dX9_init_88 (by decide) rfl kcl_X9_61 R.2.2.2.1.2.2.2.1 hA sx101_w rfl (by decide) (by decide) (by decide) rfl rfl (HK (k2 := 90) (by decide)) (HN (n2 := 1011) (by decide)) (fun a h => ⟨by simp only [h 0 (Nat.le_of_ble_eq_true rfl)], by simp only [h 0 (Nat.le_of_ble_eq_true rfl)]⟩) (fun a12 h12 C => ?_)
  have g12 : ∀ c, c < 1 → a12 c = Y.1 c := fun c hc => (h12 c (Nat.lt_of_lt_of_le hc (Nat.le_of_ble_eq_true rfl))).trans (g11 c hc)
  have C : xC (Gl sx102 (a12, Y.2)) Z (xBk B 90 1011) "BetweenStops" cX9_init 2 206 := C
  show xWS (Gl sx102 (a12, Y.2)) (xBk B 90 1011) 2 sxm16 [(0, .ref (a12 0))] 91 [.ref (a12 90), .ref (a12 0)]
  refine wg_putr (l2 := sx103) (k := 8) (r := 90) (i := 0) (pc := 91) C dX9_init_91 rfl hin_9 tyX9 tyX9_ok nmX9 (by decide) kf_X9_63 rfl rfl (tyX9_ok 8 (by decide)) rfl rfl R.2.1 sx102_at0 (by decide) rfl (fun C => ?_)
  refine ws_aload_n (pc := 94) C dX9_init_94 rfl 0 rfl ?_
  refine ws_bipush (pc := 95) C dX9_init_95 cb_6 ?_
  refine wg_newa (l2 := sx104) (t := 0) (N' := 6) (fun a => [(0, .ref (a 0))]) (fun a => [.ref (a 0)]) C dX9_init_97 (by decide) rfl kar_int hA sx103_w rfl (sxm16_z 91 (by decide)).1 (sxm16_z 91 (by decide)).2 (by decide) (by decide) (by decide) rfl rfl (HK (k2 := 91) (by decide)) (HN (n2 := 1017) (by decide)) (fun a h => ⟨by simp only [h 0 (Nat.le_of_ble_eq_true rfl)], by simp only [h 0 (Nat.le_of_ble_eq_true rfl)]⟩) (fun a13 h13 C => ?_)
  have g13 : ∀ c, c < 1 → a13 c = Y.1 c := fun c hc => (h13 c (Nat.lt_of_lt_of_le hc (Nat.le_of_ble_eq_true rfl))).trans (g12 c hc)
  have C : xC (Gl sx104 (a13, Y.2)) Z (xBk B 91 1017) "BetweenStops" cX9_init 2 206 := C
  show xWS (Gl sx104 (a13, Y.2)) (xBk B 91 1017) 2 sxm16 [(0, .ref (a13 0))] 99 [.ref (a13 91), .ref (a13 0)]
  refine wg_putr (l2 := sx105) (k := 9) (r := 91) (i := 0) (pc := 99) C dX9_init_99 rfl hin_9 tyX9 tyX9_ok nmX9 (by decide) kf_X9_67 rfl rfl (tyX9_ok 9 (by decide)) rfl rfl R.2.1 sx104_at0 (by decide) rfl (fun C => ?_)
  refine ws_aload_n (pc := 102) C dX9_init_102 rfl 0 rfl ?_
  refine ws_bipush (pc := 103) C dX9_init_103 cb_8 ?_
  refine wg_newa (l2 := sx106) (t := 0) (N' := 8) (fun a => [(0, .ref (a 0))]) (fun a => [.ref (a 0)]) C dX9_init_105 (by decide) rfl kar_int hA sx105_w rfl (sxm16_z 92 (by decide)).1 (sxm16_z 92 (by decide)).2 (by decide) (by decide) (by decide) rfl rfl (HK (k2 := 92) (by decide)) (HN (n2 := 1025) (by decide)) (fun a h => ⟨by simp only [h 0 (Nat.le_of_ble_eq_true rfl)], by simp only [h 0 (Nat.le_of_ble_eq_true rfl)]⟩) (fun a14 h14 C => ?_)
  have g14 : ∀ c, c < 1 → a14 c = Y.1 c := fun c hc => (h14 c (Nat.lt_of_lt_of_le hc (Nat.le_of_ble_eq_true rfl))).trans (g13 c hc)
  have C : xC (Gl sx106 (a14, Y.2)) Z (xBk B 92 1025) "BetweenStops" cX9_init 2 206 := C
  show xWS (Gl sx106 (a14, Y.2)) (xBk B 92 1025) 2 sxm16 [(0, .ref (a14 0))] 107 [.ref (a14 92), .ref (a14 0)]
  refine wg_putr (l2 := sx107) (k := 10) (r := 92) (i := 0) (pc := 107) C dX9_init_107 rfl hin_9 tyX9 tyX9_ok nmX9 (by decide) kf_X9_71 rfl rfl (tyX9_ok 10 (by decide)) rfl rfl R.2.1 sx106_at0 (by decide) rfl (fun C => ?_)
  refine ws_aload_n (pc := 110) C dX9_init_110 rfl 0 rfl ?_
  refine ws_bipush (pc := 111) C dX9_init_111 cb_21 ?_
  refine wg_newa (l2 := sx108) (t := 0) (N' := 21) (fun a => [(0, .ref (a 0))]) (fun a => [.ref (a 0)]) C dX9_init_113 (by decide) rfl kar_int hA sx107_w rfl (sxm16_z 93 (by decide)).1 (sxm16_z 93 (by decide)).2 (by decide) (by decide) (by decide) rfl rfl (HK (k2 := 93) (by decide)) (HN (n2 := 1046) (by decide)) (fun a h => ⟨by simp only [h 0 (Nat.le_of_ble_eq_true rfl)], by simp only [h 0 (Nat.le_of_ble_eq_true rfl)]⟩) (fun a15 h15 C => ?_)
  have g15 : ∀ c, c < 1 → a15 c = Y.1 c := fun c hc => (h15 c (Nat.lt_of_lt_of_le hc (Nat.le_of_ble_eq_true rfl))).trans (g14 c hc)
  have C : xC (Gl sx108 (a15, Y.2)) Z (xBk B 93 1046) "BetweenStops" cX9_init 2 206 := C
  show xWS (Gl sx108 (a15, Y.2)) (xBk B 93 1046) 2 sxm16 [(0, .ref (a15 0))] 115 [.ref (a15 93), .ref (a15 0)]
  refine wg_putr (l2 := sx109) (k := 11) (r := 93) (i := 0) (pc := 115) C dX9_init_115 rfl hin_9 tyX9 tyX9_ok nmX9 (by decide) kf_X9_74 rfl rfl (tyX9_ok 11 (by decide)) rfl rfl R.2.1 sx108_at0 (by decide) rfl (fun C => ?_)
  refine ws_aload_n (pc := 118) C dX9_init_118 rfl 0 rfl ?_
  refine ws_bipush (pc := 119) C dX9_init_119 cb_8 ?_
  refine wg_newa (l2 := sx110) (t := 0) (N' := 8) (fun a => [(0, .ref (a 0))]) (fun a => [.ref (a 0)]) C dX9_init_121 (by decide) rfl kar_int hA sx109_w rfl (sxm16_z 94 (by decide)).1 (sxm16_z 94 (by decide)).2 (by decide) (by decide) (by decide) rfl rfl (HK (k2 := 94) (by decide)) (HN (n2 := 1054) (by decide)) (fun a h => ⟨by simp only [h 0 (Nat.le_of_ble_eq_true rfl)], by simp only [h 0 (Nat.le_of_ble_eq_true rfl)]⟩) (fun a16 h16 C => ?_)
  have g16 : ∀ c, c < 1 → a16 c = Y.1 c := fun c hc => (h16 c (Nat.lt_of_lt_of_le hc (Nat.le_of_ble_eq_true rfl))).trans (g15 c hc)
  have C : xC (Gl sx110 (a16, Y.2)) Z (xBk B 94 1054) "BetweenStops" cX9_init 2 206 := C
  show xWS (Gl sx110 (a16, Y.2)) (xBk B 94 1054) 2 sxm16 [(0, .ref (a16 0))] 123 [.ref (a16 94), .ref (a16 0)]
  refine wg_putr (l2 := sx111) (k := 12) (r := 94) (i := 0) (pc := 123) C dX9_init_123 rfl hin_9 tyX9 tyX9_ok nmX9 (by decide) kf_X9_77 rfl rfl (tyX9_ok 12 (by decide)) rfl rfl R.2.1 sx110_at0 (by decide) rfl (fun C => ?_)
  refine ws_aload_n (pc := 126) C dX9_init_126 rfl 0 rfl ?_
  refine ws_bipush (pc := 127) C dX9_init_127 cb_12 ?_
  refine wg_newa (l2 := sx112) (t := 0) (N' := 12) (fun a => [(0, .ref (a 0))]) (fun a => [.ref (a 0)]) C dX9_init_129 (by decide) rfl kar_int hA sx111_w rfl (sxm16_z 95 (by decide)).1 (sxm16_z 95 (by decide)).2 (by decide) (by decide) (by decide) rfl rfl (HK (k2 := 95) (by decide)) (HN (n2 := 1066) (by decide)) (fun a h => ⟨by simp only [h 0 (Nat.le_of_ble_eq_true rfl)], by simp only [h 0 (Nat.le_of_ble_eq_true rfl)]⟩) (fun a17 h17 C => ?_)
  have g17 : ∀ c, c < 1 → a17 c = Y.1 c := fun c hc => (h17 c (Nat.lt_of_lt_of_le hc (Nat.le_of_ble_eq_true rfl))).trans (g16 c hc)
  have C : xC (Gl sx112 (a17, Y.2)) Z (xBk B 95 1066) "BetweenStops" cX9_init 2 206 := C
  show xWS (Gl sx112 (a17, Y.2)) (xBk B 95 1066) 2 sxm16 [(0, .ref (a17 0))] 131 [.ref (a17 95), .ref (a17 0)]
  refine wg_putr (l2 := sx113) (k := 13) (r := 95) (i := 0) (pc := 131) C dX9_init_131 rfl hin_9 tyX9 tyX9_ok nmX9 (by decide) kf_X9_80 rfl rfl (tyX9_ok 13 (by decide)) rfl rfl R.2.1 sx112_at0 (by decide) rfl (fun C => ?_)
  refine ws_aload_n (pc := 134) C dX9_init_134 rfl 0 rfl ?_
  refine ws_bipush (pc := 135) C dX9_init_135 cb_8 ?_
  refine wg_newa (l2 := sx114) (t := 0) (N' := 8) (fun a => [(0, .ref (a 0))]) (fun a => [.ref (a 0)]) C dX9_init_137 (by decide) rfl kar_int hA sx113_w rfl (sxm16_z 96 (by decide)).1 (sxm16_z 96 (by decide)).2 (by decide) (by decide) (by decide) rfl rfl (HK (k2 := 96) (by decide)) (HN (n2 := 1074) (by decide)) (fun a h => ⟨by simp only [h 0 (Nat.le_of_ble_eq_true rfl)], by simp only [h 0 (Nat.le_of_ble_eq_true rfl)]⟩) (fun a18 h18 C => ?_)
  have g18 : ∀ c, c < 1 → a18 c = Y.1 c := fun c hc => (h18 c (Nat.lt_of_lt_of_le hc (Nat.le_of_ble_eq_true rfl))).trans (g17 c hc)
  have C : xC (Gl sx114 (a18, Y.2)) Z (xBk B 96 1074) "BetweenStops" cX9_init 2 206 := C
  show xWS (Gl sx114 (a18, Y.2)) (xBk B 96 1074) 2 sxm16 [(0, .ref (a18 0))] 139 [.ref (a18 96), .ref (a18 0)]
  refine wg_putr (l2 := sx115) (k := 14) (r := 96) (i := 0) (pc := 139) C dX9_init_139 rfl hin_9 tyX9 tyX9_ok nmX9 (by decide) kf_X9_83 rfl rfl (tyX9_ok 14 (by decide)) rfl rfl R.2.1 sx114_at0 (by decide) rfl (fun C => ?_)
  refine ws_iconst (pc := 142) C dX9_init_142 ci_0 ?_
  refine ws_istore_n (pc := 143) C dX9_init_143 rfl (by decide) rfl ?_
  refine ws_iload_n (pc := 144) C dX9_init_144 rfl 0 rfl ?_
  refine ws_bipush (pc := 145) C dX9_init_145 cb_6 ?_
  refine ws_icmp_ge (pc := 147) (tgt := 169) C dX9_init_147 (by decide) (fun c => absurd c (by decide)) (fun _ => ?_)
  refine ws_aload_n (pc := 150) C dX9_init_150 rfl 1 rfl ?_
  refine ws_getr (r := 80) (pc := 151) C dX9_init_151 fd_X9_43 (xSf_of sx115_at0 rfl) ?_
  refine ws_iload_n (pc := 154) C dX9_init_154 rfl 0 rfl ?_
  refine wg_new (l2 := sx116) (fl := [.inl none, .inl none, .inl none, .inr 0, .inr 0]) (fun a => [(1, .int (0 : Int32)), (0, .ref (a 0))]) (fun a => [.int (0 : Int32), .ref (a 80)]) C dX9_init_155 rfl hin_5 tyX5 tyX5_ok kcl_X9_41 kq_X5 ki_X5 hA sx115_w rfl (sxm16_z  97 (by decide)).1 (sxm16_z  97 (by decide)).2 (fun j h => match j, h with | 0, _ => ⟨_, rfl, rfl⟩ | 1, _ => ⟨_, rfl, rfl⟩ | 2, _ => ⟨_, rfl, rfl⟩ | 3, _ => ⟨_, rfl, rfl⟩ | 4, _ => ⟨_, rfl, rfl⟩ | j + 5, h => absurd h (by omega)) (xnul_of (by decide)) rfl rfl (HK (k2 := 97) (by decide)) (HN (n2 := 1079) (by decide)) (fun a h => ⟨by simp only [h 0 (Nat.le_of_ble_eq_true rfl)], by simp only [h 80 (Nat.le_of_ble_eq_true rfl)]⟩) (fun a19 h19 C => ?_)
  have g19 : ∀ c, c < 1 → a19 c = Y.1 c := fun c hc => (h19 c (Nat.lt_of_lt_of_le hc (Nat.le_of_ble_eq_true rfl))).trans (g18 c hc)
  have C : xC (Gl sx116 (a19, Y.2)) Z (xBk B 97 1079) "BetweenStops" cX9_init 2 206 := C
  show xWS (Gl sx116 (a19, Y.2)) (xBk B 97 1079) 2 sxm16 [(1, .int (0 : Int32)), (0, .ref (a19 0))] 158 [.ref (a19 97), .int (0 : Int32), .ref (a19 80)]
  refine ws_dup (pc := 158) C dX9_init_158 rfl ?_
  refine wg_init (l2 := sx122) (σ2 := sxm18) (r := 97) (pc := 159) (fun a => [(1, .int (0 : Int32)), (0, .ref (a 0))]) (fun a => [.ref (a 97), .int (0 : Int32), .ref (a 80)]) [] C R.2.2.2.1 (mc_X5_init_23 _ _) dX9_init_159 mw_X5_init kw_X9_86 hA rfl (st := [.ref (a19 97), .ref (a19 97), .int (0 : Int32), .ref (a19 80)]) rfl (Nat.le_of_ble_eq_true rfl) ⟨by decide, by decide⟩ rfl rfl (HK (k2 := 100) (by decide)) (HN (n2 := 1282) (by decide)) (fun a h => ⟨by simp only [h 0 (Nat.le_of_ble_eq_true rfl)], by simp only [h 80 (Nat.le_of_ble_eq_true rfl), h 97 (Nat.le_of_ble_eq_true rfl)]⟩) (fun a20 h20 C => ?_)
  have g20 : ∀ c, c < 1 → a20 c = Y.1 c := fun c hc => (h20 c (Nat.lt_of_lt_of_le hc (Nat.le_of_ble_eq_true rfl))).trans (g19 c hc)
  have C : xC (Gl sx122 (a20, Y.2)) Z (xBk B 100 1282) "BetweenStops" cX9_init 2 206 := C
  show xWS (Gl sx122 (a20, Y.2)) (xBk B 100 1282) 2 sxm18 [(1, .int (0 : Int32)), (0, .ref (a20 0))] 162 [.ref (a20 97), .int (0 : Int32), .ref (a20 80)]
  refine wg_astq (l2 := sx123) (r := 97) (i := 80) (pc := 162) C dX9_init_162 (by decide) sx122_at80 sx122_at97 rfl rfl rfl (by decide +kernel) (j := 0) (by decide) rfl (fun C => ?_)
  refine ws_iinc (v := (1 : Int32)) (j := 0) (pc := 163) C dX9_init_163 rfl (by decide) (by decide) rfl ?_
  refine ws_goto (pc := 166) (tgt := 144) C dX9_init_166 (by decide) ?_
  refine ws_iload_n (pc := 144) C dX9_init_144 rfl 0 rfl ?_
  refine ws_bipush (pc := 145) C dX9_init_145 cb_6 ?_
  refine ws_icmp_ge (pc := 147) (tgt := 169) C dX9_init_147 (by decide) (fun c => absurd c (by decide)) (fun _ => ?_)
  refine ws_aload_n (pc := 150) C dX9_init_150 rfl 1 rfl ?_
  refine ws_getr (r := 80) (pc := 151) C dX9_init_151 fd_X9_43 (xSf_of sx123_at0 rfl) ?_
  refine ws_iload_n (pc := 154) C dX9_init_154 rfl 0 rfl ?_
  refine wg_new (l2 := sx124) (fl := [.inl none, .inl none, .inl none, .inr 0, .inr 0]) (fun a => [(1, .int (1 : Int32)), (0, .ref (a 0))]) (fun a => [.int (1 : Int32), .ref (a 80)]) C dX9_init_155 rfl hin_5 tyX5 tyX5_ok kcl_X9_41 kq_X5 ki_X5 hA sx123_w rfl (sxm18_z  101 (by decide)).1 (sxm18_z  101 (by decide)).2 (fun j h => match j, h with | 0, _ => ⟨_, rfl, rfl⟩ | 1, _ => ⟨_, rfl, rfl⟩ | 2, _ => ⟨_, rfl, rfl⟩ | 3, _ => ⟨_, rfl, rfl⟩ | 4, _ => ⟨_, rfl, rfl⟩ | j + 5, h => absurd h (by omega)) (xnul_of (by decide)) rfl rfl (HK (k2 := 101) (by decide)) (HN (n2 := 1287) (by decide)) (fun a h => ⟨by simp only [h 0 (Nat.le_of_ble_eq_true rfl)], by simp only [h 80 (Nat.le_of_ble_eq_true rfl)]⟩) (fun a21 h21 C => ?_)
  have g21 : ∀ c, c < 1 → a21 c = Y.1 c := fun c hc => (h21 c (Nat.lt_of_lt_of_le hc (Nat.le_of_ble_eq_true rfl))).trans (g20 c hc)
  have C : xC (Gl sx124 (a21, Y.2)) Z (xBk B 101 1287) "BetweenStops" cX9_init 2 206 := C
  show xWS (Gl sx124 (a21, Y.2)) (xBk B 101 1287) 2 sxm18 [(1, .int (1 : Int32)), (0, .ref (a21 0))] 158 [.ref (a21 101), .int (1 : Int32), .ref (a21 80)]
  refine ws_dup (pc := 158) C dX9_init_158 rfl ?_
  refine wg_init (l2 := sx130) (σ2 := sxm20) (r := 101) (pc := 159) (fun a => [(1, .int (1 : Int32)), (0, .ref (a 0))]) (fun a => [.ref (a 101), .int (1 : Int32), .ref (a 80)]) [] C R.2.2.2.1 (mc_X5_init_24 _ _) dX9_init_159 mw_X5_init kw_X9_86 hA rfl (st := [.ref (a21 101), .ref (a21 101), .int (1 : Int32), .ref (a21 80)]) rfl (Nat.le_of_ble_eq_true rfl) ⟨by decide, by decide⟩ rfl rfl (HK (k2 := 104) (by decide)) (HN (n2 := 1490) (by decide)) (fun a h => ⟨by simp only [h 0 (Nat.le_of_ble_eq_true rfl)], by simp only [h 80 (Nat.le_of_ble_eq_true rfl), h 101 (Nat.le_of_ble_eq_true rfl)]⟩) (fun a22 h22 C => ?_)
  have g22 : ∀ c, c < 1 → a22 c = Y.1 c := fun c hc => (h22 c (Nat.lt_of_lt_of_le hc (Nat.le_of_ble_eq_true rfl))).trans (g21 c hc)
  have C : xC (Gl sx130 (a22, Y.2)) Z (xBk B 104 1490) "BetweenStops" cX9_init 2 206 := C
  show xWS (Gl sx130 (a22, Y.2)) (xBk B 104 1490) 2 sxm20 [(1, .int (1 : Int32)), (0, .ref (a22 0))] 162 [.ref (a22 101), .int (1 : Int32), .ref (a22 80)]
  refine wg_astq (l2 := sx131) (r := 101) (i := 80) (pc := 162) C dX9_init_162 (by decide) sx130_at80 sx130_at101 rfl rfl rfl (by decide +kernel) (j := 1) (by decide) rfl (fun C => ?_)
  refine ws_iinc (v := (2 : Int32)) (j := 0) (pc := 163) C dX9_init_163 rfl (by decide) (by decide) rfl ?_
  refine ws_goto (pc := 166) (tgt := 144) C dX9_init_166 (by decide) ?_
  refine ws_iload_n (pc := 144) C dX9_init_144 rfl 0 rfl ?_
  refine ws_bipush (pc := 145) C dX9_init_145 cb_6 ?_
  refine ws_icmp_ge (pc := 147) (tgt := 169) C dX9_init_147 (by decide) (fun c => absurd c (by decide)) (fun _ => ?_)
  refine ws_aload_n (pc := 150) C dX9_init_150 rfl 1 rfl ?_
  refine ws_getr (r := 80) (pc := 151) C dX9_init_151 fd_X9_43 (xSf_of sx131_at0 rfl) ?_
  refine ws_iload_n (pc := 154) C dX9_init_154 rfl 0 rfl ?_
  refine wg_new (l2 := sx132) (fl := [.inl none, .inl none, .inl none, .inr 0, .inr 0]) (fun a => [(1, .int (2 : Int32)), (0, .ref (a 0))]) (fun a => [.int (2 : Int32), .ref (a 80)]) C dX9_init_155 rfl hin_5 tyX5 tyX5_ok kcl_X9_41 kq_X5 ki_X5 hA sx131_w rfl (sxm20_z  105 (by decide)).1 (sxm20_z  105 (by decide)).2 (fun j h => match j, h with | 0, _ => ⟨_, rfl, rfl⟩ | 1, _ => ⟨_, rfl, rfl⟩ | 2, _ => ⟨_, rfl, rfl⟩ | 3, _ => ⟨_, rfl, rfl⟩ | 4, _ => ⟨_, rfl, rfl⟩ | j + 5, h => absurd h (by omega)) (xnul_of (by decide)) rfl rfl (HK (k2 := 105) (by decide)) (HN (n2 := 1495) (by decide)) (fun a h => ⟨by simp only [h 0 (Nat.le_of_ble_eq_true rfl)], by simp only [h 80 (Nat.le_of_ble_eq_true rfl)]⟩) (fun a23 h23 C => ?_)
  have g23 : ∀ c, c < 1 → a23 c = Y.1 c := fun c hc => (h23 c (Nat.lt_of_lt_of_le hc (Nat.le_of_ble_eq_true rfl))).trans (g22 c hc)
  have C : xC (Gl sx132 (a23, Y.2)) Z (xBk B 105 1495) "BetweenStops" cX9_init 2 206 := C
  show xWS (Gl sx132 (a23, Y.2)) (xBk B 105 1495) 2 sxm20 [(1, .int (2 : Int32)), (0, .ref (a23 0))] 158 [.ref (a23 105), .int (2 : Int32), .ref (a23 80)]
  refine ws_dup (pc := 158) C dX9_init_158 rfl ?_
  refine wg_init (l2 := sx138) (σ2 := sxm22) (r := 105) (pc := 159) (fun a => [(1, .int (2 : Int32)), (0, .ref (a 0))]) (fun a => [.ref (a 105), .int (2 : Int32), .ref (a 80)]) [] C R.2.2.2.1 (mc_X5_init_25 _ _) dX9_init_159 mw_X5_init kw_X9_86 hA rfl (st := [.ref (a23 105), .ref (a23 105), .int (2 : Int32), .ref (a23 80)]) rfl (Nat.le_of_ble_eq_true rfl) ⟨by decide, by decide⟩ rfl rfl (HK (k2 := 108) (by decide)) (HN (n2 := 1698) (by decide)) (fun a h => ⟨by simp only [h 0 (Nat.le_of_ble_eq_true rfl)], by simp only [h 80 (Nat.le_of_ble_eq_true rfl), h 105 (Nat.le_of_ble_eq_true rfl)]⟩) (fun a24 h24 C => ?_)
  have g24 : ∀ c, c < 1 → a24 c = Y.1 c := fun c hc => (h24 c (Nat.lt_of_lt_of_le hc (Nat.le_of_ble_eq_true rfl))).trans (g23 c hc)
  have C : xC (Gl sx138 (a24, Y.2)) Z (xBk B 108 1698) "BetweenStops" cX9_init 2 206 := C
  show xWS (Gl sx138 (a24, Y.2)) (xBk B 108 1698) 2 sxm22 [(1, .int (2 : Int32)), (0, .ref (a24 0))] 162 [.ref (a24 105), .int (2 : Int32), .ref (a24 80)]
  refine wg_astq (l2 := sx139) (r := 105) (i := 80) (pc := 162) C dX9_init_162 (by decide) sx138_at80 sx138_at105 rfl rfl rfl (by decide +kernel) (j := 2) (by decide) rfl (fun C => ?_)
  refine ws_iinc (v := (3 : Int32)) (j := 0) (pc := 163) C dX9_init_163 rfl (by decide) (by decide) rfl ?_
  refine ws_goto (pc := 166) (tgt := 144) C dX9_init_166 (by decide) ?_
  refine ws_iload_n (pc := 144) C dX9_init_144 rfl 0 rfl ?_
  refine ws_bipush (pc := 145) C dX9_init_145 cb_6 ?_
  refine ws_icmp_ge (pc := 147) (tgt := 169) C dX9_init_147 (by decide) (fun c => absurd c (by decide)) (fun _ => ?_)
  refine ws_aload_n (pc := 150) C dX9_init_150 rfl 1 rfl ?_
  refine ws_getr (r := 80) (pc := 151) C dX9_init_151 fd_X9_43 (xSf_of sx139_at0 rfl) ?_
  refine ws_iload_n (pc := 154) C dX9_init_154 rfl 0 rfl ?_
  refine wg_new (l2 := sx140) (fl := [.inl none, .inl none, .inl none, .inr 0, .inr 0]) (fun a => [(1, .int (3 : Int32)), (0, .ref (a 0))]) (fun a => [.int (3 : Int32), .ref (a 80)]) C dX9_init_155 rfl hin_5 tyX5 tyX5_ok kcl_X9_41 kq_X5 ki_X5 hA sx139_w rfl (sxm22_z  109 (by decide)).1 (sxm22_z  109 (by decide)).2 (fun j h => match j, h with | 0, _ => ⟨_, rfl, rfl⟩ | 1, _ => ⟨_, rfl, rfl⟩ | 2, _ => ⟨_, rfl, rfl⟩ | 3, _ => ⟨_, rfl, rfl⟩ | 4, _ => ⟨_, rfl, rfl⟩ | j + 5, h => absurd h (by omega)) (xnul_of (by decide)) rfl rfl (HK (k2 := 109) (by decide)) (HN (n2 := 1703) (by decide)) (fun a h => ⟨by simp only [h 0 (Nat.le_of_ble_eq_true rfl)], by simp only [h 80 (Nat.le_of_ble_eq_true rfl)]⟩) (fun a25 h25 C => ?_)
  have g25 : ∀ c, c < 1 → a25 c = Y.1 c := fun c hc => (h25 c (Nat.lt_of_lt_of_le hc (Nat.le_of_ble_eq_true rfl))).trans (g24 c hc)
  have C : xC (Gl sx140 (a25, Y.2)) Z (xBk B 109 1703) "BetweenStops" cX9_init 2 206 := C
  show xWS (Gl sx140 (a25, Y.2)) (xBk B 109 1703) 2 sxm22 [(1, .int (3 : Int32)), (0, .ref (a25 0))] 158 [.ref (a25 109), .int (3 : Int32), .ref (a25 80)]
  refine ws_dup (pc := 158) C dX9_init_158 rfl ?_
  refine wg_init (l2 := sx146) (σ2 := sxm24) (r := 109) (pc := 159) (fun a => [(1, .int (3 : Int32)), (0, .ref (a 0))]) (fun a => [.ref (a 109), .int (3 : Int32), .ref (a 80)]) [] C R.2.2.2.1 (mc_X5_init_26 _ _) dX9_init_159 mw_X5_init kw_X9_86 hA rfl (st := [.ref (a25 109), .ref (a25 109), .int (3 : Int32), .ref (a25 80)]) rfl (Nat.le_of_ble_eq_true rfl) ⟨by decide, by decide⟩ rfl rfl (HK (k2 := 112) (by decide)) (HN (n2 := 1906) (by decide)) (fun a h => ⟨by simp only [h 0 (Nat.le_of_ble_eq_true rfl)], by simp only [h 80 (Nat.le_of_ble_eq_true rfl), h 109 (Nat.le_of_ble_eq_true rfl)]⟩) (fun a26 h26 C => ?_)
  have g26 : ∀ c, c < 1 → a26 c = Y.1 c := fun c hc => (h26 c (Nat.lt_of_lt_of_le hc (Nat.le_of_ble_eq_true rfl))).trans (g25 c hc)
  have C : xC (Gl sx146 (a26, Y.2)) Z (xBk B 112 1906) "BetweenStops" cX9_init 2 206 := C
  show xWS (Gl sx146 (a26, Y.2)) (xBk B 112 1906) 2 sxm24 [(1, .int (3 : Int32)), (0, .ref (a26 0))] 162 [.ref (a26 109), .int (3 : Int32), .ref (a26 80)]
  refine wg_astq (l2 := sx147) (r := 109) (i := 80) (pc := 162) C dX9_init_162 (by decide) sx146_at80 sx146_at109 rfl rfl rfl (by decide +kernel) (j := 3) (by decide) rfl (fun C => ?_)
  refine ws_iinc (v := (4 : Int32)) (j := 0) (pc := 163) C dX9_init_163 rfl (by decide) (by decide) rfl ?_
  refine ws_goto (pc := 166) (tgt := 144) C dX9_init_166 (by decide) ?_
  refine ws_iload_n (pc := 144) C dX9_init_144 rfl 0 rfl ?_
  refine ws_bipush (pc := 145) C dX9_init_145 cb_6 ?_
  refine ws_icmp_ge (pc := 147) (tgt := 169) C dX9_init_147 (by decide) (fun c => absurd c (by decide)) (fun _ => ?_)
  refine ws_aload_n (pc := 150) C dX9_init_150 rfl 1 rfl ?_
  refine ws_getr (r := 80) (pc := 151) C dX9_init_151 fd_X9_43 (xSf_of sx147_at0 rfl) ?_
  refine ws_iload_n (pc := 154) C dX9_init_154 rfl 0 rfl ?_
  refine wg_new (l2 := sx148) (fl := [.inl none, .inl none, .inl none, .inr 0, .inr 0]) (fun a => [(1, .int (4 : Int32)), (0, .ref (a 0))]) (fun a => [.int (4 : Int32), .ref (a 80)]) C dX9_init_155 rfl hin_5 tyX5 tyX5_ok kcl_X9_41 kq_X5 ki_X5 hA sx147_w rfl (sxm24_z  113 (by decide)).1 (sxm24_z  113 (by decide)).2 (fun j h => match j, h with | 0, _ => ⟨_, rfl, rfl⟩ | 1, _ => ⟨_, rfl, rfl⟩ | 2, _ => ⟨_, rfl, rfl⟩ | 3, _ => ⟨_, rfl, rfl⟩ | 4, _ => ⟨_, rfl, rfl⟩ | j + 5, h => absurd h (by omega)) (xnul_of (by decide)) rfl rfl (HK (k2 := 113) (by decide)) (HN (n2 := 1911) (by decide)) (fun a h => ⟨by simp only [h 0 (Nat.le_of_ble_eq_true rfl)], by simp only [h 80 (Nat.le_of_ble_eq_true rfl)]⟩) (fun a27 h27 C => ?_)
  have g27 : ∀ c, c < 1 → a27 c = Y.1 c := fun c hc => (h27 c (Nat.lt_of_lt_of_le hc (Nat.le_of_ble_eq_true rfl))).trans (g26 c hc)
  have C : xC (Gl sx148 (a27, Y.2)) Z (xBk B 113 1911) "BetweenStops" cX9_init 2 206 := C
  show xWS (Gl sx148 (a27, Y.2)) (xBk B 113 1911) 2 sxm24 [(1, .int (4 : Int32)), (0, .ref (a27 0))] 158 [.ref (a27 113), .int (4 : Int32), .ref (a27 80)]
  refine ws_dup (pc := 158) C dX9_init_158 rfl ?_
  refine wg_init (l2 := sx154) (σ2 := sxm26) (r := 113) (pc := 159) (fun a => [(1, .int (4 : Int32)), (0, .ref (a 0))]) (fun a => [.ref (a 113), .int (4 : Int32), .ref (a 80)]) [] C R.2.2.2.1 (mc_X5_init_27 _ _) dX9_init_159 mw_X5_init kw_X9_86 hA rfl (st := [.ref (a27 113), .ref (a27 113), .int (4 : Int32), .ref (a27 80)]) rfl (Nat.le_of_ble_eq_true rfl) ⟨by decide, by decide⟩ rfl rfl (HK (k2 := 116) (by decide)) (HN (n2 := 2114) (by decide)) (fun a h => ⟨by simp only [h 0 (Nat.le_of_ble_eq_true rfl)], by simp only [h 80 (Nat.le_of_ble_eq_true rfl), h 113 (Nat.le_of_ble_eq_true rfl)]⟩) (fun a28 h28 C => ?_)
  have g28 : ∀ c, c < 1 → a28 c = Y.1 c := fun c hc => (h28 c (Nat.lt_of_lt_of_le hc (Nat.le_of_ble_eq_true rfl))).trans (g27 c hc)
  have C : xC (Gl sx154 (a28, Y.2)) Z (xBk B 116 2114) "BetweenStops" cX9_init 2 206 := C
  show xWS (Gl sx154 (a28, Y.2)) (xBk B 116 2114) 2 sxm26 [(1, .int (4 : Int32)), (0, .ref (a28 0))] 162 [.ref (a28 113), .int (4 : Int32), .ref (a28 80)]
  refine wg_astq (l2 := sx155) (r := 113) (i := 80) (pc := 162) C dX9_init_162 (by decide) sx154_at80 sx154_at113 rfl rfl rfl (by decide +kernel) (j := 4) (by decide) rfl (fun C => ?_)
  refine ws_iinc (v := (5 : Int32)) (j := 0) (pc := 163) C dX9_init_163 rfl (by decide) (by decide) rfl ?_
  refine ws_goto (pc := 166) (tgt := 144) C dX9_init_166 (by decide) ?_
  refine ws_iload_n (pc := 144) C dX9_init_144 rfl 0 rfl ?_
  refine ws_bipush (pc := 145) C dX9_init_145 cb_6 ?_
  refine ws_icmp_ge (pc := 147) (tgt := 169) C dX9_init_147 (by decide) (fun c => absurd c (by decide)) (fun _ => ?_)
  refine ws_aload_n (pc := 150) C dX9_init_150 rfl 1 rfl ?_
  refine ws_getr (r := 80) (pc := 151) C dX9_init_151 fd_X9_43 (xSf_of sx155_at0 rfl) ?_
  refine ws_iload_n (pc := 154) C dX9_init_154 rfl 0 rfl ?_
  refine wg_new (l2 := sx156) (fl := [.inl none, .inl none, .inl none, .inr 0, .inr 0]) (fun a => [(1, .int (5 : Int32)), (0, .ref (a 0))]) (fun a => [.int (5 : Int32), .ref (a 80)]) C dX9_init_155 rfl hin_5 tyX5 tyX5_ok kcl_X9_41 kq_X5 ki_X5 hA sx155_w rfl (sxm26_z  117 (by decide)).1 (sxm26_z  117 (by decide)).2 (fun j h => match j, h with | 0, _ => ⟨_, rfl, rfl⟩ | 1, _ => ⟨_, rfl, rfl⟩ | 2, _ => ⟨_, rfl, rfl⟩ | 3, _ => ⟨_, rfl, rfl⟩ | 4, _ => ⟨_, rfl, rfl⟩ | j + 5, h => absurd h (by omega)) (xnul_of (by decide)) rfl rfl (HK (k2 := 117) (by decide)) (HN (n2 := 2119) (by decide)) (fun a h => ⟨by simp only [h 0 (Nat.le_of_ble_eq_true rfl)], by simp only [h 80 (Nat.le_of_ble_eq_true rfl)]⟩) (fun a29 h29 C => ?_)
  have g29 : ∀ c, c < 1 → a29 c = Y.1 c := fun c hc => (h29 c (Nat.lt_of_lt_of_le hc (Nat.le_of_ble_eq_true rfl))).trans (g28 c hc)
  have C : xC (Gl sx156 (a29, Y.2)) Z (xBk B 117 2119) "BetweenStops" cX9_init 2 206 := C
  show xWS (Gl sx156 (a29, Y.2)) (xBk B 117 2119) 2 sxm26 [(1, .int (5 : Int32)), (0, .ref (a29 0))] 158 [.ref (a29 117), .int (5 : Int32), .ref (a29 80)]
  refine ws_dup (pc := 158) C dX9_init_158 rfl ?_
  refine wg_init (l2 := sx162) (σ2 := sxm28) (r := 117) (pc := 159) (fun a => [(1, .int (5 : Int32)), (0, .ref (a 0))]) (fun a => [.ref (a 117), .int (5 : Int32), .ref (a 80)]) [] C R.2.2.2.1 (mc_X5_init_28 _ _) dX9_init_159 mw_X5_init kw_X9_86 hA rfl (st := [.ref (a29 117), .ref (a29 117), .int (5 : Int32), .ref (a29 80)]) rfl (Nat.le_of_ble_eq_true rfl) ⟨by decide, by decide⟩ rfl rfl (HK (k2 := 120) (by decide)) (HN (n2 := 2322) (by decide)) (fun a h => ⟨by simp only [h 0 (Nat.le_of_ble_eq_true rfl)], by simp only [h 80 (Nat.le_of_ble_eq_true rfl), h 117 (Nat.le_of_ble_eq_true rfl)]⟩) (fun a30 h30 C => ?_)
  have g30 : ∀ c, c < 1 → a30 c = Y.1 c := fun c hc => (h30 c (Nat.lt_of_lt_of_le hc (Nat.le_of_ble_eq_true rfl))).trans (g29 c hc)
  have C : xC (Gl sx162 (a30, Y.2)) Z (xBk B 120 2322) "BetweenStops" cX9_init 2 206 := C
  show xWS (Gl sx162 (a30, Y.2)) (xBk B 120 2322) 2 sxm28 [(1, .int (5 : Int32)), (0, .ref (a30 0))] 162 [.ref (a30 117), .int (5 : Int32), .ref (a30 80)]
  refine wg_astq (l2 := sx163) (r := 117) (i := 80) (pc := 162) C dX9_init_162 (by decide) sx162_at80 sx162_at117 rfl rfl rfl (by decide +kernel) (j := 5) (by decide) rfl (fun C => ?_)
  refine ws_iinc (v := (6 : Int32)) (j := 0) (pc := 163) C dX9_init_163 rfl (by decide) (by decide) rfl ?_
  refine ws_goto (pc := 166) (tgt := 144) C dX9_init_166 (by decide) ?_
  refine ws_iload_n (pc := 144) C dX9_init_144 rfl 0 rfl ?_
  refine ws_bipush (pc := 145) C dX9_init_145 cb_6 ?_
  refine ws_icmp_ge (pc := 147) (tgt := 169) C dX9_init_147 (by decide) (fun _ => ?_) (fun c => absurd (by decide) c)
  refine ws_iconst (pc := 169) C dX9_init_169 ci_0 ?_
  refine ws_istore_n (pc := 170) C dX9_init_170 rfl (by decide) rfl ?_
  refine ws_iload_n (pc := 171) C dX9_init_171 rfl 0 rfl ?_
  refine ws_iconst (pc := 172) C dX9_init_172 ci_4 ?_
  refine ws_icmp_ge (pc := 173) (tgt := 195) C dX9_init_173 (by decide) (fun c => absurd c (by decide)) (fun _ => ?_)
  refine ws_aload_n (pc := 176) C dX9_init_176 rfl 1 rfl ?_
  refine ws_getr (r := 90) (pc := 177) C dX9_init_177 fd_X9_63 (xSf_of sx163_at0 rfl) ?_
  refine ws_iload_n (pc := 180) C dX9_init_180 rfl 0 rfl ?_
  refine wg_new (l2 := sx164) (fl := [.inl none, .inr 0, .inr 0]) (fun a => [(1, .int (0 : Int32)), (0, .ref (a 0))]) (fun a => [.int (0 : Int32), .ref (a 90)]) C dX9_init_181 rfl hin_2 tyX2 tyX2_ok kcl_X9_61 kq_X2 ki_X2 hA sx163_w rfl (sxm28_z  121 (by decide)).1 (sxm28_z  121 (by decide)).2 (fun j h => match j, h with | 0, _ => ⟨_, rfl, rfl⟩ | 1, _ => ⟨_, rfl, rfl⟩ | 2, _ => ⟨_, rfl, rfl⟩ | j + 3, h => absurd h (by omega)) (xnul_of (by decide)) rfl rfl (HK (k2 := 121) (by decide)) (HN (n2 := 2325) (by decide)) (fun a h => ⟨by simp only [h 0 (Nat.le_of_ble_eq_true rfl)], by simp only [h 90 (Nat.le_of_ble_eq_true rfl)]⟩) (fun a31 h31 C => ?_)
  have g31 : ∀ c, c < 1 → a31 c = Y.1 c := fun c hc => (h31 c (Nat.lt_of_lt_of_le hc (Nat.le_of_ble_eq_true rfl))).trans (g30 c hc)
  have C : xC (Gl sx164 (a31, Y.2)) Z (xBk B 121 2325) "BetweenStops" cX9_init 2 206 := C
  show xWS (Gl sx164 (a31, Y.2)) (xBk B 121 2325) 2 sxm28 [(1, .int (0 : Int32)), (0, .ref (a31 0))] 184 [.ref (a31 121), .int (0 : Int32), .ref (a31 90)]
  refine ws_dup (pc := 184) C dX9_init_184 rfl ?_
  refine wg_init (l2 := sx166) (σ2 := sxm30) (r := 121) (pc := 185) (fun a => [(1, .int (0 : Int32)), (0, .ref (a 0))]) (fun a => [.ref (a 121), .int (0 : Int32), .ref (a 90)]) [] C R.2.2.2.1 (mc_X2_init_29 _ _) dX9_init_185 mw_X2_init kw_X9_87 hA rfl (st := [.ref (a31 121), .ref (a31 121), .int (0 : Int32), .ref (a31 90)]) rfl (Nat.le_of_ble_eq_true rfl) ⟨by decide, by decide⟩ rfl rfl (HK (k2 := 122) (by decide)) (HN (n2 := 2366) (by decide)) (fun a h => ⟨by simp only [h 0 (Nat.le_of_ble_eq_true rfl)], by simp only [h 90 (Nat.le_of_ble_eq_true rfl), h 121 (Nat.le_of_ble_eq_true rfl)]⟩) (fun a32 h32 C => ?_)
  have g32 : ∀ c, c < 1 → a32 c = Y.1 c := fun c hc => (h32 c (Nat.lt_of_lt_of_le hc (Nat.le_of_ble_eq_true rfl))).trans (g31 c hc)
  have C : xC (Gl sx166 (a32, Y.2)) Z (xBk B 122 2366) "BetweenStops" cX9_init 2 206 := C
  show xWS (Gl sx166 (a32, Y.2)) (xBk B 122 2366) 2 sxm30 [(1, .int (0 : Int32)), (0, .ref (a32 0))] 188 [.ref (a32 121), .int (0 : Int32), .ref (a32 90)]
  refine wg_astq (l2 := sx167) (r := 121) (i := 90) (pc := 188) C dX9_init_188 (by decide) sx166_at90 sx166_at121 rfl rfl rfl (by decide +kernel) (j := 0) (by decide) rfl (fun C => ?_)
  refine ws_iinc (v := (1 : Int32)) (j := 0) (pc := 189) C dX9_init_189 rfl (by decide) (by decide) rfl ?_
  refine ws_goto (pc := 192) (tgt := 171) C dX9_init_192 (by decide) ?_
  refine ws_iload_n (pc := 171) C dX9_init_171 rfl 0 rfl ?_
  refine ws_iconst (pc := 172) C dX9_init_172 ci_4 ?_
  refine ws_icmp_ge (pc := 173) (tgt := 195) C dX9_init_173 (by decide) (fun c => absurd c (by decide)) (fun _ => ?_)
  refine ws_aload_n (pc := 176) C dX9_init_176 rfl 1 rfl ?_
  refine ws_getr (r := 90) (pc := 177) C dX9_init_177 fd_X9_63 (xSf_of sx167_at0 rfl) ?_
  refine ws_iload_n (pc := 180) C dX9_init_180 rfl 0 rfl ?_
  refine wg_new (l2 := sx168) (fl := [.inl none, .inr 0, .inr 0]) (fun a => [(1, .int (1 : Int32)), (0, .ref (a 0))]) (fun a => [.int (1 : Int32), .ref (a 90)]) C dX9_init_181 rfl hin_2 tyX2 tyX2_ok kcl_X9_61 kq_X2 ki_X2 hA sx167_w rfl (sxm30_z  123 (by decide)).1 (sxm30_z  123 (by decide)).2 (fun j h => match j, h with | 0, _ => ⟨_, rfl, rfl⟩ | 1, _ => ⟨_, rfl, rfl⟩ | 2, _ => ⟨_, rfl, rfl⟩ | j + 3, h => absurd h (by omega)) (xnul_of (by decide)) rfl rfl (HK (k2 := 123) (by decide)) (HN (n2 := 2369) (by decide)) (fun a h => ⟨by simp only [h 0 (Nat.le_of_ble_eq_true rfl)], by simp only [h 90 (Nat.le_of_ble_eq_true rfl)]⟩) (fun a33 h33 C => ?_)
  have g33 : ∀ c, c < 1 → a33 c = Y.1 c := fun c hc => (h33 c (Nat.lt_of_lt_of_le hc (Nat.le_of_ble_eq_true rfl))).trans (g32 c hc)
  have C : xC (Gl sx168 (a33, Y.2)) Z (xBk B 123 2369) "BetweenStops" cX9_init 2 206 := C
  show xWS (Gl sx168 (a33, Y.2)) (xBk B 123 2369) 2 sxm30 [(1, .int (1 : Int32)), (0, .ref (a33 0))] 184 [.ref (a33 123), .int (1 : Int32), .ref (a33 90)]
  refine ws_dup (pc := 184) C dX9_init_184 rfl ?_
  refine wg_init (l2 := sx170) (σ2 := sxm32) (r := 123) (pc := 185) (fun a => [(1, .int (1 : Int32)), (0, .ref (a 0))]) (fun a => [.ref (a 123), .int (1 : Int32), .ref (a 90)]) [] C R.2.2.2.1 (mc_X2_init_30 _ _) dX9_init_185 mw_X2_init kw_X9_87 hA rfl (st := [.ref (a33 123), .ref (a33 123), .int (1 : Int32), .ref (a33 90)]) rfl (Nat.le_of_ble_eq_true rfl) ⟨by decide, by decide⟩ rfl rfl (HK (k2 := 124) (by decide)) (HN (n2 := 2410) (by decide)) (fun a h => ⟨by simp only [h 0 (Nat.le_of_ble_eq_true rfl)], by simp only [h 90 (Nat.le_of_ble_eq_true rfl), h 123 (Nat.le_of_ble_eq_true rfl)]⟩) (fun a34 h34 C => ?_)
  have g34 : ∀ c, c < 1 → a34 c = Y.1 c := fun c hc => (h34 c (Nat.lt_of_lt_of_le hc (Nat.le_of_ble_eq_true rfl))).trans (g33 c hc)
  have C : xC (Gl sx170 (a34, Y.2)) Z (xBk B 124 2410) "BetweenStops" cX9_init 2 206 := C
  show xWS (Gl sx170 (a34, Y.2)) (xBk B 124 2410) 2 sxm32 [(1, .int (1 : Int32)), (0, .ref (a34 0))] 188 [.ref (a34 123), .int (1 : Int32), .ref (a34 90)]
  refine wg_astq (l2 := sx171) (r := 123) (i := 90) (pc := 188) C dX9_init_188 (by decide) sx170_at90 sx170_at123 rfl rfl rfl (by decide +kernel) (j := 1) (by decide) rfl (fun C => ?_)
  refine ws_iinc (v := (2 : Int32)) (j := 0) (pc := 189) C dX9_init_189 rfl (by decide) (by decide) rfl ?_
  refine ws_goto (pc := 192) (tgt := 171) C dX9_init_192 (by decide) ?_
  refine ws_iload_n (pc := 171) C dX9_init_171 rfl 0 rfl ?_
  refine ws_iconst (pc := 172) C dX9_init_172 ci_4 ?_
  refine ws_icmp_ge (pc := 173) (tgt := 195) C dX9_init_173 (by decide) (fun c => absurd c (by decide)) (fun _ => ?_)
  refine ws_aload_n (pc := 176) C dX9_init_176 rfl 1 rfl ?_
  refine ws_getr (r := 90) (pc := 177) C dX9_init_177 fd_X9_63 (xSf_of sx171_at0 rfl) ?_
  refine ws_iload_n (pc := 180) C dX9_init_180 rfl 0 rfl ?_
  refine wg_new (l2 := sx172) (fl := [.inl none, .inr 0, .inr 0]) (fun a => [(1, .int (2 : Int32)), (0, .ref (a 0))]) (fun a => [.int (2 : Int32), .ref (a 90)]) C dX9_init_181 rfl hin_2 tyX2 tyX2_ok kcl_X9_61 kq_X2 ki_X2 hA sx171_w rfl (sxm32_z  125 (by decide)).1 (sxm32_z  125 (by decide)).2 (fun j h => match j, h with | 0, _ => ⟨_, rfl, rfl⟩ | 1, _ => ⟨_, rfl, rfl⟩ | 2, _ => ⟨_, rfl, rfl⟩ | j + 3, h => absurd h (by omega)) (xnul_of (by decide)) rfl rfl (HK (k2 := 125) (by decide)) (HN (n2 := 2413) (by decide)) (fun a h => ⟨by simp only [h 0 (Nat.le_of_ble_eq_true rfl)], by simp only [h 90 (Nat.le_of_ble_eq_true rfl)]⟩) (fun a35 h35 C => ?_)
  have g35 : ∀ c, c < 1 → a35 c = Y.1 c := fun c hc => (h35 c (Nat.lt_of_lt_of_le hc (Nat.le_of_ble_eq_true rfl))).trans (g34 c hc)
  have C : xC (Gl sx172 (a35, Y.2)) Z (xBk B 125 2413) "BetweenStops" cX9_init 2 206 := C
  show xWS (Gl sx172 (a35, Y.2)) (xBk B 125 2413) 2 sxm32 [(1, .int (2 : Int32)), (0, .ref (a35 0))] 184 [.ref (a35 125), .int (2 : Int32), .ref (a35 90)]
  refine ws_dup (pc := 184) C dX9_init_184 rfl ?_
  refine wg_init (l2 := sx174) (σ2 := sxm34) (r := 125) (pc := 185) (fun a => [(1, .int (2 : Int32)), (0, .ref (a 0))]) (fun a => [.ref (a 125), .int (2 : Int32), .ref (a 90)]) [] C R.2.2.2.1 (mc_X2_init_31 _ _) dX9_init_185 mw_X2_init kw_X9_87 hA rfl (st := [.ref (a35 125), .ref (a35 125), .int (2 : Int32), .ref (a35 90)]) rfl (Nat.le_of_ble_eq_true rfl) ⟨by decide, by decide⟩ rfl rfl (HK (k2 := 126) (by decide)) (HN (n2 := 2454) (by decide)) (fun a h => ⟨by simp only [h 0 (Nat.le_of_ble_eq_true rfl)], by simp only [h 90 (Nat.le_of_ble_eq_true rfl), h 125 (Nat.le_of_ble_eq_true rfl)]⟩) (fun a36 h36 C => ?_)
  have g36 : ∀ c, c < 1 → a36 c = Y.1 c := fun c hc => (h36 c (Nat.lt_of_lt_of_le hc (Nat.le_of_ble_eq_true rfl))).trans (g35 c hc)
  have C : xC (Gl sx174 (a36, Y.2)) Z (xBk B 126 2454) "BetweenStops" cX9_init 2 206 := C
  show xWS (Gl sx174 (a36, Y.2)) (xBk B 126 2454) 2 sxm34 [(1, .int (2 : Int32)), (0, .ref (a36 0))] 188 [.ref (a36 125), .int (2 : Int32), .ref (a36 90)]
  refine wg_astq (l2 := sx175) (r := 125) (i := 90) (pc := 188) C dX9_init_188 (by decide) sx174_at90 sx174_at125 rfl rfl rfl (by decide +kernel) (j := 2) (by decide) rfl (fun C => ?_)
  refine ws_iinc (v := (3 : Int32)) (j := 0) (pc := 189) C dX9_init_189 rfl (by decide) (by decide) rfl ?_
  refine ws_goto (pc := 192) (tgt := 171) C dX9_init_192 (by decide) ?_
  refine ws_iload_n (pc := 171) C dX9_init_171 rfl 0 rfl ?_
  refine ws_iconst (pc := 172) C dX9_init_172 ci_4 ?_
  refine ws_icmp_ge (pc := 173) (tgt := 195) C dX9_init_173 (by decide) (fun c => absurd c (by decide)) (fun _ => ?_)
  refine ws_aload_n (pc := 176) C dX9_init_176 rfl 1 rfl ?_
  refine ws_getr (r := 90) (pc := 177) C dX9_init_177 fd_X9_63 (xSf_of sx175_at0 rfl) ?_
  refine ws_iload_n (pc := 180) C dX9_init_180 rfl 0 rfl ?_
  refine wg_new (l2 := sx176) (fl := [.inl none, .inr 0, .inr 0]) (fun a => [(1, .int (3 : Int32)), (0, .ref (a 0))]) (fun a => [.int (3 : Int32), .ref (a 90)]) C dX9_init_181 rfl hin_2 tyX2 tyX2_ok kcl_X9_61 kq_X2 ki_X2 hA sx175_w rfl (sxm34_z  127 (by decide)).1 (sxm34_z  127 (by decide)).2 (fun j h => match j, h with | 0, _ => ⟨_, rfl, rfl⟩ | 1, _ => ⟨_, rfl, rfl⟩ | 2, _ => ⟨_, rfl, rfl⟩ | j + 3, h => absurd h (by omega)) (xnul_of (by decide)) rfl rfl (HK (k2 := 127) (by decide)) (HN (n2 := 2457) (by decide)) (fun a h => ⟨by simp only [h 0 (Nat.le_of_ble_eq_true rfl)], by simp only [h 90 (Nat.le_of_ble_eq_true rfl)]⟩) (fun a37 h37 C => ?_)
  have g37 : ∀ c, c < 1 → a37 c = Y.1 c := fun c hc => (h37 c (Nat.lt_of_lt_of_le hc (Nat.le_of_ble_eq_true rfl))).trans (g36 c hc)
  have C : xC (Gl sx176 (a37, Y.2)) Z (xBk B 127 2457) "BetweenStops" cX9_init 2 206 := C
  show xWS (Gl sx176 (a37, Y.2)) (xBk B 127 2457) 2 sxm34 [(1, .int (3 : Int32)), (0, .ref (a37 0))] 184 [.ref (a37 127), .int (3 : Int32), .ref (a37 90)]
  refine ws_dup (pc := 184) C dX9_init_184 rfl ?_
  refine wg_init (l2 := sx178) (σ2 := sxm36) (r := 127) (pc := 185) (fun a => [(1, .int (3 : Int32)), (0, .ref (a 0))]) (fun a => [.ref (a 127), .int (3 : Int32), .ref (a 90)]) [] C R.2.2.2.1 (mc_X2_init_32 _ _) dX9_init_185 mw_X2_init kw_X9_87 hA rfl (st := [.ref (a37 127), .ref (a37 127), .int (3 : Int32), .ref (a37 90)]) rfl (Nat.le_of_ble_eq_true rfl) ⟨by decide, by decide⟩ rfl rfl (HK (k2 := 128) (by decide)) (HN (n2 := 2498) (by decide)) (fun a h => ⟨by simp only [h 0 (Nat.le_of_ble_eq_true rfl)], by simp only [h 90 (Nat.le_of_ble_eq_true rfl), h 127 (Nat.le_of_ble_eq_true rfl)]⟩) (fun a38 h38 C => ?_)
  have g38 : ∀ c, c < 1 → a38 c = Y.1 c := fun c hc => (h38 c (Nat.lt_of_lt_of_le hc (Nat.le_of_ble_eq_true rfl))).trans (g37 c hc)
  have C : xC (Gl sx178 (a38, Y.2)) Z (xBk B 128 2498) "BetweenStops" cX9_init 2 206 := C
  show xWS (Gl sx178 (a38, Y.2)) (xBk B 128 2498) 2 sxm36 [(1, .int (3 : Int32)), (0, .ref (a38 0))] 188 [.ref (a38 127), .int (3 : Int32), .ref (a38 90)]
  refine wg_astq (l2 := sx179) (r := 127) (i := 90) (pc := 188) C dX9_init_188 (by decide) sx178_at90 sx178_at127 rfl rfl rfl (by decide +kernel) (j := 3) (by decide) rfl (fun C => ?_)
  refine ws_iinc (v := (4 : Int32)) (j := 0) (pc := 189) C dX9_init_189 rfl (by decide) (by decide) rfl ?_
  refine ws_goto (pc := 192) (tgt := 171) C dX9_init_192 (by decide) ?_
  refine ws_iload_n (pc := 171) C dX9_init_171 rfl 0 rfl ?_
  refine ws_iconst (pc := 172) C dX9_init_172 ci_4 ?_
  refine ws_icmp_ge (pc := 173) (tgt := 195) C dX9_init_173 (by decide) (fun _ => ?_) (fun c => absurd (by decide) c)
  have e : Gl sx179 (a38, Y.2) = GX (a38, Y.2) := by rw [sx179_end]; rfl
  rw [e] at C ⊢
  refine ws_less [1] rfl ?_
  exact tX9_init C R rfl g38 h
