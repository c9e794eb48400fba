def lX : List xSh := [.inr (9, [.inl (some 1), .inl (some 27), .inl (some 77), .inl (some 79), .inl (some 80), .inr 0, .inr 0, .inl (some 81), .inl (some 90), .inl (some 91), .inl (some 92), .inl (some 93), .inl (some 94), .inl (some 95), .inl (some 96)]),
  .inr (6, [.inl (some 2), .inl (some 3), .inl (some 4), .inl (some 5), .inr 0, .inr 0, .inl (some 9), .inr 0, .inl (some 10), .inr 0]),
  .inl (0, 41, []),
  .inl (0, 41, []),
  .inl (0, 41, []),
  .inl (3, 3, [some 6, some 7, some 8]),
  .inl (0, 6, []),
  .inl (0, 6, []),
  .inl (0, 6, []),
  .inl (4, 8, [some 11, some 12, some 13, some 14, some 15, some 16, some 17, some 18]),
  .inl (5, 8, [some 19, some 20, some 21, some 22, some 23, some 24, some 25, some 26]),
  .inr (3, [.inr 0, .inr 0, .inr 0, .inr 0, .inr 0, .inr 0, .inr 0, .inr 0]),
  .inr (3, [.inr 0, .inr 0, .inr 0, .inr 0, .inr 0, .inr 0, .inr 0, .inr 0]),
  .inr (3, [.inr 0, .inr 0, .inr 0, .inr 0, .inr 0, .inr 0, .inr 0, .inr 0]),
  .inr (3, [.inr 0, .inr 0, .inr 0, .inr 0, .inr 0, .inr 0, .inr 0, .inr 0]),
  .inr (3, [.inr 0, .inr 0, .inr 0, .inr 0, .inr 0, .inr 0, .inr 0, .inr 0]),
  .inr (3, [.inr 0, .inr 0, .inr 0, .inr 0, .inr 0, .inr 0, .inr 0, .inr 0]),
  .inr (3, [.inr 0, .inr 0, .inr 0, .inr 0, .inr 0, .inr 0, .inr 0, .inr 0]),
  .inr (3, [.inr 0, .inr 0, .inr 0, .inr 0, .inr 0, .inr 0, .inr 0, .inr 0]),
  .inr (7, [.inr 0, .inr 0, .inr 0, .inr 0]),
  .inr (7, [.inr 0, .inr 0, .inr 0, .inr 0]),
  .inr (7, [.inr 0, .inr 0, .inr 0, .inr 0]),
  .inr (7, [.inr 0, .inr 0, .inr 0, .inr 0]),
  .inr (7, [.inr 0, .inr 0, .inr 0, .inr 0]),
  .inr (7, [.inr 0, .inr 0, .inr 0, .inr 0]),
  .inr (7, [.inr 0, .inr 0, .inr 0, .inr 0]),
  .inr (7, [.inr 0, .inr 0, .inr 0, .inr 0]),
  .inr (8, [.inl (some 1), .inl (some 28), .inl (some 29), .inl (some 30), .inl (some 31), .inl (some 40), .inl (some 49), .inr 0, .inl (some 50), .inl (some 53), .inl (some 62), .inl (some 71), .inl (some 72), .inl (some 73), .inl (some 74), .inl (some 75), .inl (some 76)]),
  .inl (0, 8, []),
  .inl (0, 8, []),
  .inl (0, 8, []),
  .inl (3, 8, [some 32, some 33, some 34, some 35, some 36, some 37, some 38, some 39]),
  .inl (0, 8, []),
  .inl (0, 8, []),
  .inl (0, 8, []),
  .inl (0, 8, []),
  .inl (0, 8, []),
  .inl (0, 8, []),
  .inl (0, 8, []),
  .inl (0, 8, []),
  .inl (3, 8, [some 41, some 42, some 43, some 44, some 45, some 46, some 47, some 48]),
  .inl (0, 8, []),
  .inl (0, 8, []),
  .inl (0, 8, []),
  .inl (0, 8, []),
  .inl (0, 8, []),
  .inl (0, 8, []),
  .inl (0, 8, []),
  .inl (0, 8, []),
  .inl (0, 8, []),
  .inl (3, 2, [some 51, some 52]),
  .inl (0, 42, []),
  .inl (0, 42, []),
  .inl (3, 8, [some 54, some 55, some 56, some 57, some 58, some 59, some 60, some 61]),
  .inl (0, 8, []),
  .inl (0, 8, []),
  .inl (0, 8, []),
  .inl (0, 8, []),
  .inl (0, 8, []),
  .inl (0, 8, []),
  .inl (0, 8, []),
  .inl (0, 8, []),
  .inl (3, 8, [some 63, some 64, some 65, some 66, some 67, some 68, some 69, some 70]),
  .inl (0, 8, []),
  .inl (0, 8, []),
  .inl (0, 8, []),
  .inl (0, 8, []),
  .inl (0, 8, []),
  .inl (0, 8, []),
  .inl (0, 8, []),
  .inl (0, 8, []),
  .inl (0, 8, []),
  .inl (0, 8, []),
  .inl (0, 8, []),
  .inl (0, 8, []),
  .inl (0, 8, []),
  .inl (0, 8, []),
  .inr (4, [.inl (some 78), .inr 0, .inr 0, .inr 0, .inr 0, .inr 0]),
  .inl (0, 160, []),
  .inr (1, [.inl (some 77)]),
  .inl (6, 6, [some 97, some 101, some 105, some 109, some 113, some 117]),
  .inr (0, [.inr 0, .inr 0, .inl (some 82), .inl (some 83), .inr 0, .inr 0, .inr 0, .inl (some 87), .inl (some 88), .inl (some 89), .inr 0]),
  .inl (0, 41, []),
  .inl (3, 3, [some 84, some 85, some 86]),
  .inl (0, 6, []),
  .inl (0, 6, []),
  .inl (0, 6, []),
  .inl (2, 8, []),
  .inl (0, 8, []),
  .inl (0, 8, []),
  .inl (7, 4, [some 121, some 123, some 125, some 127]),
  .inl (0, 6, []),
  .inl (0, 8, []),
  .inl (0, 21, []),
  .inl (0, 8, []),
  .inl (0, 12, []),
  .inl (0, 8, []),
  .inr (5, [.inl (some 98), .inl (some 99), .inl (some 100), .inr 0, .inr 0]),
  .inl (0, 160, []),
  .inl (0, 3, []),
  .inl (0, 40, []),
  .inr (5, [.inl (some 102), .inl (some 103), .inl (some 104), .inr 0, .inr 0]),
  .inl (0, 160, []),
  .inl (0, 3, []),
  .inl (0, 40, []),
  .inr (5, [.inl (some 106), .inl (some 107), .inl (some 108), .inr 0, .inr 0]),
  .inl (0, 160, []),
  .inl (0, 3, []),
  .inl (0, 40, []),
  .inr (5, [.inl (some 110), .inl (some 111), .inl (some 112), .inr 0, .inr 0]),
  .inl (0, 160, []),
  .inl (0, 3, []),
  .inl (0, 40, []),
  .inr (5, [.inl (some 114), .inl (some 115), .inl (some 116), .inr 0, .inr 0]),
  .inl (0, 160, []),
  .inl (0, 3, []),
  .inl (0, 40, []),
  .inr (5, [.inl (some 118), .inl (some 119), .inl (some 120), .inr 0, .inr 0]),
  .inl (0, 160, []),
  .inl (0, 3, []),
  .inl (0, 40, []),
  .inr (2, [.inl (some 122), .inr 0, .inr 0]),
  .inl (0, 41, []),
  .inr (2, [.inl (some 124), .inr 0, .inr 0]),
  .inl (0, 41, []),
  .inr (2, [.inl (some 126), .inr 0, .inr 0]),
  .inl (0, 41, []),
  .inr (2, [.inl (some 128), .inr 0, .inr 0]),
  .inl (0, 41, [])]
def LX (c : Nat) : xSh := lX.getD c (.inl (0, 0, []))
abbrev NX : Nat := 129
def lM : List xSh := [.inr (10, [.inl (some 1), .inl (some 2), .inr 0, .inr 0, .inr 0, .inl (some 3), .inl (some 4), .inl (some 5), .inl (some 6), .inl (some 7), .inl (some 8), .inl (some 9), .inr 0, .inl (some 10), .inl (some 11), .inl (some 12), .inl (some 13), .inl (some 14), .inr 0, .inl (some 15), .inl (some 16), .inr 0, .inr 0, .inr 0, .inr 0, .inr 0, .inr 0, .inr 0, .inr 0, .inl (some 17), .inl (some 18), .inl (some 19), .inl (some 20), .inl (some 21), .inl (some 22), .inl (some 23), .inl (some 24), .inr 0, .inr 0, .inr 0, .inr 0, .inr 0, .inr 0, .inl (some 25), .inr 0, .inr 0, .inr 0, .inr 0, .inr 0, .inr 0, .inr 0, .inl (some 26), .inl (some 27), .inr 0, .inr 0, .inr 0, .inl (some 28), .inl (some 29), .inl (some 30), .inl (some 31), .inr 1, .inl (some 32), .inr 1, .inl (some 33), .inl (some 34), .inl (some 35), .inl (some 36), .inl (some 37)]),
  .inl (0, 41, []),
  .inl (0, 18, []),
  .inl (0, 8, []),
  .inl (0, 8, []),
  .inl (0, 8, []),
  .inl (0, 8, []),
  .inl (0, 8, []),
  .inl (0, 8, []),
  .inl (0, 8, []),
  .inl (0, 8, []),
  .inl (0, 8, []),
  .inl (0, 8, []),
  .inl (0, 8, []),
  .inl (0, 160, []),
  .inl (0, 1200, []),
  .inl (0, 24, []),
  .inl (0, 41, []),
  .inl (0, 18, []),
  .inl (0, 8, []),
  .inl (0, 8, []),
  .inl (0, 8, []),
  .inl (0, 4, []),
  .inl (0, 4, []),
  .inl (0, 164, []),
  .inl (0, 8, []),
  .inl (1, 12, []),
  .inl (0, 200, []),
  .inl (0, 200, []),
  .inl (0, 6, []),
  .inl (0, 8, []),
  .inl (0, 8, []),
  .inl (0, 8, []),
  .inl (0, 21, []),
  .inl (0, 8, []),
  .inl (1, 8, []),
  .inl (0, 8, []),
  .inl (1, 12, [])]
def LM (c : Nat) : xSh := lM.getD c (.inl (0, 0, []))
abbrev NM : Nat := 38
abbrev xY : Type := (Nat → Nat) × (Nat → ClassId) × va_G
abbrev GX (Y : xY) : xG := (LX, NX, Y)
abbrev GM (Y : xY) : xG := (LM, NM, Y)
theorem sf_BS_0 : xSf LX NX 0 9 0 (.inl (some 1)) := ⟨by decide, _, rfl, rfl⟩
theorem sf_BS_1 : xSf LX NX 0 9 1 (.inl (some 27)) := ⟨by decide, _, rfl, rfl⟩
theorem sf_BS_2 : xSf LX NX 0 9 2 (.inl (some 77)) := ⟨by decide, _, rfl, rfl⟩
theorem sf_BS_3 : xSf LX NX 0 9 3 (.inl (some 79)) := ⟨by decide, _, rfl, rfl⟩
theorem sf_BS_4 : xSf LX NX 0 9 4 (.inl (some 80)) := ⟨by decide, _, rfl, rfl⟩
theorem sf_BS_5 : xSf LX NX 0 9 5 (.inr 0) := ⟨by decide, _, rfl, rfl⟩
theorem sf_BS_6 : xSf LX NX 0 9 6 (.inr 0) := ⟨by decide, _, rfl, rfl⟩
theorem sf_BS_7 : xSf LX NX 0 9 7 (.inl (some 81)) := ⟨by decide, _, rfl, rfl⟩
theorem sf_BS_8 : xSf LX NX 0 9 8 (.inl (some 90)) := ⟨by decide, _, rfl, rfl⟩
theorem sf_BS_9 : xSf LX NX 0 9 9 (.inl (some 91)) := ⟨by decide, _, rfl, rfl⟩
theorem sf_BS_10 : xSf LX NX 0 9 10 (.inl (some 92)) := ⟨by decide, _, rfl, rfl⟩
theorem sf_BS_11 : xSf LX NX 0 9 11 (.inl (some 93)) := ⟨by decide, _, rfl, rfl⟩
theorem sf_BS_12 : xSf LX NX 0 9 12 (.inl (some 94)) := ⟨by decide, _, rfl, rfl⟩
theorem sf_BS_13 : xSf LX NX 0 9 13 (.inl (some 95)) := ⟨by decide, _, rfl, rfl⟩
theorem sf_BS_14 : xSf LX NX 0 9 14 (.inl (some 96)) := ⟨by decide, _, rfl, rfl⟩
theorem so_BS : xSo LX NX 0 "BetweenStops" := ⟨by decide, _, _, _, _, rfl, rfl⟩
theorem sf_town_0 : xSf LX NX 1 6 0 (.inl (some 2)) := ⟨by decide, _, rfl, rfl⟩
theorem sf_town_1 : xSf LX NX 1 6 1 (.inl (some 3)) := ⟨by decide, _, rfl, rfl⟩
theorem sf_town_2 : xSf LX NX 1 6 2 (.inl (some 4)) := ⟨by decide, _, rfl, rfl⟩
theorem sf_town_3 : xSf LX NX 1 6 3 (.inl (some 5)) := ⟨by decide, _, rfl, rfl⟩
theorem sf_town_4 : xSf LX NX 1 6 4 (.inr 0) := ⟨by decide, _, rfl, rfl⟩
theorem sf_town_5 : xSf LX NX 1 6 5 (.inr 0) := ⟨by decide, _, rfl, rfl⟩
theorem sf_town_6 : xSf LX NX 1 6 6 (.inl (some 9)) := ⟨by decide, _, rfl, rfl⟩
theorem sf_town_7 : xSf LX NX 1 6 7 (.inr 0) := ⟨by decide, _, rfl, rfl⟩
theorem sf_town_8 : xSf LX NX 1 6 8 (.inl (some 10)) := ⟨by decide, _, rfl, rfl⟩
theorem sf_town_9 : xSf LX NX 1 6 9 (.inr 0) := ⟨by decide, _, rfl, rfl⟩
theorem so_town : xSo LX NX 1 "BetweenStops$Town" := ⟨by decide, _, _, _, _, rfl, rfl⟩
theorem sr_heights : xSr LX NX 2 0 41 := ⟨by decide, _, rfl⟩
theorem sr_climbsOut : xSr LX NX 3 0 41 := ⟨by decide, _, rfl⟩
theorem sr_climbsHome : xSr LX NX 4 0 41 := ⟨by decide, _, rfl⟩
theorem sq_sorts : xSq LX NX 5 3 3 (fun j => (6 + j)) := ⟨by decide, _, rfl, fun j h => match j, h with
  | 0, _ => rfl
  | 1, _ => rfl
  | 2, _ => rfl
  | j + 3, h => absurd h (by omega)⟩
theorem lr_sortrow : ∀ j, j < 3 → LX (6 + j) = .inl (0, 6, []) := fun j h => match j, h with
  | 0, _ => rfl
  | 1, _ => rfl
  | 2, _ => rfl
  | j + 3, h => absurd h (by omega)
theorem sr_sortrow {j : Nat} (h : j < 3) : xSr LX NX (6 + j) 0 6 := ⟨by have := h; show _ < 129; omega, _, lr_sortrow _ h⟩
theorem sq_stops : xSq LX NX 9 4 8 (fun j => (11 + j)) := ⟨by decide, _, rfl, fun j h => match j, h with
  | 0, _ => rfl
  | 1, _ => rfl
  | 2, _ => rfl
  | 3, _ => rfl
  | 4, _ => rfl
  | 5, _ => rfl
  | 6, _ => rfl
  | 7, _ => rfl
  | j + 8, h => absurd h (by omega)⟩
theorem sq_trips : xSq LX NX 10 5 8 (fun j => (19 + j)) := ⟨by decide, _, rfl, fun j h => match j, h with
  | 0, _ => rfl
  | 1, _ => rfl
  | 2, _ => rfl
  | 3, _ => rfl
  | 4, _ => rfl
  | 5, _ => rfl
  | 6, _ => rfl
  | 7, _ => rfl
  | j + 8, h => absurd h (by omega)⟩
theorem lo_stop : ∀ j, j < 8 → LX (11 + j) = .inr (3, [.inr 0, .inr 0, .inr 0, .inr 0, .inr 0, .inr 0, .inr 0, .inr 0]) := fun j h => match j, h with
  | 0, _ => rfl
  | 1, _ => rfl
  | 2, _ => rfl
  | 3, _ => rfl
  | 4, _ => rfl
  | 5, _ => rfl
  | 6, _ => rfl
  | 7, _ => rfl
  | j + 8, h => absurd h (by omega)
theorem sf_stop_0 {j : Nat} (h : j < 8) : xSf LX NX (11 + j) 3 0 (.inr 0) := ⟨by have := h; show _ < 129; omega, _, lo_stop _ h, rfl⟩
theorem sf_stop_1 {j : Nat} (h : j < 8) : xSf LX NX (11 + j) 3 1 (.inr 0) := ⟨by have := h; show _ < 129; omega, _, lo_stop _ h, rfl⟩
theorem sf_stop_2 {j : Nat} (h : j < 8) : xSf LX NX (11 + j) 3 2 (.inr 0) := ⟨by have := h; show _ < 129; omega, _, lo_stop _ h, rfl⟩
theorem sf_stop_3 {j : Nat} (h : j < 8) : xSf LX NX (11 + j) 3 3 (.inr 0) := ⟨by have := h; show _ < 129; omega, _, lo_stop _ h, rfl⟩
theorem sf_stop_4 {j : Nat} (h : j < 8) : xSf LX NX (11 + j) 3 4 (.inr 0) := ⟨by have := h; show _ < 129; omega, _, lo_stop _ h, rfl⟩
theorem sf_stop_5 {j : Nat} (h : j < 8) : xSf LX NX (11 + j) 3 5 (.inr 0) := ⟨by have := h; show _ < 129; omega, _, lo_stop _ h, rfl⟩
theorem sf_stop_6 {j : Nat} (h : j < 8) : xSf LX NX (11 + j) 3 6 (.inr 0) := ⟨by have := h; show _ < 129; omega, _, lo_stop _ h, rfl⟩
theorem sf_stop_7 {j : Nat} (h : j < 8) : xSf LX NX (11 + j) 3 7 (.inr 0) := ⟨by have := h; show _ < 129; omega, _, lo_stop _ h, rfl⟩
theorem so_stop {j : Nat} (h : j < 8) : xSo LX NX (11 + j) "BetweenStops$Stop" := ⟨by have := h; show _ < 129; omega, _, _, _, _, lo_stop _ h, rfl⟩
theorem lo_trip : ∀ j, j < 8 → LX (19 + j) = .inr (7, [.inr 0, .inr 0, .inr 0, .inr 0]) := fun j h => match j, h with
  | 0, _ => rfl
  | 1, _ => rfl
  | 2, _ => rfl
  | 3, _ => rfl
  | 4, _ => rfl
  | 5, _ => rfl
  | 6, _ => rfl
  | 7, _ => rfl
  | j + 8, h => absurd h (by omega)
theorem sf_trip_0 {j : Nat} (h : j < 8) : xSf LX NX (19 + j) 7 0 (.inr 0) := ⟨by have := h; show _ < 129; omega, _, lo_trip _ h, rfl⟩
theorem sf_trip_1 {j : Nat} (h : j < 8) : xSf LX NX (19 + j) 7 1 (.inr 0) := ⟨by have := h; show _ < 129; omega, _, lo_trip _ h, rfl⟩
theorem sf_trip_2 {j : Nat} (h : j < 8) : xSf LX NX (19 + j) 7 2 (.inr 0) := ⟨by have := h; show _ < 129; omega, _, lo_trip _ h, rfl⟩
theorem sf_trip_3 {j : Nat} (h : j < 8) : xSf LX NX (19 + j) 7 3 (.inr 0) := ⟨by have := h; show _ < 129; omega, _, lo_trip _ h, rfl⟩
theorem so_trip {j : Nat} (h : j < 8) : xSo LX NX (19 + j) "BetweenStops$Trip" := ⟨by have := h; show _ < 129; omega, _, _, _, _, lo_trip _ h, rfl⟩
theorem sf_ways_0 : xSf LX NX 27 8 0 (.inl (some 1)) := ⟨by decide, _, rfl, rfl⟩
theorem sf_ways_1 : xSf LX NX 27 8 1 (.inl (some 28)) := ⟨by decide, _, rfl, rfl⟩
theorem sf_ways_2 : xSf LX NX 27 8 2 (.inl (some 29)) := ⟨by decide, _, rfl, rfl⟩
theorem sf_ways_3 : xSf LX NX 27 8 3 (.inl (some 30)) := ⟨by decide, _, rfl, rfl⟩
theorem sf_ways_4 : xSf LX NX 27 8 4 (.inl (some 31)) := ⟨by decide, _, rfl, rfl⟩
theorem sf_ways_5 : xSf LX NX 27 8 5 (.inl (some 40)) := ⟨by decide, _, rfl, rfl⟩
theorem sf_ways_6 : xSf LX NX 27 8 6 (.inl (some 49)) := ⟨by decide, _, rfl, rfl⟩
theorem sf_ways_7 : xSf LX NX 27 8 7 (.inr 0) := ⟨by decide, _, rfl, rfl⟩
theorem sf_ways_8 : xSf LX NX 27 8 8 (.inl (some 50)) := ⟨by decide, _, rfl, rfl⟩
theorem sf_ways_9 : xSf LX NX 27 8 9 (.inl (some 53)) := ⟨by decide, _, rfl, rfl⟩
theorem sf_ways_10 : xSf LX NX 27 8 10 (.inl (some 62)) := ⟨by decide, _, rfl, rfl⟩
theorem sf_ways_11 : xSf LX NX 27 8 11 (.inl (some 71)) := ⟨by decide, _, rfl, rfl⟩
theorem sf_ways_12 : xSf LX NX 27 8 12 (.inl (some 72)) := ⟨by decide, _, rfl, rfl⟩
theorem sf_ways_13 : xSf LX NX 27 8 13 (.inl (some 73)) := ⟨by decide, _, rfl, rfl⟩
theorem sf_ways_14 : xSf LX NX 27 8 14 (.inl (some 74)) := ⟨by decide, _, rfl, rfl⟩
theorem sf_ways_15 : xSf LX NX 27 8 15 (.inl (some 75)) := ⟨by decide, _, rfl, rfl⟩
theorem sf_ways_16 : xSf LX NX 27 8 16 (.inl (some 76)) := ⟨by decide, _, rfl, rfl⟩
theorem so_ways : xSo LX NX 27 "BetweenStops$Ways" := ⟨by decide, _, _, _, _, rfl, rfl⟩
theorem sr_w_cars : xSr LX NX 28 0 8 := ⟨by decide, _, rfl⟩
theorem sr_w_seconds : xSr LX NX 29 0 8 := ⟨by decide, _, rfl⟩
theorem sr_w_direct : xSr LX NX 30 0 8 := ⟨by decide, _, rfl⟩
theorem sq_w_toStop : xSq LX NX 31 3 8 (fun j => (32 + j)) := ⟨by decide, _, rfl, fun j h => match j, h with
  | 0, _ => rfl
  | 1, _ => rfl
  | 2, _ => rfl
  | 3, _ => rfl
  | 4, _ => rfl
  | 5, _ => rfl
  | 6, _ => rfl
  | 7, _ => rfl
  | j + 8, h => absurd h (by omega)⟩
theorem lr_toStopR : ∀ j, j < 8 → LX (32 + j) = .inl (0, 8, []) := fun j h => match j, h with
  | 0, _ => rfl
  | 1, _ => rfl
  | 2, _ => rfl
  | 3, _ => rfl
  | 4, _ => rfl
  | 5, _ => rfl
  | 6, _ => rfl
  | 7, _ => rfl
  | j + 8, h => absurd h (by omega)
theorem sr_toStopR {j : Nat} (h : j < 8) : xSr LX NX (32 + j) 0 8 := ⟨by have := h; show _ < 129; omega, _, lr_toStopR _ h⟩
theorem sq_w_fromStop : xSq LX NX 40 3 8 (fun j => (41 + j)) := ⟨by decide, _, rfl, fun j h => match j, h with
  | 0, _ => rfl
  | 1, _ => rfl
  | 2, _ => rfl
  | 3, _ => rfl
  | 4, _ => rfl
  | 5, _ => rfl
  | 6, _ => rfl
  | 7, _ => rfl
  | j + 8, h => absurd h (by omega)⟩
theorem lr_fromStopR : ∀ j, j < 8 → LX (41 + j) = .inl (0, 8, []) := fun j h => match j, h with
  | 0, _ => rfl
  | 1, _ => rfl
  | 2, _ => rfl
  | 3, _ => rfl
  | 4, _ => rfl
  | 5, _ => rfl
  | 6, _ => rfl
  | 7, _ => rfl
  | j + 8, h => absurd h (by omega)
theorem sr_fromStopR {j : Nat} (h : j < 8) : xSr LX NX (41 + j) 0 8 := ⟨by have := h; show _ < 129; omega, _, lr_fromStopR _ h⟩
theorem sr_w_members : xSr LX NX 49 0 8 := ⟨by decide, _, rfl⟩
theorem sq_w_stood : xSq LX NX 50 3 2 (fun j => (51 + j)) := ⟨by decide, _, rfl, fun j h => match j, h with
  | 0, _ => rfl
  | 1, _ => rfl
  | j + 2, h => absurd h (by omega)⟩
theorem lr_stoodR : ∀ j, j < 2 → LX (51 + j) = .inl (0, 42, []) := fun j h => match j, h with
  | 0, _ => rfl
  | 1, _ => rfl
  | j + 2, h => absurd h (by omega)
theorem sr_stoodR {j : Nat} (h : j < 2) : xSr LX NX (51 + j) 0 42 := ⟨by have := h; show _ < 129; omega, _, lr_stoodR _ h⟩
theorem sq_w_waits : xSq LX NX 53 3 8 (fun j => (54 + j)) := ⟨by decide, _, rfl, fun j h => match j, h with
  | 0, _ => rfl
  | 1, _ => rfl
  | 2, _ => rfl
  | 3, _ => rfl
  | 4, _ => rfl
  | 5, _ => rfl
  | 6, _ => rfl
  | 7, _ => rfl
  | j + 8, h => absurd h (by omega)⟩
theorem lr_waitsR : ∀ j, j < 8 → LX (54 + j) = .inl (0, 8, []) := fun j h => match j, h with
  | 0, _ => rfl
  | 1, _ => rfl
  | 2, _ => rfl
  | 3, _ => rfl
  | 4, _ => rfl
  | 5, _ => rfl
  | 6, _ => rfl
  | 7, _ => rfl
  | j + 8, h => absurd h (by omega)
theorem sr_waitsR {j : Nat} (h : j < 8) : xSr LX NX (54 + j) 0 8 := ⟨by have := h; show _ < 129; omega, _, lr_waitsR _ h⟩
theorem sq_w_rides : xSq LX NX 62 3 8 (fun j => (63 + j)) := ⟨by decide, _, rfl, fun j h => match j, h with
  | 0, _ => rfl
  | 1, _ => rfl
  | 2, _ => rfl
  | 3, _ => rfl
  | 4, _ => rfl
  | 5, _ => rfl
  | 6, _ => rfl
  | 7, _ => rfl
  | j + 8, h => absurd h (by omega)⟩
theorem lr_ridesR : ∀ j, j < 8 → LX (63 + j) = .inl (0, 8, []) := fun j h => match j, h with
  | 0, _ => rfl
  | 1, _ => rfl
  | 2, _ => rfl
  | 3, _ => rfl
  | 4, _ => rfl
  | 5, _ => rfl
  | 6, _ => rfl
  | 7, _ => rfl
  | j + 8, h => absurd h (by omega)
theorem sr_ridesR {j : Nat} (h : j < 8) : xSr LX NX (63 + j) 0 8 := ⟨by have := h; show _ < 129; omega, _, lr_ridesR _ h⟩
theorem sr_w_costs : xSr LX NX 71 0 8 := ⟨by decide, _, rfl⟩
theorem sr_w_ins : xSr LX NX 72 0 8 := ⟨by decide, _, rfl⟩
theorem sr_w_outs : xSr LX NX 73 0 8 := ⟨by decide, _, rfl⟩
theorem sr_w_walked : xSr LX NX 74 0 8 := ⟨by decide, _, rfl⟩
theorem sr_w_waited : xSr LX NX 75 0 8 := ⟨by decide, _, rfl⟩
theorem sr_w_ridden : xSr LX NX 76 0 8 := ⟨by decide, _, rfl⟩
theorem sf_tape_0 : xSf LX NX 77 4 0 (.inl (some 78)) := ⟨by decide, _, rfl, rfl⟩
theorem sf_tape_1 : xSf LX NX 77 4 1 (.inr 0) := ⟨by decide, _, rfl, rfl⟩
theorem sf_tape_2 : xSf LX NX 77 4 2 (.inr 0) := ⟨by decide, _, rfl, rfl⟩
theorem sf_tape_3 : xSf LX NX 77 4 3 (.inr 0) := ⟨by decide, _, rfl, rfl⟩
theorem sf_tape_4 : xSf LX NX 77 4 4 (.inr 0) := ⟨by decide, _, rfl, rfl⟩
theorem sf_tape_5 : xSf LX NX 77 4 5 (.inr 0) := ⟨by decide, _, rfl, rfl⟩
theorem so_tape : xSo LX NX 77 "BetweenStops$Tape" := ⟨by decide, _, _, _, _, rfl, rfl⟩
theorem sr_bytes : xSr LX NX 78 0 160 := ⟨by decide, _, rfl⟩
theorem sf_reader_0 : xSf LX NX 79 1 0 (.inl (some 77)) := ⟨by decide, _, rfl, rfl⟩
theorem so_reader : xSo LX NX 79 "BetweenStops$Reader" := ⟨by decide, _, _, _, _, rfl, rfl⟩
theorem sq_texts : xSq LX NX 80 6 6 (fun j => (97 + 4 * j)) := ⟨by decide, _, rfl, fun j h => match j, h with
  | 0, _ => rfl
  | 1, _ => rfl
  | 2, _ => rfl
  | 3, _ => rfl
  | 4, _ => rfl
  | 5, _ => rfl
  | j + 6, h => absurd h (by omega)⟩
theorem sf_kept_0 : xSf LX NX 81 0 0 (.inr 0) := ⟨by decide, _, rfl, rfl⟩
theorem sf_kept_1 : xSf LX NX 81 0 1 (.inr 0) := ⟨by decide, _, rfl, rfl⟩
theorem sf_kept_2 : xSf LX NX 81 0 2 (.inl (some 82)) := ⟨by decide, _, rfl, rfl⟩
theorem sf_kept_3 : xSf LX NX 81 0 3 (.inl (some 83)) := ⟨by decide, _, rfl, rfl⟩
theorem sf_kept_4 : xSf LX NX 81 0 4 (.inr 0) := ⟨by decide, _, rfl, rfl⟩
theorem sf_kept_5 : xSf LX NX 81 0 5 (.inr 0) := ⟨by decide, _, rfl, rfl⟩
theorem sf_kept_6 : xSf LX NX 81 0 6 (.inr 0) := ⟨by decide, _, rfl, rfl⟩
theorem sf_kept_7 : xSf LX NX 81 0 7 (.inl (some 87)) := ⟨by decide, _, rfl, rfl⟩
theorem sf_kept_8 : xSf LX NX 81 0 8 (.inl (some 88)) := ⟨by decide, _, rfl, rfl⟩
theorem sf_kept_9 : xSf LX NX 81 0 9 (.inl (some 89)) := ⟨by decide, _, rfl, rfl⟩
theorem sf_kept_10 : xSf LX NX 81 0 10 (.inr 0) := ⟨by decide, _, rfl, rfl⟩
theorem so_kept : xSo LX NX 81 "BetweenStops$Image" := ⟨by decide, _, _, _, _, rfl, rfl⟩
theorem sr_k_heights : xSr LX NX 82 0 41 := ⟨by decide, _, rfl⟩
theorem sq_k_sorts : xSq LX NX 83 3 3 (fun j => (84 + j)) := ⟨by decide, _, rfl, fun j h => match j, h with
  | 0, _ => rfl
  | 1, _ => rfl
  | 2, _ => rfl
  | j + 3, h => absurd h (by omega)⟩
theorem lr_ksortR : ∀ j, j < 3 → LX (84 + j) = .inl (0, 6, []) := fun j h => match j, h with
  | 0, _ => rfl
  | 1, _ => rfl
  | 2, _ => rfl
  | j + 3, h => absurd h (by omega)
theorem sr_ksortR {j : Nat} (h : j < 3) : xSr LX NX (84 + j) 0 6 := ⟨by have := h; show _ < 129; omega, _, lr_ksortR _ h⟩
theorem sr_k_isOpen : xSr LX NX 87 2 8 := ⟨by decide, _, rfl⟩
theorem sr_k_wanted : xSr LX NX 88 0 8 := ⟨by decide, _, rfl⟩
theorem sr_k_patterns : xSr LX NX 89 0 8 := ⟨by decide, _, rfl⟩
theorem sq_sheets : xSq LX NX 90 7 4 (fun j => (121 + 2 * j)) := ⟨by decide, _, rfl, fun j h => match j, h with
  | 0, _ => rfl
  | 1, _ => rfl
  | 2, _ => rfl
  | 3, _ => rfl
  | j + 4, h => absurd h (by omega)⟩
theorem sr_b_names : xSr LX NX 91 0 6 := ⟨by decide, _, rfl⟩
theorem sr_b_costsNow : xSr LX NX 92 0 8 := ⟨by decide, _, rfl⟩
theorem sr_b_homesBehind : xSr LX NX 93 0 21 := ⟨by decide, _, rfl⟩
theorem sr_b_left : xSr LX NX 94 0 8 := ⟨by decide, _, rfl⟩
theorem sr_b_ends : xSr LX NX 95 0 12 := ⟨by decide, _, rfl⟩
theorem sr_b_wishes : xSr LX NX 96 0 8 := ⟨by decide, _, rfl⟩
theorem lo_text : ∀ j, j < 6 → LX (97 + 4 * j) = .inr (5, [.inl (some (98 + 4 * j)), .inl (some (99 + 4 * j)), .inl (some (100 + 4 * j)), .inr 0, .inr 0]) := fun j h => match j, h with
  | 0, _ => rfl
  | 1, _ => rfl
  | 2, _ => rfl
  | 3, _ => rfl
  | 4, _ => rfl
  | 5, _ => rfl
  | j + 6, h => absurd h (by omega)
theorem sf_text_0 {j : Nat} (h : j < 6) : xSf LX NX (97 + 4 * j) 5 0 (.inl (some (98 + 4 * j))) := ⟨by have := h; show _ < 129; omega, _, lo_text _ h, rfl⟩
theorem sf_text_1 {j : Nat} (h : j < 6) : xSf LX NX (97 + 4 * j) 5 1 (.inl (some (99 + 4 * j))) := ⟨by have := h; show _ < 129; omega, _, lo_text _ h, rfl⟩
theorem sf_text_2 {j : Nat} (h : j < 6) : xSf LX NX (97 + 4 * j) 5 2 (.inl (some (100 + 4 * j))) := ⟨by have := h; show _ < 129; omega, _, lo_text _ h, rfl⟩
theorem sf_text_3 {j : Nat} (h : j < 6) : xSf LX NX (97 + 4 * j) 5 3 (.inr 0) := ⟨by have := h; show _ < 129; omega, _, lo_text _ h, rfl⟩
theorem sf_text_4 {j : Nat} (h : j < 6) : xSf LX NX (97 + 4 * j) 5 4 (.inr 0) := ⟨by have := h; show _ < 129; omega, _, lo_text _ h, rfl⟩
theorem so_text {j : Nat} (h : j < 6) : xSo LX NX (97 + 4 * j) "BetweenStops$Text" := ⟨by have := h; show _ < 129; omega, _, _, _, _, lo_text _ h, rfl⟩
theorem lr_codes : ∀ j, j < 6 → LX (98 + 4 * j) = .inl (0, 160, []) := fun j h => match j, h with
  | 0, _ => rfl
  | 1, _ => rfl
  | 2, _ => rfl
  | 3, _ => rfl
  | 4, _ => rfl
  | 5, _ => rfl
  | j + 6, h => absurd h (by omega)
theorem sr_codes {j : Nat} (h : j < 6) : xSr LX NX (98 + 4 * j) 0 160 := ⟨by have := h; show _ < 129; omega, _, lr_codes _ h⟩
theorem lr_partEnds : ∀ j, j < 6 → LX (99 + 4 * j) = .inl (0, 3, []) := fun j h => match j, h with
  | 0, _ => rfl
  | 1, _ => rfl
  | 2, _ => rfl
  | 3, _ => rfl
  | 4, _ => rfl
  | 5, _ => rfl
  | j + 6, h => absurd h (by omega)
theorem sr_partEnds {j : Nat} (h : j < 6) : xSr LX NX (99 + 4 * j) 0 3 := ⟨by have := h; show _ < 129; omega, _, lr_partEnds _ h⟩
theorem lr_stack : ∀ j, j < 6 → LX (100 + 4 * j) = .inl (0, 40, []) := fun j h => match j, h with
  | 0, _ => rfl
  | 1, _ => rfl
  | 2, _ => rfl
  | 3, _ => rfl
  | 4, _ => rfl
  | 5, _ => rfl
  | j + 6, h => absurd h (by omega)
theorem sr_stack {j : Nat} (h : j < 6) : xSr LX NX (100 + 4 * j) 0 40 := ⟨by have := h; show _ < 129; omega, _, lr_stack _ h⟩
theorem lo_sheet : ∀ j, j < 4 → LX (121 + 2 * j) = .inr (2, [.inl (some (122 + 2 * j)), .inr 0, .inr 0]) := fun j h => match j, h with
  | 0, _ => rfl
  | 1, _ => rfl
  | 2, _ => rfl
  | 3, _ => rfl
  | j + 4, h => absurd h (by omega)
theorem sf_sheet_0 {j : Nat} (h : j < 4) : xSf LX NX (121 + 2 * j) 2 0 (.inl (some (122 + 2 * j))) := ⟨by have := h; show _ < 129; omega, _, lo_sheet _ h, rfl⟩
theorem sf_sheet_1 {j : Nat} (h : j < 4) : xSf LX NX (121 + 2 * j) 2 1 (.inr 0) := ⟨by have := h; show _ < 129; omega, _, lo_sheet _ h, rfl⟩
theorem sf_sheet_2 {j : Nat} (h : j < 4) : xSf LX NX (121 + 2 * j) 2 2 (.inr 0) := ⟨by have := h; show _ < 129; omega, _, lo_sheet _ h, rfl⟩
theorem so_sheet {j : Nat} (h : j < 4) : xSo LX NX (121 + 2 * j) "BetweenStops$Sheet" := ⟨by have := h; show _ < 129; omega, _, _, _, _, lo_sheet _ h, rfl⟩
theorem lr_row : ∀ j, j < 4 → LX (122 + 2 * j) = .inl (0, 41, []) := fun j h => match j, h with
  | 0, _ => rfl
  | 1, _ => rfl
  | 2, _ => rfl
  | 3, _ => rfl
  | j + 4, h => absurd h (by omega)
theorem sr_row {j : Nat} (h : j < 4) : xSr LX NX (122 + 2 * j) 0 41 := ⟨by have := h; show _ < 129; omega, _, lr_row _ h⟩
theorem sf_M_0 : xSf LM NM 0 10 0 (.inl (some 1)) := ⟨by decide, _, rfl, rfl⟩
theorem sf_M_1 : xSf LM NM 0 10 1 (.inl (some 2)) := ⟨by decide, _, rfl, rfl⟩
theorem sf_M_2 : xSf LM NM 0 10 2 (.inr 0) := ⟨by decide, _, rfl, rfl⟩
theorem sf_M_3 : xSf LM NM 0 10 3 (.inr 0) := ⟨by decide, _, rfl, rfl⟩
theorem sf_M_4 : xSf LM NM 0 10 4 (.inr 0) := ⟨by decide, _, rfl, rfl⟩
theorem sf_M_5 : xSf LM NM 0 10 5 (.inl (some 3)) := ⟨by decide, _, rfl, rfl⟩
theorem sf_M_6 : xSf LM NM 0 10 6 (.inl (some 4)) := ⟨by decide, _, rfl, rfl⟩
theorem sf_M_7 : xSf LM NM 0 10 7 (.inl (some 5)) := ⟨by decide, _, rfl, rfl⟩
theorem sf_M_8 : xSf LM NM 0 10 8 (.inl (some 6)) := ⟨by decide, _, rfl, rfl⟩
theorem sf_M_9 : xSf LM NM 0 10 9 (.inl (some 7)) := ⟨by decide, _, rfl, rfl⟩
theorem sf_M_10 : xSf LM NM 0 10 10 (.inl (some 8)) := ⟨by decide, _, rfl, rfl⟩
theorem sf_M_11 : xSf LM NM 0 10 11 (.inl (some 9)) := ⟨by decide, _, rfl, rfl⟩
theorem sf_M_12 : xSf LM NM 0 10 12 (.inr 0) := ⟨by decide, _, rfl, rfl⟩
theorem sf_M_13 : xSf LM NM 0 10 13 (.inl (some 10)) := ⟨by decide, _, rfl, rfl⟩
theorem sf_M_14 : xSf LM NM 0 10 14 (.inl (some 11)) := ⟨by decide, _, rfl, rfl⟩
theorem sf_M_15 : xSf LM NM 0 10 15 (.inl (some 12)) := ⟨by decide, _, rfl, rfl⟩
theorem sf_M_16 : xSf LM NM 0 10 16 (.inl (some 13)) := ⟨by decide, _, rfl, rfl⟩
theorem sf_M_17 : xSf LM NM 0 10 17 (.inl (some 14)) := ⟨by decide, _, rfl, rfl⟩
theorem sf_M_18 : xSf LM NM 0 10 18 (.inr 0) := ⟨by decide, _, rfl, rfl⟩
theorem sf_M_19 : xSf LM NM 0 10 19 (.inl (some 15)) := ⟨by decide, _, rfl, rfl⟩
theorem sf_M_20 : xSf LM NM 0 10 20 (.inl (some 16)) := ⟨by decide, _, rfl, rfl⟩
theorem sf_M_21 : xSf LM NM 0 10 21 (.inr 0) := ⟨by decide, _, rfl, rfl⟩
theorem sf_M_22 : xSf LM NM 0 10 22 (.inr 0) := ⟨by decide, _, rfl, rfl⟩
theorem sf_M_23 : xSf LM NM 0 10 23 (.inr 0) := ⟨by decide, _, rfl, rfl⟩
theorem sf_M_24 : xSf LM NM 0 10 24 (.inr 0) := ⟨by decide, _, rfl, rfl⟩
theorem sf_M_25 : xSf LM NM 0 10 25 (.inr 0) := ⟨by decide, _, rfl, rfl⟩
theorem sf_M_26 : xSf LM NM 0 10 26 (.inr 0) := ⟨by decide, _, rfl, rfl⟩
theorem sf_M_27 : xSf LM NM 0 10 27 (.inr 0) := ⟨by decide, _, rfl, rfl⟩
theorem sf_M_28 : xSf LM NM 0 10 28 (.inr 0) := ⟨by decide, _, rfl, rfl⟩
theorem sf_M_29 : xSf LM NM 0 10 29 (.inl (some 17)) := ⟨by decide, _, rfl, rfl⟩
theorem sf_M_30 : xSf LM NM 0 10 30 (.inl (some 18)) := ⟨by decide, _, rfl, rfl⟩
theorem sf_M_31 : xSf LM NM 0 10 31 (.inl (some 19)) := ⟨by decide, _, rfl, rfl⟩
theorem sf_M_32 : xSf LM NM 0 10 32 (.inl (some 20)) := ⟨by decide, _, rfl, rfl⟩
theorem sf_M_33 : xSf LM NM 0 10 33 (.inl (some 21)) := ⟨by decide, _, rfl, rfl⟩
theorem sf_M_34 : xSf LM NM 0 10 34 (.inl (some 22)) := ⟨by decide, _, rfl, rfl⟩
theorem sf_M_35 : xSf LM NM 0 10 35 (.inl (some 23)) := ⟨by decide, _, rfl, rfl⟩
theorem sf_M_36 : xSf LM NM 0 10 36 (.inl (some 24)) := ⟨by decide, _, rfl, rfl⟩
theorem sf_M_37 : xSf LM NM 0 10 37 (.inr 0) := ⟨by decide, _, rfl, rfl⟩
theorem sf_M_38 : xSf LM NM 0 10 38 (.inr 0) := ⟨by decide, _, rfl, rfl⟩
theorem sf_M_39 : xSf LM NM 0 10 39 (.inr 0) := ⟨by decide, _, rfl, rfl⟩
theorem sf_M_40 : xSf LM NM 0 10 40 (.inr 0) := ⟨by decide, _, rfl, rfl⟩
theorem sf_M_41 : xSf LM NM 0 10 41 (.inr 0) := ⟨by decide, _, rfl, rfl⟩
theorem sf_M_42 : xSf LM NM 0 10 42 (.inr 0) := ⟨by decide, _, rfl, rfl⟩
theorem sf_M_43 : xSf LM NM 0 10 43 (.inl (some 25)) := ⟨by decide, _, rfl, rfl⟩
theorem sf_M_44 : xSf LM NM 0 10 44 (.inr 0) := ⟨by decide, _, rfl, rfl⟩
theorem sf_M_45 : xSf LM NM 0 10 45 (.inr 0) := ⟨by decide, _, rfl, rfl⟩
theorem sf_M_46 : xSf LM NM 0 10 46 (.inr 0) := ⟨by decide, _, rfl, rfl⟩
theorem sf_M_47 : xSf LM NM 0 10 47 (.inr 0) := ⟨by decide, _, rfl, rfl⟩
theorem sf_M_48 : xSf LM NM 0 10 48 (.inr 0) := ⟨by decide, _, rfl, rfl⟩
theorem sf_M_49 : xSf LM NM 0 10 49 (.inr 0) := ⟨by decide, _, rfl, rfl⟩
theorem sf_M_50 : xSf LM NM 0 10 50 (.inr 0) := ⟨by decide, _, rfl, rfl⟩
theorem sf_M_51 : xSf LM NM 0 10 51 (.inl (some 26)) := ⟨by decide, _, rfl, rfl⟩
theorem sf_M_52 : xSf LM NM 0 10 52 (.inl (some 27)) := ⟨by decide, _, rfl, rfl⟩
theorem sf_M_53 : xSf LM NM 0 10 53 (.inr 0) := ⟨by decide, _, rfl, rfl⟩
theorem sf_M_54 : xSf LM NM 0 10 54 (.inr 0) := ⟨by decide, _, rfl, rfl⟩
theorem sf_M_55 : xSf LM NM 0 10 55 (.inr 0) := ⟨by decide, _, rfl, rfl⟩
theorem sf_M_56 : xSf LM NM 0 10 56 (.inl (some 28)) := ⟨by decide, _, rfl, rfl⟩
theorem sf_M_57 : xSf LM NM 0 10 57 (.inl (some 29)) := ⟨by decide, _, rfl, rfl⟩
theorem sf_M_58 : xSf LM NM 0 10 58 (.inl (some 30)) := ⟨by decide, _, rfl, rfl⟩
theorem sf_M_59 : xSf LM NM 0 10 59 (.inl (some 31)) := ⟨by decide, _, rfl, rfl⟩
theorem sf_M_60 : xSf LM NM 0 10 60 (.inr 1) := ⟨by decide, _, rfl, rfl⟩
theorem sf_M_61 : xSf LM NM 0 10 61 (.inl (some 32)) := ⟨by decide, _, rfl, rfl⟩
theorem sf_M_62 : xSf LM NM 0 10 62 (.inr 1) := ⟨by decide, _, rfl, rfl⟩
theorem sf_M_63 : xSf LM NM 0 10 63 (.inl (some 33)) := ⟨by decide, _, rfl, rfl⟩
theorem sf_M_64 : xSf LM NM 0 10 64 (.inl (some 34)) := ⟨by decide, _, rfl, rfl⟩
theorem sf_M_65 : xSf LM NM 0 10 65 (.inl (some 35)) := ⟨by decide, _, rfl, rfl⟩
theorem sf_M_66 : xSf LM NM 0 10 66 (.inl (some 36)) := ⟨by decide, _, rfl, rfl⟩
theorem sf_M_67 : xSf LM NM 0 10 67 (.inl (some 37)) := ⟨by decide, _, rfl, rfl⟩
theorem so_M : xSo LM NM 0 "BetweenStopsModel" := ⟨by decide, _, _, _, _, rfl, rfl⟩
theorem sr_m_height : xSr LM NM 1 0 41 := ⟨by decide, _, rfl⟩
theorem sr_m_sorts : xSr LM NM 2 0 18 := ⟨by decide, _, rfl⟩
theorem sr_m_kind : xSr LM NM 3 0 8 := ⟨by decide, _, rfl⟩
theorem sr_m_cellOf : xSr LM NM 4 0 8 := ⟨by decide, _, rfl⟩
theorem sr_m_takes : xSr LM NM 5 0 8 := ⟨by decide, _, rfl⟩
theorem sr_m_more : xSr LM NM 6 0 8 := ⟨by decide, _, rfl⟩
theorem sr_m_open : xSr LM NM 7 0 8 := ⟨by decide, _, rfl⟩
theorem sr_m_wanted : xSr LM NM 8 0 8 := ⟨by decide, _, rfl⟩
theorem sr_m_pattern : xSr LM NM 9 0 8 := ⟨by decide, _, rfl⟩
theorem sr_m_tripFrom : xSr LM NM 10 0 8 := ⟨by decide, _, rfl⟩
theorem sr_m_tripTo : xSr LM NM 11 0 8 := ⟨by decide, _, rfl⟩
theorem sr_m_tripMany : xSr LM NM 12 0 8 := ⟨by decide, _, rfl⟩
theorem sr_m_tripSort : xSr LM NM 13 0 8 := ⟨by decide, _, rfl⟩
theorem sr_m_tape : xSr LM NM 14 0 160 := ⟨by decide, _, rfl⟩
theorem sr_m_codes : xSr LM NM 15 0 1200 := ⟨by decide, _, rfl⟩
theorem sr_m_starts : xSr LM NM 16 0 24 := ⟨by decide, _, rfl⟩
theorem sr_m_imageHeight : xSr LM NM 17 0 41 := ⟨by decide, _, rfl⟩
theorem sr_m_imageSorts : xSr LM NM 18 0 18 := ⟨by decide, _, rfl⟩
theorem sr_m_imageOpen : xSr LM NM 19 0 8 := ⟨by decide, _, rfl⟩
theorem sr_m_imageWanted : xSr LM NM 20 0 8 := ⟨by decide, _, rfl⟩
theorem sr_m_imagePattern : xSr LM NM 21 0 8 := ⟨by decide, _, rfl⟩
theorem sr_m_sheetSort : xSr LM NM 22 0 4 := ⟨by decide, _, rfl⟩
theorem sr_m_sheetSize : xSr LM NM 23 0 4 := ⟨by decide, _, rfl⟩
theorem sr_m_cells : xSr LM NM 24 0 164 := ⟨by decide, _, rfl⟩
theorem sr_m_costOf : xSr LM NM 25 0 8 := ⟨by decide, _, rfl⟩
theorem sr_m_words : xSr LM NM 26 1 12 := ⟨by decide, _, rfl⟩
theorem sr_m_held : xSr LM NM 27 0 200 := ⟨by decide, _, rfl⟩
theorem sr_m_stack : xSr LM NM 28 0 200 := ⟨by decide, _, rfl⟩
theorem sr_m_named : xSr LM NM 29 0 6 := ⟨by decide, _, rfl⟩
theorem sr_m_keptOpen : xSr LM NM 30 0 8 := ⟨by decide, _, rfl⟩
theorem sr_m_nowCost : xSr LM NM 31 0 8 := ⟨by decide, _, rfl⟩
theorem sr_m_keptPattern : xSr LM NM 32 0 8 := ⟨by decide, _, rfl⟩
theorem sr_m_behind : xSr LM NM 33 0 21 := ⟨by decide, _, rfl⟩
theorem sr_m_asking : xSr LM NM 34 0 8 := ⟨by decide, _, rfl⟩
theorem sr_m_left : xSr LM NM 35 1 8 := ⟨by decide, _, rfl⟩
theorem sr_m_uses : xSr LM NM 36 0 8 := ⟨by decide, _, rfl⟩
theorem sr_m_ends : xSr LM NM 37 1 12 := ⟨by decide, _, rfl⟩
