theorem ws_less {G : xG} {B : xB} {nL : Nat} {σ : xM} {lv : List (Nat × Value)} {pc : Nat} {st : List Value} {lv2 : List (Nat × Value)} (ks : List Nat) (h : lv_pick lv ks = lv2) (k : xWS G B nL σ lv2 pc st) : xWS G B nL σ lv pc st :=
  fun H locs ls hP hS hl => k H locs ls hP hS (lv_sub hl ks h)
