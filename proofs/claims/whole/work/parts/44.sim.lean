def xs_road (RR : xM → xM → Prop) : Prop := ∀ σ τ : xM, RR σ τ → ∀ (a0 : Int32) (a1 : Int32), ∃ r σ2 τ2, fX9_road a0 a1 σ = some (r, σ2) ∧ fX10_road a0 a1 τ = some (r, τ2) ∧ RR σ2 τ2
def xs_sort (RR : xM → xM → Prop) : Prop := ∀ σ τ : xM, RR σ τ → ∀ (a0 : Int32) (a1 : Int32) (a2 : Int32), ∃ r σ2 τ2, fX9_sort a0 a1 a2 σ = some (r, σ2) ∧ fX10_sort a0 a1 a2 τ = some (r, τ2) ∧ RR σ2 τ2
def xs_car (RR : xM → xM → Prop) : Prop := ∀ σ τ : xM, RR σ τ → ∀ (a0 : Int32) (a1 : Int32), ∃ r σ2 τ2, fX9_car a0 a1 σ = some (r, σ2) ∧ fX10_car a0 a1 τ = some (r, τ2) ∧ RR σ2 τ2
def xs_walks (RR : xM → xM → Prop) : Prop := ∀ σ τ : xM, RR σ τ → ∀ (a0 : Int32) (a1 : Int32) (a2 : Int32), ∃ r σ2 τ2, fX9_walks a0 a1 a2 σ = some (r, σ2) ∧ fX10_walks a0 a1 a2 τ = some (r, τ2) ∧ RR σ2 τ2
def xs_stop (RR : xM → xM → Prop) : Prop := ∀ σ τ : xM, RR σ τ → ∀ (a0 : Int32) (a1 : Int32) (a2 : Int32) (a3 : Int32), ∃ r σ2 τ2, fX9_stop a0 a1 a2 a3 σ = some (r, σ2) ∧ fX10_stop a0 a1 a2 a3 τ = some (r, τ2) ∧ RR σ2 τ2
def xs_open (RR : xM → xM → Prop) : Prop := ∀ σ τ : xM, RR σ τ → ∀ (a0 : Int32) (a1 : Int32), ∃ r σ2 τ2, fX9_open a0 a1 σ = some (r, σ2) ∧ fX10_open a0 a1 τ = some (r, τ2) ∧ RR σ2 τ2
def xs_want (RR : xM → xM → Prop) : Prop := ∀ σ τ : xM, RR σ τ → ∀ (a0 : Int32) (a1 : Int32), ∃ r σ2 τ2, fX9_want a0 a1 σ = some (r, σ2) ∧ fX10_want a0 a1 τ = some (r, τ2) ∧ RR σ2 τ2
def xs_turns (RR : xM → xM → Prop) : Prop := ∀ σ τ : xM, RR σ τ → ∀ (a0 : Int32) (a1 : Int32), ∃ r σ2 τ2, fX9_turns a0 a1 σ = some (r, σ2) ∧ fX10_turns a0 a1 τ = some (r, τ2) ∧ RR σ2 τ2
def xs_told (RR : xM → xM → Prop) : Prop := ∀ σ τ : xM, RR σ τ → ∀ (a0 : Int32) (a1 : Int32), ∃ r σ2 τ2, fX9_told a0 a1 σ = some (r, σ2) ∧ fX10_told a0 a1 τ = some (r, τ2) ∧ RR σ2 τ2
def xs_trip (RR : xM → xM → Prop) : Prop := ∀ σ τ : xM, RR σ τ → ∀ (a0 : Int32) (a1 : Int32) (a2 : Int32) (a3 : Int32), ∃ r σ2 τ2, fX9_trip a0 a1 a2 a3 σ = some (r, σ2) ∧ fX10_trip a0 a1 a2 a3 τ = some (r, τ2) ∧ RR σ2 τ2
def xs_count (RR : xM → xM → Prop) : Prop := ∀ σ τ : xM, RR σ τ → ∀ (a0 : Int32), ∃ r σ2 τ2, fX9_count a0 σ = some (r, σ2) ∧ fX10_count a0 τ = some (r, τ2) ∧ RR σ2 τ2
def xs_takes (RR : xM → xM → Prop) : Prop := ∀ σ τ : xM, RR σ τ → ∀ (a0 : Int32) (a1 : Int32), ∃ r σ2 τ2, fX9_takes a0 a1 σ = some (r, σ2) ∧ fX10_takes a0 a1 τ = some (r, τ2) ∧ RR σ2 τ2
def xs_sum (RR : xM → xM → Prop) : Prop := ∀ σ τ : xM, RR σ τ → ∀ (a0 : Int32), ∃ r σ2 τ2, fX9_sum a0 σ = some (r, σ2) ∧ fX10_sum a0 τ = some (r, τ2) ∧ RR σ2 τ2
def xs_use (RR : xM → xM → Prop) : Prop := ∀ σ τ : xM, RR σ τ → ∀ (a0 : Int32), ∃ r σ2 τ2, fX9_use a0 σ = some (r, σ2) ∧ fX10_use a0 τ = some (r, τ2) ∧ RR σ2 τ2
def xs_feed (RR : xM → xM → Prop) : Prop := ∀ σ τ : xM, RR σ τ → ∀ (a0 : Int64) (a1 : Int32), ∃ r σ2 τ2, fX9_feed a0 a1 σ = some (r, σ2) ∧ fX10_feed a0 a1 τ = some (r, τ2) ∧ RR σ2 τ2
def xs_text (RR : xM → xM → Prop) : Prop := ∀ σ τ : xM, RR σ τ → ∃ r σ2 τ2, fX9_text σ = some (r, σ2) ∧ fX10_text τ = some (r, τ2) ∧ RR σ2 τ2
def xs_force (RR : xM → xM → Prop) : Prop := ∀ σ τ : xM, RR σ τ → ∀ (a0 : Int32), ∃ r σ2 τ2, fX9_force a0 σ = some (r, σ2) ∧ fX10_force a0 τ = some (r, τ2) ∧ RR σ2 τ2
def xs_best (RR : xM → xM → Prop) : Prop := ∀ σ τ : xM, RR σ τ → ∀ (a0 : Int32), ∃ r σ2 τ2, fX9_best a0 σ = some (r, σ2) ∧ fX10_best a0 τ = some (r, τ2) ∧ RR σ2 τ2
def xs_bound (RR : xM → xM → Prop) : Prop := ∀ σ τ : xM, RR σ τ → ∀ (a0 : Int32), ∃ r σ2 τ2, fX9_bound a0 σ = some (r, σ2) ∧ fX10_bound a0 τ = some (r, τ2) ∧ RR σ2 τ2
def xs_least (RR : xM → xM → Prop) : Prop := ∀ σ τ : xM, RR σ τ → ∀ (a0 : Int32), ∃ r σ2 τ2, fX9_least a0 σ = some (r, σ2) ∧ fX10_least a0 τ = some (r, τ2) ∧ RR σ2 τ2
def xs_fair (RR : xM → xM → Prop) : Prop := ∀ σ τ : xM, RR σ τ → ∃ r σ2 τ2, fX9_fair σ = some (r, σ2) ∧ fX10_fair τ = some (r, τ2) ∧ RR σ2 τ2
def xs_fewest (RR : xM → xM → Prop) : Prop := ∀ σ τ : xM, RR σ τ → ∀ (a0 : Int32), ∃ r σ2 τ2, fX9_fewest a0 σ = some (r, σ2) ∧ fX10_fewest a0 τ = some (r, τ2) ∧ RR σ2 τ2
def xs_judge (RR : xM → xM → Prop) : Prop := ∀ σ τ : xM, RR σ τ → ∀ (a0 : Int32), ∃ r σ2 τ2, fX9_judge a0 σ = some (r, σ2) ∧ fX10_judge a0 τ = some (r, τ2) ∧ RR σ2 τ2
def xs_patterns (RR : xM → xM → Prop) : Prop := ∀ σ τ : xM, RR σ τ → ∀ (a0 : Int32), ∃ r σ2 τ2, fX9_patterns a0 σ = some (r, σ2) ∧ fX10_patterns a0 τ = some (r, τ2) ∧ RR σ2 τ2
def xs_bench (RR : xM → xM → Prop) : Prop := ∀ σ τ : xM, RR σ τ → ∀ (a0 : Int32) (a1 : Int32), ∃ r σ2 τ2, fX9_bench a0 a1 σ = some (r, σ2) ∧ fX10_bench a0 a1 τ = some (r, τ2) ∧ RR σ2 τ2
def xs_give (RR : xM → xM → Prop) : Prop := ∀ σ τ : xM, RR σ τ → ∃ r σ2 τ2, fX9_give σ = some (r, σ2) ∧ fX10_give τ = some (r, τ2) ∧ RR σ2 τ2
def xs_order (RR : xM → xM → Prop) : Prop := ∀ σ τ : xM, RR σ τ → ∀ (a0 : Int32), ∃ r σ2 τ2, fX9_order a0 σ = some (r, σ2) ∧ fX10_order a0 τ = some (r, τ2) ∧ RR σ2 τ2
def xs_thins (RR : xM → xM → Prop) : Prop := ∀ σ τ : xM, RR σ τ → ∃ r σ2 τ2, fX9_thins σ = some (r, σ2) ∧ fX10_thins τ = some (r, τ2) ∧ RR σ2 τ2
def xs_across (RR : xM → xM → Prop) : Prop := ∀ σ τ : xM, RR σ τ → ∀ (a0 : Int32), ∃ r σ2 τ2, fX9_across a0 σ = some (r, σ2) ∧ fX10_across a0 τ = some (r, τ2) ∧ RR σ2 τ2
def xs_homes (RR : xM → xM → Prop) : Prop := ∀ σ τ : xM, RR σ τ → ∃ r σ2 τ2, fX9_homes σ = some (r, σ2) ∧ fX10_homes τ = some (r, τ2) ∧ RR σ2 τ2
def xs_round (RR : xM → xM → Prop) : Prop := ∀ σ τ : xM, RR σ τ → ∀ (a0 : Int32), ∃ r σ2 τ2, fX9_round a0 σ = some (r, σ2) ∧ fX10_round a0 τ = some (r, τ2) ∧ RR σ2 τ2
def xs_rest (RR : xM → xM → Prop) : Prop := ∀ σ τ : xM, RR σ τ → ∀ (a0 : Int32), ∃ r σ2 τ2, fX9_rest a0 σ = some (r, σ2) ∧ fX10_rest a0 τ = some (r, τ2) ∧ RR σ2 τ2
def xs_asks (RR : xM → xM → Prop) : Prop := ∀ σ τ : xM, RR σ τ → ∀ (a0 : Int32), ∃ r σ2 τ2, fX9_asks a0 σ = some (r, σ2) ∧ fX10_asks a0 τ = some (r, τ2) ∧ RR σ2 τ2
def xs_asked (RR : xM → xM → Prop) : Prop := ∀ σ τ : xM, RR σ τ → ∃ r σ2 τ2, fX9_asked σ = some (r, σ2) ∧ fX10_asked τ = some (r, τ2) ∧ RR σ2 τ2
def xs_bunch (RR : xM → xM → Prop) : Prop := ∀ σ τ : xM, RR σ τ → ∀ (a0 : Int32) (a1 : Int32), ∃ r σ2 τ2, fX9_bunch a0 a1 σ = some (r, σ2) ∧ fX10_bunch a0 a1 τ = some (r, τ2) ∧ RR σ2 τ2
def xs_crowd (RR : xM → xM → Prop) : Prop := ∀ σ τ : xM, RR σ τ → ∀ (a0 : Int32) (a1 : Int32), ∃ r σ2 τ2, fX9_crowd a0 a1 σ = some (r, σ2) ∧ fX10_crowd a0 a1 τ = some (r, τ2) ∧ RR σ2 τ2
def xs_drawn (RR : xM → xM → Prop) : Prop := ∀ σ τ : xM, RR σ τ → ∀ (a0 : Int32) (a1 : Int32), ∃ r σ2 τ2, fX9_drawn a0 a1 σ = some (r, σ2) ∧ fX10_drawn a0 a1 τ = some (r, τ2) ∧ RR σ2 τ2
def xs_image (RR : xM → xM → Prop) : Prop := ∀ σ τ : xM, RR σ τ → ∃ r σ2 τ2, fX9_image σ = some (r, σ2) ∧ fX10_image τ = some (r, τ2) ∧ RR σ2 τ2
def xs_back (RR : xM → xM → Prop) : Prop := ∀ σ τ : xM, RR σ τ → ∃ r σ2 τ2, fX9_back σ = some (r, σ2) ∧ fX10_back τ = some (r, τ2) ∧ RR σ2 τ2
def xs_sheet (RR : xM → xM → Prop) : Prop := ∀ σ τ : xM, RR σ τ → ∀ (a0 : Int32) (a1 : Int32) (a2 : Int32), ∃ r σ2 τ2, fX9_sheet a0 a1 a2 σ = some (r, σ2) ∧ fX10_sheet a0 a1 a2 τ = some (r, τ2) ∧ RR σ2 τ2
def xs_cell (RR : xM → xM → Prop) : Prop := ∀ σ τ : xM, RR σ τ → ∀ (a0 : Int32) (a1 : Int32) (a2 : Int32), ∃ r σ2 τ2, fX9_cell a0 a1 a2 σ = some (r, σ2) ∧ fX10_cell a0 a1 a2 τ = some (r, τ2) ∧ RR σ2 τ2
def xs_copy (RR : xM → xM → Prop) : Prop := ∀ σ τ : xM, RR σ τ → ∀ (a0 : Int32) (a1 : Int32) (a2 : Int32) (a3 : Int32) (a4 : Int32), ∃ r σ2 τ2, fX9_copy a0 a1 a2 a3 a4 σ = some (r, σ2) ∧ fX10_copy a0 a1 a2 a3 a4 τ = some (r, τ2) ∧ RR σ2 τ2
def xs_tripsBy (RR : xM → xM → Prop) : Prop := ∀ σ τ : xM, RR σ τ → ∀ (a0 : Int32) (a1 : Int32) (a2 : Int32) (a3 : Int32), ∃ r σ2 τ2, fX9_tripsBy a0 a1 a2 a3 σ = some (r, σ2) ∧ fX10_tripsBy a0 a1 a2 a3 τ = some (r, τ2) ∧ RR σ2 τ2
def xs_taken (RR : xM → xM → Prop) : Prop := ∀ σ τ : xM, RR σ τ → ∀ (a0 : Int32) (a1 : Int32), ∃ r σ2 τ2, fX9_taken a0 a1 σ = some (r, σ2) ∧ fX10_taken a0 a1 τ = some (r, τ2) ∧ RR σ2 τ2
def xSim (RR : xM → xM → Prop) : Prop := xs_road RR ∧ xs_sort RR ∧ xs_car RR ∧ xs_walks RR ∧ xs_stop RR ∧ xs_open RR ∧ xs_want RR ∧ xs_turns RR ∧ xs_told RR ∧ xs_trip RR ∧ xs_count RR ∧ xs_takes RR ∧ xs_sum RR ∧ xs_use RR ∧ xs_feed RR ∧ xs_text RR ∧ xs_force RR ∧ xs_best RR ∧ xs_bound RR ∧ xs_least RR ∧ xs_fair RR ∧ xs_fewest RR ∧ xs_judge RR ∧ xs_patterns RR ∧ xs_bench RR ∧ xs_give RR ∧ xs_order RR ∧ xs_thins RR ∧ xs_across RR ∧ xs_homes RR ∧ xs_round RR ∧ xs_rest RR ∧ xs_asks RR ∧ xs_asked RR ∧ xs_bunch RR ∧ xs_crowd RR ∧ xs_drawn RR ∧ xs_image RR ∧ xs_back RR ∧ xs_sheet RR ∧ xs_cell RR ∧ xs_copy RR ∧ xs_tripsBy RR ∧ xs_taken RR
