/-! SIMULATION: the class on its cells, the reference on its own, side by side -/
/-- depends on the class's cells of the one and on the reference's cells of the other alone -/
def hq_Loc (Rel : hq_S → hq_S → Prop) : Prop := ∀ sx sx' sm sm', hq_fm sx sx' → hq_fx sm sm' → Rel sx sm → Rel sx' sm'
def hq_Sim {α : Type} (Rel : hq_S → hq_S → Prop) (fX fM : hq_S → Option (α × hq_S)) : Prop := ∀ sx sm, Rel sx sm → ∃ v sx' sm', fX sx = some (v, sx') ∧ fM sm = some (v, sm') ∧ Rel sx' sm'
theorem hq_sim_op {α : Type} {Rel : hq_S → hq_S → Prop} (hloc : hq_Loc Rel) {fX fM : hq_S → Option (α × hq_S)} (frX : ∀ s y, fX s = some y → hq_fx s y.2) (frM : ∀ s y, fM s = some y → hq_fm s y.2) (hs : hq_Sim Rel fX fM) {s : hq_S} (h : Rel s s) : ∃ v s1 s2, fX s = some (v, s1) ∧ fM s1 = some (v, s2) ∧ Rel s2 s2 := by
  obtain ⟨v, s1, sm', h1, -, -⟩ := hs s s h
  have f1 : hq_fx s s1 := frX _ _ h1
  obtain ⟨v', s1', s2, h2, h3, h4⟩ := hs s s1 (hloc s s s s1 (hq_fm_rf s) f1 h)
  rw [h1] at h2
  cases h2
  have f2 : hq_fm s1 s2 := frM _ _ h3
  exact ⟨v, s1, s2, h1, h3, hloc s1 s2 s2 s2 f2 (hq_fx_rf s2) h4⟩
theorem hq_op_0 {Rel : hq_S → hq_S → Prop} {N : Nat} (hloc : hq_Loc Rel) (hs : ∀ a1 a2 a3 a4 a5 : Int32, hq_Sim Rel (f_X11_feed N a1 a2 a3 a4 a5) (f_X12_feed N a1 a2 a3 a4 a5)) : hq_OpL (fun s => Rel s s) 0 := by
  intro xs d i s g G o5 o6 hd hi hl hI hK
  obtain ⟨v, s1, s2, h1, h2, h3⟩ := hq_sim_op hloc (fun _ _ => f_X11_feed_fr) (fun _ _ => f_X12_feed_fr) (hs (xs.getD (i + 1) 0) (xs.getD (i + 2) 0) (xs.getD (i + 3) 0) (xs.getD (i + 4) 0) (xs.getD (i + 5) 0)) hI
  obtain ⟨h', g', h4, h5⟩ := hK s2 g o5 o6 h3 (by omega)
  exact ⟨h', g', lw_op_0 hd hi hl h1 h2 h4, h5⟩
theorem hq_op_1 {Rel : hq_S → hq_S → Prop} {N : Nat} (hloc : hq_Loc Rel) (hs : ∀ a1 : Int32, hq_Sim Rel (f_X11_text N a1) (f_X12_text N a1)) : hq_OpL (fun s => Rel s s) 1 := by
  intro xs d i s g G o5 o6 hd hi hl hI hK
  obtain ⟨v, s1, s2, h1, h2, h3⟩ := hq_sim_op hloc (fun _ _ => f_X11_text_fr) (fun _ _ => f_X12_text_fr) (hs (xs.getD (i + 1) 0)) hI
  obtain ⟨h', g', h4, h5⟩ := hK s2 g o5 o6 h3 (by omega)
  exact ⟨h', g', lw_op_1 hd hi hl h1 h2 h4, h5⟩
theorem hq_op_2 {Rel : hq_S → hq_S → Prop} {N : Nat} (hloc : hq_Loc Rel) (hs : ∀ a1 : Int32, hq_Sim Rel (f_X11_fault N a1) (f_X12_fault N a1)) : hq_OpL (fun s => Rel s s) 2 := by
  intro xs d i s g G o5 o6 hd hi hl hI hK
  obtain ⟨v, s1, s2, h1, h2, h3⟩ := hq_sim_op hloc (fun _ _ => f_X11_fault_fr) (fun _ _ => f_X12_fault_fr) (hs (xs.getD (i + 1) 0)) hI
  obtain ⟨h', g', h4, h5⟩ := hK s2 g o5 o6 h3 (by omega)
  exact ⟨h', g', lw_op_2 hd hi hl h1 h2 h4, h5⟩
theorem hq_op_3 {Rel : hq_S → hq_S → Prop} {N : Nat} (hloc : hq_Loc Rel) (hs : ∀ a1 a2 : Int32, hq_Sim Rel (f_X11_named N a1 a2) (f_X12_named N a1 a2)) : hq_OpL (fun s => Rel s s) 3 := by
  intro xs d i s g G o5 o6 hd hi hl hI hK
  obtain ⟨v, s1, s2, h1, h2, h3⟩ := hq_sim_op hloc (fun _ _ => f_X11_named_fr) (fun _ _ => f_X12_named_fr) (hs (xs.getD (i + 1) 0) (xs.getD (i + 2) 0)) hI
  obtain ⟨h', g', h4, h5⟩ := hK s2 g o5 o6 h3 (by omega)
  exact ⟨h', g', lw_op_3 hd hi hl h1 h2 h4, h5⟩
theorem hq_op_5 {Rel : hq_S → hq_S → Prop} {N : Nat} (hloc : hq_Loc Rel) (hs : ∀ a1 a2 : Int32, hq_Sim Rel (f_X11_guard N a1 a2) (f_X12_guard N a1 a2)) : hq_OpL (fun s => Rel s s) 5 := by
  intro xs d i s g G o5 o6 hd hi hl hI hK
  obtain ⟨v, s1, s2, h1, h2, h3⟩ := hq_sim_op hloc (fun _ _ => f_X11_guard_fr) (fun _ _ => f_X12_guard_fr) (hs (xs.getD (i + 1) 0) (xs.getD (i + 2) 0)) hI
  obtain ⟨h', g', h4, h5⟩ := hK s2 g o5 o6 h3 (by omega)
  exact ⟨h', g', lw_op_5 hd hi hl h1 h2 h4, h5⟩
theorem hq_op_6 {Rel : hq_S → hq_S → Prop} {N : Nat} (hloc : hq_Loc Rel) (hs : ∀ a1 a2 : Int32, hq_Sim Rel (f_X11_thief N a1 a2) (f_X12_thief N a1 a2)) : hq_OpL (fun s => Rel s s) 6 := by
  intro xs d i s g G o5 o6 hd hi hl hI hK
  obtain ⟨v, s1, s2, h1, h2, h3⟩ := hq_sim_op hloc (fun _ _ => f_X11_thief_fr) (fun _ _ => f_X12_thief_fr) (hs (xs.getD (i + 1) 0) (xs.getD (i + 2) 0)) hI
  obtain ⟨h', g', h4, h5⟩ := hK s2 g o5 o6 h3 (by omega)
  exact ⟨h', g', lw_op_6 hd hi hl h1 h2 h4, h5⟩
theorem hq_op_7 {Rel : hq_S → hq_S → Prop} {N : Nat} (hloc : hq_Loc Rel) (hs : ∀ a1 a2 : Int32, hq_Sim Rel (f_X11_lane N a1 a2) (f_X12_lane N a1 a2)) : hq_OpL (fun s => Rel s s) 7 := by
  intro xs d i s g G o5 o6 hd hi hl hI hK
  obtain ⟨v, s1, s2, h1, h2, h3⟩ := hq_sim_op hloc (fun _ _ => f_X11_lane_fr) (fun _ _ => f_X12_lane_fr) (hs (xs.getD (i + 1) 0) (xs.getD (i + 2) 0)) hI
  obtain ⟨h', g', h4, h5⟩ := hK s2 g o5 o6 h3 (by omega)
  exact ⟨h', g', lw_op_7 hd hi hl h1 h2 h4, h5⟩
theorem hq_op_8 {Rel : hq_S → hq_S → Prop} {N : Nat} (hloc : hq_Loc Rel) (hs : ∀ a1 a2 a3 : Int32, hq_Sim Rel (f_X11_law N a1 a2 a3) (f_X12_law N a1 a2 a3)) : hq_OpL (fun s => Rel s s) 8 := by
  intro xs d i s g G o5 o6 hd hi hl hI hK
  obtain ⟨v, s1, s2, h1, h2, h3⟩ := hq_sim_op hloc (fun _ _ => f_X11_law_fr) (fun _ _ => f_X12_law_fr) (hs (xs.getD (i + 1) 0) (xs.getD (i + 2) 0) (xs.getD (i + 3) 0)) hI
  obtain ⟨h', g', h4, h5⟩ := hK s2 g o5 o6 h3 (by omega)
  exact ⟨h', g', lw_op_8 hd hi hl h1 h2 h4, h5⟩
theorem hq_op_9 {Rel : hq_S → hq_S → Prop} {N : Nat} (hloc : hq_Loc Rel) (hs : ∀ a1 a2 : Int32, hq_Sim Rel (f_X11_send N a1 a2) (f_X12_send N a1 a2)) : hq_OpL (fun s => Rel s s) 9 := by
  intro xs d i s g G o5 o6 hd hi hl hI hK
  obtain ⟨v, s1, s2, h1, h2, h3⟩ := hq_sim_op hloc (fun _ _ => f_X11_send_fr) (fun _ _ => f_X12_send_fr) (hs (xs.getD (i + 1) 0) (xs.getD (i + 2) 0)) hI
  obtain ⟨h', g', h4, h5⟩ := hK s2 g o5 o6 h3 (by omega)
  exact ⟨h', g', lw_op_9 hd hi hl h1 h2 h4, h5⟩
theorem hq_op_10 {Rel : hq_S → hq_S → Prop} {N : Nat} (hloc : hq_Loc Rel) (hs : ∀ a1 : Int32, hq_Sim Rel (f_X11_bar N a1) (f_X12_bar N a1)) : hq_OpL (fun s => Rel s s) 10 := by
  intro xs d i s g G o5 o6 hd hi hl hI hK
  obtain ⟨v, s1, s2, h1, h2, h3⟩ := hq_sim_op hloc (fun _ _ => f_X11_bar_fr) (fun _ _ => f_X12_bar_fr) (hs (xs.getD (i + 1) 0)) hI
  obtain ⟨h', g', h4, h5⟩ := hK s2 g o5 o6 h3 (by omega)
  exact ⟨h', g', lw_op_10 hd hi hl h1 h2 h4, h5⟩
theorem hq_op_11 {Rel : hq_S → hq_S → Prop} {N : Nat} (hloc : hq_Loc Rel) (hs : ∀ a1 a2 : Int32, hq_Sim Rel (f_X11_drop N a1 a2) (f_X12_drop N a1 a2)) : hq_OpL (fun s => Rel s s) 11 := by
  intro xs d i s g G o5 o6 hd hi hl hI hK
  obtain ⟨v, s1, s2, h1, h2, h3⟩ := hq_sim_op hloc (fun _ _ => f_X11_drop_fr) (fun _ _ => f_X12_drop_fr) (hs (xs.getD (i + 1) 0) (xs.getD (i + 2) 0)) hI
  obtain ⟨h', g', h4, h5⟩ := hK s2 g o5 o6 h3 (by omega)
  exact ⟨h', g', lw_op_11 hd hi hl h1 h2 h4, h5⟩
theorem hq_op_12 {Rel : hq_S → hq_S → Prop} {N : Nat} (hloc : hq_Loc Rel) (hs : ∀ a1 : Int32, hq_Sim Rel (f_X11_go N a1) (f_X12_go N a1)) : hq_OpL (fun s => Rel s s) 12 := by
  intro xs d i s g G o5 o6 hd hi hl hI hK
  obtain ⟨v, s1, s2, h1, h2, h3⟩ := hq_sim_op hloc (fun _ _ => f_X11_go_fr) (fun _ _ => f_X12_go_fr) (hs (xs.getD (i + 1) 0)) hI
  obtain ⟨h', g', h4, h5⟩ := hK s2 g o5 o6 h3 (by omega)
  exact ⟨h', g', lw_op_12 hd hi hl h1 h2 h4, h5⟩
theorem hq_op_13 {Rel : hq_S → hq_S → Prop} {N : Nat} (hloc : hq_Loc Rel) (hs : ∀ a1 a2 a3 : Int32, hq_Sim Rel (f_X11_ahead N a1 a2 a3) (f_X12_ahead N a1 a2 a3)) : hq_OpL (fun s => Rel s s) 13 := by
  intro xs d i s g G o5 o6 hd hi hl hI hK
  obtain ⟨v, s1, s2, h1, h2, h3⟩ := hq_sim_op hloc (fun _ _ => f_X11_ahead_fr) (fun _ _ => f_X12_ahead_fr) (hs (xs.getD (i + 1) 0) (xs.getD (i + 2) 0) (xs.getD (i + 3) 0)) hI
  obtain ⟨h', g', h4, h5⟩ := hK s2 g o5 o6 h3 (by omega)
  exact ⟨h', g', lw_op_13 hd hi hl h1 h2 h4, h5⟩
theorem hq_op_14 {Rel : hq_S → hq_S → Prop} {N : Nat} (hloc : hq_Loc Rel) (hs : ∀ a1 : Int32, hq_Sim Rel (f_X11_caught N a1) (f_X12_caught N a1)) : hq_OpL (fun s => Rel s s) 14 := by
  intro xs d i s g G o5 o6 hd hi hl hI hK
  obtain ⟨v, s1, s2, h1, h2, h3⟩ := hq_sim_op hloc (fun _ _ => f_X11_caught_fr) (fun _ _ => f_X12_caught_fr) (hs (xs.getD (i + 1) 0)) hI
  obtain ⟨h', g', h4, h5⟩ := hK s2 g o5 o6 h3 (by omega)
  exact ⟨h', g', lw_op_14 hd hi hl h1 h2 h4, h5⟩
theorem hq_op_15 {Rel : hq_S → hq_S → Prop} {N : Nat} (hloc : hq_Loc Rel) (hs : ∀ a1 a2 : Int32, hq_Sim Rel (f_X11_far N a1 a2) (f_X12_far N a1 a2)) : hq_OpL (fun s => Rel s s) 15 := by
  intro xs d i s g G o5 o6 hd hi hl hI hK
  obtain ⟨v, s1, s2, h1, h2, h3⟩ := hq_sim_op hloc (fun _ _ => f_X11_far_fr) (fun _ _ => f_X12_far_fr) (hs (xs.getD (i + 1) 0) (xs.getD (i + 2) 0)) hI
  obtain ⟨h', g', h4, h5⟩ := hK s2 g o5 o6 h3 (by omega)
  exact ⟨h', g', lw_op_15 hd hi hl h1 h2 h4, h5⟩
theorem hq_op_16 {Rel : hq_S → hq_S → Prop} {N : Nat} (hloc : hq_Loc Rel) (hs : ∀ a1 a2 a3 : Int32, hq_Sim Rel (f_X11_way N a1 a2 a3) (f_X12_way N a1 a2 a3)) : hq_OpL (fun s => Rel s s) 16 := by
  intro xs d i s g G o5 o6 hd hi hl hI hK
  obtain ⟨v, s1, s2, h1, h2, h3⟩ := hq_sim_op hloc (fun _ _ => f_X11_way_fr) (fun _ _ => f_X12_way_fr) (hs (xs.getD (i + 1) 0) (xs.getD (i + 2) 0) (xs.getD (i + 3) 0)) hI
  obtain ⟨h', g', h4, h5⟩ := hK s2 g o5 o6 h3 (by omega)
  exact ⟨h', g', lw_op_16 hd hi hl h1 h2 h4, h5⟩
theorem hq_op_17 {Rel : hq_S → hq_S → Prop} {N : Nat} (hloc : hq_Loc Rel) (hs : ∀ a1 : Int32, hq_Sim Rel (f_X11_reach N a1) (f_X12_reach N a1)) : hq_OpL (fun s => Rel s s) 17 := by
  intro xs d i s g G o5 o6 hd hi hl hI hK
  obtain ⟨v, s1, s2, h1, h2, h3⟩ := hq_sim_op hloc (fun _ _ => f_X11_reach_fr) (fun _ _ => f_X12_reach_fr) (hs (xs.getD (i + 1) 0)) hI
  obtain ⟨h', g', h4, h5⟩ := hK s2 g o5 o6 h3 (by omega)
  exact ⟨h', g', lw_op_17 hd hi hl h1 h2 h4, h5⟩
theorem hq_op_18 {Rel : hq_S → hq_S → Prop} {N : Nat} (hloc : hq_Loc Rel) (hs : hq_Sim Rel (f_X11_parts N) (f_X12_parts N)) : hq_OpL (fun s => Rel s s) 18 := by
  intro xs d i s g G o5 o6 hd hi hl hI hK
  obtain ⟨v, s1, s2, h1, h2, h3⟩ := hq_sim_op hloc (fun _ _ => f_X11_parts_fr) (fun _ _ => f_X12_parts_fr) (hs) hI
  obtain ⟨h', g', h4, h5⟩ := hK s2 g o5 o6 h3 (by omega)
  exact ⟨h', g', lw_op_18 hd hi hl h1 h2 h4, h5⟩
theorem hq_op_19 {Rel : hq_S → hq_S → Prop} {N : Nat} (hloc : hq_Loc Rel) (hs : ∀ a1 a2 : Int32, hq_Sim Rel (f_X11_chase N a1 a2) (f_X12_chase N a1 a2)) : hq_OpL (fun s => Rel s s) 19 := by
  intro xs d i s g G o5 o6 hd hi hl hI hK
  obtain ⟨v, s1, s2, h1, h2, h3⟩ := hq_sim_op hloc (fun _ _ => f_X11_chase_fr) (fun _ _ => f_X12_chase_fr) (hs (xs.getD (i + 1) 0) (xs.getD (i + 2) 0)) hI
  obtain ⟨h', g', h4, h5⟩ := hK s2 g o5 o6 h3 (by omega)
  exact ⟨h', g', lw_op_19 hd hi hl h1 h2 h4, h5⟩
theorem hq_op_20 {Rel : hq_S → hq_S → Prop} {N : Nat} (hloc : hq_Loc Rel) (hs : ∀ a1 a2 a3 : Int32, hq_Sim Rel (f_X11_firstGo N a1 a2 a3) (f_X12_firstGo N a1 a2 a3)) : hq_OpL (fun s => Rel s s) 20 := by
  intro xs d i s g G o5 o6 hd hi hl hI hK
  obtain ⟨v, s1, s2, h1, h2, h3⟩ := hq_sim_op hloc (fun _ _ => f_X11_firstGo_fr) (fun _ _ => f_X12_firstGo_fr) (hs (xs.getD (i + 1) 0) (xs.getD (i + 2) 0) (xs.getD (i + 3) 0)) hI
  obtain ⟨h', g', h4, h5⟩ := hK s2 g o5 o6 h3 (by omega)
  exact ⟨h', g', lw_op_20 hd hi hl h1 h2 h4, h5⟩
theorem hq_op_21 {Rel : hq_S → hq_S → Prop} {N : Nat} (hloc : hq_Loc Rel) (hs : ∀ a1 a2 : Int32, hq_Sim Rel (f_X11_flee N a1 a2) (f_X12_flee N a1 a2)) : hq_OpL (fun s => Rel s s) 21 := by
  intro xs d i s g G o5 o6 hd hi hl hI hK
  obtain ⟨v, s1, s2, h1, h2, h3⟩ := hq_sim_op hloc (fun _ _ => f_X11_flee_fr) (fun _ _ => f_X12_flee_fr) (hs (xs.getD (i + 1) 0) (xs.getD (i + 2) 0)) hI
  obtain ⟨h', g', h4, h5⟩ := hK s2 g o5 o6 h3 (by omega)
  exact ⟨h', g', lw_op_21 hd hi hl h1 h2 h4, h5⟩
theorem hq_op_22 {Rel : hq_S → hq_S → Prop} {N : Nat} (hloc : hq_Loc Rel) (hs : hq_Sim Rel (f_X11_takers N) (f_X12_takers N)) : hq_OpL (fun s => Rel s s) 22 := by
  intro xs d i s g G o5 o6 hd hi hl hI hK
  obtain ⟨v, s1, s2, h1, h2, h3⟩ := hq_sim_op hloc (fun _ _ => f_X11_takers_fr) (fun _ _ => f_X12_takers_fr) (hs) hI
  obtain ⟨h', g', h4, h5⟩ := hK s2 g o5 o6 h3 (by omega)
  exact ⟨h', g', lw_op_22 hd hi hl h1 h2 h4, h5⟩
theorem hq_op_23 {Rel : hq_S → hq_S → Prop} {N : Nat} (hloc : hq_Loc Rel) (hs : ∀ a1 : Int32, hq_Sim Rel (f_X11_post N a1) (f_X12_post N a1)) : hq_OpL (fun s => Rel s s) 23 := by
  intro xs d i s g G o5 o6 hd hi hl hI hK
  obtain ⟨v, s1, s2, h1, h2, h3⟩ := hq_sim_op hloc (fun _ _ => f_X11_post_fr) (fun _ _ => f_X12_post_fr) (hs (xs.getD (i + 1) 0)) hI
  obtain ⟨h', g', h4, h5⟩ := hK s2 g o5 o6 h3 (by omega)
  exact ⟨h', g', lw_op_23 hd hi hl h1 h2 h4, h5⟩
theorem hq_op_24 {Rel : hq_S → hq_S → Prop} {N : Nat} (hloc : hq_Loc Rel) (hs : ∀ a1 : Int32, hq_Sim Rel (f_X11_sweep N a1) (f_X12_sweep N a1)) : hq_OpL (fun s => Rel s s) 24 := by
  intro xs d i s g G o5 o6 hd hi hl hI hK
  obtain ⟨v, s1, s2, h1, h2, h3⟩ := hq_sim_op hloc (fun _ _ => f_X11_sweep_fr) (fun _ _ => f_X12_sweep_fr) (hs (xs.getD (i + 1) 0)) hI
  obtain ⟨h', g', h4, h5⟩ := hK s2 g o5 o6 h3 (by omega)
  exact ⟨h', g', lw_op_24 hd hi hl h1 h2 h4, h5⟩
theorem hq_op_25 {Rel : hq_S → hq_S → Prop} {N : Nat} (hloc : hq_Loc Rel) (hs : ∀ a1 : Int32, hq_Sim Rel (f_X11_look N a1) (f_X12_look N a1)) : hq_OpL (fun s => Rel s s) 25 := by
  intro xs d i s g G o5 o6 hd hi hl hI hK
  obtain ⟨v, s1, s2, h1, h2, h3⟩ := hq_sim_op hloc (fun _ _ => f_X11_look_fr) (fun _ _ => f_X12_look_fr) (hs (xs.getD (i + 1) 0)) hI
  obtain ⟨h', g', h4, h5⟩ := hK s2 g o5 o6 h3 (by omega)
  exact ⟨h', g', lw_op_25 hd hi hl h1 h2 h4, h5⟩
theorem hq_op_26 {Rel : hq_S → hq_S → Prop} {N : Nat} (hloc : hq_Loc Rel) (hs : hq_Sim Rel (f_X11_dark N) (f_X12_dark N)) : hq_OpL (fun s => Rel s s) 26 := by
  intro xs d i s g G o5 o6 hd hi hl hI hK
  obtain ⟨v, s1, s2, h1, h2, h3⟩ := hq_sim_op hloc (fun _ _ => f_X11_dark_fr) (fun _ _ => f_X12_dark_fr) (hs) hI
  obtain ⟨h', g', h4, h5⟩ := hK s2 g o5 o6 h3 (by omega)
  exact ⟨h', g', lw_op_26 hd hi hl h1 h2 h4, h5⟩
theorem hq_op_27 {Rel : hq_S → hq_S → Prop} {N : Nat} (hloc : hq_Loc Rel) (hs : ∀ a1 a2 : Int32, hq_Sim Rel (f_X11_could N a1 a2) (f_X12_could N a1 a2)) : hq_OpL (fun s => Rel s s) 27 := by
  intro xs d i s g G o5 o6 hd hi hl hI hK
  obtain ⟨v, s1, s2, h1, h2, h3⟩ := hq_sim_op hloc (fun _ _ => f_X11_could_fr) (fun _ _ => f_X12_could_fr) (hs (xs.getD (i + 1) 0) (xs.getD (i + 2) 0)) hI
  obtain ⟨h', g', h4, h5⟩ := hK s2 g o5 o6 h3 (by omega)
  exact ⟨h', g', lw_op_27 hd hi hl h1 h2 h4, h5⟩
theorem hq_op_28 {Rel : hq_S → hq_S → Prop} {N : Nat} (hloc : hq_Loc Rel) (hs : ∀ a1 : Int32, hq_Sim Rel (f_X11_unseen N a1) (f_X12_unseen N a1)) : hq_OpL (fun s => Rel s s) 28 := by
  intro xs d i s g G o5 o6 hd hi hl hI hK
  obtain ⟨v, s1, s2, h1, h2, h3⟩ := hq_sim_op hloc (fun _ _ => f_X11_unseen_fr) (fun _ _ => f_X12_unseen_fr) (hs (xs.getD (i + 1) 0)) hI
  obtain ⟨h', g', h4, h5⟩ := hK s2 g o5 o6 h3 (by omega)
  exact ⟨h', g', lw_op_28 hd hi hl h1 h2 h4, h5⟩
theorem hq_op_29 {Rel : hq_S → hq_S → Prop} {N : Nat} (hloc : hq_Loc Rel) (hs : ∀ a1 : Int32, hq_Sim Rel (f_X11_round N a1) (f_X12_round N a1)) : hq_OpL (fun s => Rel s s) 29 := by
  intro xs d i s g G o5 o6 hd hi hl hI hK
  obtain ⟨v, s1, s2, h1, h2, h3⟩ := hq_sim_op hloc (fun _ _ => f_X11_round_fr) (fun _ _ => f_X12_round_fr) (hs (xs.getD (i + 1) 0)) hI
  obtain ⟨h', g', h4, h5⟩ := hK s2 g o5 o6 h3 (by omega)
  exact ⟨h', g', lw_op_29 hd hi hl h1 h2 h4, h5⟩
theorem hq_op_30 {Rel : hq_S → hq_S → Prop} {N : Nat} (hloc : hq_Loc Rel) (hs : ∀ a1 a2 : Int32, hq_Sim Rel (f_X11_wall N a1 a2) (f_X12_wall N a1 a2)) : hq_OpL (fun s => Rel s s) 30 := by
  intro xs d i s g G o5 o6 hd hi hl hI hK
  obtain ⟨v, s1, s2, h1, h2, h3⟩ := hq_sim_op hloc (fun _ _ => f_X11_wall_fr) (fun _ _ => f_X12_wall_fr) (hs (xs.getD (i + 1) 0) (xs.getD (i + 2) 0)) hI
  obtain ⟨h', g', h4, h5⟩ := hK s2 g o5 o6 h3 (by omega)
  exact ⟨h', g', lw_op_30 hd hi hl h1 h2 h4, h5⟩
theorem hq_op_31 {Rel : hq_S → hq_S → Prop} {N : Nat} (hloc : hq_Loc Rel) (hs : ∀ a1 a2 a3 a4 : Int32, hq_Sim Rel (f_X11_drunk N a1 a2 a3 a4) (f_X12_drunk N a1 a2 a3 a4)) : hq_OpL (fun s => Rel s s) 31 := by
  intro xs d i s g G o5 o6 hd hi hl hI hK
  obtain ⟨v, s1, s2, h1, h2, h3⟩ := hq_sim_op hloc (fun _ _ => f_X11_drunk_fr) (fun _ _ => f_X12_drunk_fr) (hs (xs.getD (i + 1) 0) (xs.getD (i + 2) 0) (xs.getD (i + 3) 0) (xs.getD (i + 4) 0)) hI
  obtain ⟨h', g', h4, h5⟩ := hK s2 g o5 o6 h3 (by omega)
  exact ⟨h', g', lw_op_31 hd hi hl h1 h2 h4, h5⟩
theorem hq_op_32 {Rel : hq_S → hq_S → Prop} {N : Nat} (hloc : hq_Loc Rel) (hs : ∀ a1 : Int32, hq_Sim Rel (f_X11_match N a1) (f_X12_match N a1)) : hq_OpL (fun s => Rel s s) 32 := by
  intro xs d i s g G o5 o6 hd hi hl hI hK
  obtain ⟨v, s1, s2, h1, h2, h3⟩ := hq_sim_op hloc (fun _ _ => f_X11_match_fr) (fun _ _ => f_X12_match_fr) (hs (xs.getD (i + 1) 0)) hI
  obtain ⟨h', g', h4, h5⟩ := hK s2 g o5 o6 h3 (by omega)
  exact ⟨h', g', lw_op_32 hd hi hl h1 h2 h4, h5⟩
theorem hq_op_33 {Rel : hq_S → hq_S → Prop} {N : Nat} (hloc : hq_Loc Rel) (hs : ∀ a1 a2 : Int32, hq_Sim Rel (f_X11_rests N a1 a2) (f_X12_rests N a1 a2)) : hq_OpL (fun s => Rel s s) 33 := by
  intro xs d i s g G o5 o6 hd hi hl hI hK
  obtain ⟨v, s1, s2, h1, h2, h3⟩ := hq_sim_op hloc (fun _ _ => f_X11_rests_fr) (fun _ _ => f_X12_rests_fr) (hs (xs.getD (i + 1) 0) (xs.getD (i + 2) 0)) hI
  obtain ⟨h', g', h4, h5⟩ := hK s2 g o5 o6 h3 (by omega)
  exact ⟨h', g', lw_op_33 hd hi hl h1 h2 h4, h5⟩
theorem hq_op_34 {Rel : hq_S → hq_S → Prop} {N : Nat} (hloc : hq_Loc Rel) (hs : ∀ a1 a2 a3 : Int32, hq_Sim Rel (f_X11_rest N a1 a2 a3) (f_X12_rest N a1 a2 a3)) : hq_OpL (fun s => Rel s s) 34 := by
  intro xs d i s g G o5 o6 hd hi hl hI hK
  obtain ⟨v, s1, s2, h1, h2, h3⟩ := hq_sim_op hloc (fun _ _ => f_X11_rest_fr) (fun _ _ => f_X12_rest_fr) (hs (xs.getD (i + 1) 0) (xs.getD (i + 2) 0) (xs.getD (i + 3) 0)) hI
  obtain ⟨h', g', h4, h5⟩ := hK s2 g o5 o6 h3 (by omega)
  exact ⟨h', g', lw_op_34 hd hi hl h1 h2 h4, h5⟩
theorem hq_op_35 {Rel : hq_S → hq_S → Prop} {N : Nat} (hloc : hq_Loc Rel) (hs : ∀ a1 a2 : Int32, hq_Sim Rel (f_X11_holds N a1 a2) (f_X12_holds N a1 a2)) : hq_OpL (fun s => Rel s s) 35 := by
  intro xs d i s g G o5 o6 hd hi hl hI hK
  obtain ⟨v, s1, s2, h1, h2, h3⟩ := hq_sim_op hloc (fun _ _ => f_X11_holds_fr) (fun _ _ => f_X12_holds_fr) (hs (xs.getD (i + 1) 0) (xs.getD (i + 2) 0)) hI
  obtain ⟨h', g', h4, h5⟩ := hK s2 g o5 o6 h3 (by omega)
  exact ⟨h', g', lw_op_35 hd hi hl h1 h2 h4, h5⟩
theorem hq_op_36 {Rel : hq_S → hq_S → Prop} {N : Nat} (hloc : hq_Loc Rel) (hs : ∀ a1 a2 a3 a4 : Int32, (a4 = 0 ∨ a4 = 1) → hq_Sim Rel (f_X11_see N a1 a2 a3 a4) (f_X12_see N a1 a2 a3 a4)) : hq_OpL (fun s => Rel s s) 36 := by
  intro xs d i s g G o5 o6 hd hi hl hI hK
  obtain ⟨v, s1, s2, h1, h2, h3⟩ := hq_sim_op hloc (fun _ _ => f_X11_see_fr) (fun _ _ => f_X12_see_fr) (hs (xs.getD (i + 1) 0) (xs.getD (i + 2) 0) (xs.getD (i + 3) 0) (if xs.getD (i + 4) 0 = 0 then 0 else 1) (by split <;> simp)) hI
  obtain ⟨h', g', h4, h5⟩ := hK s2 g o5 o6 h3 (by omega)
  exact ⟨h', g', lw_op_36 hd hi hl rfl h1 h2 h4, h5⟩
theorem hq_op_37 {Rel : hq_S → hq_S → Prop} {N : Nat} (hloc : hq_Loc Rel) (hs : ∀ a1 : Int32, hq_Sim Rel (f_X11_strike N a1) (f_X12_strike N a1)) : hq_OpL (fun s => Rel s s) 37 := by
  intro xs d i s g G o5 o6 hd hi hl hI hK
  obtain ⟨v, s1, s2, h1, h2, h3⟩ := hq_sim_op hloc (fun _ _ => f_X11_strike_fr) (fun _ _ => f_X12_strike_fr) (hs (xs.getD (i + 1) 0)) hI
  obtain ⟨h', g', h4, h5⟩ := hK s2 g o5 o6 h3 (by omega)
  exact ⟨h', g', lw_op_37 hd hi hl h1 h2 h4, h5⟩
theorem hq_op_38 {Rel : hq_S → hq_S → Prop} {N : Nat} (hloc : hq_Loc Rel) (hs : ∀ a1 : Int32, hq_Sim Rel (f_X11_known N a1) (f_X12_known N a1)) : hq_OpL (fun s => Rel s s) 38 := by
  intro xs d i s g G o5 o6 hd hi hl hI hK
  obtain ⟨v, s1, s2, h1, h2, h3⟩ := hq_sim_op hloc (fun _ _ => f_X11_known_fr) (fun _ _ => f_X12_known_fr) (hs (xs.getD (i + 1) 0)) hI
  obtain ⟨h', g', h4, h5⟩ := hK s2 g o5 o6 h3 (by omega)
  exact ⟨h', g', lw_op_38 hd hi hl h1 h2 h4, h5⟩
theorem hq_op_39 {Rel : hq_S → hq_S → Prop} {N : Nat} (hloc : hq_Loc Rel) (hs : ∀ a1 : Int32, hq_Sim Rel (f_X11_bolds N a1) (f_X12_bolds N a1)) : hq_OpL (fun s => Rel s s) 39 := by
  intro xs d i s g G o5 o6 hd hi hl hI hK
  obtain ⟨v, s1, s2, h1, h2, h3⟩ := hq_sim_op hloc (fun _ _ => f_X11_bolds_fr) (fun _ _ => f_X12_bolds_fr) (hs (xs.getD (i + 1) 0)) hI
  obtain ⟨h', g', h4, h5⟩ := hK s2 g o5 o6 h3 (by omega)
  exact ⟨h', g', lw_op_39 hd hi hl h1 h2 h4, h5⟩
theorem hq_op_40 {Rel : hq_S → hq_S → Prop} {N : Nat} (hloc : hq_Loc Rel) (hs : ∀ a1 a2 : Int32, hq_Sim Rel (f_X11_ask N a1 a2) (f_X12_ask N a1 a2)) : hq_OpL (fun s => Rel s s) 40 := by
  intro xs d i s g G o5 o6 hd hi hl hI hK
  obtain ⟨v, s1, s2, h1, h2, h3⟩ := hq_sim_op hloc (fun _ _ => f_X11_ask_fr) (fun _ _ => f_X12_ask_fr) (hs (xs.getD (i + 1) 0) (xs.getD (i + 2) 0)) hI
  obtain ⟨h', g', h4, h5⟩ := hK s2 g o5 o6 h3 (by omega)
  exact ⟨h', g', lw_op_40 hd hi hl h1 h2 h4, h5⟩
theorem hq_op_41 {Rel : hq_S → hq_S → Prop} {N : Nat} (hloc : hq_Loc Rel) (hs : ∀ a1 a2 a3 : Int32, hq_Sim Rel (f_X11_chance N a1 a2 a3) (f_X12_chance N a1 a2 a3)) : hq_OpL (fun s => Rel s s) 41 := by
  intro xs d i s g G o5 o6 hd hi hl hI hK
  obtain ⟨v, s1, s2, h1, h2, h3⟩ := hq_sim_op hloc (fun _ _ => f_X11_chance_fr) (fun _ _ => f_X12_chance_fr) (hs (xs.getD (i + 1) 0) (xs.getD (i + 2) 0) (xs.getD (i + 3) 0)) hI
  obtain ⟨h', g', h4, h5⟩ := hK s2 g o5 o6 h3 (by omega)
  exact ⟨h', g', lw_op_41 hd hi hl h1 h2 h4, h5⟩
theorem hq_op_42 {Rel : hq_S → hq_S → Prop} {N : Nat} (hloc : hq_Loc Rel) (hs : ∀ a1 a2 a3 : Int32, hq_Sim Rel (f_X11_tried N a1 a2 a3) (f_X12_tried N a1 a2 a3)) : hq_OpL (fun s => Rel s s) 42 := by
  intro xs d i s g G o5 o6 hd hi hl hI hK
  obtain ⟨v, s1, s2, h1, h2, h3⟩ := hq_sim_op hloc (fun _ _ => f_X11_tried_fr) (fun _ _ => f_X12_tried_fr) (hs (xs.getD (i + 1) 0) (xs.getD (i + 2) 0) (xs.getD (i + 3) 0)) hI
  obtain ⟨h', g', h4, h5⟩ := hK s2 g o5 o6 h3 (by omega)
  exact ⟨h', g', lw_op_42 hd hi hl h1 h2 h4, h5⟩
theorem hq_op_43 {Rel : hq_S → hq_S → Prop} {N : Nat} (hloc : hq_Loc Rel) (hs : hq_Sim Rel (f_X11_undo N) (f_X12_undo N)) : hq_OpL (fun s => Rel s s) 43 := by
  intro xs d i s g G o5 o6 hd hi hl hI hK
  obtain ⟨v, s1, s2, h1, h2, h3⟩ := hq_sim_op hloc (fun _ _ => f_X11_undo_fr) (fun _ _ => f_X12_undo_fr) (hs) hI
  obtain ⟨h', g', h4, h5⟩ := hK s2 g o5 o6 h3 (by omega)
  exact ⟨h', g', lw_op_43 hd hi hl h1 h2 h4, h5⟩
theorem hq_op_44 {Rel : hq_S → hq_S → Prop} {N : Nat} (hloc : hq_Loc Rel) (hs : hq_Sim Rel (f_X11_keep N) (f_X12_keep N)) : hq_OpL (fun s => Rel s s) 44 := by
  intro xs d i s g G o5 o6 hd hi hl hI hK
  obtain ⟨v, s1, s2, h1, h2, h3⟩ := hq_sim_op hloc (fun _ _ => f_X11_keep_fr) (fun _ _ => f_X12_keep_fr) (hs) hI
  obtain ⟨h', g', h4, h5⟩ := hK s2 g o5 o6 h3 (by omega)
  exact ⟨h', g', lw_op_44 hd hi hl h1 h2 h4, h5⟩
theorem hq_op_45 {Rel : hq_S → hq_S → Prop} {N : Nat} (hloc : hq_Loc Rel) (hs : hq_Sim Rel (f_X11_back N) (f_X12_back N)) : hq_OpL (fun s => Rel s s) 45 := by
  intro xs d i s g G o5 o6 hd hi hl hI hK
  obtain ⟨v, s1, s2, h1, h2, h3⟩ := hq_sim_op hloc (fun _ _ => f_X11_back_fr) (fun _ _ => f_X12_back_fr) (hs) hI
  obtain ⟨h', g', h4, h5⟩ := hK s2 g o5 o6 h3 (by omega)
  exact ⟨h', g', lw_op_45 hd hi hl h1 h2 h4, h5⟩
theorem hq_op_46 {Rel : hq_S → hq_S → Prop} {N : Nat} (hloc : hq_Loc Rel) (hs : ∀ a1 : Int32, hq_Sim Rel (f_X11_count N a1) (f_X12_count N a1)) : hq_OpL (fun s => Rel s s) 46 := by
  intro xs d i s g G o5 o6 hd hi hl hI hK
  obtain ⟨v, s1, s2, h1, h2, h3⟩ := hq_sim_op hloc (fun _ _ => f_X11_count_fr) (fun _ _ => f_X12_count_fr) (hs (xs.getD (i + 1) 0)) hI
  obtain ⟨h', g', h4, h5⟩ := hK s2 g o5 o6 h3 (by omega)
  exact ⟨h', g', lw_op_46 hd hi hl h1 h2 h4, h5⟩
