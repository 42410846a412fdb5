/-! ORACLES: what passMany and goesOn do on an empty town -/
theorem fx_succ_toInt {z : Int32} (h1 : 0 ≤ z.toInt) (h2 : z.toInt < 2147483647) : (z + 1).toInt = z.toInt + 1 := by
  rw [Int32.toInt_add]
  simp only [Int.bmod, show (1 : Int32).toInt = 1 from rfl]
  omega
theorem fx_loop {P : Nat → Option mm_Meth} {O : mm_Old} {N : mm_Meth} {v0 : Value} {nn : Int32} {H : Int32 → mm_Heap} {g d : Nat} {R : mm_Res × mm_Heap × Nat} (h0 : 0 ≤ nn.toInt)
    (hstep : ∀ z : Int32, 0 ≤ z.toInt → z.toInt < nn.toInt → ∀ m, mm_run P O m d N 2 [some v0, some (.int nn), some (.int (z + 1))] [] (H (z + 1)) g = some R → ∃ m', mm_run P O m' d N 2 [some v0, some (.int nn), some (.int z)] [] (H z) g = some R)
    (hend : ∃ m, mm_run P O m d N 2 [some v0, some (.int nn), some (.int nn)] [] (H nn) g = some R) : ∃ m, mm_run P O m d N 2 [some v0, some (.int nn), some (.int 0)] [] (H 0) g = some R := by
  have key : ∀ (j : Nat) (z : Int32), z.toInt = nn.toInt - j → 0 ≤ z.toInt → ∃ m, mm_run P O m d N 2 [some v0, some (.int nn), some (.int z)] [] (H z) g = some R := by
    intro j
    induction j with
    | zero =>
      intro z hz _
      have : z = nn := Int32.toInt_inj.mp (by omega)
      rw [this]
      exact hend
    | succ j ih =>
      intro z hz h1
      have hl := Int32.toInt_lt nn
      obtain ⟨m, hm⟩ := ih (z + 1) (by rw [fx_succ_toInt h1 (by omega)]; omega) (by rw [fx_succ_toInt h1 (by omega)]; omega)
      exact hstep z h1 (by omega) m hm
  exact key nn.toInt.toNat 0 (by rw [show (0 : Int32).toInt = 0 from rfl]; omega) (by rw [show (0 : Int32).toInt = 0 from rfl]; omega)
theorem fx_cmp_ge {x y : Int32} (h : x.toInt < y.toInt) : mm_cmp .ge x y = false := by
  show decide (y ≤ x) = false
  refine decide_eq_false fun q => ?_
  have := Int32.le_iff_toInt_le.mp q
  omega
theorem fx_cmp_ge' (x : Int32) : mm_cmp .ge x x = true := by
  show decide (x ≤ x) = true
  exact decide_eq_true (Int32.le_refl x)
def fb_pm (q : Nat) : fx_Env → List fx_V → fx_U → Nat → fx_K → Bool := fun E args U g K => match args with
  | [.inl (.ref k), n] => match fx_iv E n, fx_getf fb_L U (.inl (.ref q)) 5 0 with
    | some iv, some (.inl (.int z)) => decide (z = 0) && (decide (0 ≤ iv.1) && (decide (iv.2 ≤ 200) && (fx_rcv fb_L (.inl (.ref k)) 3 && (fx_inc mm_P fb_L E mc_X3_pass [.inl (.ref k)] U g q 0 && K E none (((q, 0), n) :: U) g))))
    | _, _ => false
  | _ => false
theorem fb_pm_run {O : mm_Old} {k g : Nat} {nn : Int32} {H : Int32 → mm_Heap} (h0 : 0 ≤ nn.toInt) (hr : ∀ z, mm_rcv O (H z) (.ref k) 3 = true)
    (hc : ∀ z : Int32, 0 ≤ z.toInt → z.toInt < nn.toInt → ∃ n, mm_run mm_P O n 25 mc_X3_pass 0 (mm_entry (mm_maxL mc_X3_pass) [.ref k]) [] (H z) g = some (none, H (z + 1), g)) :
    ∃ m, mm_run mm_P O m 30 mc_X3_passMany 0 (mm_entry 3 [.ref k, .int nn]) [] (H 0) g = some (none, H nn, g) := by
  obtain ⟨m, hm⟩ := fx_loop (P := mm_P) (O := O) (N := mc_X3_passMany) (v0 := .ref k) (nn := nn) (H := H) (g := g) (d := 30) (R := (none, H nn, g)) h0 (fun z z1 z2 m hm => by
    obtain ⟨n, hn⟩ := hc z z1 z2
    have w1 : n ≤ max n (m + 2) := Nat.le_max_left _ _
    have w2 : m + 2 ≤ max n (m + 2) := Nat.le_max_right _ _
    generalize max n (m + 2) = w at w1 w2
    refine ⟨w + 5, ?_⟩
    rw [mm_run_succ]
    show mm_run mm_P O (w + 4) 30 mc_X3_passMany 3 [some (.ref k), some (.int nn), some (.int z)] [.int z] (H z) g = _
    rw [mm_run_succ]
    show mm_run mm_P O (w + 3) 30 mc_X3_passMany 4 [some (.ref k), some (.int nn), some (.int z)] [.int nn, .int z] (H z) g = _
    rw [mm_run_succ]
    show (bif mm_cmp .ge z nn then mm_run mm_P O (w + 2) 30 mc_X3_passMany 17 [some (.ref k), some (.int nn), some (.int z)] [] (H z) g else mm_run mm_P O (w + 2) 30 mc_X3_passMany 7 [some (.ref k), some (.int nn), some (.int z)] [] (H z) g) = _
    rw [fx_cmp_ge z2, cond_false]
    rw [mm_run_succ]
    show mm_run mm_P O (w + 1) 30 mc_X3_passMany 8 [some (.ref k), some (.int nn), some (.int z)] [.ref k] (H z) g = _
    rw [mm_run_succ]
    show (bif true && (true && (true && mm_rcv O (H z) (.ref k) 3)) then (match mm_run mm_P O w 29 mc_X3_pass 0 (mm_entry (mm_maxL mc_X3_pass) [.ref k]) [] (H z) g with
      | some (v, h', g') => (match mm_val v with
        | some vs => mm_run mm_P O w 30 mc_X3_passMany 11 [some (.ref k), some (.int nn), some (.int z)] (vs ++ []) h' g'
        | none => none)
      | none => none) else none) = _
    rw [hr z, mm_run_ge w1 (by decide : 25 ≤ 29) hn]
    show mm_run mm_P O w 30 mc_X3_passMany 11 [some (.ref k), some (.int nn), some (.int z)] [] (H (z + 1)) g = _
    refine mm_run_ge w2 (Nat.le_refl _) ?_
    rw [mm_run_succ]
    show mm_run mm_P O (m + 1) 30 mc_X3_passMany 14 [some (.ref k), some (.int nn), some (.int (z + 1))] [] (H (z + 1)) g = _
    rw [mm_run_succ]
    exact hm) ⟨4, by
    rw [mm_run_succ]
    show mm_run mm_P O 3 30 mc_X3_passMany 3 [some (.ref k), some (.int nn), some (.int nn)] [.int nn] (H nn) g = _
    rw [mm_run_succ]
    show mm_run mm_P O 2 30 mc_X3_passMany 4 [some (.ref k), some (.int nn), some (.int nn)] [.int nn, .int nn] (H nn) g = _
    rw [mm_run_succ]
    show (bif mm_cmp .ge nn nn then mm_run mm_P O 1 30 mc_X3_passMany 17 [some (.ref k), some (.int nn), some (.int nn)] [] (H nn) g else mm_run mm_P O 1 30 mc_X3_passMany 7 [some (.ref k), some (.int nn), some (.int nn)] [] (H nn) g) = _
    rw [fx_cmp_ge']
    rfl⟩
  refine ⟨m + 2, ?_⟩
  rw [mm_run_succ]
  show mm_run mm_P O (m + 1) 30 mc_X3_passMany 1 [some (.ref k), some (.int nn), none] [.int 0] (H 0) g = _
  rw [mm_run_succ]
  exact hm
theorem fb_pm_ok {xs : List Int32} (hxs : xs.length = 6) {SS : List (List Int32) × List (List Nat)} {q : Nat} {E : fx_Env} {args : List fx_V} {U : fx_U} {g : Nat} {K : fx_K} {p : Nat → Int32} (h : fb_pm q E args U g K = true) (hp : fx_ok xs E p) :
    fx_Res mm_P (0 :: xs, SS) fb_B xs E p 30 mc_X3_passMany 0 (mm_entry (mm_maxL mc_X3_passMany) (fx_evs p args)) [] (fx_evh fb_B p U) g K := by
  unfold fb_pm at h
  split at h
  · next k n =>
    split at h
    · next iv z hiv hcur =>
      simp only [Bool.and_eq_true, decide_eq_true_eq] at h
      obtain ⟨hz, i1, i2, hrcv, hinc, hK⟩ := h
      subst hz
      obtain ⟨nn, hn, n1, n2⟩ := fx_iv_spec hp hiv
      have hput : fx_put (fx_evh fb_B p U) q 0 (.int 0) = fx_evh fb_B p U := mm_getf_put (O := (0 :: xs, SS)) (fx_getf_spec (O := (0 :: xs, SS)) (p := p) fb_okL hcur)
      obtain ⟨m, hm⟩ := fb_pm_run (O := (0 :: xs, SS)) (k := k) (g := g) (nn := nn) (H := fun z => fx_put (fx_evh fb_B p U) q 0 (.int z)) (by omega) (fun z => mm_rcv_put (fx_rcv_spec (O := (0 :: xs, SS)) (U := U) (p := p) fb_okL hrcv)) (fun z z1 z2 => fx_inc_spec fb_okL hxs hp hinc z z1 (by omega))
      refine ⟨E, p, none, ((q, 0), n) :: U, g, m, fx_Means.rf hp, hK, ?_⟩
      have e1 : fx_evs p [.inl (.ref k), n] = [.ref k, .int nn] := by
        show [Value.ref k, fx_ev p n] = _
        rw [hn]
      rw [e1]
      have e2 : fx_evh fb_B p (((q, 0), n) :: U) = fx_put (fx_evh fb_B p U) q 0 (.int nn) := by
        show fx_put (fx_evh fb_B p U) q 0 (fx_ev p n) = _
        rw [hn]
      rw [e2]
      rw [hput] at hm
      exact hm
    · cases h
  · cases h
def fb_gs (q : Nat) : fx_Env → List fx_V → fx_U → Nat → fx_K → Bool := fun E args U g K => match args with
  | [.inl (.ref k), n] => match fx_iv E n, fx_iald fb_L U (.inl (.ref q)) 1 with
    | some iv, some (.inl (.int z)) => decide (z = 0) && (decide (0 ≤ iv.1) && (decide (iv.2 ≤ 200) && (fx_rcv fb_L (.inl (.ref k)) 12 && (fx_inc mm_P fb_L E mc_X12_passes [.inl (.ref k), .inl (.int 1), .inl (.int 0)] U g q 1 && K E none (((q, 1), n) :: U) g))))
    | _, _ => false
  | _ => false
theorem fb_gs_run {O : mm_Old} {k g : Nat} {nn : Int32} {H : Int32 → mm_Heap} (h0 : 0 ≤ nn.toInt) (hr : ∀ z, mm_rcv O (H z) (.ref k) 12 = true)
    (hc : ∀ z : Int32, 0 ≤ z.toInt → z.toInt < nn.toInt → ∃ n, mm_run mm_P O n 25 mc_X12_passes 0 (mm_entry (mm_maxL mc_X12_passes) [.ref k, .int 1, .int 0]) [] (H z) g = some (none, H (z + 1), g)) :
    ∃ m, mm_run mm_P O m 30 mc_X12_goesOn 0 (mm_entry 3 [.ref k, .int nn]) [] (H 0) g = some (none, H nn, g) := by
  obtain ⟨m, hm⟩ := fx_loop (P := mm_P) (O := O) (N := mc_X12_goesOn) (v0 := .ref k) (nn := nn) (H := H) (g := g) (d := 30) (R := (none, H nn, g)) h0 (fun z z1 z2 m hm => by
    obtain ⟨n, hn⟩ := hc z z1 z2
    have w1 : n ≤ max n (m + 2) := Nat.le_max_left _ _
    have w2 : m + 2 ≤ max n (m + 2) := Nat.le_max_right _ _
    generalize max n (m + 2) = w at w1 w2
    refine ⟨w + 7, ?_⟩
    rw [mm_run_succ]
    show mm_run mm_P O (w + 6) 30 mc_X12_goesOn 3 [some (.ref k), some (.int nn), some (.int z)] [.int z] (H z) g = _
    rw [mm_run_succ]
    show mm_run mm_P O (w + 5) 30 mc_X12_goesOn 4 [some (.ref k), some (.int nn), some (.int z)] [.int nn, .int z] (H z) g = _
    rw [mm_run_succ]
    show (bif mm_cmp .ge z nn then mm_run mm_P O (w + 4) 30 mc_X12_goesOn 19 [some (.ref k), some (.int nn), some (.int z)] [] (H z) g else mm_run mm_P O (w + 4) 30 mc_X12_goesOn 7 [some (.ref k), some (.int nn), some (.int z)] [] (H z) g) = _
    rw [fx_cmp_ge z2, cond_false]
    rw [mm_run_succ]
    show mm_run mm_P O (w + 3) 30 mc_X12_goesOn 8 [some (.ref k), some (.int nn), some (.int z)] [.ref k] (H z) g = _
    rw [mm_run_succ]
    show mm_run mm_P O (w + 2) 30 mc_X12_goesOn 9 [some (.ref k), some (.int nn), some (.int z)] [.int 1, .ref k] (H z) g = _
    rw [mm_run_succ]
    show mm_run mm_P O (w + 1) 30 mc_X12_goesOn 10 [some (.ref k), some (.int nn), some (.int z)] [.int 0, .int 1, .ref k] (H z) g = _
    rw [mm_run_succ]
    show (bif true && (true && (true && mm_rcv O (H z) (.ref k) 12)) then (match mm_run mm_P O w 29 mc_X12_passes 0 (mm_entry (mm_maxL mc_X12_passes) [.ref k, .int 1, .int 0]) [] (H z) g with
      | some (v, h', g') => (match mm_val v with
        | some vs => mm_run mm_P O w 30 mc_X12_goesOn 13 [some (.ref k), some (.int nn), some (.int z)] (vs ++ []) h' g'
        | none => none)
      | none => none) else none) = _
    rw [hr z, mm_run_ge w1 (by decide : 25 ≤ 29) hn]
    show mm_run mm_P O w 30 mc_X12_goesOn 13 [some (.ref k), some (.int nn), some (.int z)] [] (H (z + 1)) g = _
    refine mm_run_ge w2 (Nat.le_refl _) ?_
    rw [mm_run_succ]
    show mm_run mm_P O (m + 1) 30 mc_X12_goesOn 16 [some (.ref k), some (.int nn), some (.int (z + 1))] [] (H (z + 1)) g = _
    rw [mm_run_succ]
    exact hm) ⟨4, by
    rw [mm_run_succ]
    show mm_run mm_P O 3 30 mc_X12_goesOn 3 [some (.ref k), some (.int nn), some (.int nn)] [.int nn] (H nn) g = _
    rw [mm_run_succ]
    show mm_run mm_P O 2 30 mc_X12_goesOn 4 [some (.ref k), some (.int nn), some (.int nn)] [.int nn, .int nn] (H nn) g = _
    rw [mm_run_succ]
    show (bif mm_cmp .ge nn nn then mm_run mm_P O 1 30 mc_X12_goesOn 19 [some (.ref k), some (.int nn), some (.int nn)] [] (H nn) g else mm_run mm_P O 1 30 mc_X12_goesOn 7 [some (.ref k), some (.int nn), some (.int nn)] [] (H nn) g) = _
    rw [fx_cmp_ge']
    rfl⟩
  refine ⟨m + 2, ?_⟩
  rw [mm_run_succ]
  show mm_run mm_P O (m + 1) 30 mc_X12_goesOn 1 [some (.ref k), some (.int nn), none] [.int 0] (H 0) g = _
  rw [mm_run_succ]
  exact hm
theorem fb_gs_ok {xs : List Int32} (hxs : xs.length = 6) {SS : List (List Int32) × List (List Nat)} {q : Nat} {E : fx_Env} {args : List fx_V} {U : fx_U} {g : Nat} {K : fx_K} {p : Nat → Int32} (h : fb_gs q E args U g K = true) (hp : fx_ok xs E p) :
    fx_Res mm_P (0 :: xs, SS) fb_B xs E p 30 mc_X12_goesOn 0 (mm_entry (mm_maxL mc_X12_goesOn) (fx_evs p args)) [] (fx_evh fb_B p U) g K := by
  unfold fb_gs at h
  split at h
  · next k n =>
    split at h
    · next iv z hiv hcur =>
      simp only [Bool.and_eq_true, decide_eq_true_eq] at h
      obtain ⟨hz, i1, i2, hrcv, hinc, hK⟩ := h
      subst hz
      obtain ⟨nn, hn, n1, n2⟩ := fx_iv_spec hp hiv
      have hput : fx_put (fx_evh fb_B p U) q 1 (.int 0) = fx_evh fb_B p U := by
        obtain ⟨X, hX, hX2⟩ := fx_iald_spec (S := SS) fb_okL hxs hp hcur rfl
        cases (show Value.int 0 = Value.int X from hX2)
        exact mm_iald_put (O := (0 :: xs, SS)) (i := 1) hX
      obtain ⟨m, hm⟩ := fb_gs_run (O := (0 :: xs, SS)) (k := k) (g := g) (nn := nn) (H := fun z => fx_put (fx_evh fb_B p U) q 1 (.int z)) (by omega) (fun z => mm_rcv_put (fx_rcv_spec (O := (0 :: xs, SS)) (U := U) (p := p) fb_okL hrcv)) (fun z z1 z2 => fx_inc_spec fb_okL hxs hp hinc z z1 (by omega))
      refine ⟨E, p, none, ((q, 1), n) :: U, g, m, fx_Means.rf hp, hK, ?_⟩
      have e1 : fx_evs p [.inl (.ref k), n] = [.ref k, .int nn] := by
        show [Value.ref k, fx_ev p n] = _
        rw [hn]
      rw [e1]
      have e2 : fx_evh fb_B p (((q, 1), n) :: U) = fx_put (fx_evh fb_B p U) q 1 (.int nn) := by
        show fx_put (fx_evh fb_B p U) q 1 (fx_ev p n) = _
        rw [hn]
      rw [e2]
      rw [hput] at hm
      exact hm
    · cases h
  · cases h
