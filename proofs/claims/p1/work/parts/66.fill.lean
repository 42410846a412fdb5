/-! ARRAYS.FILL of ints, at once -/
theorem fx_ofNat_toInt {z : Nat} (h : z < 2147483648) : (Int32.ofNat z).toInt = z := by
  rw [Int32.toInt_ofNat']
  simp only [Int.bmod, Int32.size]
  omega
def fb_fillU (k : Nat) (v : fx_V) (U : fx_U) : Nat → fx_U
  | 0 => U
  | z + 1 => ((k, z), v) :: fb_fillU k v U z
def fb_fl : fx_Env → List fx_V → fx_U → Nat → fx_K → Bool := fun E args U g K => match args with
  | [.inl (.ref k), v] => match fb_L k with
    | some (.inr (.inl (.int, xs))) => fx_isI v && (Nat.blt xs.length 100000 && K E none (fb_fillU k v U xs.length) g)
    | _ => false
  | _ => false
theorem fb_fl_iast {B : mm_Heap} {p : Nat → Int32} {k L : Nat} {ys : List Int32} (hk : B[k]? = some (.inr (.inl (.int, ys)))) (hl : ys.length = L) (U : fx_U) {z : Nat} {x : Int32} (hz : z < L) (hL : L < 100000) : mm_iast (fx_evh B p U) (.ref k) (Int32.ofNat z) x = some (fx_put (fx_evh B p U) k z (.int x)) := by
  obtain ⟨fs, h1, h2, -⟩ := fx_arr (p := p) hk U
  have e1 : (Int32.ofNat z).toNatClampNeg = z := by
    rw [Int32.toNatClampNeg, fx_ofNat_toInt (by omega)]
    omega
  have e0 : ¬ (Int32.ofNat z) < 0 := by
    intro q
    have := Int32.lt_iff_toInt_lt.mp q
    rw [fx_ofNat_toInt (by omega), show (0 : Int32).toInt = 0 from rfl] at this
    omega
  unfold mm_iast
  dsimp only
  rw [h1]
  dsimp only
  unfold mm_in
  rw [e1, decide_eq_false e0]
  have h2 : fs.length = ys.length := h2
  rw [show Nat.blt z fs.length = true from by rw [Nat.blt_eq]; omega]
  unfold fx_put
  rw [h1]
  rfl
theorem fb_fl_len {B : mm_Heap} {p : Nat → Int32} {O : mm_Old} {k : Nat} {ys : List Int32} (hk : B[k]? = some (.inr (.inl (.int, ys)))) (U : fx_U) : mm_len O (fx_evh B p U) (.ref k) = some (Int32.ofNat ys.length) := by
  obtain ⟨fs, h1, h2, -⟩ := fx_arr (p := p) hk U
  unfold mm_len
  dsimp only
  rw [h1]
  dsimp only
  rw [show mm_tag .int = true from rfl, cond_true]
  exact congrArg (fun n => some (Int32.ofNat n)) h2
theorem fb_fl_run {O : mm_Old} {B : mm_Heap} {p : Nat → Int32} {k L g : Nat} {ys : List Int32} (hk : B[k]? = some (.inr (.inl (.int, ys)))) (hl : ys.length = L) (hL : L < 100000) (U : fx_U) (v : fx_V) {x : Int32} (hv : fx_ev p v = .int x) :
    ∃ m, mm_run mm_P O m 30 mc_J7_fill_53178 0 (mm_entry 4 [.ref k, .int x]) [] (fx_evh B p U) g = some (none, fx_evh B p (fb_fillU k v U L), g) := by
  have key : ∀ (j z : Nat), z + j = L → ∃ m, mm_run mm_P O m 30 mc_J7_fill_53178 5 [some (.ref k), some (.int x), some (.int (Int32.ofNat z)), some (.int (Int32.ofNat L))] [] (fx_evh B p (fb_fillU k v U z)) g = some (none, fx_evh B p (fb_fillU k v U L), g) := by
    have hti : ∀ z : Nat, z < 2147483648 → (Int32.ofNat z).toInt = z := fun z hz => fx_ofNat_toInt hz
    intro j
    induction j with
    | zero =>
      intro z hz
      have : z = L := by omega
      subst this
      refine ⟨4, ?_⟩
      rw [mm_run_succ]
      show mm_run mm_P O 3 30 mc_J7_fill_53178 6 [some (.ref k), some (.int x), some (.int (Int32.ofNat z)), some (.int (Int32.ofNat z))] [.int (Int32.ofNat z)] (fx_evh B p (fb_fillU k v U z)) g = _
      rw [mm_run_succ]
      show mm_run mm_P O 2 30 mc_J7_fill_53178 7 [some (.ref k), some (.int x), some (.int (Int32.ofNat z)), some (.int (Int32.ofNat z))] [.int (Int32.ofNat z), .int (Int32.ofNat z)] (fx_evh B p (fb_fillU k v U z)) g = _
      rw [mm_run_succ]
      show (bif mm_cmp .ge (Int32.ofNat z) (Int32.ofNat z) then mm_run mm_P O 1 30 mc_J7_fill_53178 20 [some (.ref k), some (.int x), some (.int (Int32.ofNat z)), some (.int (Int32.ofNat z))] [] (fx_evh B p (fb_fillU k v U z)) g else mm_run mm_P O 1 30 mc_J7_fill_53178 10 [some (.ref k), some (.int x), some (.int (Int32.ofNat z)), some (.int (Int32.ofNat z))] [] (fx_evh B p (fb_fillU k v U z)) g) = _
      rw [fx_cmp_ge']
      rfl
    | succ j ih =>
      intro z hz
      obtain ⟨m, hm⟩ := ih (z + 1) (by omega)
      refine ⟨m + 9, ?_⟩
      rw [mm_run_succ]
      show mm_run mm_P O (m + 8) 30 mc_J7_fill_53178 6 [some (.ref k), some (.int x), some (.int (Int32.ofNat z)), some (.int (Int32.ofNat L))] [.int (Int32.ofNat z)] _ g = _
      rw [mm_run_succ]
      show mm_run mm_P O (m + 7) 30 mc_J7_fill_53178 7 [some (.ref k), some (.int x), some (.int (Int32.ofNat z)), some (.int (Int32.ofNat L))] [.int (Int32.ofNat L), .int (Int32.ofNat z)] _ g = _
      rw [mm_run_succ]
      show (bif mm_cmp .ge (Int32.ofNat z) (Int32.ofNat L) then mm_run mm_P O (m + 6) 30 mc_J7_fill_53178 20 [some (.ref k), some (.int x), some (.int (Int32.ofNat z)), some (.int (Int32.ofNat L))] [] _ g else mm_run mm_P O (m + 6) 30 mc_J7_fill_53178 10 [some (.ref k), some (.int x), some (.int (Int32.ofNat z)), some (.int (Int32.ofNat L))] [] _ g) = _
      rw [fx_cmp_ge (by rw [hti _ (by omega), hti _ (by omega)]; omega), cond_false, mm_run_succ]
      show mm_run mm_P O (m + 5) 30 mc_J7_fill_53178 11 [some (.ref k), some (.int x), some (.int (Int32.ofNat z)), some (.int (Int32.ofNat L))] [.ref k] _ g = _
      rw [mm_run_succ]
      show mm_run mm_P O (m + 4) 30 mc_J7_fill_53178 12 [some (.ref k), some (.int x), some (.int (Int32.ofNat z)), some (.int (Int32.ofNat L))] [.int (Int32.ofNat z), .ref k] _ g = _
      rw [mm_run_succ]
      show mm_run mm_P O (m + 3) 30 mc_J7_fill_53178 13 [some (.ref k), some (.int x), some (.int (Int32.ofNat z)), some (.int (Int32.ofNat L))] [.int x, .int (Int32.ofNat z), .ref k] _ g = _
      rw [mm_run_succ]
      show (match (mm_iast (fx_evh B p (fb_fillU k v U z)) (.ref k) (Int32.ofNat z) x).map (fun h' => ([some (Value.ref k), some (.int x), some (.int (Int32.ofNat z)), some (.int (Int32.ofNat L))], ([] : List Value), h')) with
        | some (r', st', h') => mm_run mm_P O (m + 2) 30 mc_J7_fill_53178 14 r' st' h' g
        | none => none) = _
      rw [fb_fl_iast hk hl _ (by omega) hL]
      have e2 : fx_put (fx_evh B p (fb_fillU k v U z)) k z (.int x) = fx_evh B p (fb_fillU k v U (z + 1)) := by
        show _ = fx_put (fx_evh B p (fb_fillU k v U z)) k z (fx_ev p v)
        rw [hv]
      rw [e2]
      show mm_run mm_P O (m + 2) 30 mc_J7_fill_53178 14 [some (.ref k), some (.int x), some (.int (Int32.ofNat z)), some (.int (Int32.ofNat L))] [] _ g = _
      rw [mm_run_succ]
      show mm_run mm_P O (m + 1) 30 mc_J7_fill_53178 17 [some (.ref k), some (.int x), some (.int (Int32.ofNat z + 1)), some (.int (Int32.ofNat L))] [] _ g = _
      have e3 : Int32.ofNat z + 1 = Int32.ofNat (z + 1) := by
        apply Int32.toInt_inj.mp
        rw [fx_succ_toInt (by rw [hti _ (by omega)]; omega) (by rw [hti _ (by omega)]; omega), hti _ (by omega), hti _ (by omega)]
        omega
      rw [e3, mm_run_succ]
      exact hm
  obtain ⟨m, hm⟩ := key L 0 (by omega)
  refine ⟨m + 5, ?_⟩
  rw [mm_run_succ]
  show mm_run mm_P O (m + 4) 30 mc_J7_fill_53178 1 [some (.ref k), some (.int x), none, none] [.int 0] _ g = _
  rw [mm_run_succ]
  show mm_run mm_P O (m + 3) 30 mc_J7_fill_53178 2 [some (.ref k), some (.int x), some (.int 0), none] [] _ g = _
  rw [mm_run_succ]
  show mm_run mm_P O (m + 2) 30 mc_J7_fill_53178 3 [some (.ref k), some (.int x), some (.int 0), none] [.ref k] _ g = _
  rw [mm_run_succ]
  show (match (mm_len O (fx_evh B p U) (.ref k)).map (fun y => ([some (Value.ref k), some (.int x), some (.int 0), none], [Value.int y], fx_evh B p U)) with
    | some (r', st', h') => mm_run mm_P O (m + 1) 30 mc_J7_fill_53178 4 r' st' h' g
    | none => none) = _
  rw [fb_fl_len hk, hl]
  show mm_run mm_P O (m + 1) 30 mc_J7_fill_53178 4 [some (.ref k), some (.int x), some (.int 0), none] [.int (Int32.ofNat L)] _ g = _
  rw [mm_run_succ]
  exact hm
theorem fb_fl_ok {xs : List Int32} {SS : List (List Int32) × List (List Nat)} {E : fx_Env} {args : List fx_V} {U : fx_U} {g : Nat} {K : fx_K} {p : Nat → Int32} (h : fb_fl E args U g K = true) (hp : fx_ok xs E p) :
    fx_Res mm_P (0 :: xs, SS) fb_B xs E p 30 mc_J7_fill_53178 0 (mm_entry (mm_maxL mc_J7_fill_53178) (fx_evs p args)) [] (fx_evh fb_B p U) g K := by
  unfold fb_fl at h
  split at h
  · next k v =>
    split at h
    · next ys hk =>
      simp only [Bool.and_eq_true] at h
      obtain ⟨h1, h2, h3⟩ := h
      obtain ⟨x, hx⟩ := fx_isI_spec h1 p
      rw [Nat.blt_eq] at h2
      obtain ⟨m, hm⟩ := fb_fl_run (O := (0 :: xs, SS)) (p := p) (g := g) (fb_okL k _ hk) rfl h2 U v hx
      refine ⟨E, p, none, _, g, m, fx_Means.rf hp, h3, ?_⟩
      have e1 : fx_evs p [.inl (.ref k), v] = [.ref k, .int x] := by
        show [Value.ref k, fx_ev p v] = _
        rw [hx]
      rw [e1]
      exact hm
    · cases h
  · cases h
