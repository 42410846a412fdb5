/-! SOUNDNESS: what a symbolic run accepts, the mini machine does -/
theorem mm_run_ge {P : Nat → Option mm_Meth} {O : mm_Old} {n m d e : Nat} {M : mm_Meth} {pc : Nat} {r : mm_Loc} {st : List Value} {h : mm_Heap} {g : Nat} {x : mm_Res × mm_Heap × Nat} (hn : n ≤ m) (hd : d ≤ e) (hr : mm_run P O n d M pc r st h g = some x) : mm_run P O m e M pc r st h g = some x := by
  have := mm_run_le (mm_leO.rf O) n (m - n) d e M pc r st h g x hd hr
  rw [show n + (m - n) = m by omega] at this
  exact this
def fx_okS (P : Nat → Option mm_Meth) (O : mm_Old) (B : mm_Heap) (xs : List Int32) (S : fx_Orc) : Prop := ∀ (a : Nat) (f : fx_Env → List fx_V → fx_U → Nat → fx_K → Bool) (N : mm_Meth), S a = some f → P a = some N → ∀ (E : fx_Env) (args : List fx_V) (U : fx_U) (g : Nat) (K : fx_K) (p : Nat → Int32), f E args U g K = true → fx_ok xs E p → fx_Res P O B xs E p 30 N 0 (mm_entry (mm_maxL N) (fx_evs p args)) [] (fx_evh B p U) g K
def fx_GoOk (P : Nat → Option mm_Meth) (O : mm_Old) (B : mm_Heap) (xs : List Int32) (go : fx_Go) : Prop := ∀ (E : fx_Env) (d : Nat) (M : mm_Meth) (pc : Nat) (r : fx_Loc) (st : List fx_V) (U : fx_U) (g : Nat) (K : fx_K) (p : Nat → Int32), go E d M pc r st U g K = true → fx_ok xs E p → fx_Res P O B xs E p d M pc (fx_evl p r) (fx_evs p st) (fx_evh B p U) g K
theorem fx_take_ev (p : Nat → Int32) (st : List fx_V) (n : Nat) : (fx_evs p st).take n = fx_evs p (st.take n) := by
  unfold fx_evs
  rw [List.map_take]
theorem fx_drop_ev (p : Nat → Int32) (st : List fx_V) (n : Nat) : (fx_evs p st).drop n = fx_evs p (st.drop n) := by
  unfold fx_evs
  rw [List.map_drop]
theorem fx_rev_ev (p : Nat → Int32) (st : List fx_V) : (fx_evs p st).reverse = fx_evs p st.reverse := by
  unfold fx_evs
  rw [List.map_reverse]
theorem fx_app_ev (p : Nat → Int32) (s t : List fx_V) : fx_evs p (s ++ t) = fx_evs p s ++ fx_evs p t := by
  unfold fx_evs
  rw [List.map_append]
theorem fx_evs_len (p : Nat → Int32) (s : List fx_V) : (fx_evs p s).length = s.length := by
  unfold fx_evs
  rw [List.length_map]
/-- a call and what follows it -/
theorem fx_Res.call {P : Nat → Option mm_Meth} {O : mm_Old} {B : mm_Heap} {xs : List Int32} {go : fx_Go} (hgo : fx_GoOk P O B xs go) {E : fx_Env} {p : Nat → Int32} {d d' e pc pc' : Nat} {M N : mm_Meth} {r : fx_Loc} {t : List fx_V} {st : List Value} {h : mm_Heap} {g : Nat} {K : fx_K} {ent : mm_Loc}
    (hd : e ≤ d') (hw1 : fx_wfl E.length r = true) (hw2 : fx_wfs E.length t = true)
    (hN : fx_Res P O B xs E p e N 0 ent [] h g fun E' v U' g' => match fx_val v with
        | some vs => go E' d M pc' r (vs ++ t) U' g' K
        | none => false)
    (hb : ∀ (n : Nat) (v : Option Value) (vs : List Value) (h' : mm_Heap) (g' : Nat) (X : mm_Res × mm_Heap × Nat), mm_run P O n d' N 0 ent [] h g = some (v, h', g') → mm_val v = some vs → mm_run P O n d M pc' (fx_evl p r) (vs ++ fx_evs p t) h' g' = some X → mm_run P O (n + 1) d M pc (fx_evl p r) st h g = some X) : fx_Res P O B xs E p d M pc (fx_evl p r) st h g K := by
  obtain ⟨E1, p1, v, U1, g1, n1, hM, hK, hrun⟩ := hN
  dsimp only at hK
  split at hK
  · next vs hvs =>
    obtain ⟨E2, p2, v2, U2, g2, n2, hM2, hK2, hrun2⟩ := hgo _ _ _ _ _ _ _ _ _ _ hK hM.1
    rw [fx_app_ev, fx_wfl_ev hM.2.1 hw1, fx_wfs_ev hM.2.1 hw2] at hrun2
    refine ⟨E2, p2, v2, U2, g2, max n1 n2 + 1, hM.tr hM2, hK2, ?_⟩
    exact hb _ _ _ _ _ _ (mm_run_ge (Nat.le_max_left _ _) hd hrun) (fx_val_spec hvs p1) (mm_run_ge (Nat.le_max_right _ _) (Nat.le_refl _) hrun2)
  · cases hK
theorem mm_math_app {a : Nat} {Y X v : Value} {t : List Value} (h : mm_math a [Y, X] = some [v]) : mm_math a (Y :: X :: t) = some (v :: t) := by
  rcases a with _ | _ | _ | _ | _ | a <;> cases Y <;> cases X <;> first | (cases h; rfl) | cases h
theorem fx_body_spec {P : Nat → Option mm_Meth} {L : Nat → Option mm_Cell} {B : mm_Heap} (hL : fx_okL L B) {xs : List Int32} (hxs : xs.length = 6) {SS : List (List Int32) × List (List Nat)} {S : fx_Orc} (hS : fx_okS P (0 :: xs, SS) B xs S) {go : fx_Go} (hgo : fx_GoOk P (0 :: xs, SS) B xs go) : fx_GoOk P (0 :: xs, SS) B xs (fx_body P L S go) := by
  intro E d M pc r st U g K p h hp
  have rf := fx_Means.rf hp
  unfold fx_body at h
  split at h
  · cases h
  next w hat =>
  split at h
  · next T hT =>
    obtain ⟨p1, hM, hs⟩ := fx_step_spec (pc := pc) (S := SS) hL hxs hp hT
    exact fx_Res.step hM (fun n X hX => ⟨n + 1, by rw [fx_step_run hT hat hs]; exact hX⟩) (hgo _ _ _ _ _ _ _ _ _ _ h hM.1)
  next hT =>
  clear hT
  obtain ⟨i, len, a, b, c⟩ := w
  cases i
  case goto off =>
    refine fx_Res.step rf (fun n X hX => ⟨n + 1, ?_⟩) (hgo _ _ _ _ _ _ _ _ _ _ (show go E d M a r st U g K = true from h) hp)
    rw [mm_run_succ]
    unfold mm_body
    rw [hat]
    exact hX
  case if_icmp c off =>
    unfold fx_ctl at h
    dsimp only at h
    split at h
    · next y x t =>
      obtain ⟨X, Y, hX, hY, E', h1, ok1, l1⟩ := fx_br_spec hp h
      rw [fx_res_ev hp] at hX hY
      have hb : ∀ n Z, mm_run P (0 :: xs, SS) n d M (bif mm_cmp c X Y then a else pc + 3) (fx_evl p r) (fx_evs p t) (fx_evh B p U) g = some Z → ∃ m, mm_run P (0 :: xs, SS) m d M pc (fx_evl p r) (fx_evs p (y :: x :: t)) (fx_evh B p U) g = some Z := by
        intro n Z hZ
        refine ⟨n + 1, ?_⟩
        rw [mm_run_succ]
        unfold mm_body
        rw [hat]
        show (match fx_ev p y :: fx_ev p x :: fx_evs p t with
          | .int y :: .int x :: t => bif mm_cmp c x y then mm_run P (0 :: xs, SS) n d M a (fx_evl p r) t (fx_evh B p U) g else mm_run P (0 :: xs, SS) n d M (pc + 3) (fx_evl p r) t (fx_evh B p U) g
          | _ => none) = some Z
        rw [hX, hY]
        dsimp only
        cases hc : mm_cmp c X Y with
        | true => rw [hc] at hZ; exact hZ
        | false => rw [hc] at hZ; exact hZ
      refine fx_Res.step (fx_Means.cut ok1 l1) hb ?_
      cases hc : mm_cmp c X Y with
      | true => rw [hc] at h1; exact hgo _ _ _ _ _ _ _ _ _ _ h1 ok1
      | false => rw [hc] at h1; exact hgo _ _ _ _ _ _ _ _ _ _ h1 ok1
    · cases h
  case ifCond c off =>
    unfold fx_ctl at h
    dsimp only at h
    split at h
    · next x t =>
      obtain ⟨X, Y, hX, hY, E', h1, ok1, l1⟩ := fx_br_spec hp h
      rw [fx_res_ev hp] at hX
      cases (show Value.int 0 = Value.int Y from hY)
      have hb : ∀ n Z, mm_run P (0 :: xs, SS) n d M (bif mm_cmp c X 0 then a else pc + 3) (fx_evl p r) (fx_evs p t) (fx_evh B p U) g = some Z → ∃ m, mm_run P (0 :: xs, SS) m d M pc (fx_evl p r) (fx_evs p (x :: t)) (fx_evh B p U) g = some Z := by
        intro n Z hZ
        refine ⟨n + 1, ?_⟩
        rw [mm_run_succ]
        unfold mm_body
        rw [hat]
        show (match fx_ev p x :: fx_evs p t with
          | .int x :: t => bif mm_cmp c x 0 then mm_run P (0 :: xs, SS) n d M a (fx_evl p r) t (fx_evh B p U) g else mm_run P (0 :: xs, SS) n d M (pc + 3) (fx_evl p r) t (fx_evh B p U) g
          | _ => none) = some Z
        rw [hX]
        dsimp only
        cases hc : mm_cmp c X 0 with
        | true => rw [hc] at hZ; exact hZ
        | false => rw [hc] at hZ; exact hZ
      refine fx_Res.step (fx_Means.cut ok1 l1) hb ?_
      cases hc : mm_cmp c X 0 with
      | true => rw [hc] at h1; exact hgo _ _ _ _ _ _ _ _ _ _ h1 ok1
      | false => rw [hc] at h1; exact hgo _ _ _ _ _ _ _ _ _ _ h1 ok1
    · cases h
  case tableswitch df lo hi offs =>
    unfold fx_ctl at h
    dsimp only at h
    split at h
    · next x t =>
      obtain ⟨X, hX, E', ok1, l1, h1⟩ := fx_sw_spec hp h
      rw [fx_res_ev hp] at hX
      have hb : ∀ q, mm_tsw pc df lo hi offs X = some q → ∀ n Z, mm_run P (0 :: xs, SS) n d M q (fx_evl p r) (fx_evs p t) (fx_evh B p U) g = some Z → ∃ m, mm_run P (0 :: xs, SS) m d M pc (fx_evl p r) (fx_evs p (x :: t)) (fx_evh B p U) g = some Z := by
        intro q hq n Z hZ
        refine ⟨n + 1, ?_⟩
        rw [mm_run_succ]
        unfold mm_body
        rw [hat]
        show (match fx_ev p x :: fx_evs p t with
          | .int x :: t => (match mm_tsw pc df lo hi offs x with
            | some q => mm_run P (0 :: xs, SS) n d M q (fx_evl p r) t (fx_evh B p U) g
            | none => none)
          | _ => none) = some Z
        rw [hX]
        dsimp only
        rw [hq]
        exact hZ
      rcases h1 with ⟨h1, hout⟩ | h1
      · dsimp only at h1
        split at h1
        · next q hq =>
          have hq2 : mm_tsw pc df lo hi offs X = some q := by
            unfold mm_tsw
            by_cases q1 : X.toInt < lo
            · rw [if_pos q1]; exact hq
            · rw [if_neg q1, if_pos (by omega)]; exact hq
          exact fx_Res.step (fx_Means.cut ok1 l1) (hb q hq2) (hgo _ _ _ _ _ _ _ _ _ _ h1 ok1)
        · cases h1
      · dsimp only at h1
        split at h1
        · next q hq => exact fx_Res.step (fx_Means.cut ok1 l1) (hb q hq) (hgo _ _ _ _ _ _ _ _ _ _ h1 ok1)
        · cases h1
    · cases h
  case ireturn =>
    unfold fx_ctl at h
    dsimp only at h
    split at h
    · next v =>
      obtain ⟨h1, h2⟩ := Bool.and_eq_true_iff.mp h
      obtain ⟨X, hX, hf⟩ := fx_rfit_spec hp h1
      refine ⟨E, p, some (fx_res E v), U, g, 1, rf, h2, ?_⟩
      rw [mm_run_succ]
      unfold mm_body
      rw [hat]
      show (match [fx_ev p v] with
        | [.int x] => bif mm_rfit (mm_ret M) x then some (some (.int x), fx_evh B p U, g) else none
        | _ => none) = some (some (fx_ev p (fx_res E v)), fx_evh B p U, g)
      rw [fx_res_ev hp, hX]
      dsimp only
      rw [hf]
      rfl
    · cases h
  case lreturn =>
    unfold fx_ctl at h
    dsimp only at h
    split at h
    · next x =>
      refine ⟨E, p, some (.inl (.long x)), U, g, 1, rf, h, ?_⟩
      rw [mm_run_succ]
      unfold mm_body
      rw [hat]
      rfl
    · cases h
  case return_ =>
    unfold fx_ctl at h
    dsimp only at h
    split at h
    · refine ⟨E, p, none, U, g, 1, rf, h, ?_⟩
      rw [mm_run_succ]
      unfold mm_body
      rw [hat]
      rfl
    · cases h
  case iaload =>
    unfold fx_ctl at h
    dsimp only at h
    split at h
    · next i v t =>
      obtain ⟨I, hI, E', h1, ok1, l1⟩ := fx_split_spec hp h
      rw [fx_res_ev hp] at hI
      try dsimp only at h1
      split at h1
      · next x hx =>
        obtain ⟨h2, h3⟩ := Bool.and_eq_true_iff.mp h1
        obtain ⟨X, g1, g2⟩ := fx_iald_spec (S := SS) hL hxs ok1 hx h2
        refine fx_Res.step (fx_Means.cut ok1 l1) (fun n Z hZ => ⟨n + 1, ?_⟩) (hgo _ _ _ _ _ _ _ _ _ _ h3 ok1)
        rw [mm_run_succ]
        unfold mm_body
        rw [hat]
        have hs : mm_step (0 :: xs, SS) (Instr.iaload, len, a, b, c) pc (fx_evl p r) (fx_evs p (i :: v :: t)) (fx_evh B p U) = some (fx_evl p r, Value.int X :: fx_evs p t, fx_evh B p U) := by
          show (match fx_ev p i :: fx_ev p v :: fx_evs p t with
            | .int i :: v :: t => (mm_iald (0 :: xs, SS) (fx_evh B p U) v i).map fun x => (fx_evl p r, Value.int x :: t, fx_evh B p U)
            | _ => none) = _
          rw [hI]
          dsimp only
          rw [g1]
          rfl
        simp only [mm_isNew, Bool.false_and, cond_false, hs]
        have hZ2 : mm_run P (0 :: xs, SS) n d M (pc + 1) (fx_evl p r) (fx_ev p (fx_res E' x) :: fx_evs p t) (fx_evh B p U) g = some Z := hZ
        rw [fx_res_ev ok1, g2] at hZ2
        exact hZ2
      · cases h1
    · cases h
  case invokevirtual idx =>
    unfold fx_ctl at h
    dsimp only at h
    split at h
    · next N d' hPN =>
      split at h
      · next v0 t hdrop =>
        obtain ⟨hc, h⟩ := Bool.and_eq_true_iff.mp h
        simp only [Bool.and_eq_true] at hc
        obtain ⟨c1, c2, c3, c4, c5, c6⟩ := hc
        have hres : ∃ e, e ≤ d' ∧ fx_Res P (0 :: xs, SS) B xs E p e N 0 (mm_entry (mm_maxL N) (fx_evs p (v0 :: (st.take (mm_par N)).reverse))) [] (fx_evh B p U) g (fun E' v U' g' => match fx_val v with
            | some vs => go E' (d' + 1) M (pc + 3) r (vs ++ t) U' g' K
            | none => false) := by
          unfold fx_call at h
          split at h
          · next f hf =>
            rcases mm_bif h with ⟨hd, h⟩ | ⟨-, h⟩
            · rw [Nat.ble_eq] at hd
              exact ⟨30, hd, hS a f N hf hPN _ _ _ _ _ _ h hp⟩
            · cases h
          · rw [fx_entry_ev]
            exact ⟨d', Nat.le_refl _, hgo _ _ _ _ _ _ _ _ _ _ h hp⟩
        obtain ⟨e, he, hres⟩ := hres
        refine fx_Res.call hgo he c5 c6 hres (fun n v vs h' g' X q1 q2 q3 => ?_)
        rw [mm_run_succ]
        unfold mm_body
        rw [hat]
        dsimp only
        rw [hPN]
        dsimp only
        rw [fx_drop_ev, hdrop]
        show (bif Nat.ble (mm_words (fx_evs p t)) 8 && (Nat.beq ((fx_evs p st).take (mm_par N)).length (mm_par N) && (Nat.ble (mm_sl (fx_ev p v0 :: ((fx_evs p st).take (mm_par N)).reverse)).length (mm_maxL N) && mm_rcv (0 :: xs, SS) (fx_evh B p U) (fx_ev p v0) (mm_own N))) then _ else _) = _
        have e1 : fx_ev p v0 :: ((fx_evs p st).take (mm_par N)).reverse = fx_evs p (v0 :: (st.take (mm_par N)).reverse) := by
          rw [fx_take_ev, fx_rev_ev]
          rfl
        rw [e1, fx_words_ev, c1, fx_take_ev, fx_evs_len, c2, fx_sl_ev, show (fx_evl p (fx_sl (v0 :: (st.take (mm_par N)).reverse))).length = (fx_sl (v0 :: (st.take (mm_par N)).reverse)).length from List.length_map _, c3, fx_rcv_spec hL c4]
        simp only [Bool.and_self, cond_true]
        have e2 : fx_ev p v0 :: (fx_evs p (st.take (mm_par N))).reverse = fx_evs p (v0 :: (st.take (mm_par N)).reverse) := by
          rw [fx_rev_ev]
          rfl
        try rw [e2]
        rw [q1]
        dsimp only
        rw [q2]
        exact q3
      · cases h
    · cases h
  case invokestatic idx =>
    unfold fx_ctl at h
    dsimp only at h
    split at h
    · split at h
      · next N d' hPN =>
        obtain ⟨hc, h⟩ := Bool.and_eq_true_iff.mp h
        simp only [Bool.and_eq_true] at hc
        obtain ⟨c1, c2, c3, c5, c6⟩ := hc
        have hres : ∃ e, e ≤ d' ∧ fx_Res P (0 :: xs, SS) B xs E p e N 0 (mm_entry (mm_maxL N) (fx_evs p (st.take (mm_par N)).reverse)) [] (fx_evh B p U) g (fun E' v U' g' => match fx_val v with
            | some vs => go E' (d' + 1) M (pc + 3) r (vs ++ st.drop (mm_par N)) U' g' K
            | none => false) := by
          unfold fx_call at h
          split at h
          · next f hf =>
            rcases mm_bif h with ⟨hd, h⟩ | ⟨-, h⟩
            · rw [Nat.ble_eq] at hd
              exact ⟨30, hd, hS a f N hf hPN _ _ _ _ _ _ h hp⟩
            · cases h
          · rw [fx_entry_ev]
            exact ⟨d', Nat.le_refl _, hgo _ _ _ _ _ _ _ _ _ _ h hp⟩
        obtain ⟨e, he, hres⟩ := hres
        refine fx_Res.call hgo he c5 c6 hres (fun n v vs h' g' X q1 q2 q3 => ?_)
        rw [mm_run_succ]
        unfold mm_body
        rw [hat]
        simp only [Nat.beq_refl, cond_true]
        rw [hPN]
        dsimp only
        rw [fx_drop_ev, fx_words_ev, c1, fx_take_ev, fx_evs_len, c2, fx_rev_ev, fx_sl_ev, show (fx_evl p (fx_sl (st.take (mm_par N)).reverse)).length = (fx_sl (st.take (mm_par N)).reverse).length from List.length_map _, c3]
        simp only [Bool.and_self, cond_true]
        rw [q1]
        dsimp only
        rw [q2]
        exact q3
      · cases h
    · split at h
      · next n dp w' sp v t =>
        split at h
        · next n' dp' sp' hn hdp hsp =>
          obtain ⟨hc, h⟩ := Bool.and_eq_true_iff.mp h
          obtain ⟨c1, c2⟩ := Bool.and_eq_true_iff.mp hc
          split at h
          · next U' hU =>
            have e1 := fx_res_ev hp n
            have e2 := fx_res_ev hp dp
            have e3 := fx_res_ev hp sp
            rw [hn] at e1
            rw [hdp] at e2
            rw [hsp] at e3
            refine fx_Res.step rf (fun m Z hZ => ⟨m + 1, ?_⟩) (hgo _ _ _ _ _ _ _ _ _ _ h hp)
            rw [mm_run_succ]
            unfold mm_body
            rw [hat]
            have hb0 : Nat.beq 1 0 = false := rfl
            have hb2 : Nat.beq 1 2 = false := rfl
            have hb3 : Nat.beq 1 3 = false := rfl
            simp only [hb0, hb2, hb3, cond_false]
            show (match fx_ev p n :: fx_ev p dp :: fx_ev p w' :: fx_ev p sp :: fx_ev p v :: fx_evs p t with
              | .int n :: .int dp :: w' :: .int sp :: v :: t => bif Nat.ble (mm_words t) 8 && Nat.ble 1 d then (match mm_copy (fx_evh B p U) v w' sp dp n with
                | some h' => mm_run P (0 :: xs, SS) m d M (pc + 3) (fx_evl p r) t h' g
                | none => none) else none
              | _ => none) = some Z
            rw [← e1, ← e2, ← e3]
            show (bif Nat.ble (mm_words (fx_evs p t)) 8 && Nat.ble 1 d then (match mm_copy (fx_evh B p U) (fx_ev p v) (fx_ev p w') sp' dp' n' with
                | some h' => mm_run P (0 :: xs, SS) m d M (pc + 3) (fx_evl p r) (fx_evs p t) h' g
                | none => none) else none) = some Z
            rw [fx_words_ev, c1, c2, fx_copy_spec hL hU]
            exact hZ
          · cases h
        · cases h
      · cases h
    · split at h
      · next N d' hPN =>
        split at h
        · next o p1 p0 x t =>
          obtain ⟨hc, h⟩ := Bool.and_eq_true_iff.mp h
          simp only [Bool.and_eq_true] at hc
          obtain ⟨c1, c2, c3, c4, c5, c6, c7, c8⟩ := hc
          obtain ⟨P0, hP0⟩ := fx_isI_spec c5 p
          obtain ⟨P1, hP1⟩ := fx_isI_spec c6 p
          obtain ⟨E1, q1, v, U1, g1, n1, hM, hK, hrun⟩ := hgo _ _ _ _ _ _ _ _ _ _ h hp
          rw [← fx_entry_ev] at hrun
          dsimp only at hK
          split at hK
          · next q =>
            obtain ⟨E2, q2, v2, U2, g2, n2, hM2, hK2, hrun2⟩ := hgo _ _ _ _ _ _ _ _ _ _ hK hM.1
            rw [fx_wfl_ev hM.2.1 c7] at hrun2
            have hrun2 : mm_run P (0 :: xs, SS) n2 (d' + 1 + 1) M (pc + 3) (fx_evl p r) (.int (bif Nat.beq q 13 then 1 else 2) :: fx_evs q1 t) (fx_evh B q1 U1) g1 = some (v2.map (fx_ev q2), fx_evh B q2 U2, g2) := hrun2
            rw [fx_wfs_ev hM.2.1 c8] at hrun2
            refine ⟨E2, q2, v2, U2, g2, max n1 n2 + 1, hM.tr hM2, hK2, ?_⟩
            rw [mm_run_succ]
            unfold mm_body
            rw [hat]
            have hb0 : Nat.beq 2 0 = false := rfl
            simp only [hb0, Nat.beq_refl, cond_false, cond_true]
            rw [hPN]
            show (match Value.ref o :: fx_ev p p1 :: fx_ev p p0 :: Value.ref x :: fx_evs p t with
              | .ref o :: .int p1 :: .int p0 :: .ref x :: t => bif Nat.ble (mm_words t) 8 && (Nat.beq (mm_par N) 2 && (Nat.ble 3 (mm_maxL N) && mm_rcv (0 :: xs, SS) (fx_evh B p U) (.ref x) (mm_own N))) then (match mm_run P (0 :: xs, SS) (max n1 n2) d' N 0 (mm_entry (mm_maxL N) [.ref x, .int p0, .int p1]) [] (fx_evh B p U) g with
                | some (some (.int y), h1, g1) => (match mm_last h1 (.ref o) 0 y.toInt64 with
                  | some h2 => mm_run P (0 :: xs, SS) (max n1 n2) (d' + 1 + 1) M (pc + 3) (fx_evl p r) (.int 0 :: t) h2 g1
                  | none => none)
                | some (some (.retAddr q), h1, g1) => mm_run P (0 :: xs, SS) (max n1 n2) (d' + 1 + 1) M (pc + 3) (fx_evl p r) (.int (bif Nat.beq q 13 then 1 else 2) :: t) h1 g1
                | _ => none) else none
              | _ => none) = _
            rw [hP0, hP1]
            dsimp only
            have hr1 : mm_run P (0 :: xs, SS) (max n1 n2) d' N 0 (mm_entry (mm_maxL N) (fx_evs p [.inl (.ref x), p0, p1])) [] (fx_evh B p U) g = some (some (.retAddr q), fx_evh B q1 U1, g1) := mm_run_ge (Nat.le_max_left n1 n2) (Nat.le_refl _) hrun
            have e0 : fx_evs p [.inl (.ref x), p0, p1] = [.ref x, .int P0, .int P1] := by
              show [Value.ref x, fx_ev p p0, fx_ev p p1] = _
              rw [hP0, hP1]
            rw [e0] at hr1
            rw [fx_words_ev, c1, c2, c3, show mm_rcv (0 :: xs, SS) (fx_evh B p U) (.ref x) (mm_own N) = true from fx_rcv_spec hL c4]
            simp only [Bool.and_self, cond_true]
            rw [hr1]
            exact mm_run_ge (Nat.le_max_right n1 n2) (Nat.le_refl _) hrun2
          · cases hK
        · cases h
      · cases h
    · split at h
      · next y x t =>
        split at h
        · next X Y hX hY =>
          split at h
          · next v hv =>
            obtain ⟨hc, h⟩ := Bool.and_eq_true_iff.mp h
            obtain ⟨c1, c2⟩ := Bool.and_eq_true_iff.mp hc
            have e1 := fx_res_ev hp x
            have e2 := fx_res_ev hp y
            rw [hX] at e1
            rw [hY] at e2
            have hmath := mm_math_app (t := fx_evs p t) hv
            refine fx_Res.step rf (fun m Z hZ => ⟨m + 1, ?_⟩) (hgo _ _ _ _ _ _ _ _ _ _ h hp)
            rw [mm_run_succ]
            unfold mm_body
            rw [hat]
            have hb0 : Nat.beq 3 0 = false := rfl
            have hb2 : Nat.beq 3 2 = false := rfl
            simp only [hb0, hb2, Nat.beq_refl, cond_false, cond_true]
            show (match mm_math a (fx_ev p y :: fx_ev p x :: fx_evs p t) with
              | some st' => bif Nat.ble (mm_words st') 10 && Nat.ble 1 d then mm_run P (0 :: xs, SS) m d M (pc + 3) (fx_evl p r) st' (fx_evh B p U) g else none
              | none => none) = some Z
            rw [← e1, ← e2]
            show (match mm_math a (Y :: X :: fx_evs p t) with
              | some st' => bif Nat.ble (mm_words st') 10 && Nat.ble 1 d then mm_run P (0 :: xs, SS) m d M (pc + 3) (fx_evl p r) st' (fx_evh B p U) g else none
              | none => none) = some Z
            rw [hmath]
            dsimp only
            rw [show mm_words (v :: fx_evs p t) = fx_words (.inl v :: t) from fx_words_ev p (.inl v :: t), c1, c2]
            exact hZ
          · cases h
        · cases h
      · cases h
    · cases h
  case new idx =>
    unfold fx_ctl at h
    dsimp only at h
    rcases mm_bif h with ⟨hb, h⟩ | ⟨-, h⟩
    · split at h
      · obtain ⟨h1, h2⟩ := Bool.and_eq_true_iff.mp h
        refine ⟨E, p, some (.inl (.retAddr a)), U, g + 1, 1, rf, h2, ?_⟩
        rw [mm_run_succ]
        unfold mm_body
        rw [hat]
        dsimp only
        rw [hb]
        show (bif Nat.ble 6 d then some (some (Value.retAddr a), fx_evh B p U, g + 1) else none) = _
        rw [h1]
        rfl
      · cases h
    · cases h
  all_goals cases h
theorem fx_run_spec {P : Nat → Option mm_Meth} {L : Nat → Option mm_Cell} {B : mm_Heap} (hL : fx_okL L B) {xs : List Int32} (hxs : xs.length = 6) {SS : List (List Int32) × List (List Nat)} {S : fx_Orc} (hS : fx_okS P (0 :: xs, SS) B xs S) : ∀ n, fx_GoOk P (0 :: xs, SS) B xs (fx_run P L S n) := by
  intro n
  induction n with
  | zero => intro E d M pc r st U g K p h _; cases h
  | succ n ih => exact fx_body_spec hL hxs hS ih
