/-! a step that neither jumps nor calls -/
/-- an int operation of two ints, with the interval of its answer -/
def fx_ii (E : fx_Env) (r : fx_Loc) (st : List fx_V) (U : fx_U) (f : Int32 → Int32 → Int32) (iv : Int × Int → Int × Int → Int × Int) : Option fx_St := match st with
  | y :: x :: t => match fx_res E x, fx_res E y with
    | .inl (.int X), .inl (.int Y) => some (E, r, .inl (.int (f X Y)) :: t, U)
    | x', y' => match fx_iv E x', fx_iv E y' with
      | some a, some b => fx_fresh E (iv a b) r t U
      | _, _ => none
  | _ => none
def fx_ivOk (f : Int32 → Int32 → Int32) (iv : Int × Int → Int × Int → Int × Int) : Prop := ∀ (X Y : Int32) (a b : Int × Int), a.1 ≤ X.toInt → X.toInt ≤ a.2 → b.1 ≤ Y.toInt → Y.toInt ≤ b.2 → (iv a b).1 ≤ (f X Y).toInt ∧ (f X Y).toInt ≤ (iv a b).2
theorem fx_ii_spec {xs : List Int32} {B : mm_Heap} {E : fx_Env} {p : Nat → Int32} (hp : fx_ok xs E p) {r : fx_Loc} {st : List fx_V} {U : fx_U} {T : fx_St} {f : Int32 → Int32 → Int32} {iv : Int × Int → Int × Int → Int × Int} (hiv : fx_ivOk f iv) (hs : fx_ii E r st U f iv = some T) :
    ∃ p', fx_Means xs E p T.1 p' ∧ ((mm_ii (fx_evs p st) fun x y => some (.int (f x y))).map fun t => (fx_evl p r, t, fx_evh B p U)) = some (fx_evl p' T.2.1, fx_evs p' T.2.2.1, fx_evh B p' T.2.2.2) := by
  unfold fx_ii at hs
  split at hs
  · next y x t =>
    split at hs
    · next X Y hX hY =>
      cases hs
      have e1 := fx_res_ev hp x
      have e2 := fx_res_ev hp y
      rw [hX] at e1
      rw [hY] at e2
      refine ⟨p, fx_Means.rf hp, ?_⟩
      show Option.map _ (mm_ii (fx_ev p y :: fx_ev p x :: fx_evs p t) _) = _
      rw [← e1, ← e2]
      rfl
    · split at hs
      · next a b ha hb =>
        obtain ⟨X, hX, a1, a2⟩ := fx_iv_spec hp ha
        obtain ⟨Y, hY, b1, b2⟩ := fx_iv_spec hp hb
        rw [fx_res_ev hp] at hX hY
        obtain ⟨i1, i2⟩ := hiv X Y a b a1 a2 b1 b2
        obtain ⟨p', hM, g1, g2, g3⟩ := fx_fresh_spec (B := B) hp i1 i2 hs
        refine ⟨p', hM, ?_⟩
        rw [g1, g2, g3]
        show Option.map _ (mm_ii (fx_ev p y :: fx_ev p x :: fx_evs p t) _) = _
        rw [hX, hY]
        rfl
      · cases hs
  · cases hs
def fx_ivt (_ _ : Int × Int) : Int × Int := fx_top
theorem fx_ivt_ok (f : Int32 → Int32 → Int32) : fx_ivOk f fx_ivt := fun _ _ _ _ _ _ _ _ => fx_top_ok _
def fx_ivand (_ b : Int × Int) : Int × Int := bif decide (b.1 = 63) && decide (b.2 = 63) then (0, 63) else bif decide (b.1 = 255) && decide (b.2 = 255) then (0, 255) else fx_top
theorem fx_ivand_ok : fx_ivOk (fun x y => x &&& y) fx_ivand := by
  intro X Y a b a1 a2 b1 b2
  unfold fx_ivand
  cases hc : decide (b.1 = 63) && decide (b.2 = 63) with
  | true =>
    simp only [Bool.and_eq_true, decide_eq_true_eq] at hc
    have hY : Y = 63 := Int32.toInt_inj.mp (by
      have : ((63 : Int32)).toInt = 63 := by decide
      omega)
    subst hY
    obtain ⟨j, hj, he⟩ := pk_andE X (m := 63) 6 (by decide)
    show 0 ≤ (X &&& 63).toInt ∧ (X &&& 63).toInt ≤ 63
    rw [he, nI_toInt (by omega)]
    omega
  | false =>
    cases hd : decide (b.1 = 255) && decide (b.2 = 255) with
    | true =>
      simp only [Bool.and_eq_true, decide_eq_true_eq] at hd
      have hY : Y = 255 := Int32.toInt_inj.mp (by
        have : ((255 : Int32)).toInt = 255 := by decide
        omega)
      subst hY
      obtain ⟨j, hj, he⟩ := pk_andE X (m := 255) 8 (by decide)
      show 0 ≤ (X &&& 255).toInt ∧ (X &&& 255).toInt ≤ 255
      rw [he, nI_toInt (by omega)]
      omega
    | false => exact fx_top_ok _
/-- operations of known values alone -/
def fx_is2 (i : Instr) : Bool := match i with
  | .idiv => true
  | .irem => true
  | .ladd => true
  | .lsub => true
  | .lmul => true
  | .ldiv => true
  | .lrem => true
  | .lcmp => true
  | _ => false
def fx_is1 (i : Instr) : Bool := match i with
  | .i2l => true
  | .l2i => true
  | .lneg => true
  | .ineg => true
  | _ => false
def fx_O0 : mm_Old := ([], [], [])
theorem mm_ii_app (y x : Value) (t : List Value) (f : Int32 → Int32 → Option Value) : mm_ii (y :: x :: t) f = (mm_ii [y, x] f).map (· ++ t) := by
  cases y <;> first | rfl | (cases x <;> first | rfl | skip)
  unfold mm_ii
  dsimp only
  split <;> rfl
theorem mm_jj_app (y x : Value) (t : List Value) (f : Int64 → Int64 → Option Value) : mm_jj (y :: x :: t) f = (mm_jj [y, x] f).map (· ++ t) := by
  cases y <;> first | rfl | (cases x <;> first | rfl | skip)
  unfold mm_jj
  dsimp only
  split <;> rfl
theorem mm_i_app (x : Value) (t : List Value) (f : Int32 → Value) : mm_i (x :: t) f = (mm_i [x] f).map (· ++ t) := by cases x <;> rfl
theorem mm_j_app (x : Value) (t : List Value) (f : Int64 → Value) : mm_j (x :: t) f = (mm_j [x] f).map (· ++ t) := by cases x <;> rfl
theorem fx_pure2 {O : mm_Old} {w : mm_Row} {pc : Nat} {r : mm_Loc} {y x : Value} {t : List Value} {h : mm_Heap} (hi : fx_is2 w.1 = true) : mm_step O w pc r (y :: x :: t) h = (mm_step fx_O0 w 0 [] [y, x] []).map fun q => (r, q.2.1 ++ t, h) := by
  obtain ⟨i, w2⟩ := w
  cases i <;> first | (cases hi; done) | skip
  all_goals
    show Option.map _ _ = Option.map _ (Option.map _ _)
    first | rw [mm_ii_app] | rw [mm_jj_app]
    rw [Option.map_map, Option.map_map]
    rfl
theorem fx_pure1 {O : mm_Old} {w : mm_Row} {pc : Nat} {r : mm_Loc} {x : Value} {t : List Value} {h : mm_Heap} (hi : fx_is1 w.1 = true) : mm_step O w pc r (x :: t) h = (mm_step fx_O0 w 0 [] [x] []).map fun q => (r, q.2.1 ++ t, h) := by
  obtain ⟨i, w2⟩ := w
  cases i <;> first | (cases hi; done) | skip
  all_goals
    show Option.map _ _ = Option.map _ (Option.map _ _)
    first | rw [mm_i_app] | rw [mm_j_app]
    rw [Option.map_map, Option.map_map]
    rfl
def fx_con2 (E : fx_Env) (w : mm_Row) (r : fx_Loc) (st : List fx_V) (U : fx_U) : Option fx_St := match st with
  | y :: x :: t => match fx_res E x, fx_res E y with
    | .inl X, .inl Y => match mm_step fx_O0 w 0 [] [Y, X] [] with
      | some q => match q.2.1 with
        | [v] => some (E, r, .inl v :: t, U)
        | _ => none
      | none => none
    | _, _ => none
  | _ => none
def fx_con1 (E : fx_Env) (w : mm_Row) (r : fx_Loc) (st : List fx_V) (U : fx_U) : Option fx_St := match st with
  | x :: t => match fx_res E x with
    | .inl X => match mm_step fx_O0 w 0 [] [X] [] with
      | some q => match q.2.1 with
        | [v] => some (E, r, .inl v :: t, U)
        | _ => none
      | none => none
    | _ => none
  | _ => none
def fx_StepOk (xs : List Int32) (B : mm_Heap) (S : List (List Int32) × List (List Nat)) (E : fx_Env) (p : Nat → Int32) (w : mm_Row) (pc : Nat) (r : fx_Loc) (st : List fx_V) (U : fx_U) (T : fx_St) : Prop :=
  ∃ p', fx_Means xs E p T.1 p' ∧ mm_step (0 :: xs, S) w pc (fx_evl p r) (fx_evs p st) (fx_evh B p U) = some (fx_evl p' T.2.1, fx_evs p' T.2.2.1, fx_evh B p' T.2.2.2)
theorem fx_con2_spec {xs : List Int32} {B : mm_Heap} {S : List (List Int32) × List (List Nat)} {E : fx_Env} {p : Nat → Int32} (hp : fx_ok xs E p) {w : mm_Row} {pc : Nat} {r : fx_Loc} {st : List fx_V} {U : fx_U} {T : fx_St} (hi : fx_is2 w.1 = true) (hs : fx_con2 E w r st U = some T) : fx_StepOk xs B S E p w pc r st U T := by
  unfold fx_con2 at hs
  split at hs
  · next y x t =>
    split at hs
    · next X Y hX hY =>
      split at hs
      · next q hq =>
        split at hs
        · next v hv =>
          cases hs
          have e1 := fx_res_ev hp x
          have e2 := fx_res_ev hp y
          rw [hX] at e1
          rw [hY] at e2
          refine ⟨p, fx_Means.rf hp, ?_⟩
          show mm_step _ w pc _ (fx_ev p y :: fx_ev p x :: fx_evs p t) _ = _
          rw [fx_pure2 hi, ← e1, ← e2]
          show Option.map _ (mm_step fx_O0 w 0 [] [Y, X] []) = _
          rw [hq]
          dsimp only [Option.map_some]
          rw [hv]
          rfl
        · cases hs
      · cases hs
    · cases hs
  · cases hs
theorem fx_con1_spec {xs : List Int32} {B : mm_Heap} {S : List (List Int32) × List (List Nat)} {E : fx_Env} {p : Nat → Int32} (hp : fx_ok xs E p) {w : mm_Row} {pc : Nat} {r : fx_Loc} {st : List fx_V} {U : fx_U} {T : fx_St} (hi : fx_is1 w.1 = true) (hs : fx_con1 E w r st U = some T) : fx_StepOk xs B S E p w pc r st U T := by
  unfold fx_con1 at hs
  split at hs
  · next x t =>
    split at hs
    · next X hX =>
      split at hs
      · next q hq =>
        split at hs
        · next v hv =>
          cases hs
          have e1 := fx_res_ev hp x
          rw [hX] at e1
          refine ⟨p, fx_Means.rf hp, ?_⟩
          show mm_step _ w pc _ (fx_ev p x :: fx_evs p t) _ = _
          rw [fx_pure1 hi, ← e1]
          show Option.map _ (mm_step fx_O0 w 0 [] [X] []) = _
          rw [hq]
          dsimp only [Option.map_some]
          rw [hv]
          rfl
        · cases hs
      · cases hs
    · cases hs
  · cases hs
def fx_cat (v : fx_V) : Nat := match v with
  | .inl w => w.category
  | .inr _ => 1
theorem fx_cat_ev (p : Nat → Int32) (v : fx_V) : (fx_ev p v).category = fx_cat v := by cases v <;> rfl
def fx_ild (E : fx_Env) (r : fx_Loc) (i : Nat) (st : List fx_V) (U : fx_U) : Option fx_St := match fx_get r i with
  | some v => bif fx_isI v then some (E, r, fx_res E v :: st, U) else none
  | none => none
def fx_lld (E : fx_Env) (r : fx_Loc) (i : Nat) (st : List fx_V) (U : fx_U) : Option fx_St := match fx_get r i with
  | some (.inl (.long x)) => some (E, r, .inl (.long x) :: st, U)
  | _ => none
def fx_ald (E : fx_Env) (r : fx_Loc) (i : Nat) (st : List fx_V) (U : fx_U) : Option fx_St := match fx_get r i with
  | some (.inl (.ref x)) => some (E, r, .inl (.ref x) :: st, U)
  | some (.inl (.retAddr x)) => some (E, r, .inl (.retAddr x) :: st, U)
  | _ => none
def fx_ist (E : fx_Env) (r : fx_Loc) (i : Nat) (st : List fx_V) (U : fx_U) : Option fx_St := match st with
  | v :: t => bif fx_isI v then (fx_put1 r i v).map fun r' => (E, r', t, U) else none
  | _ => none
def fx_lst (E : fx_Env) (r : fx_Loc) (i : Nat) (st : List fx_V) (U : fx_U) : Option fx_St := match st with
  | .inl (.long x) :: t => (fx_put2 r i (.inl (.long x))).map fun r' => (E, r', t, U)
  | _ => none
def fx_ast (E : fx_Env) (r : fx_Loc) (i : Nat) (st : List fx_V) (U : fx_U) : Option fx_St := match st with
  | .inl (.ref x) :: t => (fx_put1 r i (.inl (.ref x))).map fun r' => (E, r', t, U)
  | .inl (.retAddr x) :: t => (fx_put1 r i (.inl (.retAddr x))).map fun r' => (E, r', t, U)
  | _ => none
/-- plus a constant: exactly -/
def fx_lit (x : Int32) : Option fx_V := match x.toUInt32.toNat with
  | 0 => some (.inl (.int (Int32.ofNat 0)))
  | n + 1 => some (.inl (.int (Int32.ofNat (n + 1))))
theorem fx_lit_eq (x : Int32) : fx_lit x = some (.inl (.int x)) := by
  have h : Int32.ofNat x.toUInt32.toNat = x := by
    apply Int32.toBitVec_inj.mp
    simp
  unfold fx_lit
  split
  · next h0 => rw [← h0, h]
  · next n hn => rw [show n + 1 = x.toUInt32.toNat from hn.symm, h]
def fx_plus (v : fx_V) (c : Int32) : Option fx_V := match v with
  | .inl (.int x) => fx_lit (x + c)
  | .inr j => some (.inr (j.1, j.2 + c))
  | _ => none
theorem fx_plus_spec {v x : fx_V} {c : Int32} (h : fx_plus v c = some x) (p : Nat → Int32) : ∃ X, fx_ev p v = .int X ∧ fx_ev p x = .int (X + c) := by
  unfold fx_plus at h
  split at h
  · rw [fx_lit_eq] at h
    cases h
    exact ⟨_, rfl, rfl⟩
  · next j =>
    cases h
    refine ⟨_, rfl, ?_⟩
    show Value.int (p j.1 + (j.2 + c)) = _
    rw [Int32.add_assoc]
  · cases h
def fx_bast (L : Nat → Option mm_Cell) (E : fx_Env) (r : fx_Loc) (t : List fx_V) (U : fx_U) (v : fx_V) (i : Int32) (x : fx_V) : Option fx_St := match v with
  | .inl (.ref k) => match L k with
    | some (.inr (.inl (.byte, xs))) => bif mm_in i xs.length then (match x with
      | .inl (.int X) => some (E, r, t, fx_wr U k i.toNatClampNeg (xs[i.toNatClampNeg]?.map .int) (.inl (.int (vp_nar .byte X))))
      | .inr _ => bif fx_wfl E.length r && (fx_wfs E.length t && fx_wfu E.length U) then some (E ++ [fx_top], r, t, ((k, i.toNatClampNeg), .inr (E.length, 0)) :: U) else none
      | _ => none) else none
    | some (.inr (.inl (.boolean, xs))) => bif mm_in i xs.length then (match x with
      | .inl (.int X) => some (E, r, t, fx_wr U k i.toNatClampNeg (xs[i.toNatClampNeg]?.map .int) (.inl (.int (vp_nar .boolean X))))
      | _ => none) else none
    | _ => none
  | _ => none
theorem fx_bast_spec {L : Nat → Option mm_Cell} {B : mm_Heap} (hL : fx_okL L B) {xs : List Int32} {E : fx_Env} {p : Nat → Int32} (hp : fx_ok xs E p) {r : fx_Loc} {t : List fx_V} {U : fx_U} {v x : fx_V} {i X : Int32} {T : fx_St} (hX : fx_ev p x = .int X) (h : fx_bast L E r t U v i x = some T) :
    ∃ p', fx_Means xs E p T.1 p' ∧ fx_evl p' T.2.1 = fx_evl p r ∧ fx_evs p' T.2.2.1 = fx_evs p t ∧ mm_bast (fx_evh B p U) (fx_ev p v) i X = some (fx_evh B p' T.2.2.2) := by
  unfold fx_bast at h
  split at h
  · next k =>
    split at h
    · next ys ha =>
      have h9 := mm_bif h
      clear h
      rcases h9 with ⟨hc, h⟩ | ⟨-, h⟩
      · obtain ⟨fs, h1, h2, h3⟩ := fx_arr (p := p) (hL k _ ha) U
        dsimp only at h1 h2
        split at h
        · next X' =>
          cases h
          cases (show Value.int X' = Value.int X from hX)
          have hw := fx_wr_arr (p := p) (hL k _ ha) (mm_in_lt hc) U (.inl (.int (vp_nar .byte X)))
          dsimp only at hw
          refine ⟨p, fx_Means.rf hp, rfl, rfl, ?_⟩
          rw [hw]
          show mm_bast (fx_evh B p U) (.ref k) i X = _
          unfold mm_bast fx_put
          dsimp only
          rw [h1]
          dsimp only
          rw [h2, hc]
          rfl
        · next j =>
          rcases mm_bif h with ⟨hw, h⟩ | ⟨-, h⟩
          · cases h
            simp only [Bool.and_eq_true] at hw
            obtain ⟨w1, w2, w3⟩ := hw
            have hM := fx_push hp (fx_top_ok (vp_nar .byte X)).1 (fx_top_ok (vp_nar .byte X)).2
            refine ⟨_, hM, fx_wfl_ev hM.2.1 w1, fx_wfs_ev hM.2.1 w2, ?_⟩
            show mm_bast (fx_evh B p U) (.ref k) i X = some (fx_put (fx_evh B _ U) k i.toNatClampNeg (fx_ev _ (.inr (E.length, 0))))
            rw [fx_wfu_ev hM.2.1 w3, fx_push_ev]
            unfold mm_bast fx_put
            dsimp only
            rw [h1]
            dsimp only
            rw [h2, hc]
            rfl
          · cases h
        · cases h
      · cases h
    · next ys ha =>
      have h9 := mm_bif h
      clear h
      rcases h9 with ⟨hc, h⟩ | ⟨-, h⟩
      · obtain ⟨fs, h1, h2, h3⟩ := fx_arr (p := p) (hL k _ ha) U
        dsimp only at h1 h2
        split at h
        · next X' =>
          cases h
          cases (show Value.int X' = Value.int X from hX)
          have hw := fx_wr_arr (p := p) (hL k _ ha) (mm_in_lt hc) U (.inl (.int (vp_nar .boolean X)))
          dsimp only at hw
          refine ⟨p, fx_Means.rf hp, rfl, rfl, ?_⟩
          rw [hw]
          show mm_bast (fx_evh B p U) (.ref k) i X = _
          unfold mm_bast fx_put
          dsimp only
          rw [h1]
          dsimp only
          rw [h2, hc]
          rfl
        · cases h
      · cases h
    · cases h
  · cases h
