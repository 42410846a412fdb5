def fx_step (L : Nat → Option mm_Cell) (E : fx_Env) (w : mm_Row) (r : fx_Loc) (st : List fx_V) (U : fx_U) : Option fx_St := match w.1 with
  | .iconst n => some (E, r, .inl (.int (Int32.ofInt n)) :: st, U)
  | .bipush n => some (E, r, .inl (.int (Int8.ofInt n).toInt32) :: st, U)
  | .sipush n => some (E, r, .inl (.int (Int16.ofInt n).toInt32) :: st, U)
  | .lconst n => some (E, r, .inl (.long (Int64.ofNat n)) :: st, U)
  | .ldc_w _ => bif Nat.beq w.2.2.2.1 0 then some (E, r, .inl (.int (Int32.ofNat w.2.2.1)) :: st, U) else none
  | .ldc _ => bif Nat.beq w.2.2.2.1 0 then some (E, r, .inl (.int (Int32.ofNat w.2.2.1)) :: st, U) else none
  | .ldc2_w _ => some (E, r, .inl (.long (Int64.ofNat w.2.2.1)) :: st, U)
  | .iload i => fx_ild E r i st U
  | .iload_n i => fx_ild E r i st U
  | .lload i => fx_lld E r i st U
  | .lload_n i => fx_lld E r i st U
  | .aload i => fx_ald E r i st U
  | .aload_n i => fx_ald E r i st U
  | .istore i => fx_ist E r i st U
  | .istore_n i => fx_ist E r i st U
  | .lstore i => fx_lst E r i st U
  | .lstore_n i => fx_lst E r i st U
  | .astore i => fx_ast E r i st U
  | .astore_n i => fx_ast E r i st U
  | .iinc i n => match fx_get r i with
    | some v => match fx_plus (fx_res E v) (Int32.ofInt n) with
      | some x => (fx_put1 r i x).map fun r' => (E, r', st, U)
      | none => none
    | none => none
  | .iadd => match st with
    | y :: x :: t => match fx_res E x, fx_res E y with
      | x', .inl (.int Y) => (fx_plus x' Y).map fun z => (E, r, z :: t, U)
      | .inl (.int X), .inr j => some (E, r, .inr (j.1, j.2 + X) :: t, U)
      | _, _ => none
    | _ => none
  | .isub => match st with
    | y :: x :: t => match fx_res E y with
      | .inl (.int Y) => (fx_plus (fx_res E x) (-Y)).map fun z => (E, r, z :: t, U)
      | _ => none
    | _ => none
  | .iand => fx_ii E r st U (fun x y => x &&& y) fx_ivand
  | .imul => fx_ii E r st U (fun x y => x * y) fx_ivt
  | .ior => fx_ii E r st U (fun x y => x ||| y) fx_ivt
  | .ixor => fx_ii E r st U (fun x y => x ^^^ y) fx_ivt
  | .ishl => fx_ii E r st U (fun x y => x <<< (y &&& 31)) fx_ivt
  | .ishr => fx_ii E r st U (fun x y => x >>> (y &&& 31)) fx_ivt
  | .iushr => fx_ii E r st U (fun x y => (x.toUInt32 >>> (y.toUInt32 &&& Int32.toUInt32 31)).toInt32) fx_ivt
  | .i2b => match st with
    | x :: t => match fx_res E x with
      | .inl (.int X) => some (E, r, .inl (.int X.toInt8.toInt32) :: t, U)
      | .inr _ => fx_fresh E fx_top r t U
      | _ => none
    | _ => none
  | .dup => match st with
    | v :: t => bif Nat.beq (fx_cat v) 1 then some (E, r, v :: v :: t, U) else none
    | _ => none
  | .pop => match st with
    | v :: t => bif Nat.beq (fx_cat v) 1 then some (E, r, t, U) else none
    | _ => none
  | .dup2 => match st with
    | v :: t => bif Nat.beq (fx_cat v) 2 then some (E, r, v :: v :: t, U) else match t with
      | u :: t' => bif Nat.beq (fx_cat v) 1 && Nat.beq (fx_cat u) 1 then some (E, r, v :: u :: v :: u :: t', U) else none
      | _ => none
    | _ => none
  | .getfield _ => match st with
    | v :: t => (fx_getf L U v w.2.2.1 w.2.2.2.1).map fun x => (E, r, fx_res E x :: t, U)
    | _ => none
  | .putfield _ => match st with
    | x :: v :: t => (fx_putf L E U v w.2.2.1 w.2.2.2.1 w.2.2.2.2 (fx_res E x)).map fun U' => (E, r, t, U')
    | _ => none
  | .arraylength => match st with
    | v :: t => (fx_len L v).map fun x => (E, r, .inl (.int x) :: t, U)
    | _ => none
  | .iastore => match st with
    | x :: i :: v :: t => match fx_res E i with
      | .inl (.int I) => (fx_iast L U v I (fx_res E x)).map fun U' => (E, r, t, U')
      | _ => none
    | _ => none
  | .bastore => match st with
    | x :: i :: v :: t => match fx_res E i with
      | .inl (.int I) => fx_bast L E r t U v I (fx_res E x)
      | _ => none
    | _ => none
  | i => bif fx_is2 i then fx_con2 E w r st U else bif fx_is1 i then fx_con1 E w r st U else none
theorem fx_ild_spec {xs : List Int32} {B : mm_Heap} {E : fx_Env} {p : Nat → Int32} (hp : fx_ok xs E p) {r : fx_Loc} {i : Nat} {st : List fx_V} {U : fx_U} {T : fx_St} (h : fx_ild E r i st U = some T) :
    ∃ p', fx_Means xs E p T.1 p' ∧ (match mm_get (fx_evl p r) i with
      | some (.int x) => some (fx_evl p r, Value.int x :: fx_evs p st, fx_evh B p U)
      | _ => none) = some (fx_evl p' T.2.1, fx_evs p' T.2.2.1, fx_evh B p' T.2.2.2) := by
  unfold fx_ild at h
  split at h
  · next v hv =>
    rcases mm_bif h with ⟨hc, h⟩ | ⟨-, h⟩
    · cases h
      obtain ⟨X, hX⟩ := fx_isI_spec hc p
      refine ⟨p, fx_Means.rf hp, ?_⟩
      rw [fx_get_ev, hv]
      show (match some (fx_ev p v) with
        | some (.int x) => some (fx_evl p r, Value.int x :: fx_evs p st, fx_evh B p U)
        | _ => none) = some (fx_evl p r, fx_ev p (fx_res E v) :: fx_evs p st, fx_evh B p U)
      rw [fx_res_ev hp, hX]
    · cases h
  · cases h
theorem fx_lld_spec {xs : List Int32} {B : mm_Heap} {E : fx_Env} {p : Nat → Int32} (hp : fx_ok xs E p) {r : fx_Loc} {i : Nat} {st : List fx_V} {U : fx_U} {T : fx_St} (h : fx_lld E r i st U = some T) :
    ∃ p', fx_Means xs E p T.1 p' ∧ (match mm_get (fx_evl p r) i with
      | some (.long x) => some (fx_evl p r, Value.long x :: fx_evs p st, fx_evh B p U)
      | _ => none) = some (fx_evl p' T.2.1, fx_evs p' T.2.2.1, fx_evh B p' T.2.2.2) := by
  unfold fx_lld at h
  split at h
  · next x hv =>
    cases h
    refine ⟨p, fx_Means.rf hp, ?_⟩
    rw [fx_get_ev, hv]
    rfl
  · cases h
theorem fx_ald_spec {xs : List Int32} {B : mm_Heap} {E : fx_Env} {p : Nat → Int32} (hp : fx_ok xs E p) {r : fx_Loc} {i : Nat} {st : List fx_V} {U : fx_U} {T : fx_St} (h : fx_ald E r i st U = some T) :
    ∃ p', fx_Means xs E p T.1 p' ∧ (match mm_get (fx_evl p r) i with
      | some (.ref x) => some (fx_evl p r, Value.ref x :: fx_evs p st, fx_evh B p U)
      | some (.retAddr x) => some (fx_evl p r, Value.retAddr x :: fx_evs p st, fx_evh B p U)
      | _ => none) = some (fx_evl p' T.2.1, fx_evs p' T.2.2.1, fx_evh B p' T.2.2.2) := by
  unfold fx_ald at h
  split at h
  · next x hv =>
    cases h
    refine ⟨p, fx_Means.rf hp, ?_⟩
    rw [fx_get_ev, hv]
    rfl
  · next x hv =>
    cases h
    refine ⟨p, fx_Means.rf hp, ?_⟩
    rw [fx_get_ev, hv]
    rfl
  · cases h
theorem fx_ist_spec {xs : List Int32} {B : mm_Heap} {E : fx_Env} {p : Nat → Int32} (hp : fx_ok xs E p) {r : fx_Loc} {i : Nat} {st : List fx_V} {U : fx_U} {T : fx_St} (h : fx_ist E r i st U = some T) :
    ∃ p', fx_Means xs E p T.1 p' ∧ (match fx_evs p st with
      | .int x :: t => (mm_put1 (fx_evl p r) i (.int x)).map fun r' => (r', t, fx_evh B p U)
      | _ => none) = some (fx_evl p' T.2.1, fx_evs p' T.2.2.1, fx_evh B p' T.2.2.2) := by
  unfold fx_ist at h
  split at h
  · next v t =>
    rcases mm_bif h with ⟨hc, h⟩ | ⟨-, h⟩
    · obtain ⟨r', hr, hT⟩ := Option.map_eq_some_iff.mp h
      subst hT
      obtain ⟨X, hX⟩ := fx_isI_spec hc p
      refine ⟨p, fx_Means.rf hp, ?_⟩
      show (match fx_ev p v :: fx_evs p t with
        | .int x :: t => (mm_put1 (fx_evl p r) i (.int x)).map fun r' => (r', t, fx_evh B p U)
        | _ => none) = _
      rw [hX]
      dsimp only
      rw [← hX, fx_put1_ev, hr]
      rfl
    · cases h
  · cases h
theorem fx_lst_spec {xs : List Int32} {B : mm_Heap} {E : fx_Env} {p : Nat → Int32} (hp : fx_ok xs E p) {r : fx_Loc} {i : Nat} {st : List fx_V} {U : fx_U} {T : fx_St} (h : fx_lst E r i st U = some T) :
    ∃ p', fx_Means xs E p T.1 p' ∧ (match fx_evs p st with
      | .long x :: t => (mm_put2 (fx_evl p r) i (.long x)).map fun r' => (r', t, fx_evh B p U)
      | _ => none) = some (fx_evl p' T.2.1, fx_evs p' T.2.2.1, fx_evh B p' T.2.2.2) := by
  unfold fx_lst at h
  split at h
  · next x t =>
    obtain ⟨r', hr, hT⟩ := Option.map_eq_some_iff.mp h
    subst hT
    refine ⟨p, fx_Means.rf hp, ?_⟩
    show (mm_put2 (fx_evl p r) i (fx_ev p (.inl (.long x)))).map _ = _
    rw [fx_put2_ev, hr]
    rfl
  · cases h
theorem fx_ast_spec {xs : List Int32} {B : mm_Heap} {E : fx_Env} {p : Nat → Int32} (hp : fx_ok xs E p) {r : fx_Loc} {i : Nat} {st : List fx_V} {U : fx_U} {T : fx_St} (h : fx_ast E r i st U = some T) :
    ∃ p', fx_Means xs E p T.1 p' ∧ (match fx_evs p st with
      | .ref x :: t => (mm_put1 (fx_evl p r) i (.ref x)).map fun r' => (r', t, fx_evh B p U)
      | .retAddr x :: t => (mm_put1 (fx_evl p r) i (.retAddr x)).map fun r' => (r', t, fx_evh B p U)
      | _ => none) = some (fx_evl p' T.2.1, fx_evs p' T.2.2.1, fx_evh B p' T.2.2.2) := by
  unfold fx_ast at h
  split at h
  · next x t =>
    obtain ⟨r', hr, hT⟩ := Option.map_eq_some_iff.mp h
    subst hT
    refine ⟨p, fx_Means.rf hp, ?_⟩
    show (mm_put1 (fx_evl p r) i (fx_ev p (.inl (.ref x)))).map _ = _
    rw [fx_put1_ev, hr]
    rfl
  · next x t =>
    obtain ⟨r', hr, hT⟩ := Option.map_eq_some_iff.mp h
    subst hT
    refine ⟨p, fx_Means.rf hp, ?_⟩
    show (mm_put1 (fx_evl p r) i (fx_ev p (.inl (.retAddr x)))).map _ = _
    rw [fx_put1_ev, hr]
    rfl
  · cases h
theorem fx_step_spec {L : Nat → Option mm_Cell} {B : mm_Heap} (hL : fx_okL L B) {xs : List Int32} (hxs : xs.length = 6) {S : List (List Int32) × List (List Nat)} {E : fx_Env} {p : Nat → Int32} (hp : fx_ok xs E p) {w : mm_Row} {pc : Nat} {r : fx_Loc} {st : List fx_V} {U : fx_U} {T : fx_St} (h : fx_step L E w r st U = some T) : fx_StepOk xs B S E p w pc r st U T := by
  obtain ⟨i, len, a, b, c⟩ := w
  have rf := fx_Means.rf hp
  cases i
  case iconst n => cases h; exact ⟨p, rf, rfl⟩
  case bipush n => cases h; exact ⟨p, rf, rfl⟩
  case sipush n => cases h; exact ⟨p, rf, rfl⟩
  case lconst n => cases h; exact ⟨p, rf, rfl⟩
  case ldc2_w n => cases h; exact ⟨p, rf, rfl⟩
  case ldc_w n =>
    rcases mm_bif (show (bif Nat.beq b 0 then some (E, r, .inl (.int (Int32.ofNat a)) :: st, U) else none) = some T from h) with ⟨hc, h⟩ | ⟨-, h⟩
    · cases h
      refine ⟨p, rf, ?_⟩
      show (bif Nat.beq b 0 then _ else _) = _
      rw [hc]
      rfl
    · cases h
  case ldc n =>
    rcases mm_bif (show (bif Nat.beq b 0 then some (E, r, .inl (.int (Int32.ofNat a)) :: st, U) else none) = some T from h) with ⟨hc, h⟩ | ⟨-, h⟩
    · cases h
      refine ⟨p, rf, ?_⟩
      show (bif Nat.beq b 0 then _ else _) = _
      rw [hc]
      rfl
    · cases h
  case iload i => exact fx_ild_spec hp h
  case iload_n i => exact fx_ild_spec hp h
  case lload i => exact fx_lld_spec hp h
  case lload_n i => exact fx_lld_spec hp h
  case aload i => exact fx_ald_spec hp h
  case aload_n i => exact fx_ald_spec hp h
  case istore i => exact fx_ist_spec hp h
  case istore_n i => exact fx_ist_spec hp h
  case lstore i => exact fx_lst_spec hp h
  case lstore_n i => exact fx_lst_spec hp h
  case astore i => exact fx_ast_spec hp h
  case astore_n i => exact fx_ast_spec hp h
  case iinc i n =>
    unfold fx_step at h
    dsimp only at h
    split at h
    · next v hv =>
      split at h
      · next x hx =>
        obtain ⟨r', hr, hT⟩ := Option.map_eq_some_iff.mp h
        subst hT
        obtain ⟨X, h1, h2⟩ := fx_plus_spec hx p
        rw [fx_res_ev hp] at h1
        refine ⟨p, rf, ?_⟩
        show (match mm_get (fx_evl p r) i with
          | some (.int x) => (mm_put1 (fx_evl p r) i (.int (x + Int32.ofInt n))).map fun r' => (r', fx_evs p st, fx_evh B p U)
          | _ => none) = _
        rw [fx_get_ev, hv]
        dsimp only [Option.map_some]
        rw [h1]
        dsimp only
        rw [← h2, fx_put1_ev, hr]
        rfl
      · cases h
    · cases h
  case iadd =>
    unfold fx_step at h
    dsimp only at h
    split at h
    · next y x t =>
      have e1 := fx_res_ev hp x
      have e2 := fx_res_ev hp y
      split at h
      · next Y hY =>
        obtain ⟨z, hz, hT⟩ := Option.map_eq_some_iff.mp h
        subst hT
        obtain ⟨X, h1, h2⟩ := fx_plus_spec hz p
        refine ⟨p, rf, ?_⟩
        show Option.map _ (mm_ii (fx_ev p y :: fx_ev p x :: fx_evs p t) _) = some (_, fx_ev p z :: _, _)
        rw [← e2, hY, ← e1, h1, h2]
        rfl
      · next X j hX hY =>
        cases h
        refine ⟨p, rf, ?_⟩
        show Option.map _ (mm_ii (fx_ev p y :: fx_ev p x :: fx_evs p t) _) = some (_, Value.int (p j.1 + (j.2 + X)) :: _, _)
        rw [← e2, hY, ← e1, hX]
        show some (fx_evl p r, Value.int (X + (p j.1 + j.2)) :: fx_evs p t, fx_evh B p U) = _
        rw [Int32.add_comm X, Int32.add_assoc]
        rfl
      · cases h
    · cases h
  case isub =>
    unfold fx_step at h
    dsimp only at h
    split at h
    · next y x t =>
      have e1 := fx_res_ev hp x
      have e2 := fx_res_ev hp y
      split at h
      · next Y hY =>
        obtain ⟨z, hz, hT⟩ := Option.map_eq_some_iff.mp h
        subst hT
        obtain ⟨X, h1, h2⟩ := fx_plus_spec hz p
        refine ⟨p, rf, ?_⟩
        show Option.map _ (mm_ii (fx_ev p y :: fx_ev p x :: fx_evs p t) _) = some (_, fx_ev p z :: _, _)
        rw [← e2, hY, ← e1, h1, h2]
        show some (fx_evl p r, Value.int (X - Y) :: fx_evs p t, fx_evh B p U) = _
        rw [Int32.sub_eq_add_neg]
        rfl
      · cases h
    · cases h
  case iand => exact fx_ii_spec hp fx_ivand_ok h
  case imul => exact fx_ii_spec hp (fx_ivt_ok (fun x y => x * y)) h
  case ior => exact fx_ii_spec hp (fx_ivt_ok (fun x y => x ||| y)) h
  case ixor => exact fx_ii_spec hp (fx_ivt_ok (fun x y => x ^^^ y)) h
  case ishl => exact fx_ii_spec hp (fx_ivt_ok (fun x y => x <<< (y &&& 31))) h
  case ishr => exact fx_ii_spec hp (fx_ivt_ok (fun x y => x >>> (y &&& 31))) h
  case iushr => exact fx_ii_spec hp (fx_ivt_ok (fun x y => (x.toUInt32 >>> (y.toUInt32 &&& Int32.toUInt32 31)).toInt32)) h
  case i2b =>
    unfold fx_step at h
    dsimp only at h
    split at h
    · next x t =>
      have e1 := fx_res_ev hp x
      split at h
      · next X hX =>
        cases h
        refine ⟨p, rf, ?_⟩
        show Option.map _ (mm_i (fx_ev p x :: fx_evs p t) _) = _
        rw [← e1, hX]
        rfl
      · next j hX =>
        rw [hX] at e1
        obtain ⟨p', hM, g1, g2, g3⟩ := fx_fresh_spec (B := B) hp (fx_top_ok (p j.1 + j.2).toInt8.toInt32).1 (fx_top_ok (p j.1 + j.2).toInt8.toInt32).2 h
        refine ⟨p', hM, ?_⟩
        rw [g1, g2, g3]
        show Option.map _ (mm_i (fx_ev p x :: fx_evs p t) _) = _
        rw [← e1]
        rfl
      · cases h
    · cases h
  case dup =>
    unfold fx_step at h
    dsimp only at h
    split at h
    · next v t =>
      rcases mm_bif h with ⟨hc, h⟩ | ⟨-, h⟩
      · cases h
        refine ⟨p, rf, ?_⟩
        show (bif Nat.beq (fx_ev p v).category 1 then _ else _) = _
        rw [fx_cat_ev, hc]
        rfl
      · cases h
    · cases h
  case pop =>
    unfold fx_step at h
    dsimp only at h
    split at h
    · next v t =>
      rcases mm_bif h with ⟨hc, h⟩ | ⟨-, h⟩
      · cases h
        refine ⟨p, rf, ?_⟩
        show (bif Nat.beq (fx_ev p v).category 1 then _ else _) = _
        rw [fx_cat_ev, hc]
        rfl
      · cases h
    · cases h
  case dup2 =>
    unfold fx_step at h
    dsimp only at h
    split at h
    · next v t =>
      have h9 := mm_bif h
      clear h
      rcases h9 with ⟨hc, h⟩ | ⟨hc, h⟩
      · cases h
        refine ⟨p, rf, ?_⟩
        show (bif Nat.beq (fx_ev p v).category 2 then _ else _) = _
        rw [fx_cat_ev, hc]
        rfl
      · split at h
        · next u t' =>
          rcases mm_bif h with ⟨hd, h⟩ | ⟨-, h⟩
          · cases h
            refine ⟨p, rf, ?_⟩
            show (bif Nat.beq (fx_ev p v).category 2 then _ else (bif Nat.beq (fx_ev p v).category 1 && Nat.beq (fx_ev p u).category 1 then _ else _)) = _
            rw [fx_cat_ev, fx_cat_ev, hc, hd]
            rfl
          · cases h
        · cases h
    · cases h
  case getfield idx =>
    unfold fx_step at h
    dsimp only at h
    split at h
    · next v t =>
      obtain ⟨x, hx, hT⟩ := Option.map_eq_some_iff.mp h
      subst hT
      refine ⟨p, rf, ?_⟩
      show (mm_getf _ (fx_evh B p U) (fx_ev p v) a b).map _ = some (_, fx_ev p (fx_res E x) :: _, _)
      rw [fx_getf_spec hL hx, fx_res_ev hp]
      rfl
    · cases h
  case putfield idx =>
    unfold fx_step at h
    dsimp only at h
    split at h
    · next x v t =>
      obtain ⟨U', hx, hT⟩ := Option.map_eq_some_iff.mp h
      subst hT
      refine ⟨p, rf, ?_⟩
      show (mm_putf (fx_evh B p U) (fx_ev p v) a b c (fx_ev p x)).map _ = _
      rw [← fx_res_ev hp x, fx_putf_spec hL hp hx]
      rfl
    · cases h
  case arraylength =>
    unfold fx_step at h
    dsimp only at h
    split at h
    · next v t =>
      obtain ⟨x, hx, hT⟩ := Option.map_eq_some_iff.mp h
      subst hT
      refine ⟨p, rf, ?_⟩
      show (mm_len _ (fx_evh B p U) (fx_ev p v)).map _ = _
      rw [fx_len_spec hL hxs hx]
      rfl
    · cases h
  case iastore =>
    unfold fx_step at h
    dsimp only at h
    split at h
    · next x i v t =>
      have e1 := fx_res_ev hp x
      have e2 := fx_res_ev hp i
      split at h
      · next I hI =>
        obtain ⟨U', hx, hT⟩ := Option.map_eq_some_iff.mp h
        subst hT
        have hxi : fx_isI (fx_res E x) = true := by
          unfold fx_iast at hx
          split at hx
          · split at hx
            · rcases mm_bif hx with ⟨hc, -⟩ | ⟨-, hx⟩
              · exact (Bool.and_eq_true_iff.mp hc).2
              · cases hx
            · cases hx
          · cases hx
        obtain ⟨X, hX⟩ := fx_isI_spec hxi p
        have hs := fx_iast_spec hL hX hx
        refine ⟨p, rf, ?_⟩
        show (match fx_ev p x :: fx_ev p i :: fx_ev p v :: fx_evs p t with
          | .int x :: .int i :: v :: t => (mm_iast (fx_evh B p U) v i x).map fun h' => (fx_evl p r, t, h')
          | _ => none) = _
        rw [← e1, hX, ← e2, hI]
        show (mm_iast (fx_evh B p U) (fx_ev p v) I X).map _ = _
        rw [hs]
        rfl
      · cases h
    · cases h
  case bastore =>
    unfold fx_step at h
    dsimp only at h
    split at h
    · next x i v t =>
      have e1 := fx_res_ev hp x
      have e2 := fx_res_ev hp i
      split at h
      · next I hI =>
        have hxi : ∃ X, fx_ev p (fx_res E x) = .int X := by
          unfold fx_bast at h
          split at h
          · split at h
            · rcases mm_bif h with ⟨hc, h⟩ | ⟨-, h⟩
              · split at h
                · next hh => rw [hh]; exact ⟨_, rfl⟩
                · next hh => rw [hh]; exact ⟨_, rfl⟩
                · cases h
              · cases h
            · rcases mm_bif h with ⟨hc, h⟩ | ⟨-, h⟩
              · split at h
                · next hh => rw [hh]; exact ⟨_, rfl⟩
                · cases h
              · cases h
            · cases h
          · cases h
        obtain ⟨X, hX⟩ := hxi
        obtain ⟨p', hM, g1, g2, hs⟩ := fx_bast_spec hL hp hX h
        refine ⟨p', hM, ?_⟩
        rw [g1, g2]
        show (match fx_ev p x :: fx_ev p i :: fx_ev p v :: fx_evs p t with
          | .int x :: .int i :: v :: t => (mm_bast (fx_evh B p U) v i x).map fun h' => (fx_evl p r, t, h')
          | _ => none) = _
        rw [← e1, hX, ← e2, hI]
        show (mm_bast (fx_evh B p U) (fx_ev p v) I X).map _ = _
        rw [hs]
        rfl
      · cases h
    · cases h
  case idiv => exact fx_con2_spec hp rfl h
  case irem => exact fx_con2_spec hp rfl h
  case ladd => exact fx_con2_spec hp rfl h
  case lsub => exact fx_con2_spec hp rfl h
  case lmul => exact fx_con2_spec hp rfl h
  case ldiv => exact fx_con2_spec hp rfl h
  case lrem => exact fx_con2_spec hp rfl h
  case lcmp => exact fx_con2_spec hp rfl h
  case i2l => exact fx_con1_spec hp rfl h
  case l2i => exact fx_con1_spec hp rfl h
  case lneg => exact fx_con1_spec hp rfl h
  case ineg => exact fx_con1_spec hp rfl h
  all_goals cases h
