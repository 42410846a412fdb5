/-! the symbolic run itself -/
def fx_sl (vs : List fx_V) : fx_Loc := vs.flatMap fun v => bif Nat.beq (fx_cat v) 2 then [some v, none] else [some v]
def fx_entry (n : Nat) (vs : List fx_V) : fx_Loc := fx_sl vs ++ List.replicate (n - (fx_sl vs).length) none
def fx_words (st : List fx_V) : Nat := (st.map fx_cat).sum
theorem fx_words_ev (p : Nat → Int32) (st : List fx_V) : mm_words (fx_evs p st) = fx_words st := by
  unfold mm_words fx_words fx_evs
  rw [List.map_map]
  congr 1
  apply List.map_congr_left
  intro v _
  exact fx_cat_ev p v
theorem fx_sl_ev (p : Nat → Int32) : ∀ vs : List fx_V, mm_sl (fx_evs p vs) = fx_evl p (fx_sl vs) := by
  intro vs
  induction vs with
  | nil => rfl
  | cons v t ih =>
    unfold mm_sl fx_sl fx_evs at ih ⊢
    rw [List.map_cons, List.flatMap_cons, List.flatMap_cons, ih]
    unfold fx_evl
    rw [List.map_append, fx_cat_ev]
    cases Nat.beq (fx_cat v) 2 <;> rfl
theorem fx_entry_ev (p : Nat → Int32) (n : Nat) (vs : List fx_V) : mm_entry n (fx_evs p vs) = fx_evl p (fx_entry n vs) := by
  unfold mm_entry fx_entry
  rw [fx_sl_ev]
  unfold fx_evl
  rw [List.map_append, List.length_map, List.map_replicate]
  rfl
def fx_rcv (L : Nat → Option mm_Cell) (v : fx_V) (own : Nat) : Bool := match v with
  | .inl (.ref k) => match L k with
    | some (.inl o) => Nat.beq o.1 own
    | _ => false
  | _ => false
theorem fx_rcv_spec {L : Nat → Option mm_Cell} {B : mm_Heap} (hL : fx_okL L B) {O : mm_Old} {p : Nat → Int32} {U : fx_U} {v : fx_V} {own : Nat} (h : fx_rcv L v own = true) : mm_rcv O (fx_evh B p U) (fx_ev p v) own = true := by
  unfold fx_rcv at h
  split at h
  · next k =>
    split at h
    · next o ho =>
      obtain ⟨fs, h1, -, -⟩ := fx_obj (p := p) (hL k _ ho) U
      show mm_rcv O (fx_evh B p U) (.ref k) own = true
      unfold mm_rcv
      dsimp only
      rw [h1]
      exact h
    · cases h
  · cases h
abbrev fx_K : Type := fx_Env → Option fx_V → fx_U → Nat → Bool
def fx_val (v : Option fx_V) : Option (List fx_V) := match v with
  | some (.inl (.retAddr _)) => none
  | some w => some [w]
  | none => some []
theorem fx_val_spec {v : Option fx_V} {vs : List fx_V} (h : fx_val v = some vs) (p : Nat → Int32) : mm_val (v.map (fx_ev p)) = some (fx_evs p vs) := by
  unfold fx_val at h
  split at h
  · cases h
  · next w hw =>
    cases h
    cases w with
    | inr j => rfl
    | inl z =>
      cases z with
      | retAddr n => exact absurd rfl (hw n)
      | _ => rfl
  · cases h; rfl
def fx_rfit (E : fx_Env) (ty : Option FieldType) (v : fx_V) : Bool := match v with
  | .inl (.int x) => mm_rfit ty x
  | .inl _ => false
  | .inr j => match ty with
    | some .int => true
    | some .boolean => fx_fit E 1 (.inr j)
    | _ => false
theorem fx_rfit_spec {xs : List Int32} {E : fx_Env} {p : Nat → Int32} (hp : fx_ok xs E p) {ty : Option FieldType} {v : fx_V} (h : fx_rfit E ty v = true) : ∃ X, fx_ev p v = .int X ∧ mm_rfit ty X = true := by
  unfold fx_rfit at h
  split at h
  · exact ⟨_, rfl, h⟩
  · cases h
  · next j =>
    refine ⟨_, rfl, ?_⟩
    split at h
    · rfl
    · exact fx_fit_spec hp h
    · cases h
def fx_sw (E : fx_Env) (x : fx_V) (lo hi : Int) (f : fx_Env → Option Int32 → Bool) : Bool := bif decide ((Int32.ofInt lo).toInt = lo) && decide ((Int32.ofInt hi).toInt = hi) then
    fx_lt E x (.inl (.int (Int32.ofInt lo))) fun b E1 => bif b then f E1 none else fx_lt E1 (.inl (.int (Int32.ofInt hi))) x fun b E2 => bif b then f E2 none else fx_split E2 (fx_res E2 x) fun E3 X => f E3 (some X)
  else false
theorem fx_sw_spec {xs : List Int32} {E : fx_Env} {p : Nat → Int32} (hp : fx_ok xs E p) {x : fx_V} {lo hi : Int} {f : fx_Env → Option Int32 → Bool} (h : fx_sw E x lo hi f = true) :
    ∃ X, fx_ev p x = .int X ∧ ∃ E', fx_ok xs E' p ∧ E'.length = E.length ∧ ((f E' none = true ∧ (X.toInt < lo ∨ hi < X.toInt)) ∨ f E' (some X) = true) := by
  unfold fx_sw at h
  cases hc : decide ((Int32.ofInt lo).toInt = lo) && decide ((Int32.ofInt hi).toInt = hi) with
  | false => rw [hc] at h; cases h
  | true =>
    rw [hc, cond_true] at h
    simp only [Bool.and_eq_true, decide_eq_true_eq] at hc
    obtain ⟨X, Y, hX, hY, E1, h1, ok1, l1⟩ := fx_lt_spec hp h
    cases (show Value.int (Int32.ofInt lo) = Value.int Y from hY)
    refine ⟨X, hX, ?_⟩
    by_cases q1 : X < Int32.ofInt lo
    · rw [decide_eq_true q1] at h1
      have := Int32.lt_iff_toInt_lt.mp q1
      exact ⟨E1, ok1, l1, Or.inl ⟨h1, Or.inl (by omega)⟩⟩
    · rw [decide_eq_false q1] at h1
      obtain ⟨Y, X', hY, hX', E2, h2, ok2, l2⟩ := fx_lt_spec ok1 (show fx_lt E1 (.inl (.int (Int32.ofInt hi))) x (fun b E2 => bif b then f E2 none else fx_split E2 (fx_res E2 x) fun E3 X => f E3 (some X)) = true from h1)
      cases (show Value.int (Int32.ofInt hi) = Value.int Y from hY)
      rw [hX] at hX'
      cases hX'
      by_cases q2 : Int32.ofInt hi < X
      · rw [decide_eq_true q2] at h2
        have := Int32.lt_iff_toInt_lt.mp q2
        exact ⟨E2, ok2, l2.trans l1, Or.inl ⟨h2, Or.inr (by omega)⟩⟩
      · rw [decide_eq_false q2] at h2
        obtain ⟨X', hX', E3, h3, ok3, l3⟩ := fx_split_spec ok2 (show fx_split E2 (fx_res E2 x) (fun E3 X => f E3 (some X)) = true from h2)
        rw [fx_res_ev ok2, hX] at hX'
        cases hX'
        exact ⟨E3, ok3, l3.trans (l2.trans l1), Or.inr h3⟩
/-- what is said of a method's call, beside its code -/
abbrev fx_Orc : Type := Nat → Option (fx_Env → List fx_V → fx_U → Nat → fx_K → Bool)
abbrev fx_Go : Type := fx_Env → Nat → mm_Meth → Nat → fx_Loc → List fx_V → fx_U → Nat → fx_K → Bool
def fx_call (go : fx_Go) (S : fx_Orc) (E : fx_Env) (d : Nat) (a : Nat) (N : mm_Meth) (args : List fx_V) (U : fx_U) (g : Nat) (K : fx_K) : Bool := match S a with
  | some f => bif Nat.ble 30 d then f E args U g K else false
  | none => go E d N 0 (fx_entry (mm_maxL N) args) [] U g K
def fx_ctl (P : Nat → Option mm_Meth) (L : Nat → Option mm_Cell) (S : fx_Orc) (go : fx_Go) (w : mm_Row) (E : fx_Env) (d : Nat) (M : mm_Meth) (pc : Nat) (r : fx_Loc) (st : List fx_V) (U : fx_U) (g : Nat) (K : fx_K) : Bool := match w.1 with
  | .goto _ => go E d M w.2.2.1 r st U g K
  | .if_icmp c _ => match st with
    | y :: x :: t => fx_br E c (fx_res E x) (fx_res E y) fun b E' => bif b then go E' d M w.2.2.1 r t U g K else go E' d M (pc + 3) r t U g K
    | _ => false
  | .ifCond c _ => match st with
    | x :: t => fx_br E c (fx_res E x) (.inl (.int 0)) fun b E' => bif b then go E' d M w.2.2.1 r t U g K else go E' d M (pc + 3) r t U g K
    | _ => false
  | .tableswitch df lo hi offs => match st with
    | x :: t => fx_sw E (fx_res E x) lo hi fun E' o => match o with
      | none => match mm_tgt pc df with
        | some q => go E' d M q r t U g K
        | none => false
      | some X => match mm_tsw pc df lo hi offs X with
        | some q => go E' d M q r t U g K
        | none => false
    | _ => false
  | .ireturn => match st with
    | [v] => fx_rfit E (mm_ret M) v && K E (some (fx_res E v)) U g
    | _ => false
  | .lreturn => match st with
    | [.inl (.long x)] => K E (some (.inl (.long x))) U g
    | _ => false
  | .return_ => match st with
    | [] => K E none U g
    | _ => false
  | .iaload => match st with
    | i :: v :: t => fx_split E (fx_res E i) fun E' I => match fx_iald L U v I with
      | some x => fx_isI x && go E' d M (pc + 1) r (fx_res E' x :: t) U g K
      | none => false
    | _ => false
  | .invokevirtual _ => match P w.2.2.1, d with
    | some N, d' + 1 => match st.drop (mm_par N) with
      | v0 :: t => (Nat.ble (fx_words t) 8 && (Nat.beq (st.take (mm_par N)).length (mm_par N) && (Nat.ble (fx_sl (v0 :: (st.take (mm_par N)).reverse)).length (mm_maxL N) && (fx_rcv L v0 (mm_own N) && (fx_wfl E.length r && fx_wfs E.length t))))) && fx_call go S E d' w.2.2.1 N (v0 :: (st.take (mm_par N)).reverse) U g fun E' v U' g' => match fx_val v with
        | some vs => go E' d M (pc + 3) r (vs ++ t) U' g' K
        | none => false
      | _ => false
    | _, _ => false
  | .invokestatic _ => match w.2.2.2.1 with
    | 0 => match P w.2.2.1, d with
      | some N, d' + 1 => (Nat.ble (fx_words (st.drop (mm_par N))) 8 && (Nat.beq (st.take (mm_par N)).length (mm_par N) && (Nat.ble (fx_sl (st.take (mm_par N)).reverse).length (mm_maxL N) && (fx_wfl E.length r && fx_wfs E.length (st.drop (mm_par N)))))) && fx_call go S E d' w.2.2.1 N (st.take (mm_par N)).reverse U g fun E' v U' g' => match fx_val v with
        | some vs => go E' d M (pc + 3) r (vs ++ st.drop (mm_par N)) U' g' K
        | none => false
      | _, _ => false
    | 1 => match st with
      | n :: dp :: w' :: sp :: v :: t => match fx_res E n, fx_res E dp, fx_res E sp with
        | .inl (.int n), .inl (.int dp), .inl (.int sp) => (Nat.ble (fx_words t) 8 && Nat.ble 1 d) && match fx_copy L U v w' sp dp n with
          | some U' => go E d M (pc + 3) r t U' g K
          | none => false
        | _, _, _ => false
      | _ => false
    | 2 => match P w.2.2.1, d with
      | some N, d' + 1 + 1 => match st with
        | .inl (.ref o) :: p1 :: p0 :: .inl (.ref x) :: t => (Nat.ble (fx_words t) 8 && (Nat.beq (mm_par N) 2 && (Nat.ble 3 (mm_maxL N) && (fx_rcv L (.inl (.ref x)) (mm_own N) && (fx_isI p0 && (fx_isI p1 && (fx_wfl E.length r && fx_wfs E.length t))))))) && go E d' N 0 (fx_entry (mm_maxL N) [.inl (.ref x), p0, p1]) [] U g fun E' v U' g' => match v with
          | some (.inl (.retAddr q)) => go E' d M (pc + 3) r (.inl (.int (bif Nat.beq q 13 then 1 else 2)) :: t) U' g' K
          | _ => false
        | _ => false
      | _, _ => false
    | 3 => match st with
      | y :: x :: t => match fx_res E x, fx_res E y with
        | .inl X, .inl Y => match mm_math w.2.2.1 [Y, X] with
          | some [v] => (Nat.ble (fx_words (.inl v :: t)) 10 && Nat.ble 1 d) && go E d M (pc + 3) r (.inl v :: t) U g K
          | _ => false
        | _, _ => false
      | _ => false
    | _ => false
  | .new _ => bif Nat.beq w.2.2.2.1 1 then match st with
      | [] => Nat.ble 6 d && K E (some (.inl (.retAddr w.2.2.1))) U (g + 1)
      | _ => false else false
  | _ => false
def fx_body (P : Nat → Option mm_Meth) (L : Nat → Option mm_Cell) (S : fx_Orc) (go : fx_Go) (E : fx_Env) (d : Nat) (M : mm_Meth) (pc : Nat) (r : fx_Loc) (st : List fx_V) (U : fx_U) (g : Nat) (K : fx_K) : Bool := match mm_at (mm_rows M) pc with
  | none => false
  | some w => match fx_step L E w r st U with
    | some T => go T.1 d M (pc + mm_len1 w.1) T.2.1 T.2.2.1 T.2.2.2 g K
    | none => fx_ctl P L S go w E d M pc r st U g K
def fx_run (P : Nat → Option mm_Meth) (L : Nat → Option mm_Cell) (S : fx_Orc) (n : Nat) : fx_Go := Nat.rec (fun _ _ _ _ _ _ _ _ _ => false) (fun _ go => fx_body P L S go) n
/-- what a symbolic run tells of the mini machine's -/
def fx_Res (P : Nat → Option mm_Meth) (O : mm_Old) (B : mm_Heap) (xs : List Int32) (E : fx_Env) (p : Nat → Int32) (d : Nat) (M : mm_Meth) (pc : Nat) (r : mm_Loc) (st : List Value) (h : mm_Heap) (g : Nat) (K : fx_K) : Prop :=
  ∃ (E' : fx_Env) (p' : Nat → Int32) (v : Option fx_V) (U' : fx_U) (g' n' : Nat), fx_Means xs E p E' p' ∧ K E' v U' g' = true ∧ mm_run P O n' d M pc r st h g = some (v.map (fx_ev p'), fx_evh B p' U', g')
theorem fx_Res.step {P : Nat → Option mm_Meth} {O : mm_Old} {B : mm_Heap} {xs : List Int32} {E E1 : fx_Env} {p p1 : Nat → Int32} {d : Nat} {M : mm_Meth} {pc pc1 : Nat} {r r1 : mm_Loc} {st st1 : List Value} {h h1 : mm_Heap} {g g1 : Nat} {K : fx_K} (hM : fx_Means xs E p E1 p1) (hb : ∀ n X, mm_run P O n d M pc1 r1 st1 h1 g1 = some X → ∃ m, mm_run P O m d M pc r st h g = some X) (hr : fx_Res P O B xs E1 p1 d M pc1 r1 st1 h1 g1 K) : fx_Res P O B xs E p d M pc r st h g K := by
  obtain ⟨E', p', v, U', g', n', h1, h2, h3⟩ := hr
  obtain ⟨m, hm⟩ := hb _ _ h3
  exact ⟨E', p', v, U', g', m, hM.tr h1, h2, hm⟩
theorem fx_step_run {P : Nat → Option mm_Meth} {O : mm_Old} {L : Nat → Option mm_Cell} {E : fx_Env} {w : mm_Row} {fr : fx_Loc} {fst : List fx_V} {U : fx_U} {T : fx_St} (hf : fx_step L E w fr fst U = some T) {d : Nat} {M : mm_Meth} {pc : Nat} {r r' : mm_Loc} {st st' : List Value} {h h' : mm_Heap} {g : Nat} (hat : mm_at (mm_rows M) pc = some w) (hs : mm_step O w pc r st h = some (r', st', h')) (n : Nat) : mm_run P O (n + 1) d M pc r st h g = mm_run P O n d M (pc + mm_len1 w.1) r' st' h' g := by
  obtain ⟨i, len, a, b, c⟩ := w
  rw [mm_run_succ]
  unfold mm_body
  rw [hat]
  cases i <;> first | (cases hf; done) | (simp only [mm_isNew, Bool.false_and, cond_false, hs]; done)
