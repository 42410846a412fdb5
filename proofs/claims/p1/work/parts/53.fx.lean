/-! rows of ints -/
def fx_len (L : Nat → Option mm_Cell) (v : fx_V) : Option Int32 := match v with
  | .inl (.ref k) => match L k with
    | some (.inr (.inl a)) => bif mm_tag a.1 then some (Int32.ofNat a.2.length) else none
    | _ => none
  | .inl (.retAddr n) => bif Nat.beq n 0 then some 6 else none
  | _ => none
theorem fx_len_spec {L : Nat → Option mm_Cell} {B : mm_Heap} (hL : fx_okL L B) {xs : List Int32} (hxs : xs.length = 6) {p : Nat → Int32} {U : fx_U} {v : fx_V} {x : Int32} {S : List (List Int32) × List (List Nat)} (h : fx_len L v = some x) : mm_len (0 :: xs, S) (fx_evh B p U) (fx_ev p v) = some x := by
  unfold fx_len at h
  split at h
  · next k =>
    split at h
    · next a ha =>
      rcases mm_bif h with ⟨hc, h⟩ | ⟨-, h⟩
      · cases h
        obtain ⟨fs, h1, h2, h3⟩ := fx_arr (p := p) (hL k _ ha) U
        show mm_len _ (fx_evh B p U) (.ref k) = _
        unfold mm_len
        dsimp only
        rw [h1]
        dsimp only
        rw [hc, h2]
        rfl
      · cases h
    · cases h
  · next n =>
    rcases mm_bif h with ⟨hc, h⟩ | ⟨-, h⟩
    · cases h
      have := Nat.eq_of_beq_eq_true hc
      subst this
      show some (Int32.ofNat xs.length) = _
      rw [hxs]
      rfl
    · cases h
  · cases h
/-- an element: i is known -/
def fx_iald (L : Nat → Option mm_Cell) (U : fx_U) (v : fx_V) (i : Int32) : Option fx_V := match v with
  | .inl (.ref k) => match L k with
    | some (.inr (.inl (.int, xs))) => bif mm_in i xs.length then fx_cur U k i.toNatClampNeg (xs[i.toNatClampNeg]?.map .int) else none
    | _ => none
  | .inl (.retAddr n) => bif Nat.beq n 0 && mm_in i 6 then some (.inr (i.toNatClampNeg, 0)) else none
  | _ => none
def fx_isI (v : fx_V) : Bool := match v with
  | .inl (.int _) => true
  | .inr _ => true
  | _ => false
theorem fx_isI_spec {v : fx_V} (h : fx_isI v = true) (p : Nat → Int32) : ∃ x, fx_ev p v = .int x := by
  unfold fx_isI at h
  split at h
  · exact ⟨_, rfl⟩
  · exact ⟨_, rfl⟩
  · cases h
theorem fx_iald_spec {L : Nat → Option mm_Cell} {B : mm_Heap} (hL : fx_okL L B) {xs : List Int32} (hxs : xs.length = 6) {E : fx_Env} {p : Nat → Int32} (hp : fx_ok xs E p) {U : fx_U} {v x : fx_V} {i : Int32} {S : List (List Int32) × List (List Nat)} (h : fx_iald L U v i = some x) (hx : fx_isI x = true) : ∃ X, mm_iald (0 :: xs, S) (fx_evh B p U) (fx_ev p v) i = some X ∧ fx_ev p x = .int X := by
  unfold fx_iald at h
  split at h
  · next k =>
    split at h
    · next ys ha =>
      rcases mm_bif h with ⟨hc, h⟩ | ⟨-, h⟩
      · obtain ⟨fs, h1, h2, h3⟩ := fx_arr (p := p) (hL k _ ha) U
        obtain ⟨X, hX⟩ := fx_isI_spec hx p
        refine ⟨X, ?_, hX⟩
        show mm_iald _ (fx_evh B p U) (.ref k) i = _
        unfold mm_iald
        dsimp only
        rw [h1]
        dsimp only
        rw [h2, hc]
        dsimp only [cond_true]
        have h4 := h3 _ (mm_in_lt hc)
        have h5 : fs[i.toNatClampNeg]? = some X := by
          rw [h4]
          unfold fx_cur at h
          split at h
          · next hf => cases h; rw [hf]; dsimp only; rw [hX]; rfl
          · next hf =>
            rw [hf]
            obtain ⟨z, hz, hzv⟩ := Option.map_eq_some_iff.mp h
            obtain ⟨y, hy, hyz⟩ := Option.map_eq_some_iff.mp hz
            rw [← hzv, ← hyz] at hX
            dsimp only
            rw [hy]
            have : Value.int y = Value.int X := hX
            cases this
            rfl
        rw [List.getD_eq_getElem?_getD, h5]
        rfl
      · cases h
    · cases h
  · next n =>
    rcases mm_bif h with ⟨hc, h⟩ | ⟨-, h⟩
    · cases h
      obtain ⟨c1, c2⟩ := Bool.and_eq_true_iff.mp hc
      refine ⟨xs.getD i.toNatClampNeg 0, ?_, ?_⟩
      · show (bif Nat.beq n 0 && mm_in i xs.length then some (xs.getD i.toNatClampNeg 0) else none) = _
        rw [hxs, c1, c2]
        rfl
      · show Value.int (p i.toNatClampNeg + 0) = _
        rw [Int32.add_zero, hp.2.1 _ (mm_in_lt c2)]
    · cases h
  · cases h
def fx_iast (L : Nat → Option mm_Cell) (U : fx_U) (v : fx_V) (i : Int32) (x : fx_V) : Option fx_U := match v with
  | .inl (.ref k) => match L k with
    | some (.inr (.inl (.int, xs))) => bif mm_in i xs.length && fx_isI x then fx_frc (fx_wr U k i.toNatClampNeg (xs[i.toNatClampNeg]?.map .int) x) else none
    | _ => none
  | _ => none
theorem fx_iast_spec {L : Nat → Option mm_Cell} {B : mm_Heap} (hL : fx_okL L B) {p : Nat → Int32} {U U' : fx_U} {v x : fx_V} {i X : Int32} (hX : fx_ev p x = .int X) (h : fx_iast L U v i x = some U') : mm_iast (fx_evh B p U) (fx_ev p v) i X = some (fx_evh B p U') := by
  unfold fx_iast at h
  split at h
  · next k =>
    split at h
    · next ys ha =>
      rcases mm_bif h with ⟨hc, h⟩ | ⟨-, h⟩
      · rw [fx_frc_eq] at h
        cases h
        obtain ⟨c1, c2⟩ := Bool.and_eq_true_iff.mp hc
        obtain ⟨fs, h1, h2, h3⟩ := fx_arr (p := p) (hL k _ ha) U
        have := fx_wr_arr (p := p) (hL k _ ha) (mm_in_lt c1) U x
        dsimp only at this h1 h2
        rw [this, hX]
        show mm_iast (fx_evh B p U) (.ref k) i X = _
        unfold mm_iast fx_put
        dsimp only
        rw [h1]
        dsimp only
        rw [h2, c1]
        rfl
      · cases h
    · cases h
  · cases h
/-- System.arraycopy: element by element, as they stood before -/
def fx_cp (U0 : fx_U) (k j : Nat) (f g : List Int32) (sp dp : Nat) : Nat → Option fx_U
  | 0 => some U0
  | n + 1 => match fx_cp U0 k j f g sp dp n, fx_cur U0 k (sp + n) (f[sp + n]?.map .int) with
    | some U, some x => bif fx_isI x then fx_frc (fx_wr U j (dp + n) (g[dp + n]?.map .int) x) else none
    | _, _ => none
theorem mm_splice_succ {f g : List Int32} {sp dp n : Nat} {x : Int32} (hx : f[sp + n]? = some x) (hd : dp + n < g.length) : mm_splice f g sp dp (n + 1) = (mm_splice f g sp dp n).set (dp + n) x := by
  unfold mm_splice
  obtain ⟨h1, h2⟩ := List.getElem?_eq_some_iff.mp hx
  apply List.ext_getElem?
  intro i
  have e1 : (g.take dp).length = dp := by rw [List.length_take]; omega
  have e2 : ((f.drop sp).take n).length = n := by rw [List.length_take, List.length_drop]; omega
  have e3 : ((f.drop sp).take (n + 1)).length = n + 1 := by rw [List.length_take, List.length_drop]; omega
  by_cases hi : i < dp
  · rw [List.getElem?_append_left (by omega), List.getElem?_set_ne (by omega), List.getElem?_append_left (by omega)]
  · rw [List.getElem?_append_right (by omega), e1]
    by_cases hin : i < dp + n
    · rw [List.getElem?_append_left (by omega), List.getElem?_set_ne (by omega), List.getElem?_append_right (by omega), e1, List.getElem?_append_left (by omega), List.getElem?_take_of_lt (by omega), List.getElem?_take_of_lt (by omega)]
    · by_cases hie : i = dp + n
      · subst hie
        rw [List.getElem?_append_left (by omega), List.getElem?_take_of_lt (by omega), List.getElem?_drop, List.getElem?_set_self (by
          rw [List.length_append, List.length_append, e1, e2, List.length_drop]
          omega), ← hx]
        congr 1
        omega
      · rw [List.getElem?_append_right (by omega), e3, List.getElem?_set_ne (by omega), List.getElem?_append_right (by omega), e1, List.getElem?_append_right (by omega), e2, List.getElem?_drop, List.getElem?_drop]
        congr 1
        omega
theorem fx_cp_spec {B : mm_Heap} {p : Nat → Int32} {U0 : fx_U} {k j : Nat} {f g F G : List Int32} {sp dp : Nat} (hk : B[k]? = some (.inr (.inl (.int, f)))) (hj : B[j]? = some (.inr (.inl (.int, g)))) (hF : (fx_evh B p U0)[k]? = some (.inr (.inl (.int, F)))) (hG : (fx_evh B p U0)[j]? = some (.inr (.inl (.int, G))))
    (hFv : ∀ i, i < f.length → F[i]? = (match fx_find U0 k i with
      | some v => some (fx_i32 (fx_ev p v))
      | none => f[i]?)) (hGl : G.length = g.length) (hFl : F.length = f.length) :
    ∀ (n : Nat) (U : fx_U), sp + n ≤ f.length → dp + n ≤ g.length → fx_cp U0 k j f g sp dp n = some U → fx_evh B p U = (fx_evh B p U0).set j (.inr (.inl (.int, mm_splice F G sp dp n))) := by
  intro n
  induction n with
  | zero =>
    intro U h1 h2 h
    cases h
    have : mm_splice F G sp dp 0 = G := by
      unfold mm_splice
      simp
    rw [this]
    obtain ⟨g1, g2⟩ := List.getElem?_eq_some_iff.mp hG
    rw [← g2, List.set_getElem_self]
  | succ n ih =>
    intro U h1 h2 h
    unfold fx_cp at h
    split at h
    · next U1 x hU1 hx =>
      rcases mm_bif h with ⟨hc, h⟩ | ⟨-, h⟩
      · rw [fx_frc_eq] at h
        cases h
        have e := ih U1 (by omega) (by omega) hU1
        obtain ⟨X, hX⟩ := fx_isI_spec hc p
        have hFx : F[sp + n]? = some X := by
          rw [hFv _ (by omega)]
          unfold fx_cur at hx
          split at hx
          · next hf => cases hx; rw [hf]; dsimp only; rw [hX]; rfl
          · next hf =>
            rw [hf]
            obtain ⟨z, hz, hzv⟩ := Option.map_eq_some_iff.mp hx
            obtain ⟨y, hy, hyz⟩ := Option.map_eq_some_iff.mp hz
            rw [← hzv, ← hyz] at hX
            dsimp only
            rw [hy]
            have : Value.int y = Value.int X := hX
            cases this
            rfl
        have hw := fx_wr_arr (p := p) hj (show dp + n < g.length by omega) U1 x
        dsimp only at hw
        rw [hw, e, hX]
        have hjl : j < (fx_evh B p U0).length := (List.getElem?_eq_some_iff.mp hG).1
        unfold fx_put
        rw [List.getElem?_set_self hjl]
        dsimp only
        rw [List.set_set, mm_splice_succ hFx (by omega)]
        rfl
      · cases h
    · cases h
def fx_copy (L : Nat → Option mm_Cell) (U : fx_U) (v w : fx_V) (sp dp n : Int32) : Option fx_U := match v, w with
  | .inl (.ref k), .inl (.ref j) => match L k, L j with
    | some (.inr (.inl (.int, f))), some (.inr (.inl (.int, g))) => bif !(decide (sp < 0)) && (!(decide (dp < 0)) && (!(decide (n < 0)) && (Nat.ble (sp.toNatClampNeg + n.toNatClampNeg) f.length && Nat.ble (dp.toNatClampNeg + n.toNatClampNeg) g.length))) then fx_cp U k j f g sp.toNatClampNeg dp.toNatClampNeg n.toNatClampNeg else none
    | _, _ => none
  | _, _ => none
theorem fx_copy_spec {L : Nat → Option mm_Cell} {B : mm_Heap} (hL : fx_okL L B) {p : Nat → Int32} {U U' : fx_U} {v w : fx_V} {sp dp n : Int32} (h : fx_copy L U v w sp dp n = some U') : mm_copy (fx_evh B p U) (fx_ev p v) (fx_ev p w) sp dp n = some (fx_evh B p U') := by
  unfold fx_copy at h
  split at h
  · next k j =>
    split at h
    · next f g hf hg =>
      rcases mm_bif h with ⟨hc, h⟩ | ⟨-, h⟩
      · obtain ⟨F, f1, f2, f3⟩ := fx_arr (p := p) (hL k _ hf) U
        obtain ⟨G, g1, g2, g3⟩ := fx_arr (p := p) (hL j _ hg) U
        dsimp only at f1 f2 f3 g1 g2 g3
        have hc' := hc
        simp only [Bool.and_eq_true, Nat.ble_eq] at hc'
        have := fx_cp_spec (hL k _ hf) (hL j _ hg) f1 g1 f3 g2 f2 _ _ hc'.2.2.2.1 hc'.2.2.2.2 h
        rw [this]
        show mm_copy (fx_evh B p U) (.ref k) (.ref j) sp dp n = _
        unfold mm_copy
        dsimp only
        rw [f1, g1]
        dsimp only
        rw [f2, g2, hc]
        rfl
      · cases h
    · cases h
  · cases h
