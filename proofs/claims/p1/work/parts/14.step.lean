/-! SOUNDNESS of the instructions that neither jump nor call nor end -/
section STEP
variable {p : Program} {l : Launch} {e : Env} {R : Room} {s : State} {m : MethodId} {args : Array Value} {below : List Frame} {meth : Method} {c0 : Code} {H : Heap} {locs : List Loc} {cells slots : Nat} {Q : State → Prop}
variable {N0 : Nat} {od : Nat → Nat} {cy : ArrayType → ClassId} {D : va_G} {B0 : Heap} {O : mm_Old} {M : mm_Meth} {pc : Nat} {r r' : mm_Loc} {st st' : List Value} {h h' : mm_Heap} {ls : Array Slot}
theorem mm_bif' {α : Type} {b : Bool} {x y z : α} (h : (bif b then x else y) = z) : (b = true ∧ x = z) ∨ (b = false ∧ y = z) := by
  cases b
  · exact Or.inr ⟨rfl, h⟩
  · exact Or.inl ⟨rfl, h⟩
theorem mm_blt_f {a b : Nat} (h : Nat.blt a b = false) : b ≤ a := by
  rcases Nat.lt_or_ge a b with q | q
  · rw [Nat.blt_eq.mpr q] at h; cases h
  · exact q
theorem mm_lv_def (z : Nat) : mm_lv N0 od (mm_def z) = mm_def z := by
  unfold mm_def
  split <;> rfl
theorem mm_def_spec {z : Nat} {ty : FieldType} (h : mm_tc z ty) : defaultValue ty = mm_def z := by
  unfold mm_tc at h
  split at h
  · subst h; rfl
  · subst h; rfl
  · subst h; rfl
  · subst h; rfl
  · next h0 h1 h2 h3 =>
    have hd : mm_def z = .null := by
      unfold mm_def
      split
      · exact absurd rfl h0
      · exact absurd rfl h1
      · exact absurd rfl h2
      · exact absurd rfl h3
      · rfl
    rw [hd]
    rcases h with ⟨n, rfl⟩ | ⟨t, rfl⟩ <;> rfl
def mm_okArr : Prop := Cond.arrayClass .int ∈ lw_g ∧ Cond.arrayClass .long ∈ lw_g ∧ Cond.arrayClass .byte ∈ lw_g ∧ Cond.arrayClass .boolean ∈ lw_g
theorem mm_addr {q : Nat} {x : va_E} {H1 : Heap} (hP : va_P D mm_Cl (mm_ws N0 od cy h ++ [(q, x)]) H1) (hD : va_D (mm_A N0) (mm_ws N0 od cy h ++ [(q, x)])) (hz : H1.size ≤ N0 + h.length + 1) : q = N0 + h.length := by
  have hlen : (mm_ws N0 od cy h).length = h.length := by simp [mm_ws]
  have hq : (mm_ws N0 od cy h ++ [(q, x)])[h.length]? = some (q, x) := by
    rw [List.getElem?_append_right (by omega), hlen]
    simp
  have h1 : q < H1.size := (hP _ _ hq).lt
  have h2 : N0 ≤ q := hD.2 _ _ hq
  rcases Nat.lt_or_ge (q - N0) h.length with g | g
  · exfalso
    have hk : (mm_ws N0 od cy h ++ [(q, x)])[q - N0]? = some (N0 + (q - N0), mm_lc N0 od cy h[q - N0]) := by
      rw [List.getElem?_append_left (by omega)]
      exact mm_ws_get (List.getElem?_eq_getElem g)
    have := hD.1 _ _ _ _ hk hq (by show N0 + (q - N0) = q; omega)
    omega
  · omega
theorem mm_get_some {r : mm_Loc} {i : Nat} {v : Value} (hL : mm_rel N0 od (mm_maxL M) r ls) (hg : mm_get r i = some v) : ls[i]? = some (.val (mm_lv N0 od v)) := hL.2.2.2 i v hg
theorem mm_put1_lt {r r' : mm_Loc} {i : Nat} {v : Value} (hL : mm_rel N0 od (mm_maxL M) r ls) (hp : mm_put1 r i v = some r') : i < mm_maxL M := by
  unfold mm_put1 at hp
  cases hb : Nat.blt i r.length with
  | false => rw [hb] at hp; cases hp
  | true => rw [← hL.1]; simpa [Nat.blt_eq] using hb
theorem mm_put2_lt {r r' : mm_Loc} {i : Nat} {v : Value} (hL : mm_rel N0 od (mm_maxL M) r ls) (hp : mm_put2 r i v = some r') : i + 1 < mm_maxL M := by
  unfold mm_put2 at hp
  cases hb : Nat.blt (i + 1) r.length with
  | false => rw [hb] at hp; cases hp
  | true => rw [← hL.1]; simpa [Nat.blt_eq] using hb
set_option maxHeartbeats 4000000 in
theorem mm_sstep (hcls : mm_okCls O.2.2) (hac : mm_okArr) (X : mm_Ctx N0 od cy D B0 O M p s m args meth c0) {i : Instr} {len a b c : Nat} (hdg0 : decode (mm_bytes M) pc = .ok (i, len)) (hlen : len = mm_len1 i) (hok : mm_okStep M i a b c)
    (hs : mm_step O (i, len, a, b, c) pc r st h = some (r', st', h')) (hP : mm_Pic N0 od cy D h H) (hS : va_S (mm_A N0) s.heap H locs) (hL : mm_rel N0 od (mm_maxL M) r ls)
    (hsz : mm_isNew i = true → s.heap.size + cells ≤ N0 + h.length) (hrc : cells + h'.length ≤ R.cells + h.length) (hrs : slots + mm_sz h' ≤ R.slots + mm_sz h)
    (k : ∀ (H' : Heap) (locs' : List Loc) (ls' : Array Slot) (cells' slots' : Nat), cells' + h.length = cells + h'.length → slots' + mm_sz h = slots + mm_sz h' → mm_Pic N0 od cy D h' H' → va_S (mm_A N0) s.heap H' locs' → mm_rel N0 od (mm_maxL M) r' ls' → W p l e R s m args below meth c0 H' locs' cells' slots' Q (F0 m (pc + mm_len1 i) ls' (st'.map (mm_lv N0 od)))) : W p l e R s m args below meth c0 H locs cells slots Q (F0 m pc ls (st.map (mm_lv N0 od))) := by
  obtain ⟨hx, hb, hml, hown, hts, ⟨hK, hX, hT, hZ, hR⟩, hr, hlk, hnm, hold, hle, hB0⟩ := id X
  have hdg : decode (mm_bytes M) pc = .ok (i, mm_len1 i) := hlen ▸ hdg0
  have hD : va_D (mm_A N0) (mm_ws N0 od cy h) := mm_D h
  have hA : ∀ q, s.heap.size ≤ q → mm_A N0 q := fun q hq => Nat.le_trans hle hq
  unfold mm_step at hs
  dsimp only at hs
  cases i
  case iconst n =>
    simp only [Option.some.injEq, Prod.mk.injEq] at hs
    obtain ⟨rfl, rfl, rfl⟩ := hs
    exact lv_iconst hx hb hdg rfl (k H locs ls cells slots rfl rfl hP hS hL)
  case bipush n =>
    simp only [Option.some.injEq, Prod.mk.injEq] at hs
    obtain ⟨rfl, rfl, rfl⟩ := hs
    exact lv_bipush hx hb hdg rfl (k H locs ls cells slots rfl rfl hP hS hL)
  case sipush n =>
    simp only [Option.some.injEq, Prod.mk.injEq] at hs
    obtain ⟨rfl, rfl, rfl⟩ := hs
    exact lv_sipush hx hb hdg rfl (k H locs ls cells slots rfl rfl hP hS hL)
  case lconst n =>
    simp only [Option.some.injEq, Prod.mk.injEq] at hs
    obtain ⟨rfl, rfl, rfl⟩ := hs
    exact lv_lconst hx hb hdg rfl (k H locs ls cells slots rfl rfl hP hS hL)
  case iload n =>
    dsimp only at hs
    split at hs
    · next x hg =>
      simp only [Option.some.injEq, Prod.mk.injEq] at hs
      obtain ⟨rfl, rfl, rfl⟩ := hs
      exact lv_iload hx hb hdg (mm_get_some hL hg) (k H locs ls cells slots rfl rfl hP hS hL)
    · cases hs
  case iload_n n =>
    dsimp only at hs
    split at hs
    · next x hg =>
      simp only [Option.some.injEq, Prod.mk.injEq] at hs
      obtain ⟨rfl, rfl, rfl⟩ := hs
      exact lv_iload_n hx hb hdg rfl (mm_get_some hL hg) (k H locs ls cells slots rfl rfl hP hS hL)
    · cases hs
  case lload n =>
    dsimp only at hs
    split at hs
    · next x hg =>
      simp only [Option.some.injEq, Prod.mk.injEq] at hs
      obtain ⟨rfl, rfl, rfl⟩ := hs
      exact lv_lload hx hb hdg (mm_get_some hL hg) (k H locs ls cells slots rfl rfl hP hS hL)
    · cases hs
  case lload_n n =>
    dsimp only at hs
    split at hs
    · next x hg =>
      simp only [Option.some.injEq, Prod.mk.injEq] at hs
      obtain ⟨rfl, rfl, rfl⟩ := hs
      exact lv_lload_n hx hb hdg rfl (mm_get_some hL hg) (k H locs ls cells slots rfl rfl hP hS hL)
    · cases hs
  case aload n =>
    dsimp only at hs
    split at hs
    · next x hg =>
      simp only [Option.some.injEq, Prod.mk.injEq] at hs
      obtain ⟨rfl, rfl, rfl⟩ := hs
      exact lv_aload hx hb hdg (mm_get_some hL hg) (k H locs ls cells slots rfl rfl hP hS hL)
    · next x hg =>
      simp only [Option.some.injEq, Prod.mk.injEq] at hs
      obtain ⟨rfl, rfl, rfl⟩ := hs
      exact lv_aload hx hb hdg (mm_get_some hL hg) (k H locs ls cells slots rfl rfl hP hS hL)
    · cases hs
  case aload_n n =>
    dsimp only at hs
    split at hs
    · next x hg =>
      simp only [Option.some.injEq, Prod.mk.injEq] at hs
      obtain ⟨rfl, rfl, rfl⟩ := hs
      exact lv_aload_n hx hb hdg rfl (mm_get_some hL hg) (k H locs ls cells slots rfl rfl hP hS hL)
    · next x hg =>
      simp only [Option.some.injEq, Prod.mk.injEq] at hs
      obtain ⟨rfl, rfl, rfl⟩ := hs
      exact lv_aload_n hx hb hdg rfl (mm_get_some hL hg) (k H locs ls cells slots rfl rfl hP hS hL)
    · cases hs
  case istore n =>
    dsimp only at hs
    split at hs
    · next x t =>
      obtain ⟨r1, hp, he⟩ := Option.map_eq_some_iff.mp hs
      simp only [Prod.mk.injEq] at he
      obtain ⟨rfl, rfl, rfl⟩ := he
      exact lv_istore hx hb hdg (mm_rel_has hL) (mm_put1_lt hL hp) rfl (fun ls' hl => k H locs ls' cells slots rfl rfl hP hS (mm_rel_put1 hL hp hl))
    · cases hs
  case istore_n n =>
    dsimp only at hs
    split at hs
    · next x t =>
      obtain ⟨r1, hp, he⟩ := Option.map_eq_some_iff.mp hs
      simp only [Prod.mk.injEq] at he
      obtain ⟨rfl, rfl, rfl⟩ := he
      exact lv_istore_n hx hb hdg rfl (mm_rel_has hL) (mm_put1_lt hL hp) rfl (fun ls' hl => k H locs ls' cells slots rfl rfl hP hS (mm_rel_put1 hL hp hl))
    · cases hs
  case lstore n =>
    dsimp only at hs
    split at hs
    · next x t =>
      obtain ⟨r1, hp, he⟩ := Option.map_eq_some_iff.mp hs
      simp only [Prod.mk.injEq] at he
      obtain ⟨rfl, rfl, rfl⟩ := he
      exact lv_lstore hx hb hdg (mm_rel_has hL) (mm_put2_lt hL hp) rfl (fun ls' hl => k H locs ls' cells slots rfl rfl hP hS (mm_rel_put2 hL hp hl))
    · cases hs
  case lstore_n n =>
    dsimp only at hs
    split at hs
    · next x t =>
      obtain ⟨r1, hp, he⟩ := Option.map_eq_some_iff.mp hs
      simp only [Prod.mk.injEq] at he
      obtain ⟨rfl, rfl, rfl⟩ := he
      exact lv_lstore_n hx hb hdg rfl (mm_rel_has hL) (mm_put2_lt hL hp) rfl (fun ls' hl => k H locs ls' cells slots rfl rfl hP hS (mm_rel_put2 hL hp hl))
    · cases hs
  case astore n =>
    dsimp only at hs
    split at hs
    · next x t =>
      obtain ⟨r1, hp, he⟩ := Option.map_eq_some_iff.mp hs
      simp only [Prod.mk.injEq] at he
      obtain ⟨rfl, rfl, rfl⟩ := he
      exact lv_astore hx hb hdg (mm_rel_has hL) (mm_put1_lt hL hp) rfl (fun ls' hl => k H locs ls' cells slots rfl rfl hP hS (mm_rel_put1 hL hp hl))
    · next x t =>
      obtain ⟨r1, hp, he⟩ := Option.map_eq_some_iff.mp hs
      simp only [Prod.mk.injEq] at he
      obtain ⟨rfl, rfl, rfl⟩ := he
      exact lv_astore hx hb hdg (mm_rel_has hL) (mm_put1_lt hL hp) rfl (fun ls' hl => k H locs ls' cells slots rfl rfl hP hS (mm_rel_put1 hL hp hl))
    · cases hs
  case astore_n n =>
    dsimp only at hs
    split at hs
    · next x t =>
      obtain ⟨r1, hp, he⟩ := Option.map_eq_some_iff.mp hs
      simp only [Prod.mk.injEq] at he
      obtain ⟨rfl, rfl, rfl⟩ := he
      exact lv_astore_n hx hb hdg rfl (mm_rel_has hL) (mm_put1_lt hL hp) rfl (fun ls' hl => k H locs ls' cells slots rfl rfl hP hS (mm_rel_put1 hL hp hl))
    · next x t =>
      obtain ⟨r1, hp, he⟩ := Option.map_eq_some_iff.mp hs
      simp only [Prod.mk.injEq] at he
      obtain ⟨rfl, rfl, rfl⟩ := he
      exact lv_astore_n hx hb hdg rfl (mm_rel_has hL) (mm_put1_lt hL hp) rfl (fun ls' hl => k H locs ls' cells slots rfl rfl hP hS (mm_rel_put1 hL hp hl))
    · cases hs
  case iinc n z =>
    dsimp only at hs
    split at hs
    · next x hg =>
      obtain ⟨r1, hp, he⟩ := Option.map_eq_some_iff.mp hs
      simp only [Prod.mk.injEq] at he
      obtain ⟨rfl, rfl, rfl⟩ := he
      obtain ⟨q, hq⟩ := List.getElem?_of_mem (mm_as_in (N0 := N0) (od := od) hg)
      exact lv_iinc hx hb hdg (mm_rel_has hL) hq rfl (mm_put1_lt hL hp) rfl (fun ls' hl => k H locs ls' cells slots rfl rfl hP hS (mm_rel_put1 hL hp hl))
    · cases hs
  case iadd =>
    obtain ⟨t1, hf, he⟩ := Option.map_eq_some_iff.mp hs
    simp only [Prod.mk.injEq] at he
    obtain ⟨rfl, rfl, rfl⟩ := he
    unfold mm_ii at hf
    split at hf
    · next y x t =>
      simp only [Option.some.injEq] at hf
      subst hf
      exact lv_iadd hx hb hdg (k H locs ls cells slots rfl rfl hP hS hL)
    · cases hf
  case isub =>
    obtain ⟨t1, hf, he⟩ := Option.map_eq_some_iff.mp hs
    simp only [Prod.mk.injEq] at he
    obtain ⟨rfl, rfl, rfl⟩ := he
    unfold mm_ii at hf
    split at hf
    · next y x t =>
      simp only [Option.some.injEq] at hf
      subst hf
      exact lv_isub hx hb hdg (k H locs ls cells slots rfl rfl hP hS hL)
    · cases hf
  case imul =>
    obtain ⟨t1, hf, he⟩ := Option.map_eq_some_iff.mp hs
    simp only [Prod.mk.injEq] at he
    obtain ⟨rfl, rfl, rfl⟩ := he
    unfold mm_ii at hf
    split at hf
    · next y x t =>
      simp only [Option.some.injEq] at hf
      subst hf
      exact lv_imul hx hb hdg (k H locs ls cells slots rfl rfl hP hS hL)
    · cases hf
  case iand =>
    obtain ⟨t1, hf, he⟩ := Option.map_eq_some_iff.mp hs
    simp only [Prod.mk.injEq] at he
    obtain ⟨rfl, rfl, rfl⟩ := he
    unfold mm_ii at hf
    split at hf
    · next y x t =>
      simp only [Option.some.injEq] at hf
      subst hf
      exact lv_iand hx hb hdg (k H locs ls cells slots rfl rfl hP hS hL)
    · cases hf
  case ior =>
    obtain ⟨t1, hf, he⟩ := Option.map_eq_some_iff.mp hs
    simp only [Prod.mk.injEq] at he
    obtain ⟨rfl, rfl, rfl⟩ := he
    unfold mm_ii at hf
    split at hf
    · next y x t =>
      simp only [Option.some.injEq] at hf
      subst hf
      exact lv_ior hx hb hdg (k H locs ls cells slots rfl rfl hP hS hL)
    · cases hf
  case ixor =>
    obtain ⟨t1, hf, he⟩ := Option.map_eq_some_iff.mp hs
    simp only [Prod.mk.injEq] at he
    obtain ⟨rfl, rfl, rfl⟩ := he
    unfold mm_ii at hf
    split at hf
    · next y x t =>
      simp only [Option.some.injEq] at hf
      subst hf
      exact lv_ixor hx hb hdg (k H locs ls cells slots rfl rfl hP hS hL)
    · cases hf
  case ishl =>
    obtain ⟨t1, hf, he⟩ := Option.map_eq_some_iff.mp hs
    simp only [Prod.mk.injEq] at he
    obtain ⟨rfl, rfl, rfl⟩ := he
    unfold mm_ii at hf
    split at hf
    · next y x t =>
      simp only [Option.some.injEq] at hf
      subst hf
      exact lv_ishl hx hb hdg (k H locs ls cells slots rfl rfl hP hS hL)
    · cases hf
  case ishr =>
    obtain ⟨t1, hf, he⟩ := Option.map_eq_some_iff.mp hs
    simp only [Prod.mk.injEq] at he
    obtain ⟨rfl, rfl, rfl⟩ := he
    unfold mm_ii at hf
    split at hf
    · next y x t =>
      simp only [Option.some.injEq] at hf
      subst hf
      exact lv_ishr hx hb hdg (k H locs ls cells slots rfl rfl hP hS hL)
    · cases hf
  case iushr =>
    obtain ⟨t1, hf, he⟩ := Option.map_eq_some_iff.mp hs
    simp only [Prod.mk.injEq] at he
    obtain ⟨rfl, rfl, rfl⟩ := he
    unfold mm_ii at hf
    split at hf
    · next y x t =>
      simp only [Option.some.injEq] at hf
      subst hf
      exact lv_iushr hx hb hdg rfl (k H locs ls cells slots rfl rfl hP hS hL)
    · cases hf
  case ladd =>
    obtain ⟨t1, hf, he⟩ := Option.map_eq_some_iff.mp hs
    simp only [Prod.mk.injEq] at he
    obtain ⟨rfl, rfl, rfl⟩ := he
    unfold mm_jj at hf
    split at hf
    · next y x t =>
      simp only [Option.some.injEq] at hf
      subst hf
      exact lv_ladd hx hb hdg (k H locs ls cells slots rfl rfl hP hS hL)
    · cases hf
  case lsub =>
    obtain ⟨t1, hf, he⟩ := Option.map_eq_some_iff.mp hs
    simp only [Prod.mk.injEq] at he
    obtain ⟨rfl, rfl, rfl⟩ := he
    unfold mm_jj at hf
    split at hf
    · next y x t =>
      simp only [Option.some.injEq] at hf
      subst hf
      exact lv_lsub hx hb hdg (k H locs ls cells slots rfl rfl hP hS hL)
    · cases hf
  case lmul =>
    obtain ⟨t1, hf, he⟩ := Option.map_eq_some_iff.mp hs
    simp only [Prod.mk.injEq] at he
    obtain ⟨rfl, rfl, rfl⟩ := he
    unfold mm_jj at hf
    split at hf
    · next y x t =>
      simp only [Option.some.injEq] at hf
      subst hf
      exact lv_lmul hx hb hdg (k H locs ls cells slots rfl rfl hP hS hL)
    · cases hf
  case land =>
    obtain ⟨t1, hf, he⟩ := Option.map_eq_some_iff.mp hs
    simp only [Prod.mk.injEq] at he
    obtain ⟨rfl, rfl, rfl⟩ := he
    unfold mm_jj at hf
    split at hf
    · next y x t =>
      simp only [Option.some.injEq] at hf
      subst hf
      exact lv_land hx hb hdg (k H locs ls cells slots rfl rfl hP hS hL)
    · cases hf
  case lcmp =>
    obtain ⟨t1, hf, he⟩ := Option.map_eq_some_iff.mp hs
    simp only [Prod.mk.injEq] at he
    obtain ⟨rfl, rfl, rfl⟩ := he
    unfold mm_jj at hf
    split at hf
    · next y x t =>
      simp only [Option.some.injEq] at hf
      subst hf
      exact W.lcmp hx hb hdg (k H locs ls cells slots rfl rfl hP hS hL)
    · cases hf
  case idiv =>
    obtain ⟨t1, hf, he⟩ := Option.map_eq_some_iff.mp hs
    simp only [Prod.mk.injEq] at he
    obtain ⟨rfl, rfl, rfl⟩ := he
    unfold mm_ii at hf
    split at hf
    · next y x t =>
      dsimp only at hf
      by_cases hy : y = 0
      · simp [hy] at hf
      · simp only [hy, decide_false, cond_false, Option.some.injEq] at hf
        subst hf
        exact lv_idiv hx hb hdg hy (k H locs ls cells slots rfl rfl hP hS hL)
    · cases hf
  case irem =>
    obtain ⟨t1, hf, he⟩ := Option.map_eq_some_iff.mp hs
    simp only [Prod.mk.injEq] at he
    obtain ⟨rfl, rfl, rfl⟩ := he
    unfold mm_ii at hf
    split at hf
    · next y x t =>
      dsimp only at hf
      by_cases hy : y = 0
      · simp [hy] at hf
      · simp only [hy, decide_false, cond_false, Option.some.injEq] at hf
        subst hf
        exact lv_irem hx hb hdg hy (k H locs ls cells slots rfl rfl hP hS hL)
    · cases hf
  case ldiv =>
    obtain ⟨t1, hf, he⟩ := Option.map_eq_some_iff.mp hs
    simp only [Prod.mk.injEq] at he
    obtain ⟨rfl, rfl, rfl⟩ := he
    unfold mm_jj at hf
    split at hf
    · next y x t =>
      dsimp only at hf
      by_cases hy : y = 0
      · simp [hy] at hf
      · simp only [hy, decide_false, cond_false, Option.some.injEq] at hf
        subst hf
        exact lv_ldiv hx hb hdg hy (k H locs ls cells slots rfl rfl hP hS hL)
    · cases hf
  case lrem =>
    obtain ⟨t1, hf, he⟩ := Option.map_eq_some_iff.mp hs
    simp only [Prod.mk.injEq] at he
    obtain ⟨rfl, rfl, rfl⟩ := he
    unfold mm_jj at hf
    split at hf
    · next y x t =>
      dsimp only at hf
      by_cases hy : y = 0
      · simp [hy] at hf
      · simp only [hy, decide_false, cond_false, Option.some.injEq] at hf
        subst hf
        exact lv_lrem hx hb hdg hy (k H locs ls cells slots rfl rfl hP hS hL)
    · cases hf
  case ineg =>
    obtain ⟨t1, hf, he⟩ := Option.map_eq_some_iff.mp hs
    simp only [Prod.mk.injEq] at he
    obtain ⟨rfl, rfl, rfl⟩ := he
    unfold mm_i at hf
    split at hf
    · next x t =>
      simp only [Option.some.injEq] at hf
      subst hf
      exact lv_ineg hx hb hdg (k H locs ls cells slots rfl rfl hP hS hL)
    · cases hf
  case lneg =>
    obtain ⟨t1, hf, he⟩ := Option.map_eq_some_iff.mp hs
    simp only [Prod.mk.injEq] at he
    obtain ⟨rfl, rfl, rfl⟩ := he
    unfold mm_j at hf
    split at hf
    · next x t =>
      simp only [Option.some.injEq] at hf
      subst hf
      exact lv_lneg hx hb hdg (k H locs ls cells slots rfl rfl hP hS hL)
    · cases hf
  case i2l =>
    obtain ⟨t1, hf, he⟩ := Option.map_eq_some_iff.mp hs
    simp only [Prod.mk.injEq] at he
    obtain ⟨rfl, rfl, rfl⟩ := he
    unfold mm_i at hf
    split at hf
    · next x t =>
      simp only [Option.some.injEq] at hf
      subst hf
      exact lv_i2l hx hb hdg rfl (k H locs ls cells slots rfl rfl hP hS hL)
    · cases hf
  case i2b =>
    obtain ⟨t1, hf, he⟩ := Option.map_eq_some_iff.mp hs
    simp only [Prod.mk.injEq] at he
    obtain ⟨rfl, rfl, rfl⟩ := he
    unfold mm_i at hf
    split at hf
    · next x t =>
      simp only [Option.some.injEq] at hf
      subst hf
      exact lv_i2b hx hb hdg rfl (k H locs ls cells slots rfl rfl hP hS hL)
    · cases hf
  case i2c =>
    obtain ⟨t1, hf, he⟩ := Option.map_eq_some_iff.mp hs
    simp only [Prod.mk.injEq] at he
    obtain ⟨rfl, rfl, rfl⟩ := he
    unfold mm_i at hf
    split at hf
    · next x t =>
      simp only [Option.some.injEq] at hf
      subst hf
      exact lv_i2c hx hb hdg rfl (k H locs ls cells slots rfl rfl hP hS hL)
    · cases hf
  case l2i =>
    obtain ⟨t1, hf, he⟩ := Option.map_eq_some_iff.mp hs
    simp only [Prod.mk.injEq] at he
    obtain ⟨rfl, rfl, rfl⟩ := he
    unfold mm_j at hf
    split at hf
    · next x t =>
      simp only [Option.some.injEq] at hf
      subst hf
      exact lv_l2i hx hb hdg rfl (k H locs ls cells slots rfl rfl hP hS hL)
    · cases hf
  case dup =>
    dsimp only at hs
    split at hs
    · next v t =>
      cases hc : Nat.beq v.category 1 with
      | false => rw [hc] at hs; cases hs
      | true =>
        rw [hc] at hs
        simp only [cond_true, Option.some.injEq, Prod.mk.injEq] at hs
        obtain ⟨rfl, rfl, rfl⟩ := hs
        exact lv_dup hx hb hdg (by rw [mm_lv_cat]; exact Nat.eq_of_beq_eq_true hc) (k H locs ls cells slots rfl rfl hP hS hL)
    · cases hs
  case pop =>
    dsimp only at hs
    split at hs
    · next v t =>
      cases hc : Nat.beq v.category 1 with
      | false => rw [hc] at hs; cases hs
      | true =>
        rw [hc] at hs
        simp only [cond_true, Option.some.injEq, Prod.mk.injEq] at hs
        obtain ⟨rfl, rfl, rfl⟩ := hs
        exact lv_pop hx hb hdg (by rw [mm_lv_cat]; exact Nat.eq_of_beq_eq_true hc) (k H locs ls cells slots rfl rfl hP hS hL)
    · cases hs
  case dup2 =>
    dsimp only at hs
    split at hs
    · next v t =>
      cases hc : Nat.beq v.category 2 with
      | true =>
        rw [hc] at hs
        simp only [cond_true, Option.some.injEq, Prod.mk.injEq] at hs
        obtain ⟨rfl, rfl, rfl⟩ := hs
        exact lv_dup2_2 hx hb hdg (by rw [mm_lv_cat]; exact Nat.eq_of_beq_eq_true hc) (k H locs ls cells slots rfl rfl hP hS hL)
      | false =>
        rw [hc] at hs
        simp only [cond_false] at hs
        split at hs
        · next u t' =>
          cases hd : Nat.beq v.category 1 && Nat.beq u.category 1 with
          | false => rw [hd] at hs; cases hs
          | true =>
            rw [hd] at hs
            simp only [cond_true, Option.some.injEq, Prod.mk.injEq] at hs
            obtain ⟨rfl, rfl, rfl⟩ := hs
            obtain ⟨d1, d2⟩ := Bool.and_eq_true_iff.mp hd
            exact lv_dup2_11 hx hb hdg (by rw [mm_lv_cat]; exact Nat.eq_of_beq_eq_true d1) (by rw [mm_lv_cat]; exact Nat.eq_of_beq_eq_true d2) (k H locs ls cells slots rfl rfl hP hS hL)
        · cases hs
    · cases hs
  case getfield idx =>
    have hvS : vk_S O.2.1.length (O.2.1.map List.length) O.2.1 (fun i => od (i + 1)) (fun i => od (i + 101)) (mm_A N0) s s.heap := hT.kept (fun q hq hn => hold q (by rw [← hB0]; exact hq))
    dsimp only at hs
    split at hs
    · next v t =>
      obtain ⟨x, hg, he⟩ := Option.map_eq_some_iff.mp hs
      simp only [Prod.mk.injEq] at he
      obtain ⟨rfl, rfl, rfl⟩ := he
      unfold mm_getf at hg
      split at hg
      · next k0 =>
        split at hg
        · next o hk0 =>
          cases ho : Nat.beq o.1 a with
          | false => rw [ho] at hg; cases hg
          | true =>
            rw [ho] at hg
            have hg : o.2[b]? = some x := hg
            have hoa : o.1 = a := Nat.eq_of_beq_eq_true ho
            have hne : a ≠ 20 := by
              intro q
              obtain ⟨r0, h1, -⟩ := hP k0 _ (mm_ws_get hk0)
              have h1 : mm_Cl[o.1]? = some r0 := h1
              rw [hoa, q] at h1
              exact absurd (List.getElem?_eq_some_iff.mp h1).1 (by decide)
            obtain ⟨C, T, N, hc, hbN, hln, -⟩ := hok.1 hne
            obtain ⟨hin, -⟩ := hcls a C T N hc
            subst hoa
            refine va_get (cl := mm_Cl) (T := T) (C := C) (N := N) (ci := o.1) hx hb hts hin hown hK hP k0 (fs := o.2.map (mm_lv N0 od)) (mm_ws_get hk0) (mm_Cl_get hc) b hbN (hts _ hln) (fun _ z => z) (v := mm_lv N0 od x) (by rw [List.getElem?_map, hg]; rfl) hdg (k H locs ls cells slots rfl rfl hP hS hL)
        · cases hg
      · next n0 =>
        cases n0 with
        | zero => cases hg
        | succ j =>
          dsimp only at hg
          cases ho : Nat.beq a 20 && Nat.blt j O.2.1.length with
          | false => rw [ho] at hg; cases hg
          | true =>
            rw [ho] at hg
            obtain ⟨ha, hj⟩ := Bool.and_eq_true_iff.mp ho
            have ha := Nat.eq_of_beq_eq_true ha
            have hj : j < O.2.1.length := by simpa [Nat.blt_eq] using hj
            have hln := hok.2 ha
            obtain ⟨-, hco, hva, -⟩ := hvS.1 j hj
            cases hb0 : Nat.beq b 0 with
            | true =>
              rw [hb0] at hg
              have hbz : b = 0 := Nat.eq_of_beq_eq_true hb0
              subst hbz
              have hx1 : Value.retAddr (j + 101) = x := by simpa using hg
              subst hx1
              exact vk_getf hx hb hva hS hown (hts _ hln) (fun _ z => z) hdg (k H locs ls cells slots rfl rfl hP hS hL)
            | false =>
              rw [hb0] at hg
              have hbz : b ≠ 0 := Nat.ne_of_beq_eq_false hb0
              have hf : mm_strF b = ("coder", "B") := if_neg hbz
              rw [hf] at hln
              have hx1 : Value.int 0 = x := by simpa using hg
              subst hx1
              exact vk_getf hx hb hco hS hown (hts _ hln) (fun _ z => z) hdg (k H locs ls cells slots rfl rfl hP hS hL)
      · cases hg
    · cases hs
  case putfield idx =>
    dsimp only at hs
    split at hs
    · next x v t =>
      obtain ⟨h1, hg, he⟩ := Option.map_eq_some_iff.mp hs
      simp only [Prod.mk.injEq] at he
      obtain ⟨rfl, rfl, rfl⟩ := he
      unfold mm_putf at hg
      split at hg
      · next k0 =>
        split at hg
        · next o hk0 =>
          cases ho : Nat.beq o.1 a && (mm_fit (c % 8) x && Nat.blt b o.2.length) with
          | false => rw [ho] at hg; cases hg
          | true =>
            rw [ho] at hg
            simp only [cond_true, Option.some.injEq] at hg
            subst hg
            obtain ⟨h1, h2⟩ := Bool.and_eq_true_iff.mp ho
            obtain ⟨h2, h3⟩ := Bool.and_eq_true_iff.mp h2
            have hoa : o.1 = a := Nat.eq_of_beq_eq_true h1
            have h3 : b < o.2.length := by simpa [Nat.blt_eq] using h3
            obtain ⟨⟨C, T, N, hc, hbN, hln, ty, hty, htc⟩, hfin⟩ := hok
            obtain ⟨hin, hnmN, -, -, ty0, hty0, -⟩ := hcls a C T N hc
            obtain ⟨f1, f2⟩ := mm_fit_spec (N0 := N0) (od := od) h2 htc
            subst hoa
            have hsz1 : mm_sz (h.set k0 (.inl (o.1, o.2.set b x))) = mm_sz h := mm_sz_set hk0 (by simp [mm_sz1])
            have hws : (mm_ws N0 od cy h).set k0 (N0 + k0, .inr (o.1, (o.2.map (mm_lv N0 od)).set b (mm_lv N0 od x))) = mm_ws N0 od cy (h.set k0 (.inl (o.1, o.2.set b x))) := by
              rw [← mm_ws_set]
              simp [mm_lc]
            cases hfn : (T b).2.2.2 with
            | false =>
              refine va_put (cl := mm_Cl) (T := T) (C := C) (N := N) (ci := o.1) hx hb hts hin ty0 hty0 hnmN hown hK hP hD hS k0 (fs := o.2.map (mm_lv N0 od)) (mm_ws_get hk0) (mm_Cl_get hc) b hbN (hts _ hln) (fun _ z => z) hfn hty f1 f2 (by simpa using h3) hdg (fun H1 locs1 hP1 hD1 hS1 => ?_)
              rw [hws] at hP1
              exact k H1 locs1 ls cells slots (by simp) (by rw [hsz1]) hP1 hS1 hL
            | true =>
              obtain ⟨g1, g2⟩ := hfin C T N hc hfn
              refine va_putF (cl := mm_Cl) (T := T) (C := C) (N := N) (ci := o.1) hx hb hts hin ty0 hty0 hnmN hown hK hP hD hS k0 (fs := o.2.map (mm_lv N0 od)) (mm_ws_get hk0) (mm_Cl_get hc) b hbN (hts _ hln) (fun _ z => z) hfn (hnm.trans g1) g2 hty f1 f2 (by simpa using h3) hdg (fun H1 locs1 hP1 hD1 hS1 => ?_)
              rw [hws] at hP1
              exact k H1 locs1 ls cells slots (by simp) (by rw [hsz1]) hP1 hS1 hL
        · cases hg
      · cases hg
    · cases hs
  case arraylength =>
    have hvS : vk_S O.2.1.length (O.2.1.map List.length) O.2.1 (fun i => od (i + 1)) (fun i => od (i + 101)) (mm_A N0) s s.heap := hT.kept (fun q hq hn => hold q (by rw [← hB0]; exact hq))
    dsimp only at hs
    split at hs
    · next v t =>
      obtain ⟨x, hg, he⟩ := Option.map_eq_some_iff.mp hs
      simp only [Prod.mk.injEq] at he
      obtain ⟨rfl, rfl, rfl⟩ := he
      unfold mm_len at hg
      split at hg
      · next k0 =>
        split at hg
        · next ty xs hk0 =>
          have hq : mm_tag ty = true ∧ some (Int32.ofNat xs.length) = some x := by
            cases hq : mm_tag ty with
            | false => rw [hq] at hg; cases hg
            | true => rw [hq] at hg; exact ⟨rfl, hg⟩
          obtain ⟨hq, hg⟩ := hq
          simp only [Option.some.injEq] at hg
          subst hg
          have hq : ∃ (t0 : Nat) (fty : FieldType), (mm_tys cy)[t0]? = some (cy ty, fty) := by
            cases ty with
            | int => exact ⟨0, _, rfl⟩
            | byte => exact ⟨2, _, rfl⟩
            | boolean => exact ⟨3, _, rfl⟩
            | _ => cases hq
          obtain ⟨t0, fty, ht0⟩ := hq
          exact va_alen (cl := mm_Cl) hx hb hK hP k0 t0 (mm_ws_get hk0) ht0 rfl hdg (k H locs ls cells slots rfl rfl hP hS hL)
        · next xs hk0 =>
          simp only [Option.some.injEq] at hg
          subst hg
          exact va_alen (cl := mm_Cl) hx hb hK hP k0 1 (mm_ws_get hk0) (ty := .long) rfl rfl hdg (k H locs ls cells slots rfl rfl hP hS hL)
        · cases hg
      · next n0 =>
        cases n0 with
        | zero =>
          dsimp only at hg
          split at hg
          · cases hg
          · next z ys hz =>
            obtain ⟨hX1, hX2⟩ := hX z ys hz
            have hXs := hX1.kept (hold _ hX2)
            simp only [Option.some.injEq] at hg
            subst hg
            exact va_slen hx hb hXs (Nat.lt_of_lt_of_le hX2 hle) (Nat.not_le.mpr hX2) hS hdg (k H locs ls cells slots rfl rfl hP hS hL)
        | succ j =>
          dsimp only at hg
          cases hj : Nat.blt j 100 with
          | true => rw [hj] at hg; cases hg
          | false =>
            rw [hj] at hg
            simp only [cond_false] at hg
            split at hg
            · next xs hxs =>
              simp only [Option.some.injEq] at hg
              subst hg
              have hj : 100 ≤ j := mm_blt_f hj
              have hlt := (List.getElem?_eq_some_iff.mp hxs).1
              obtain ⟨-, -, -, hta⟩ := hvS.1 (j - 100) hlt
              have e1 : j - 100 + 101 = j + 1 := by omega
              dsimp only at hta
              rw [e1] at hta
              have e2 : (O.2.1.map List.length).getD (j - 100) 0 = xs.length := by simp [List.getD_eq_getElem?_getD, hxs]
              rw [e2] at hta
              exact va_tlen hx hb hta hS rfl hdg (k H locs ls cells slots rfl rfl hP hS hL)
            · cases hg
      · cases hg
    · cases hs
  case iaload =>
    have hvS : vk_S O.2.1.length (O.2.1.map List.length) O.2.1 (fun i => od (i + 1)) (fun i => od (i + 101)) (mm_A N0) s s.heap := hT.kept (fun q hq hn => hold q (by rw [← hB0]; exact hq))
    dsimp only at hs
    split at hs
    · next i0 v t =>
      obtain ⟨x, hg, he⟩ := Option.map_eq_some_iff.mp hs
      simp only [Prod.mk.injEq] at he
      obtain ⟨rfl, rfl, rfl⟩ := he
      unfold mm_iald at hg
      split at hg
      · next k0 =>
        split at hg
        · next xs hk0 =>
          cases hi : mm_in i0 xs.length with
          | false => rw [hi] at hg; cases hg
          | true =>
            rw [hi] at hg
            simp only [cond_true, Option.some.injEq] at hg
            subst hg
            exact va_iald (cl := mm_Cl) hx hb hK hP k0 0 (mm_ws_get hk0) rfl (mm_in_spec hi) hdg (k H locs ls cells slots rfl rfl hP hS hL)
        · cases hg
      · next n0 =>
        split at hg
        · cases hg
        · next z ys hz =>
          obtain ⟨hX1, hX2⟩ := hX z ys hz
          have hXs := hX1.kept (hold _ hX2)
          cases hi : Nat.beq n0 0 && mm_in i0 ys.length with
          | false => rw [hi] at hg; cases hg
          | true =>
            rw [hi] at hg
            simp only [cond_true, Option.some.injEq] at hg
            subst hg
            obtain ⟨h1, h2⟩ := Bool.and_eq_true_iff.mp hi
            have h1 := Nat.eq_of_beq_eq_true h1
            subst h1
            exact va_sld hx hb hXs (Nat.lt_of_lt_of_le hX2 hle) (Nat.not_le.mpr hX2) hS (mm_in_spec h2) hdg (k H locs ls cells slots rfl rfl hP hS hL)
      · cases hg
    · cases hs
  case baload =>
    have hvS : vk_S O.2.1.length (O.2.1.map List.length) O.2.1 (fun i => od (i + 1)) (fun i => od (i + 101)) (mm_A N0) s s.heap := hT.kept (fun q hq hn => hold q (by rw [← hB0]; exact hq))
    dsimp only at hs
    split at hs
    · next i0 v t =>
      obtain ⟨x, hg, he⟩ := Option.map_eq_some_iff.mp hs
      simp only [Prod.mk.injEq] at he
      obtain ⟨rfl, rfl, rfl⟩ := he
      unfold mm_bald at hg
      split at hg
      · next k0 =>
        split at hg
        · next xs hk0 =>
          cases hi : mm_in i0 xs.length with
          | false => rw [hi] at hg; cases hg
          | true =>
            rw [hi] at hg
            simp only [cond_true, Option.some.injEq] at hg
            subst hg
            exact va_bald (cl := mm_Cl) hx hb hK hP k0 2 (mm_ws_get hk0) rfl (mm_in_spec hi) hdg (k H locs ls cells slots rfl rfl hP hS hL)
        · next xs hk0 =>
          cases hi : mm_in i0 xs.length with
          | false => rw [hi] at hg; cases hg
          | true =>
            rw [hi] at hg
            simp only [cond_true, Option.some.injEq] at hg
            subst hg
            exact va_zald (cl := mm_Cl) hx hb hK hP k0 3 (mm_ws_get hk0) rfl (mm_in_spec hi) hdg (k H locs ls cells slots rfl rfl hP hS hL)
        · cases hg
      · next n0 =>
        cases hj : Nat.blt n0 101 with
        | true => rw [hj] at hg; cases hg
        | false =>
          rw [hj] at hg
          simp only [cond_false] at hg
          split at hg
          · next xs hxs =>
            cases hi : mm_in i0 xs.length with
            | false => rw [hi] at hg; cases hg
            | true =>
              rw [hi] at hg
              simp only [cond_true, Option.some.injEq] at hg
              subst hg
              have hj : 101 ≤ n0 := mm_blt_f hj
              have hlt := (List.getElem?_eq_some_iff.mp hxs).1
              obtain ⟨-, -, -, hta⟩ := hvS.1 (n0 - 101) hlt
              have e1 : n0 - 101 + 101 = n0 := by omega
              dsimp only at hta
              rw [e1] at hta
              have e2 : (O.2.1.map List.length).getD (n0 - 101) 0 = xs.length := by simp [List.getD_eq_getElem?_getD, hxs]
              have e3 : O.2.1.getD (n0 - 101) [] = xs := by simp [List.getD_eq_getElem?_getD, hxs]
              rw [e2, e3] at hta
              exact va_tb hx hb hta hS (mm_in_spec hi) rfl hdg (k H locs ls cells slots rfl rfl hP hS hL)
          · cases hg
      · cases hg
    · cases hs
  case laload =>
    have hvS : vk_S O.2.1.length (O.2.1.map List.length) O.2.1 (fun i => od (i + 1)) (fun i => od (i + 101)) (mm_A N0) s s.heap := hT.kept (fun q hq hn => hold q (by rw [← hB0]; exact hq))
    dsimp only at hs
    split at hs
    · next i0 v t =>
      obtain ⟨x, hg, he⟩ := Option.map_eq_some_iff.mp hs
      simp only [Prod.mk.injEq] at he
      obtain ⟨rfl, rfl, rfl⟩ := he
      unfold mm_lald at hg
      split at hg
      · next k0 =>
        split at hg
        · next xs hk0 =>
          cases hi : mm_in i0 xs.length with
          | false => rw [hi] at hg; cases hg
          | true =>
            rw [hi] at hg
            simp only [cond_true, Option.some.injEq] at hg
            subst hg
            exact va_lald (cl := mm_Cl) hx hb hK hP k0 1 (mm_ws_get hk0) rfl (mm_in_spec hi) hdg (k H locs ls cells slots rfl rfl hP hS hL)
        · cases hg
      · cases hg
    · cases hs
  case iastore =>
    dsimp only at hs
    split at hs
    · next x i0 v t =>
      obtain ⟨h1, hg, he⟩ := Option.map_eq_some_iff.mp hs
      simp only [Prod.mk.injEq] at he
      obtain ⟨rfl, rfl, rfl⟩ := he
      unfold mm_iast at hg
      split at hg
      · next k0 =>
        split at hg
        · next xs hk0 =>
          cases hi : mm_in i0 xs.length with
          | false => rw [hi] at hg; cases hg
          | true =>
            rw [hi] at hg
            simp only [cond_true, Option.some.injEq] at hg
            subst hg
            refine va_iast (cl := mm_Cl) hx hb hK hP hD hS k0 0 (mm_ws_get hk0) rfl (mm_in_spec hi) hdg (fun H1 locs1 hP1 hD1 hS1 => ?_)
            rw [mm_upd (mm_in_lt hi)] at hP1
            refine k H1 locs1 ls cells slots (by simp) (by rw [mm_sz_set hk0 (by simp [mm_sz1])]) ?_ hS1 hL
            show va_P D mm_Cl (mm_ws N0 od cy _) H1
            rw [← mm_ws_set]
            simpa [mm_lc] using hP1
        · cases hg
      · cases hg
    · cases hs
  case bastore =>
    dsimp only at hs
    split at hs
    · next x i0 v t =>
      obtain ⟨h1, hg, he⟩ := Option.map_eq_some_iff.mp hs
      simp only [Prod.mk.injEq] at he
      obtain ⟨rfl, rfl, rfl⟩ := he
      unfold mm_bast at hg
      split at hg
      · next k0 =>
        split at hg
        · next xs hk0 =>
          cases hi : mm_in i0 xs.length with
          | false => rw [hi] at hg; cases hg
          | true =>
            rw [hi] at hg
            simp only [cond_true, Option.some.injEq] at hg
            subst hg
            refine va_bast (cl := mm_Cl) hx hb hK hP hD hS k0 2 (mm_ws_get hk0) rfl (mm_in_spec hi) hdg (fun H1 locs1 hP1 hD1 hS1 => ?_)
            rw [mm_upd (mm_in_lt hi)] at hP1
            refine k H1 locs1 ls cells slots (by simp) (by rw [mm_sz_set hk0 (by simp [mm_sz1])]) ?_ hS1 hL
            show va_P D mm_Cl (mm_ws N0 od cy _) H1
            rw [← mm_ws_set]
            simpa [mm_lc] using hP1
        · next xs hk0 =>
          cases hi : mm_in i0 xs.length with
          | false => rw [hi] at hg; cases hg
          | true =>
            rw [hi] at hg
            simp only [cond_true, Option.some.injEq] at hg
            subst hg
            refine va_zast (cl := mm_Cl) hx hb hK hP hD hS k0 3 (mm_ws_get hk0) rfl (mm_in_spec hi) hdg (fun H1 locs1 hP1 hD1 hS1 => ?_)
            rw [mm_upd (mm_in_lt hi)] at hP1
            refine k H1 locs1 ls cells slots (by simp) (by rw [mm_sz_set hk0 (by simp [mm_sz1])]) ?_ hS1 hL
            show va_P D mm_Cl (mm_ws N0 od cy _) H1
            rw [← mm_ws_set]
            simpa [mm_lc] using hP1
        · cases hg
      · cases hg
    · cases hs
  case lastore =>
    dsimp only at hs
    split at hs
    · next x i0 v t =>
      obtain ⟨h1, hg, he⟩ := Option.map_eq_some_iff.mp hs
      simp only [Prod.mk.injEq] at he
      obtain ⟨rfl, rfl, rfl⟩ := he
      unfold mm_last at hg
      split at hg
      · next k0 =>
        split at hg
        · next xs hk0 =>
          cases hi : mm_in i0 xs.length with
          | false => rw [hi] at hg; cases hg
          | true =>
            rw [hi] at hg
            simp only [cond_true, Option.some.injEq] at hg
            subst hg
            refine va_last (cl := mm_Cl) hx hb hK hP hD hS k0 1 (mm_ws_get hk0) rfl (mm_in_spec hi) hdg (fun H1 locs1 hP1 hD1 hS1 => ?_)
            rw [mm_updL (mm_in_lt hi)] at hP1
            refine k H1 locs1 ls cells slots (by simp) (by rw [mm_sz_set hk0 (by simp [mm_sz1])]) ?_ hS1 hL
            show va_P D mm_Cl (mm_ws N0 od cy _) H1
            rw [← mm_ws_set]
            simpa [mm_lc] using hP1
        · cases hg
      · cases hg
    · cases hs
  case getstatic idx =>
    rcases mm_bif' hs with ⟨ha0, hs⟩ | ⟨ha0, hs⟩
    · have hZs : va_Z "java/lang/String" "COMPACT_STRINGS" "Z" (.int 1) (mm_A N0) s s.heap := hZ.1.kept (fun q hq hn => hold q (by rw [← hB0]; exact hq))
      simp only [Option.some.injEq, Prod.mk.injEq] at hs
      obtain ⟨rfl, rfl, rfl⟩ := hs
      exact va_gets hx hb hZs hS hown (hts _ (hok.1 (Nat.eq_of_beq_eq_true ha0))) (fun _ z => z) hdg (k H locs ls cells slots rfl rfl hP hS hL)
    · have hZs : va_Z "jdk/internal/util/Preconditions" "SIOOBE_FORMATTER" "Ljava/util/function/BiFunction;" (mm_sf (od 500)) (mm_A N0) s s.heap := hZ.2.kept (fun q hq hn => hold q (by rw [← hB0]; exact hq))
      simp only [Option.some.injEq, Prod.mk.injEq] at hs
      obtain ⟨rfl, rfl, rfl⟩ := hs
      exact va_gets hx hb hZs hS hown (hts _ (hok.2 (Nat.ne_of_beq_eq_false ha0))) (fun _ z => z) hdg (k H locs ls cells slots rfl rfl hP hS hL)
  case ldc idx =>
    cases hb0 : Nat.beq b 0 with
    | true =>
      rw [hb0] at hs
      simp only [cond_true, Option.some.injEq, Prod.mk.injEq] at hs
      obtain ⟨rfl, rfl, rfl⟩ := hs
      exact lv_ldc hx hb hown (hts _ (hok.1 (Nat.eq_of_beq_eq_true hb0))) hdg (k H locs ls cells slots rfl rfl hP hS hL)
    | false =>
      rw [hb0] at hs
      simp only [cond_false] at hs
      obtain ⟨tx, htx⟩ := hok.2 (Nat.ne_of_beq_eq_false hb0)
      have hv := hR.1 a _ htx
      cases hl : Nat.blt a O.2.1.length with
      | false => rw [hl] at hs; cases hs
      | true =>
        rw [hl] at hs
        simp only [cond_true, Option.some.injEq, Prod.mk.injEq] at hs
        obtain ⟨rfl, rfl, rfl⟩ := hs
        exact va_ldcS hx hb hown hv hdg (k H locs ls cells slots rfl rfl hP hS hL)
  case ldc_w idx =>
    cases hb0 : Nat.beq b 0 with
    | true =>
      rw [hb0] at hs
      simp only [cond_true, Option.some.injEq, Prod.mk.injEq] at hs
      obtain ⟨rfl, rfl, rfl⟩ := hs
      exact lv_ldcw hx hb hown (hts _ hok) hdg (k H locs ls cells slots rfl rfl hP hS hL)
    | false => rw [hb0] at hs; cases hs
  case ldc2_w idx =>
    simp only [Option.some.injEq, Prod.mk.injEq] at hs
    obtain ⟨rfl, rfl, rfl⟩ := hs
    exact lv_ldc2 hx hb hown (hts _ hok) hdg (k H locs ls cells slots rfl rfl hP hS hL)
  case new idx =>
    dsimp only at hs
    split at hs
    · next fs hfs =>
      cases ha13 : Nat.blt a 13 with
      | false => rw [ha13] at hs; cases hs
      | true =>
        rw [ha13] at hs
        simp only [cond_true, Option.some.injEq, Prod.mk.injEq] at hs
        obtain ⟨rfl, rfl, rfl⟩ := hs
        obtain ⟨C1, hC1, hln⟩ := hok
        obtain ⟨⟨C, T, N⟩, hc, hC⟩ := Option.map_eq_some_iff.mp hC1
        have hC : C = C1 := hC
        subst hC
        obtain ⟨hin, hnmN, hinst, hini, ty0, hty0, hfs0⟩ := hcls a C T N hc
        obtain ⟨hfl, hfc⟩ := hfs0 fs hfs
        have hlen1 : (h ++ [(Sum.inl (a, fs.map mm_def) : mm_Cell)]).length = h.length + 1 := by simp
        have hszn : mm_sz (h ++ [(Sum.inl (a, fs.map mm_def) : mm_Cell)]) = mm_sz h + N := by
          rw [mm_sz_push]
          simp [mm_sz1, ha13, hfl]
        rw [hlen1] at hrc
        rw [hszn] at hrs
        have hmap : (fs.map mm_def).map (mm_lv N0 od) = fs.map mm_def := by
          rw [List.map_map]
          apply List.map_congr_left
          intro z _
          exact mm_lv_def z
        refine va_new (cl := mm_Cl) (T := T) (C := C) (N := N) (ci := a) (fs := fs.map mm_def) hx hb hts hin ty0 hty0 hown (hts _ hln) (hts _ hinst) (hts _ hini) hK hP hD hS hA (mm_Cl_get hc) (fun j hj => ?_) (by omega) (by omega) hdg (fun q H1 hP1 hD1 hS1 => ?_)
        · have h1 : (fs.map mm_def).getD j .null = mm_def (fs.getD j 0) := by
            have hj2 : j < fs.length := by omega
            simp [List.getD_eq_getElem?_getD, hj2]
          show defaultValue (ty0 j) = (fs.map mm_def).getD j .null
          rw [h1]
          exact mm_def_spec (hfc j hj)
        · refine mm_W_size (fun hz => ?_)
          have hq := mm_addr hP1 hD1 (by have := hsz rfl; omega)
          subst hq
          refine k H1 locs ls (cells + 1) (slots + N) (by rw [hlen1]; omega) (by rw [hszn]; omega) ?_ hS1 hL
          show va_P D mm_Cl (mm_ws N0 od cy _) H1
          rw [mm_ws_push]
          show va_P D mm_Cl (mm_ws N0 od cy h ++ [(N0 + h.length, .inr (a, (fs.map mm_def).map (mm_lv N0 od)))]) H1
          rw [hmap]
          exact hP1
    · cases hs
  case newarray ty =>
    dsimp only at hs
    split at hs
    · next n t =>
      cases hn : decide (n < 0) || Nat.blt 60000000 n.toNatClampNeg with
      | true => rw [hn] at hs; cases hs
      | false =>
        rw [hn] at hs
        simp only [cond_false] at hs
        obtain ⟨g1, g2⟩ := Bool.or_eq_false_iff.mp hn
        have hn0 : ¬ n < 0 := by simpa using g1
        have hn1 : n.toNatClampNeg ≤ 60000000 := mm_blt_f g2
        cases ty with
        | int =>
          obtain ⟨rfl, rfl, rfl⟩ : r = r' ∧ Value.ref h.length :: t = st' ∧ h ++ [(Sum.inr (Sum.inl (.int, List.replicate n.toNatClampNeg 0)) : mm_Cell)] = h' := by simpa [mm_arr] using hs
          have hlen1 : (h ++ [(Sum.inr (Sum.inl (.int, List.replicate n.toNatClampNeg 0)) : mm_Cell)]).length = h.length + 1 := by simp
          have hszn : mm_sz (h ++ [(Sum.inr (Sum.inl (.int, List.replicate n.toNatClampNeg 0)) : mm_Cell)]) = mm_sz h + n.toNatClampNeg := by
            rw [mm_sz_push]
            simp [mm_sz1]
          rw [hlen1] at hrc
          rw [hszn] at hrs
          refine va_newa (cl := mm_Cl) (atype := .int) (ty := .int) hx hb (hts _ hac.1) rfl hK hP hD hS hA (a0 := (n.toNatClampNeg, .inl (fun _ => 0))) (fun cA => rfl) hn0 rfl (by show n.toNatClampNeg * 4 ≤ _; omega) (by omega) (by omega) hdg (fun q cA H1 hK1 hP1 hD1 hS1 => ?_)
          refine mm_W_size (fun hz => ?_)
          have hq := mm_addr hP1 hD1 (by have := hsz rfl; omega)
          have hcA : cA = cy .int := by
            have g1 : s.vm.findClass ("[" ++ (.int : FieldType).toString) = some cA := (hK1.2 4 _ rfl).2
            have g2 : s.vm.findClass ("[" ++ (.int : FieldType).toString) = some (cy .int) := (hK.2 0 _ rfl).2
            exact Option.some.inj (g1.symm.trans g2)
          subst hq
          subst hcA
          refine k H1 locs ls (cells + 1) (slots + n.toNatClampNeg) (by rw [hlen1]; omega) (by rw [hszn]; omega) ?_ hS1 hL
          show va_P D mm_Cl (mm_ws N0 od cy _) H1
          rw [mm_ws_push]
          have hlc : mm_lc N0 od cy (Sum.inr (Sum.inl (.int, List.replicate n.toNatClampNeg 0)) : mm_Cell) = .inl (cy .int, n.toNatClampNeg, .inl (fun _ => 0)) := by
            simp only [mm_lc, List.length_replicate]
            congr
            funext j
            simp [List.getD_eq_getElem?_getD, List.getElem?_replicate]
            try (split <;> rfl)
          rw [hlc]
          exact hP1
        | byte =>
          obtain ⟨rfl, rfl, rfl⟩ : r = r' ∧ Value.ref h.length :: t = st' ∧ h ++ [(Sum.inr (Sum.inl (.byte, List.replicate n.toNatClampNeg 0)) : mm_Cell)] = h' := by simpa [mm_arr] using hs
          have hlen1 : (h ++ [(Sum.inr (Sum.inl (.byte, List.replicate n.toNatClampNeg 0)) : mm_Cell)]).length = h.length + 1 := by simp
          have hszn : mm_sz (h ++ [(Sum.inr (Sum.inl (.byte, List.replicate n.toNatClampNeg 0)) : mm_Cell)]) = mm_sz h + n.toNatClampNeg := by
            rw [mm_sz_push]
            simp [mm_sz1]
          rw [hlen1] at hrc
          rw [hszn] at hrs
          refine va_newa (cl := mm_Cl) (atype := .byte) (ty := .byte) hx hb (hts _ hac.2.2.1) rfl hK hP hD hS hA (a0 := (n.toNatClampNeg, .inl (fun _ => 0))) (fun cA => rfl) hn0 rfl (by show n.toNatClampNeg * 1 ≤ _; omega) (by omega) (by omega) hdg (fun q cA H1 hK1 hP1 hD1 hS1 => ?_)
          refine mm_W_size (fun hz => ?_)
          have hq := mm_addr hP1 hD1 (by have := hsz rfl; omega)
          have hcA : cA = cy .byte := by
            have g1 : s.vm.findClass ("[" ++ (.byte : FieldType).toString) = some cA := (hK1.2 4 _ rfl).2
            have g2 : s.vm.findClass ("[" ++ (.byte : FieldType).toString) = some (cy .byte) := (hK.2 2 _ rfl).2
            exact Option.some.inj (g1.symm.trans g2)
          subst hq
          subst hcA
          refine k H1 locs ls (cells + 1) (slots + n.toNatClampNeg) (by rw [hlen1]; omega) (by rw [hszn]; omega) ?_ hS1 hL
          show va_P D mm_Cl (mm_ws N0 od cy _) H1
          rw [mm_ws_push]
          have hlc : mm_lc N0 od cy (Sum.inr (Sum.inl (.byte, List.replicate n.toNatClampNeg 0)) : mm_Cell) = .inl (cy .byte, n.toNatClampNeg, .inl (fun _ => 0)) := by
            simp only [mm_lc, List.length_replicate]
            congr
            funext j
            simp [List.getD_eq_getElem?_getD, List.getElem?_replicate]
            try (split <;> rfl)
          rw [hlc]
          exact hP1
        | boolean =>
          obtain ⟨rfl, rfl, rfl⟩ : r = r' ∧ Value.ref h.length :: t = st' ∧ h ++ [(Sum.inr (Sum.inl (.boolean, List.replicate n.toNatClampNeg 0)) : mm_Cell)] = h' := by simpa [mm_arr] using hs
          have hlen1 : (h ++ [(Sum.inr (Sum.inl (.boolean, List.replicate n.toNatClampNeg 0)) : mm_Cell)]).length = h.length + 1 := by simp
          have hszn : mm_sz (h ++ [(Sum.inr (Sum.inl (.boolean, List.replicate n.toNatClampNeg 0)) : mm_Cell)]) = mm_sz h + n.toNatClampNeg := by
            rw [mm_sz_push]
            simp [mm_sz1]
          rw [hlen1] at hrc
          rw [hszn] at hrs
          refine va_newa (cl := mm_Cl) (atype := .boolean) (ty := .boolean) hx hb (hts _ hac.2.2.2) rfl hK hP hD hS hA (a0 := (n.toNatClampNeg, .inl (fun _ => 0))) (fun cA => rfl) hn0 rfl (by show n.toNatClampNeg * 1 ≤ _; omega) (by omega) (by omega) hdg (fun q cA H1 hK1 hP1 hD1 hS1 => ?_)
          refine mm_W_size (fun hz => ?_)
          have hq := mm_addr hP1 hD1 (by have := hsz rfl; omega)
          have hcA : cA = cy .boolean := by
            have g1 : s.vm.findClass ("[" ++ (.boolean : FieldType).toString) = some cA := (hK1.2 4 _ rfl).2
            have g2 : s.vm.findClass ("[" ++ (.boolean : FieldType).toString) = some (cy .boolean) := (hK.2 3 _ rfl).2
            exact Option.some.inj (g1.symm.trans g2)
          subst hq
          subst hcA
          refine k H1 locs ls (cells + 1) (slots + n.toNatClampNeg) (by rw [hlen1]; omega) (by rw [hszn]; omega) ?_ hS1 hL
          show va_P D mm_Cl (mm_ws N0 od cy _) H1
          rw [mm_ws_push]
          have hlc : mm_lc N0 od cy (Sum.inr (Sum.inl (.boolean, List.replicate n.toNatClampNeg 0)) : mm_Cell) = .inl (cy .boolean, n.toNatClampNeg, .inl (fun _ => 0)) := by
            simp only [mm_lc, List.length_replicate]
            congr
            funext j
            simp [List.getD_eq_getElem?_getD, List.getElem?_replicate]
            try (split <;> rfl)
          rw [hlc]
          exact hP1
        | long =>
          obtain ⟨rfl, rfl, rfl⟩ : r = r' ∧ Value.ref h.length :: t = st' ∧ h ++ [(Sum.inr (Sum.inr (List.replicate n.toNatClampNeg 0)) : mm_Cell)] = h' := by simpa [mm_arr] using hs
          have hlen1 : (h ++ [(Sum.inr (Sum.inr (List.replicate n.toNatClampNeg 0)) : mm_Cell)]).length = h.length + 1 := by simp
          have hszn : mm_sz (h ++ [(Sum.inr (Sum.inr (List.replicate n.toNatClampNeg 0)) : mm_Cell)]) = mm_sz h + n.toNatClampNeg := by
            rw [mm_sz_push]
            simp [mm_sz1]
          rw [hlen1] at hrc
          rw [hszn] at hrs
          refine va_newa (cl := mm_Cl) (atype := .long) (ty := .long) hx hb (hts _ hac.2.1) rfl hK hP hD hS hA (a0 := (n.toNatClampNeg, .inr (.inl (fun _ => 0)))) (fun cA => rfl) hn0 rfl (by show n.toNatClampNeg * 8 ≤ _; omega) (by omega) (by omega) hdg (fun q cA H1 hK1 hP1 hD1 hS1 => ?_)
          refine mm_W_size (fun hz => ?_)
          have hq := mm_addr hP1 hD1 (by have := hsz rfl; omega)
          have hcA : cA = cy .long := by
            have g1 : s.vm.findClass ("[" ++ (.long : FieldType).toString) = some cA := (hK1.2 4 _ rfl).2
            have g2 : s.vm.findClass ("[" ++ (.long : FieldType).toString) = some (cy .long) := (hK.2 1 _ rfl).2
            exact Option.some.inj (g1.symm.trans g2)
          subst hq
          subst hcA
          refine k H1 locs ls (cells + 1) (slots + n.toNatClampNeg) (by rw [hlen1]; omega) (by rw [hszn]; omega) ?_ hS1 hL
          show va_P D mm_Cl (mm_ws N0 od cy _) H1
          rw [mm_ws_push]
          have hlc : mm_lc N0 od cy (Sum.inr (Sum.inr (List.replicate n.toNatClampNeg 0)) : mm_Cell) = .inl (cy .long, n.toNatClampNeg, .inr (.inl (fun _ => 0))) := by
            simp only [mm_lc, List.length_replicate]
            congr
            funext j
            simp [List.getD_eq_getElem?_getD, List.getElem?_replicate]
            try (split <;> rfl)
          rw [hlc]
          exact hP1
        | _ => cases hs
    · cases hs
  all_goals (first | (cases hs; done) | (exact absurd hs (by simp)))
end STEP
