/-! CORNER: the class's, with its two throws; the law's catching call -/
def hx_X (M : mm_Meth) (xs : List Int32) (d pc : Nat) (r : mm_Loc) (st : List Value) (s : hq_S) (g : Nat) (X : mm_Res × mm_Heap × Nat) : Prop := ∃ n, mm_run mm_P (mm_O xs) n d M pc r st (hq_hp s) g = some X
section
variable {M : mm_Meth} {xs : List Int32} {d pc : Nat} {r : mm_Loc} {st t : List Value} {s s1 : hq_S} {g : Nat} {X : mm_Res × mm_Heap × Nat}
theorem hx_p (k : Nat) (pc' : Nat) (r' : mm_Loc) (st' : List Value) (h : ∀ go h, hq_bk (mm_O xs) k go d M pc r st h g = go d M pc' r' st' h g) (H : hx_X M xs d pc' r' st' s g X) : hx_X M xs d pc r st s g X := by
  obtain ⟨n, hn⟩ := H
  refine ⟨n + k, ?_⟩
  rw [hq_bk_run, h]
  exact hn
theorem hx_inv {q a b c : Nat} {N : mm_Meth} {v0 : Value} {w : mm_Res} {vs : List Value} (hat : mm_at (mm_rows M) pc = some (.invokevirtual q, 3, a, b, c)) (hP : mm_P a = some N) (hd : 1 ≤ d) (hst : st.drop (mm_par N) = v0 :: t) (h1 : (Nat.ble (mm_words t) 8 && (Nat.beq (st.take (mm_par N)).length (mm_par N) && Nat.ble (mm_sl (v0 :: (st.take (mm_par N)).reverse)).length (mm_maxL N))) = true) (h2 : mm_rcv (mm_O xs) (hq_hp s) v0 (mm_own N) = true) (hN : hq_R (mm_O xs) (d - 1) N 0 (mm_entry (mm_maxL N) (v0 :: (st.take (mm_par N)).reverse)) [] s g w s1) (hw : mm_val w = some vs) (H : hx_X M xs d (pc + 3) r (vs ++ t) s1 g X) : hx_X M xs d pc r st s g X := by
  obtain ⟨n, hn⟩ := H
  obtain ⟨m, hm⟩ := hN
  refine ⟨max n m + 1, ?_⟩
  cases d with
  | zero => omega
  | succ d =>
    rw [mm_run_succ]
    unfold mm_body
    rw [hat]
    dsimp only
    rw [hP]
    dsimp only
    rw [hst]
    dsimp only
    simp only [Bool.and_eq_true] at h1
    obtain ⟨e1, e2, e3⟩ := h1
    rw [e1, e2, e3, h2]
    simp only [Bool.and_self, cond_true]
    rw [mm_run_ge (Nat.le_max_right n m) (Nat.le_refl _) (show mm_run mm_P (mm_O xs) m d N 0 _ [] (hq_hp s) g = _ from hm)]
    dsimp only
    rw [hw]
    exact mm_run_ge (Nat.le_max_left n m) (Nat.le_refl _) hn
theorem hx_izT {cn : Jvm.ClassFile.Cond} {z : Int} {l a b e : Nat} {x : Int32} (hat : mm_at (mm_rows M) pc = some (.ifCond cn z, l, a, b, e)) (hc : mm_cmp cn x 0 = true) (H : hx_X M xs d a r t s g X) : hx_X M xs d pc r (.int x :: t) s g X := by
  obtain ⟨n, hn⟩ := H
  refine ⟨n + 1, ?_⟩
  rw [mm_run_succ]
  unfold mm_body
  rw [hat]
  dsimp only
  rw [hc]
  exact hn
theorem hx_izF {cn : Jvm.ClassFile.Cond} {z : Int} {l a b e : Nat} {x : Int32} (hat : mm_at (mm_rows M) pc = some (.ifCond cn z, l, a, b, e)) (hc : mm_cmp cn x 0 = false) (H : hx_X M xs d (pc + 3) r t s g X) : hx_X M xs d pc r (.int x :: t) s g X := by
  obtain ⟨n, hn⟩ := H
  refine ⟨n + 1, ?_⟩
  rw [mm_run_succ]
  unfold mm_body
  rw [hat]
  dsimp only
  rw [hc]
  exact hn
theorem hx_tsw {df lo hi : Int} {offs : Array Int} {l a b c q : Nat} {x : Int32} (hat : mm_at (mm_rows M) pc = some (.tableswitch df lo hi offs, l, a, b, c)) (hx : mm_tsw pc df lo hi offs x = some q) (H : hx_X M xs d q r t s g X) : hx_X M xs d pc r (.int x :: t) s g X := by
  obtain ⟨n, hn⟩ := H
  refine ⟨n + 1, ?_⟩
  rw [mm_run_succ]
  unfold mm_body
  rw [hat]
  dsimp only
  rw [hx]
  exact hn
theorem hx_new {q l a c : Nat} (hat : mm_at (mm_rows M) pc = some (.new q, l, a, 1, c)) (hd : 6 ≤ d) : hx_X M xs d pc r [] s g (some (.retAddr a), hq_hp s, g + 1) := by
  refine ⟨1, ?_⟩
  generalize hq_hp s = h
  rw [mm_run_succ]
  unfold mm_body
  rw [hat]
  dsimp only
  rw [show Nat.ble 6 d = true from Nat.ble_eq.mpr hd]
  rfl
end
def f_X11_corner (n : Nat) (a1 : Int32) (a2 : Int32) (s : hq_S) : Option (Int32 × hq_S) := (f_X11_isCorner n a1 s).bind fun y1 => if y1.1 = 0 then none else if a2 = (0 : Int32) then if hq_isT (hq_gr y1.2 0 2) then (hq_ld y1.2 ((hq_gr y1.2 0 2) + 2) 10 a1).bind fun x4 => some (x4, y1.2) else none else if a2 = (1 : Int32) then (hq_ld y1.2 77 10 a1).bind fun x5 => some (x5, y1.2) else if a2 = (2 : Int32) then (f_X11_guardsAt n a1 y1.2).bind fun y6 => some (y6.1, y6.2) else if a2 = (3 : Int32) then (f_X11_thievesAt n a1 y1.2).bind fun y7 => some (y7.1, y7.2) else if a2 = (4 : Int32) then (hq_ld y1.2 104 10 a1).bind fun x8 => some (x8, y1.2) else none
theorem f_X11_corner_run {xs : List Int32} {n d g : Nat} {a1 : Int32} {a2 : Int32} {s : hq_S} {y : (Int32 × hq_S)} (hd : 2 ≤ d) (h : f_X11_corner n a1 a2 s = some y) : hq_R (mm_O xs) d mc_X11_corner 0 [some (.ref 0), some (.int a1), some (.int a2)] [] s g (some (.int y.1)) y.2 := by
  unfold f_X11_corner at h
  refine hq_p 2 2 [some (.ref 0), some (.int a1), some (.int a2)] [.int a1, .ref 0] (fun n h => rfl) ?_
  obtain ⟨y1, hy1, h⟩ := hq_bind h
  refine hq_inv rfl rfl (Nat.le_trans (by decide) hd) rfl rfl (hq_rcv rfl rfl) (f_X11_isCorner_run (Nat.zero_le _) hy1) rfl ?_
  by_cases c2 : y1.1 = 0
  · rw [if_pos c2] at h
    cases h
  · rw [if_neg c2] at h
    refine hq_izT rfl (hq_c_ne_T c2) ?_
    refine hq_p 1 19 [some (.ref 0), some (.int a1), some (.int a2)] [.int a2] (fun n h => rfl) ?_
    by_cases c3 : a2 = (0 : Int32)
    · rw [if_pos c3] at h
      refine hq_tsw rfl (show _ = some 52 from by rw [c3]; decide) ?_
      refine hq_p 1 53 [some (.ref 0), some (.int a1), some (.int a2)] [.ref 0] (fun n h => rfl) ?_
      refine hq_gf (x := .ref (hq_gr y1.2 0 2)) rfl rfl rfl rfl rfl ?_
      have m6 : hq_isT (hq_gr y1.2 0 2) := hq_ifT h
      rw [if_pos m6] at h
      refine hq_gf (x := .ref ((hq_gr y1.2 0 2) + 2)) rfl (hq_shT m6) rfl rfl (hq_fldr (hq_shT_u m6)) ?_
      refine hq_p 1 60 [some (.ref 0), some (.int a1), some (.int a2)] [.int a1, .ref ((hq_gr y1.2 0 2) + 2)] (fun n h => rfl) ?_
      obtain ⟨x7, hx7, h⟩ := hq_bind h
      refine hq_iaload rfl (hq_shT_2 m6) List.length_replicate hx7 ?_
      have h := Option.some.inj h
      subst h
      exact ⟨1, rfl⟩
    rw [if_neg c3] at h
    by_cases c4 : a2 = (1 : Int32)
    · rw [if_pos c4] at h
      refine hq_tsw rfl (show _ = some 62 from by rw [c4]; decide) ?_
      refine hq_p 1 63 [some (.ref 0), some (.int a1), some (.int a2)] [.ref 0] (fun n h => rfl) ?_
      refine hq_gf (x := .ref 76) rfl rfl rfl rfl rfl ?_
      refine hq_gf (x := .ref 77) rfl rfl rfl rfl rfl ?_
      refine hq_p 1 70 [some (.ref 0), some (.int a1), some (.int a2)] [.int a1, .ref 77] (fun n h => rfl) ?_
      obtain ⟨x5, hx5, h⟩ := hq_bind h
      refine hq_iaload rfl rfl List.length_replicate hx5 ?_
      have h := Option.some.inj h
      subst h
      exact ⟨1, rfl⟩
    rw [if_neg c4] at h
    by_cases c5 : a2 = (2 : Int32)
    · rw [if_pos c5] at h
      refine hq_tsw rfl (show _ = some 72 from by rw [c5]; decide) ?_
      refine hq_p 2 74 [some (.ref 0), some (.int a1), some (.int a2)] [.int a1, .ref 0] (fun n h => rfl) ?_
      obtain ⟨y6, hy6, h⟩ := hq_bind h
      refine hq_inv rfl rfl (Nat.le_trans (by decide) hd) rfl rfl (hq_rcv rfl rfl) (f_X11_guardsAt_run (Nat.zero_le _) hy6) rfl ?_
      have h := Option.some.inj h
      subst h
      exact ⟨1, rfl⟩
    rw [if_neg c5] at h
    by_cases c6 : a2 = (3 : Int32)
    · rw [if_pos c6] at h
      refine hq_tsw rfl (show _ = some 78 from by rw [c6]; decide) ?_
      refine hq_p 2 80 [some (.ref 0), some (.int a1), some (.int a2)] [.int a1, .ref 0] (fun n h => rfl) ?_
      obtain ⟨y7, hy7, h⟩ := hq_bind h
      refine hq_inv rfl rfl (Nat.le_trans (by decide) hd) rfl rfl (hq_rcv rfl rfl) (f_X11_thievesAt_run (Nat.le_sub_of_add_le (Nat.le_trans (by decide) hd)) hy7) rfl ?_
      have h := Option.some.inj h
      subst h
      exact ⟨1, rfl⟩
    rw [if_neg c6] at h
    by_cases c7 : a2 = (4 : Int32)
    · rw [if_pos c7] at h
      refine hq_tsw rfl (show _ = some 84 from by rw [c7]; decide) ?_
      refine hq_p 1 85 [some (.ref 0), some (.int a1), some (.int a2)] [.ref 0] (fun n h => rfl) ?_
      refine hq_gf (x := .ref 103) rfl rfl rfl rfl rfl ?_
      refine hq_gf (x := .ref 104) rfl rfl rfl rfl rfl ?_
      refine hq_p 1 92 [some (.ref 0), some (.int a1), some (.int a2)] [.int a1, .ref 104] (fun n h => rfl) ?_
      obtain ⟨x8, hx8, h⟩ := hq_bind h
      refine hq_iaload rfl rfl List.length_replicate hx8 ?_
      have h := Option.some.inj h
      subst h
      exact ⟨1, rfl⟩
    rw [if_neg c7] at h
    cases h
theorem corner_t1 {xs : List Int32} {n d g : Nat} {a1 a2 : Int32} {s : hq_S} (hd : 8 ≤ d) (h : f_X11_isCorner n a1 s = some (0, s)) : hx_X mc_X11_corner xs d 0 [some (.ref 0), some (.int a1), some (.int a2)] [] s g (some (.retAddr 13), hq_hp s, g + 1) := by
  refine hx_p 2 2 [some (.ref 0), some (.int a1), some (.int a2)] [.int a1, .ref 0] (fun n h => rfl) ?_
  refine hx_inv rfl rfl (Nat.le_trans (by decide) hd) rfl rfl (hq_rcv rfl rfl) (f_X11_isCorner_run (Nat.zero_le _) h) rfl ?_
  refine hx_izF rfl (hq_c_ne_F rfl) ?_
  exact hx_new rfl (by omega)
theorem corner_t2 {xs : List Int32} {n d g : Nat} {a1 a2 : Int32} {s : hq_S} (hd : 8 ≤ d) (h : f_X11_isCorner n a1 s = some (1, s)) (ha : ¬ a2 = 0 ∧ ¬ a2 = 1 ∧ ¬ a2 = 2 ∧ ¬ a2 = 3 ∧ ¬ a2 = 4) : hx_X mc_X11_corner xs d 0 [some (.ref 0), some (.int a1), some (.int a2)] [] s g (some (.retAddr 14), hq_hp s, g + 1) := by
  refine hx_p 2 2 [some (.ref 0), some (.int a1), some (.int a2)] [.int a1, .ref 0] (fun n h => rfl) ?_
  refine hx_inv rfl rfl (Nat.le_trans (by decide) hd) rfl rfl (hq_rcv rfl rfl) (f_X11_isCorner_run (Nat.zero_le _) h) rfl ?_
  refine hx_izT rfl (hq_c_ne_T (show ¬ (1 : Int32) = 0 from by decide)) ?_
  refine hx_p 1 19 [some (.ref 0), some (.int a1), some (.int a2)] [.int a2] (fun n h => rfl) ?_
  refine hx_tsw rfl (hq_tsw_d [(0 : Int32), (1 : Int32), (2 : Int32), (3 : Int32), (4 : Int32)] (by decide) rfl ⟨ha.1, ha.2.1, ha.2.2.1, ha.2.2.2.1, ha.2.2.2.2, trivial⟩) ?_
  exact hx_new rfl (by omega)
/-! the law's catching call -/
section
variable {xs : List Int32} {d pc : Nat} {r : mm_Loc} {s s1 s2 : hq_S} {g : Nat} {X : mm_Res × mm_Heap × Nat} {p0 p1 : Int32}
theorem lw_cat {q c : Nat} {y : Int32} (hat : mm_at (mm_rows mc_L_law) pc = some (.invokestatic q, 3, 138, 2, c)) (hd : 10 ≤ d) (hN : hq_R (mm_O xs) (d - 2) mc_X11_corner 0 [some (.ref 0), some (.int p0), some (.int p1)] [] s g (some (.int y)) s1) (H : lw_X xs d (pc + 3) r [.int 0] (hq_sj s1 231 0 y.toInt64) g X) : lw_X xs d pc r [.ref 231, .int p1, .int p0, .ref 0] s g X := by
  obtain ⟨n, hn⟩ := H
  obtain ⟨m, hm⟩ := hN
  refine ⟨max n m + 1, ?_⟩
  have rc : mm_rcv (mm_O xs) (hq_hp s) (.ref 0) (mm_own mc_X11_corner) = true := hq_rcv rfl rfl
  have ls : mm_last (hq_hp s1) (.ref 231) 0 y.toInt64 = some (hq_hp (hq_sj s1 231 0 y.toInt64)) := by
    have e : mm_last (hq_hp s1) (.ref 231) 0 y.toInt64 = _ := hq_last (k := 231) (L := 1) rfl rfl
    rw [e]
    rfl
  obtain ⟨d, rfl⟩ : ∃ e, d = e + 1 + 1 := ⟨d - 2, by omega⟩
  rw [mm_run_succ]
  unfold mm_body
  rw [hat]
  dsimp only
  rw [show Nat.beq 2 0 = false from rfl, show Nat.beq 2 2 = true from rfl, show mm_P 138 = some mc_X11_corner from rfl]
  simp only [cond_false, cond_true]
  rw [rc]
  rw [show (Nat.ble (mm_words []) 8 && (Nat.beq (mm_par mc_X11_corner) 2 && (Nat.ble 3 (mm_maxL mc_X11_corner) && true))) = true from rfl]
  simp only [cond_true]
  rw [show mm_entry (mm_maxL mc_X11_corner) [Value.ref 0, Value.int p0, Value.int p1] = [some (.ref 0), some (.int p0), some (.int p1)] from rfl]
  rw [mm_run_ge (Nat.le_max_right n m) (Nat.le_refl _) (show mm_run mm_P (mm_O xs) m d mc_X11_corner 0 _ [] (hq_hp s) g = _ from hm)]
  dsimp only
  rw [ls]
  exact mm_run_ge (Nat.le_max_left n m) (Nat.le_refl _) hn
theorem lw_cat2 {q c u : Nat} (hat : mm_at (mm_rows mc_L_law) pc = some (.invokestatic q, 3, 138, 2, c)) (hd : 10 ≤ d) (hN : hx_X mc_X11_corner xs (d - 2) 0 [some (.ref 0), some (.int p0), some (.int p1)] [] s g (some (.retAddr u), hq_hp s, g + 1)) (H : lw_X xs d (pc + 3) r [.int (bif Nat.beq u 13 then 1 else 2)] s (g + 1) X) : lw_X xs d pc r [.ref 231, .int p1, .int p0, .ref 0] s g X := by
  obtain ⟨n, hn⟩ := H
  obtain ⟨m, hm⟩ := hN
  refine ⟨max n m + 1, ?_⟩
  have rc : mm_rcv (mm_O xs) (hq_hp s) (.ref 0) (mm_own mc_X11_corner) = true := hq_rcv rfl rfl
  obtain ⟨d, rfl⟩ : ∃ e, d = e + 1 + 1 := ⟨d - 2, by omega⟩
  rw [mm_run_succ]
  unfold mm_body
  rw [hat]
  dsimp only
  rw [show Nat.beq 2 0 = false from rfl, show Nat.beq 2 2 = true from rfl, show mm_P 138 = some mc_X11_corner from rfl]
  simp only [cond_false, cond_true]
  rw [rc]
  rw [show (Nat.ble (mm_words []) 8 && (Nat.beq (mm_par mc_X11_corner) 2 && (Nat.ble 3 (mm_maxL mc_X11_corner) && true))) = true from rfl]
  simp only [cond_true]
  rw [show mm_entry (mm_maxL mc_X11_corner) [Value.ref 0, Value.int p0, Value.int p1] = [some (.ref 0), some (.int p0), some (.int p1)] from rfl]
  rw [mm_run_ge (Nat.le_max_right n m) (Nat.le_refl _) (show mm_run mm_P (mm_O xs) m d mc_X11_corner 0 _ [] (hq_hp s) g = _ from hm)]
  exact mm_run_ge (Nat.le_max_left n m) (Nat.le_refl _) hn
theorem lw_lal {a b c : Nat} {t : List Value} (hat : mm_at (mm_rows mc_L_law) pc = some (.laload, 1, a, b, c)) (H : lw_X xs d (pc + 1) r (.long (hq_gj s 231 0) :: t) s g X) : lw_X xs d pc r (.int 0 :: .ref 231 :: t) s g X := by
  obtain ⟨n, hn⟩ := H
  refine ⟨n + 1, ?_⟩
  have e : mm_lald (hq_hp s) (.ref 231) 0 = some (hq_gj s 231 0) := by
    have e : mm_lald (hq_hp s) (.ref 231) 0 = _ := hq_lald (k := 231) (L := 1) rfl rfl
    rw [e]
    rfl
  generalize hq_gj s 231 0 = x at e hn
  generalize hq_hp s = h at e hn ⊢
  rw [mm_run_succ]
  unfold mm_body
  rw [hat]
  show (match (mm_lald h (.ref 231) 0).map (fun x => (r, Value.long x :: t, h)) with
    | some (r', st', h') => mm_run mm_P (mm_O xs) n d mc_L_law (pc + 1) r' st' h' g
    | none => none) = _
  rw [e]
  exact hn
end
