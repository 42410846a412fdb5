/-! THE LAW'S LOOP: one call of both, by their functions -/
def lw_X (xs : List Int32) (d pc : Nat) (r : mm_Loc) (st : List Value) (s : hq_S) (g : Nat) (X : mm_Res × mm_Heap × Nat) : Prop := ∃ n, mm_run mm_P (mm_O xs) n d mc_L_law pc r st (hq_hp s) g = some X
section
variable {xs : List Int32} {d pc : Nat} {r : mm_Loc} {st t : List Value} {s s1 : hq_S} {g : Nat} {X : mm_Res × mm_Heap × Nat}
theorem lw_p (k : Nat) (pc' : Nat) (r' : mm_Loc) (st' : List Value) (h : ∀ go h, hq_bk (mm_O xs) k go d mc_L_law pc r st h g = go d mc_L_law pc' r' st' h g) (H : lw_X xs d pc' r' st' s g X) : lw_X xs d pc r st s g X := by
  obtain ⟨n, hn⟩ := H
  refine ⟨n + k, ?_⟩
  rw [hq_bk_run, h]
  exact hn
theorem lw_ald {j : Nat} (hj : j < xs.length) (hl : xs.length ≤ 3072) (h : mm_Heap) : mm_iald (mm_O xs) h (.retAddr 0) (Int32.ofNat j) = some (xs.getD j 0) := by
  have e1 : (Int32.ofNat j).toInt = j := by
    rw [Int32.toInt_ofNat']
    simp only [Int.bmod, Int32.size]
    omega
  have e2 : (Int32.ofNat j).toNatClampNeg = j := by
    rw [Int32.toNatClampNeg, e1]
    omega
  have e3 : mm_in (Int32.ofNat j) xs.length = true := by
    unfold mm_in
    rw [e2, show Nat.blt j xs.length = true from by rw [Nat.blt_eq]; exact hj, decide_eq_false]
    · rfl
    · intro q
      have := Int32.lt_iff_toInt_lt.mp q
      rw [e1, show (0 : Int32).toInt = 0 from rfl] at this
      omega
  show (bif Nat.beq 0 0 && mm_in (Int32.ofNat j) xs.length then some (xs.getD (Int32.ofNat j).toNatClampNeg 0) else none) = _
  rw [e3, e2]
  rfl
theorem lw_scr {a b c j : Nat} {i : Int32} (hat : mm_at (mm_rows mc_L_law) pc = some (.iaload, 1, a, b, c)) (hi : i = Int32.ofNat j) (hj : j < xs.length) (hl : xs.length ≤ 3072) (H : lw_X xs d (pc + 1) r (.int (xs.getD j 0) :: t) s g X) : lw_X xs d pc r (.int i :: .retAddr 0 :: t) s g X := by
  obtain ⟨n, hn⟩ := H
  refine ⟨n + 1, ?_⟩
  subst hi
  have e := lw_ald hj hl (hq_hp s)
  generalize hq_hp s = h at e hn ⊢
  rw [mm_run_succ]
  unfold mm_body
  rw [hat]
  show (match (mm_iald (mm_O xs) h (.retAddr 0) (Int32.ofNat j)).map (fun x => (r, Value.int x :: t, h)) with
    | some (r', st', h') => mm_run mm_P (mm_O xs) n d mc_L_law (pc + 1) r' st' h' g
    | none => none) = _
  rw [e]
  exact hn
theorem lw_inv {q a b c : Nat} {N : mm_Meth} {v0 : Value} {w : mm_Res} {vs : List Value} (hat : mm_at (mm_rows mc_L_law) pc = some (.invokevirtual q, 3, a, b, c)) (hP : mm_P a = some N) (hd : 1 ≤ d) (hst : st.drop (mm_par N) = v0 :: t) (h1 : (Nat.ble (mm_words t) 8 && (Nat.beq (st.take (mm_par N)).length (mm_par N) && Nat.ble (mm_sl (v0 :: (st.take (mm_par N)).reverse)).length (mm_maxL N))) = true) (h2 : mm_rcv (mm_O xs) (hq_hp s) v0 (mm_own N) = true) (hN : hq_R (mm_O xs) (d - 1) N 0 (mm_entry (mm_maxL N) (v0 :: (st.take (mm_par N)).reverse)) [] s g w s1) (hw : mm_val w = some vs) (H : lw_X xs d (pc + 3) r (vs ++ t) s1 g X) : lw_X xs d pc r st s g X := by
  obtain ⟨n, hn⟩ := H
  obtain ⟨m, hm⟩ := hN
  refine ⟨max n m + 1, ?_⟩
  cases d with
  | zero => omega
  | succ d =>
    rw [mm_run_succ]
    unfold mm_body
    rw [hat]
    dsimp only
    rw [hP]
    dsimp only
    rw [hst]
    dsimp only
    simp only [Bool.and_eq_true] at h1
    obtain ⟨e1, e2, e3⟩ := h1
    rw [e1, e2, e3, h2]
    simp only [Bool.and_self, cond_true]
    rw [mm_run_ge (Nat.le_max_right n m) (Nat.le_refl _) (show mm_run mm_P (mm_O xs) m d N 0 _ [] (hq_hp s) g = _ from hm)]
    dsimp only
    rw [hw]
    exact mm_run_ge (Nat.le_max_left n m) (Nat.le_refl _) hn
theorem lw_icE {z : Int} {l a b e : Nat} {x : Int32} (hat : mm_at (mm_rows mc_L_law) pc = some (.if_icmp .eq z, l, a, b, e)) (H : lw_X xs d a r t s g X) : lw_X xs d pc r (.int x :: .int x :: t) s g X := by
  obtain ⟨n, hn⟩ := H
  refine ⟨n + 1, ?_⟩
  rw [mm_run_succ]
  unfold mm_body
  rw [hat]
  dsimp only
  rw [hq_c_eq_T rfl]
  exact hn
theorem lw_izT {cn : Jvm.ClassFile.Cond} {z : Int} {l a b e : Nat} {x : Int32} (hat : mm_at (mm_rows mc_L_law) pc = some (.ifCond cn z, l, a, b, e)) (hc : mm_cmp cn x 0 = true) (H : lw_X xs d a r t s g X) : lw_X xs d pc r (.int x :: t) s g X := by
  obtain ⟨n, hn⟩ := H
  refine ⟨n + 1, ?_⟩
  rw [mm_run_succ]
  unfold mm_body
  rw [hat]
  dsimp only
  rw [hc]
  exact hn
theorem lw_izF {cn : Jvm.ClassFile.Cond} {z : Int} {l a b e : Nat} {x : Int32} (hat : mm_at (mm_rows mc_L_law) pc = some (.ifCond cn z, l, a, b, e)) (hc : mm_cmp cn x 0 = false) (H : lw_X xs d (pc + 3) r t s g X) : lw_X xs d pc r (.int x :: t) s g X := by
  obtain ⟨n, hn⟩ := H
  refine ⟨n + 1, ?_⟩
  rw [mm_run_succ]
  unfold mm_body
  rw [hat]
  dsimp only
  rw [hc]
  exact hn
end
theorem lw_cmp (x : Int64) : lg_cmp x x = 0 := by
  unfold lg_cmp
  rw [if_neg (fun q => Int64.lt_irrefl q), if_pos rfl]
def lw_r (i : Int32) (o5 o6 : Option Value) : mm_Loc := [some (.retAddr 0), some (.ref 0), some (.ref 174), some (.ref 231), some (.int i), o5, o6]
theorem lw_op_0 {xs : List Int32} {d i : Nat} {s s1 s2 : hq_S} {g n1 n2 : Nat} {o5 o6 : Option Value} {X : mm_Res × mm_Heap × Nat} {v : Int32} (hd : 1000 ≤ d) (hi : i + 6 ≤ xs.length) (hl : xs.length ≤ 3072) (hX : f_X11_feed n1 (xs.getD (i + 1) 0) (xs.getD (i + 2) 0) (xs.getD (i + 3) 0) (xs.getD (i + 4) 0) (xs.getD (i + 5) 0) s = some (v, s1)) (hM : f_X12_feed n2 (xs.getD (i + 1) 0) (xs.getD (i + 2) 0) (xs.getD (i + 3) 0) (xs.getD (i + 4) 0) (xs.getD (i + 5) 0) s1 = some (v, s2)) (H : lw_X xs d 23 (lw_r (Int32.ofNat (i + 6)) o5 o6) [] s2 g X) : lw_X xs d 40 (lw_r (Int32.ofNat i) o5 o6) [.int 0] s g X := by
  refine lw_p 6 250 [some (.retAddr 0), some (.ref 0), some (.ref 174), some (.ref 231), some (.int (Int32.ofNat i)), o5, o6] [.int (Int32.ofNat i + (1 : Int32)), .retAddr 0, .ref 0] (fun go h => rfl) ?_
  refine lw_scr (j := i + 1) rfl (Int32.ofNat_add i 1).symm (by omega) hl ?_
  refine lw_p 4 256 [some (.retAddr 0), some (.ref 0), some (.ref 174), some (.ref 231), some (.int (Int32.ofNat i)), o5, o6] [.int (Int32.ofNat i + (2 : Int32)), .retAddr 0, .int (xs.getD (i + 1) 0), .ref 0] (fun go h => rfl) ?_
  refine lw_scr (j := i + 2) rfl (Int32.ofNat_add i 2).symm (by omega) hl ?_
  refine lw_p 4 262 [some (.retAddr 0), some (.ref 0), some (.ref 174), some (.ref 231), some (.int (Int32.ofNat i)), o5, o6] [.int (Int32.ofNat i + (3 : Int32)), .retAddr 0, .int (xs.getD (i + 2) 0), .int (xs.getD (i + 1) 0), .ref 0] (fun go h => rfl) ?_
  refine lw_scr (j := i + 3) rfl (Int32.ofNat_add i 3).symm (by omega) hl ?_
  refine lw_p 4 268 [some (.retAddr 0), some (.ref 0), some (.ref 174), some (.ref 231), some (.int (Int32.ofNat i)), o5, o6] [.int (Int32.ofNat i + (4 : Int32)), .retAddr 0, .int (xs.getD (i + 3) 0), .int (xs.getD (i + 2) 0), .int (xs.getD (i + 1) 0), .ref 0] (fun go h => rfl) ?_
  refine lw_scr (j := i + 4) rfl (Int32.ofNat_add i 4).symm (by omega) hl ?_
  refine lw_p 4 274 [some (.retAddr 0), some (.ref 0), some (.ref 174), some (.ref 231), some (.int (Int32.ofNat i)), o5, o6] [.int (Int32.ofNat i + (5 : Int32)), .retAddr 0, .int (xs.getD (i + 4) 0), .int (xs.getD (i + 3) 0), .int (xs.getD (i + 2) 0), .int (xs.getD (i + 1) 0), .ref 0] (fun go h => rfl) ?_
  refine lw_scr (j := i + 5) rfl (Int32.ofNat_add i 5).symm (by omega) hl ?_
  refine lw_inv rfl rfl (by omega) rfl rfl (hq_rcv rfl rfl) (f_X11_feed_run (by omega) hX) rfl ?_
  refine lw_p 5 284 [some (.retAddr 0), some (.ref 0), some (.ref 174), some (.ref 231), some (.int (Int32.ofNat i)), o5, o6] [.int (Int32.ofNat i + (1 : Int32)), .retAddr 0, .ref 174, .int v] (fun go h => rfl) ?_
  refine lw_scr (j := i + 1) rfl (Int32.ofNat_add i 1).symm (by omega) hl ?_
  refine lw_p 4 290 [some (.retAddr 0), some (.ref 0), some (.ref 174), some (.ref 231), some (.int (Int32.ofNat i)), o5, o6] [.int (Int32.ofNat i + (2 : Int32)), .retAddr 0, .int (xs.getD (i + 1) 0), .ref 174, .int v] (fun go h => rfl) ?_
  refine lw_scr (j := i + 2) rfl (Int32.ofNat_add i 2).symm (by omega) hl ?_
  refine lw_p 4 296 [some (.retAddr 0), some (.ref 0), some (.ref 174), some (.ref 231), some (.int (Int32.ofNat i)), o5, o6] [.int (Int32.ofNat i + (3 : Int32)), .retAddr 0, .int (xs.getD (i + 2) 0), .int (xs.getD (i + 1) 0), .ref 174, .int v] (fun go h => rfl) ?_
  refine lw_scr (j := i + 3) rfl (Int32.ofNat_add i 3).symm (by omega) hl ?_
  refine lw_p 4 302 [some (.retAddr 0), some (.ref 0), some (.ref 174), some (.ref 231), some (.int (Int32.ofNat i)), o5, o6] [.int (Int32.ofNat i + (4 : Int32)), .retAddr 0, .int (xs.getD (i + 3) 0), .int (xs.getD (i + 2) 0), .int (xs.getD (i + 1) 0), .ref 174, .int v] (fun go h => rfl) ?_
  refine lw_scr (j := i + 4) rfl (Int32.ofNat_add i 4).symm (by omega) hl ?_
  refine lw_p 4 308 [some (.retAddr 0), some (.ref 0), some (.ref 174), some (.ref 231), some (.int (Int32.ofNat i)), o5, o6] [.int (Int32.ofNat i + (5 : Int32)), .retAddr 0, .int (xs.getD (i + 4) 0), .int (xs.getD (i + 3) 0), .int (xs.getD (i + 2) 0), .int (xs.getD (i + 1) 0), .ref 174, .int v] (fun go h => rfl) ?_
  refine lw_scr (j := i + 5) rfl (Int32.ofNat_add i 5).symm (by omega) hl ?_
  refine lw_inv rfl rfl (by omega) rfl rfl (hq_rcv rfl rfl) (f_X12_feed_run (by omega) hM) rfl ?_
  refine lw_icE rfl ?_
  refine lw_p 2 23 [some (.retAddr 0), some (.ref 0), some (.ref 174), some (.ref 231), some (.int (Int32.ofNat i + (6 : Int32))), o5, o6] [] (fun go h => rfl) ?_
  rw [show Int32.ofNat i + (6 : Int32) = Int32.ofNat (i + 6) from (Int32.ofNat_add i 6).symm]
  exact H
theorem lw_op_1 {xs : List Int32} {d i : Nat} {s s1 s2 : hq_S} {g n1 n2 : Nat} {o5 o6 : Option Value} {X : mm_Res × mm_Heap × Nat} {v : Int32} (hd : 1000 ≤ d) (hi : i + 6 ≤ xs.length) (hl : xs.length ≤ 3072) (hX : f_X11_text n1 (xs.getD (i + 1) 0) s = some (v, s1)) (hM : f_X12_text n2 (xs.getD (i + 1) 0) s1 = some (v, s2)) (H : lw_X xs d 23 (lw_r (Int32.ofNat (i + 6)) o5 o6) [] s2 g X) : lw_X xs d 40 (lw_r (Int32.ofNat i) o5 o6) [.int 1] s g X := by
  refine lw_p 6 323 [some (.retAddr 0), some (.ref 0), some (.ref 174), some (.ref 231), some (.int (Int32.ofNat i)), o5, o6] [.int (Int32.ofNat i + (1 : Int32)), .retAddr 0, .ref 0] (fun go h => rfl) ?_
  refine lw_scr (j := i + 1) rfl (Int32.ofNat_add i 1).symm (by omega) hl ?_
  refine lw_inv rfl rfl (by omega) rfl rfl (hq_rcv rfl rfl) (f_X11_text_run (by omega) hX) rfl ?_
  refine lw_p 5 333 [some (.retAddr 0), some (.ref 0), some (.ref 174), some (.ref 231), some (.int (Int32.ofNat i)), o5, o6] [.int (Int32.ofNat i + (1 : Int32)), .retAddr 0, .ref 174, .int v] (fun go h => rfl) ?_
  refine lw_scr (j := i + 1) rfl (Int32.ofNat_add i 1).symm (by omega) hl ?_
  refine lw_inv rfl rfl (by omega) rfl rfl (hq_rcv rfl rfl) (f_X12_text_run (by omega) hM) rfl ?_
  refine lw_icE rfl ?_
  refine lw_p 2 23 [some (.retAddr 0), some (.ref 0), some (.ref 174), some (.ref 231), some (.int (Int32.ofNat i + (6 : Int32))), o5, o6] [] (fun go h => rfl) ?_
  rw [show Int32.ofNat i + (6 : Int32) = Int32.ofNat (i + 6) from (Int32.ofNat_add i 6).symm]
  exact H
theorem lw_op_2 {xs : List Int32} {d i : Nat} {s s1 s2 : hq_S} {g n1 n2 : Nat} {o5 o6 : Option Value} {X : mm_Res × mm_Heap × Nat} {v : Int32} (hd : 1000 ≤ d) (hi : i + 6 ≤ xs.length) (hl : xs.length ≤ 3072) (hX : f_X11_fault n1 (xs.getD (i + 1) 0) s = some (v, s1)) (hM : f_X12_fault n2 (xs.getD (i + 1) 0) s1 = some (v, s2)) (H : lw_X xs d 23 (lw_r (Int32.ofNat (i + 6)) o5 o6) [] s2 g X) : lw_X xs d 40 (lw_r (Int32.ofNat i) o5 o6) [.int 2] s g X := by
  refine lw_p 6 348 [some (.retAddr 0), some (.ref 0), some (.ref 174), some (.ref 231), some (.int (Int32.ofNat i)), o5, o6] [.int (Int32.ofNat i + (1 : Int32)), .retAddr 0, .ref 0] (fun go h => rfl) ?_
  refine lw_scr (j := i + 1) rfl (Int32.ofNat_add i 1).symm (by omega) hl ?_
  refine lw_inv rfl rfl (by omega) rfl rfl (hq_rcv rfl rfl) (f_X11_fault_run (by omega) hX) rfl ?_
  refine lw_p 5 358 [some (.retAddr 0), some (.ref 0), some (.ref 174), some (.ref 231), some (.int (Int32.ofNat i)), o5, o6] [.int (Int32.ofNat i + (1 : Int32)), .retAddr 0, .ref 174, .int v] (fun go h => rfl) ?_
  refine lw_scr (j := i + 1) rfl (Int32.ofNat_add i 1).symm (by omega) hl ?_
  refine lw_inv rfl rfl (by omega) rfl rfl (hq_rcv rfl rfl) (f_X12_fault_run (by omega) hM) rfl ?_
  refine lw_icE rfl ?_
  refine lw_p 2 23 [some (.retAddr 0), some (.ref 0), some (.ref 174), some (.ref 231), some (.int (Int32.ofNat i + (6 : Int32))), o5, o6] [] (fun go h => rfl) ?_
  rw [show Int32.ofNat i + (6 : Int32) = Int32.ofNat (i + 6) from (Int32.ofNat_add i 6).symm]
  exact H
theorem lw_op_3 {xs : List Int32} {d i : Nat} {s s1 s2 : hq_S} {g n1 n2 : Nat} {o5 o6 : Option Value} {X : mm_Res × mm_Heap × Nat} {v : Int32} (hd : 1000 ≤ d) (hi : i + 6 ≤ xs.length) (hl : xs.length ≤ 3072) (hX : f_X11_named n1 (xs.getD (i + 1) 0) (xs.getD (i + 2) 0) s = some (v, s1)) (hM : f_X12_named n2 (xs.getD (i + 1) 0) (xs.getD (i + 2) 0) s1 = some (v, s2)) (H : lw_X xs d 23 (lw_r (Int32.ofNat (i + 6)) o5 o6) [] s2 g X) : lw_X xs d 40 (lw_r (Int32.ofNat i) o5 o6) [.int 3] s g X := by
  refine lw_p 6 373 [some (.retAddr 0), some (.ref 0), some (.ref 174), some (.ref 231), some (.int (Int32.ofNat i)), o5, o6] [.int (Int32.ofNat i + (1 : Int32)), .retAddr 0, .ref 0] (fun go h => rfl) ?_
  refine lw_scr (j := i + 1) rfl (Int32.ofNat_add i 1).symm (by omega) hl ?_
  refine lw_p 4 379 [some (.retAddr 0), some (.ref 0), some (.ref 174), some (.ref 231), some (.int (Int32.ofNat i)), o5, o6] [.int (Int32.ofNat i + (2 : Int32)), .retAddr 0, .int (xs.getD (i + 1) 0), .ref 0] (fun go h => rfl) ?_
  refine lw_scr (j := i + 2) rfl (Int32.ofNat_add i 2).symm (by omega) hl ?_
  refine lw_inv rfl rfl (by omega) rfl rfl (hq_rcv rfl rfl) (f_X11_named_run (by omega) hX) rfl ?_
  refine lw_p 5 389 [some (.retAddr 0), some (.ref 0), some (.ref 174), some (.ref 231), some (.int (Int32.ofNat i)), o5, o6] [.int (Int32.ofNat i + (1 : Int32)), .retAddr 0, .ref 174, .int v] (fun go h => rfl) ?_
  refine lw_scr (j := i + 1) rfl (Int32.ofNat_add i 1).symm (by omega) hl ?_
  refine lw_p 4 395 [some (.retAddr 0), some (.ref 0), some (.ref 174), some (.ref 231), some (.int (Int32.ofNat i)), o5, o6] [.int (Int32.ofNat i + (2 : Int32)), .retAddr 0, .int (xs.getD (i + 1) 0), .ref 174, .int v] (fun go h => rfl) ?_
  refine lw_scr (j := i + 2) rfl (Int32.ofNat_add i 2).symm (by omega) hl ?_
  refine lw_inv rfl rfl (by omega) rfl rfl (hq_rcv rfl rfl) (f_X12_named_run (by omega) hM) rfl ?_
  refine lw_icE rfl ?_
  refine lw_p 2 23 [some (.retAddr 0), some (.ref 0), some (.ref 174), some (.ref 231), some (.int (Int32.ofNat i + (6 : Int32))), o5, o6] [] (fun go h => rfl) ?_
  rw [show Int32.ofNat i + (6 : Int32) = Int32.ofNat (i + 6) from (Int32.ofNat_add i 6).symm]
  exact H
theorem lw_op_5 {xs : List Int32} {d i : Nat} {s s1 s2 : hq_S} {g n1 n2 : Nat} {o5 o6 : Option Value} {X : mm_Res × mm_Heap × Nat} {v : Int32} (hd : 1000 ≤ d) (hi : i + 6 ≤ xs.length) (hl : xs.length ≤ 3072) (hX : f_X11_guard n1 (xs.getD (i + 1) 0) (xs.getD (i + 2) 0) s = some (v, s1)) (hM : f_X12_guard n2 (xs.getD (i + 1) 0) (xs.getD (i + 2) 0) s1 = some (v, s2)) (H : lw_X xs d 23 (lw_r (Int32.ofNat (i + 6)) o5 o6) [] s2 g X) : lw_X xs d 40 (lw_r (Int32.ofNat i) o5 o6) [.int 5] s g X := by
  refine lw_p 6 478 [some (.retAddr 0), some (.ref 0), some (.ref 174), some (.ref 231), some (.int (Int32.ofNat i)), o5, o6] [.int (Int32.ofNat i + (1 : Int32)), .retAddr 0, .ref 0] (fun go h => rfl) ?_
  refine lw_scr (j := i + 1) rfl (Int32.ofNat_add i 1).symm (by omega) hl ?_
  refine lw_p 4 484 [some (.retAddr 0), some (.ref 0), some (.ref 174), some (.ref 231), some (.int (Int32.ofNat i)), o5, o6] [.int (Int32.ofNat i + (2 : Int32)), .retAddr 0, .int (xs.getD (i + 1) 0), .ref 0] (fun go h => rfl) ?_
  refine lw_scr (j := i + 2) rfl (Int32.ofNat_add i 2).symm (by omega) hl ?_
  refine lw_inv rfl rfl (by omega) rfl rfl (hq_rcv rfl rfl) (f_X11_guard_run (by omega) hX) rfl ?_
  refine lw_p 5 494 [some (.retAddr 0), some (.ref 0), some (.ref 174), some (.ref 231), some (.int (Int32.ofNat i)), o5, o6] [.int (Int32.ofNat i + (1 : Int32)), .retAddr 0, .ref 174, .int v] (fun go h => rfl) ?_
  refine lw_scr (j := i + 1) rfl (Int32.ofNat_add i 1).symm (by omega) hl ?_
  refine lw_p 4 500 [some (.retAddr 0), some (.ref 0), some (.ref 174), some (.ref 231), some (.int (Int32.ofNat i)), o5, o6] [.int (Int32.ofNat i + (2 : Int32)), .retAddr 0, .int (xs.getD (i + 1) 0), .ref 174, .int v] (fun go h => rfl) ?_
  refine lw_scr (j := i + 2) rfl (Int32.ofNat_add i 2).symm (by omega) hl ?_
  refine lw_inv rfl rfl (by omega) rfl rfl (hq_rcv rfl rfl) (f_X12_guard_run (by omega) hM) rfl ?_
  refine lw_icE rfl ?_
  refine lw_p 2 23 [some (.retAddr 0), some (.ref 0), some (.ref 174), some (.ref 231), some (.int (Int32.ofNat i + (6 : Int32))), o5, o6] [] (fun go h => rfl) ?_
  rw [show Int32.ofNat i + (6 : Int32) = Int32.ofNat (i + 6) from (Int32.ofNat_add i 6).symm]
  exact H
theorem lw_op_6 {xs : List Int32} {d i : Nat} {s s1 s2 : hq_S} {g n1 n2 : Nat} {o5 o6 : Option Value} {X : mm_Res × mm_Heap × Nat} {v : Int32} (hd : 1000 ≤ d) (hi : i + 6 ≤ xs.length) (hl : xs.length ≤ 3072) (hX : f_X11_thief n1 (xs.getD (i + 1) 0) (xs.getD (i + 2) 0) s = some (v, s1)) (hM : f_X12_thief n2 (xs.getD (i + 1) 0) (xs.getD (i + 2) 0) s1 = some (v, s2)) (H : lw_X xs d 23 (lw_r (Int32.ofNat (i + 6)) o5 o6) [] s2 g X) : lw_X xs d 40 (lw_r (Int32.ofNat i) o5 o6) [.int 6] s g X := by
  refine lw_p 6 515 [some (.retAddr 0), some (.ref 0), some (.ref 174), some (.ref 231), some (.int (Int32.ofNat i)), o5, o6] [.int (Int32.ofNat i + (1 : Int32)), .retAddr 0, .ref 0] (fun go h => rfl) ?_
  refine lw_scr (j := i + 1) rfl (Int32.ofNat_add i 1).symm (by omega) hl ?_
  refine lw_p 4 521 [some (.retAddr 0), some (.ref 0), some (.ref 174), some (.ref 231), some (.int (Int32.ofNat i)), o5, o6] [.int (Int32.ofNat i + (2 : Int32)), .retAddr 0, .int (xs.getD (i + 1) 0), .ref 0] (fun go h => rfl) ?_
  refine lw_scr (j := i + 2) rfl (Int32.ofNat_add i 2).symm (by omega) hl ?_
  refine lw_inv rfl rfl (by omega) rfl rfl (hq_rcv rfl rfl) (f_X11_thief_run (by omega) hX) rfl ?_
  refine lw_p 5 531 [some (.retAddr 0), some (.ref 0), some (.ref 174), some (.ref 231), some (.int (Int32.ofNat i)), o5, o6] [.int (Int32.ofNat i + (1 : Int32)), .retAddr 0, .ref 174, .int v] (fun go h => rfl) ?_
  refine lw_scr (j := i + 1) rfl (Int32.ofNat_add i 1).symm (by omega) hl ?_
  refine lw_p 4 537 [some (.retAddr 0), some (.ref 0), some (.ref 174), some (.ref 231), some (.int (Int32.ofNat i)), o5, o6] [.int (Int32.ofNat i + (2 : Int32)), .retAddr 0, .int (xs.getD (i + 1) 0), .ref 174, .int v] (fun go h => rfl) ?_
  refine lw_scr (j := i + 2) rfl (Int32.ofNat_add i 2).symm (by omega) hl ?_
  refine lw_inv rfl rfl (by omega) rfl rfl (hq_rcv rfl rfl) (f_X12_thief_run (by omega) hM) rfl ?_
  refine lw_icE rfl ?_
  refine lw_p 2 23 [some (.retAddr 0), some (.ref 0), some (.ref 174), some (.ref 231), some (.int (Int32.ofNat i + (6 : Int32))), o5, o6] [] (fun go h => rfl) ?_
  rw [show Int32.ofNat i + (6 : Int32) = Int32.ofNat (i + 6) from (Int32.ofNat_add i 6).symm]
  exact H
theorem lw_op_7 {xs : List Int32} {d i : Nat} {s s1 s2 : hq_S} {g n1 n2 : Nat} {o5 o6 : Option Value} {X : mm_Res × mm_Heap × Nat} {v : Int32} (hd : 1000 ≤ d) (hi : i + 6 ≤ xs.length) (hl : xs.length ≤ 3072) (hX : f_X11_lane n1 (xs.getD (i + 1) 0) (xs.getD (i + 2) 0) s = some (v, s1)) (hM : f_X12_lane n2 (xs.getD (i + 1) 0) (xs.getD (i + 2) 0) s1 = some (v, s2)) (H : lw_X xs d 23 (lw_r (Int32.ofNat (i + 6)) o5 o6) [] s2 g X) : lw_X xs d 40 (lw_r (Int32.ofNat i) o5 o6) [.int 7] s g X := by
  refine lw_p 6 552 [some (.retAddr 0), some (.ref 0), some (.ref 174), some (.ref 231), some (.int (Int32.ofNat i)), o5, o6] [.int (Int32.ofNat i + (1 : Int32)), .retAddr 0, .ref 0] (fun go h => rfl) ?_
  refine lw_scr (j := i + 1) rfl (Int32.ofNat_add i 1).symm (by omega) hl ?_
  refine lw_p 4 558 [some (.retAddr 0), some (.ref 0), some (.ref 174), some (.ref 231), some (.int (Int32.ofNat i)), o5, o6] [.int (Int32.ofNat i + (2 : Int32)), .retAddr 0, .int (xs.getD (i + 1) 0), .ref 0] (fun go h => rfl) ?_
  refine lw_scr (j := i + 2) rfl (Int32.ofNat_add i 2).symm (by omega) hl ?_
  refine lw_inv rfl rfl (by omega) rfl rfl (hq_rcv rfl rfl) (f_X11_lane_run (by omega) hX) rfl ?_
  refine lw_p 5 568 [some (.retAddr 0), some (.ref 0), some (.ref 174), some (.ref 231), some (.int (Int32.ofNat i)), o5, o6] [.int (Int32.ofNat i + (1 : Int32)), .retAddr 0, .ref 174, .int v] (fun go h => rfl) ?_
  refine lw_scr (j := i + 1) rfl (Int32.ofNat_add i 1).symm (by omega) hl ?_
  refine lw_p 4 574 [some (.retAddr 0), some (.ref 0), some (.ref 174), some (.ref 231), some (.int (Int32.ofNat i)), o5, o6] [.int (Int32.ofNat i + (2 : Int32)), .retAddr 0, .int (xs.getD (i + 1) 0), .ref 174, .int v] (fun go h => rfl) ?_
  refine lw_scr (j := i + 2) rfl (Int32.ofNat_add i 2).symm (by omega) hl ?_
  refine lw_inv rfl rfl (by omega) rfl rfl (hq_rcv rfl rfl) (f_X12_lane_run (by omega) hM) rfl ?_
  refine lw_icE rfl ?_
  refine lw_p 2 23 [some (.retAddr 0), some (.ref 0), some (.ref 174), some (.ref 231), some (.int (Int32.ofNat i + (6 : Int32))), o5, o6] [] (fun go h => rfl) ?_
  rw [show Int32.ofNat i + (6 : Int32) = Int32.ofNat (i + 6) from (Int32.ofNat_add i 6).symm]
  exact H
theorem lw_op_8 {xs : List Int32} {d i : Nat} {s s1 s2 : hq_S} {g n1 n2 : Nat} {o5 o6 : Option Value} {X : mm_Res × mm_Heap × Nat} {v : Int64} (hd : 1000 ≤ d) (hi : i + 6 ≤ xs.length) (hl : xs.length ≤ 3072) (hX : f_X11_law n1 (xs.getD (i + 1) 0) (xs.getD (i + 2) 0) (xs.getD (i + 3) 0) s = some (v, s1)) (hM : f_X12_law n2 (xs.getD (i + 1) 0) (xs.getD (i + 2) 0) (xs.getD (i + 3) 0) s1 = some (v, s2)) (H : lw_X xs d 23 (lw_r (Int32.ofNat (i + 6)) o5 o6) [] s2 g X) : lw_X xs d 40 (lw_r (Int32.ofNat i) o5 o6) [.int 8] s g X := by
  refine lw_p 6 589 [some (.retAddr 0), some (.ref 0), some (.ref 174), some (.ref 231), some (.int (Int32.ofNat i)), o5, o6] [.int (Int32.ofNat i + (1 : Int32)), .retAddr 0, .ref 0] (fun go h => rfl) ?_
  refine lw_scr (j := i + 1) rfl (Int32.ofNat_add i 1).symm (by omega) hl ?_
  refine lw_p 4 595 [some (.retAddr 0), some (.ref 0), some (.ref 174), some (.ref 231), some (.int (Int32.ofNat i)), o5, o6] [.int (Int32.ofNat i + (2 : Int32)), .retAddr 0, .int (xs.getD (i + 1) 0), .ref 0] (fun go h => rfl) ?_
  refine lw_scr (j := i + 2) rfl (Int32.ofNat_add i 2).symm (by omega) hl ?_
  refine lw_p 4 601 [some (.retAddr 0), some (.ref 0), some (.ref 174), some (.ref 231), some (.int (Int32.ofNat i)), o5, o6] [.int (Int32.ofNat i + (3 : Int32)), .retAddr 0, .int (xs.getD (i + 2) 0), .int (xs.getD (i + 1) 0), .ref 0] (fun go h => rfl) ?_
  refine lw_scr (j := i + 3) rfl (Int32.ofNat_add i 3).symm (by omega) hl ?_
  refine lw_inv rfl rfl (by omega) rfl rfl (hq_rcv rfl rfl) (f_X11_law_run (by omega) hX) rfl ?_
  refine lw_p 5 611 [some (.retAddr 0), some (.ref 0), some (.ref 174), some (.ref 231), some (.int (Int32.ofNat i)), o5, o6] [.int (Int32.ofNat i + (1 : Int32)), .retAddr 0, .ref 174, .long v] (fun go h => rfl) ?_
  refine lw_scr (j := i + 1) rfl (Int32.ofNat_add i 1).symm (by omega) hl ?_
  refine lw_p 4 617 [some (.retAddr 0), some (.ref 0), some (.ref 174), some (.ref 231), some (.int (Int32.ofNat i)), o5, o6] [.int (Int32.ofNat i + (2 : Int32)), .retAddr 0, .int (xs.getD (i + 1) 0), .ref 174, .long v] (fun go h => rfl) ?_
  refine lw_scr (j := i + 2) rfl (Int32.ofNat_add i 2).symm (by omega) hl ?_
  refine lw_p 4 623 [some (.retAddr 0), some (.ref 0), some (.ref 174), some (.ref 231), some (.int (Int32.ofNat i)), o5, o6] [.int (Int32.ofNat i + (3 : Int32)), .retAddr 0, .int (xs.getD (i + 2) 0), .int (xs.getD (i + 1) 0), .ref 174, .long v] (fun go h => rfl) ?_
  refine lw_scr (j := i + 3) rfl (Int32.ofNat_add i 3).symm (by omega) hl ?_
  refine lw_inv rfl rfl (by omega) rfl rfl (hq_rcv rfl rfl) (f_X12_law_run (by omega) hM) rfl ?_
  refine lw_p 1 628 [some (.retAddr 0), some (.ref 0), some (.ref 174), some (.ref 231), some (.int (Int32.ofNat i)), o5, o6] [.int (lg_cmp v v)] (fun go h => rfl) ?_
  refine lw_izT rfl (by rw [lw_cmp]; rfl) ?_
  refine lw_p 2 23 [some (.retAddr 0), some (.ref 0), some (.ref 174), some (.ref 231), some (.int (Int32.ofNat i + (6 : Int32))), o5, o6] [] (fun go h => rfl) ?_
  rw [show Int32.ofNat i + (6 : Int32) = Int32.ofNat (i + 6) from (Int32.ofNat_add i 6).symm]
  exact H
theorem lw_op_9 {xs : List Int32} {d i : Nat} {s s1 s2 : hq_S} {g n1 n2 : Nat} {o5 o6 : Option Value} {X : mm_Res × mm_Heap × Nat} {v : Int32} (hd : 1000 ≤ d) (hi : i + 6 ≤ xs.length) (hl : xs.length ≤ 3072) (hX : f_X11_send n1 (xs.getD (i + 1) 0) (xs.getD (i + 2) 0) s = some (v, s1)) (hM : f_X12_send n2 (xs.getD (i + 1) 0) (xs.getD (i + 2) 0) s1 = some (v, s2)) (H : lw_X xs d 23 (lw_r (Int32.ofNat (i + 6)) o5 o6) [] s2 g X) : lw_X xs d 40 (lw_r (Int32.ofNat i) o5 o6) [.int 9] s g X := by
  refine lw_p 6 639 [some (.retAddr 0), some (.ref 0), some (.ref 174), some (.ref 231), some (.int (Int32.ofNat i)), o5, o6] [.int (Int32.ofNat i + (1 : Int32)), .retAddr 0, .ref 0] (fun go h => rfl) ?_
  refine lw_scr (j := i + 1) rfl (Int32.ofNat_add i 1).symm (by omega) hl ?_
  refine lw_p 4 645 [some (.retAddr 0), some (.ref 0), some (.ref 174), some (.ref 231), some (.int (Int32.ofNat i)), o5, o6] [.int (Int32.ofNat i + (2 : Int32)), .retAddr 0, .int (xs.getD (i + 1) 0), .ref 0] (fun go h => rfl) ?_
  refine lw_scr (j := i + 2) rfl (Int32.ofNat_add i 2).symm (by omega) hl ?_
  refine lw_inv rfl rfl (by omega) rfl rfl (hq_rcv rfl rfl) (f_X11_send_run (by omega) hX) rfl ?_
  refine lw_p 5 655 [some (.retAddr 0), some (.ref 0), some (.ref 174), some (.ref 231), some (.int (Int32.ofNat i)), o5, o6] [.int (Int32.ofNat i + (1 : Int32)), .retAddr 0, .ref 174, .int v] (fun go h => rfl) ?_
  refine lw_scr (j := i + 1) rfl (Int32.ofNat_add i 1).symm (by omega) hl ?_
  refine lw_p 4 661 [some (.retAddr 0), some (.ref 0), some (.ref 174), some (.ref 231), some (.int (Int32.ofNat i)), o5, o6] [.int (Int32.ofNat i + (2 : Int32)), .retAddr 0, .int (xs.getD (i + 1) 0), .ref 174, .int v] (fun go h => rfl) ?_
  refine lw_scr (j := i + 2) rfl (Int32.ofNat_add i 2).symm (by omega) hl ?_
  refine lw_inv rfl rfl (by omega) rfl rfl (hq_rcv rfl rfl) (f_X12_send_run (by omega) hM) rfl ?_
  refine lw_icE rfl ?_
  refine lw_p 2 23 [some (.retAddr 0), some (.ref 0), some (.ref 174), some (.ref 231), some (.int (Int32.ofNat i + (6 : Int32))), o5, o6] [] (fun go h => rfl) ?_
  rw [show Int32.ofNat i + (6 : Int32) = Int32.ofNat (i + 6) from (Int32.ofNat_add i 6).symm]
  exact H
theorem lw_op_10 {xs : List Int32} {d i : Nat} {s s1 s2 : hq_S} {g n1 n2 : Nat} {o5 o6 : Option Value} {X : mm_Res × mm_Heap × Nat} {v : Int32} (hd : 1000 ≤ d) (hi : i + 6 ≤ xs.length) (hl : xs.length ≤ 3072) (hX : f_X11_bar n1 (xs.getD (i + 1) 0) s = some (v, s1)) (hM : f_X12_bar n2 (xs.getD (i + 1) 0) s1 = some (v, s2)) (H : lw_X xs d 23 (lw_r (Int32.ofNat (i + 6)) o5 o6) [] s2 g X) : lw_X xs d 40 (lw_r (Int32.ofNat i) o5 o6) [.int 10] s g X := by
  refine lw_p 6 676 [some (.retAddr 0), some (.ref 0), some (.ref 174), some (.ref 231), some (.int (Int32.ofNat i)), o5, o6] [.int (Int32.ofNat i + (1 : Int32)), .retAddr 0, .ref 0] (fun go h => rfl) ?_
  refine lw_scr (j := i + 1) rfl (Int32.ofNat_add i 1).symm (by omega) hl ?_
  refine lw_inv rfl rfl (by omega) rfl rfl (hq_rcv rfl rfl) (f_X11_bar_run (by omega) hX) rfl ?_
  refine lw_p 5 686 [some (.retAddr 0), some (.ref 0), some (.ref 174), some (.ref 231), some (.int (Int32.ofNat i)), o5, o6] [.int (Int32.ofNat i + (1 : Int32)), .retAddr 0, .ref 174, .int v] (fun go h => rfl) ?_
  refine lw_scr (j := i + 1) rfl (Int32.ofNat_add i 1).symm (by omega) hl ?_
  refine lw_inv rfl rfl (by omega) rfl rfl (hq_rcv rfl rfl) (f_X12_bar_run (by omega) hM) rfl ?_
  refine lw_icE rfl ?_
  refine lw_p 2 23 [some (.retAddr 0), some (.ref 0), some (.ref 174), some (.ref 231), some (.int (Int32.ofNat i + (6 : Int32))), o5, o6] [] (fun go h => rfl) ?_
  rw [show Int32.ofNat i + (6 : Int32) = Int32.ofNat (i + 6) from (Int32.ofNat_add i 6).symm]
  exact H
theorem lw_op_11 {xs : List Int32} {d i : Nat} {s s1 s2 : hq_S} {g n1 n2 : Nat} {o5 o6 : Option Value} {X : mm_Res × mm_Heap × Nat} {v : Int32} (hd : 1000 ≤ d) (hi : i + 6 ≤ xs.length) (hl : xs.length ≤ 3072) (hX : f_X11_drop n1 (xs.getD (i + 1) 0) (xs.getD (i + 2) 0) s = some (v, s1)) (hM : f_X12_drop n2 (xs.getD (i + 1) 0) (xs.getD (i + 2) 0) s1 = some (v, s2)) (H : lw_X xs d 23 (lw_r (Int32.ofNat (i + 6)) o5 o6) [] s2 g X) : lw_X xs d 40 (lw_r (Int32.ofNat i) o5 o6) [.int 11] s g X := by
  refine lw_p 6 701 [some (.retAddr 0), some (.ref 0), some (.ref 174), some (.ref 231), some (.int (Int32.ofNat i)), o5, o6] [.int (Int32.ofNat i + (1 : Int32)), .retAddr 0, .ref 0] (fun go h => rfl) ?_
  refine lw_scr (j := i + 1) rfl (Int32.ofNat_add i 1).symm (by omega) hl ?_
  refine lw_p 4 707 [some (.retAddr 0), some (.ref 0), some (.ref 174), some (.ref 231), some (.int (Int32.ofNat i)), o5, o6] [.int (Int32.ofNat i + (2 : Int32)), .retAddr 0, .int (xs.getD (i + 1) 0), .ref 0] (fun go h => rfl) ?_
  refine lw_scr (j := i + 2) rfl (Int32.ofNat_add i 2).symm (by omega) hl ?_
  refine lw_inv rfl rfl (by omega) rfl rfl (hq_rcv rfl rfl) (f_X11_drop_run (by omega) hX) rfl ?_
  refine lw_p 5 717 [some (.retAddr 0), some (.ref 0), some (.ref 174), some (.ref 231), some (.int (Int32.ofNat i)), o5, o6] [.int (Int32.ofNat i + (1 : Int32)), .retAddr 0, .ref 174, .int v] (fun go h => rfl) ?_
  refine lw_scr (j := i + 1) rfl (Int32.ofNat_add i 1).symm (by omega) hl ?_
  refine lw_p 4 723 [some (.retAddr 0), some (.ref 0), some (.ref 174), some (.ref 231), some (.int (Int32.ofNat i)), o5, o6] [.int (Int32.ofNat i + (2 : Int32)), .retAddr 0, .int (xs.getD (i + 1) 0), .ref 174, .int v] (fun go h => rfl) ?_
  refine lw_scr (j := i + 2) rfl (Int32.ofNat_add i 2).symm (by omega) hl ?_
  refine lw_inv rfl rfl (by omega) rfl rfl (hq_rcv rfl rfl) (f_X12_drop_run (by omega) hM) rfl ?_
  refine lw_icE rfl ?_
  refine lw_p 2 23 [some (.retAddr 0), some (.ref 0), some (.ref 174), some (.ref 231), some (.int (Int32.ofNat i + (6 : Int32))), o5, o6] [] (fun go h => rfl) ?_
  rw [show Int32.ofNat i + (6 : Int32) = Int32.ofNat (i + 6) from (Int32.ofNat_add i 6).symm]
  exact H
theorem lw_op_12 {xs : List Int32} {d i : Nat} {s s1 s2 : hq_S} {g n1 n2 : Nat} {o5 o6 : Option Value} {X : mm_Res × mm_Heap × Nat} {v : Int32} (hd : 1000 ≤ d) (hi : i + 6 ≤ xs.length) (hl : xs.length ≤ 3072) (hX : f_X11_go n1 (xs.getD (i + 1) 0) s = some (v, s1)) (hM : f_X12_go n2 (xs.getD (i + 1) 0) s1 = some (v, s2)) (H : lw_X xs d 23 (lw_r (Int32.ofNat (i + 6)) o5 o6) [] s2 g X) : lw_X xs d 40 (lw_r (Int32.ofNat i) o5 o6) [.int 12] s g X := by
  refine lw_p 6 738 [some (.retAddr 0), some (.ref 0), some (.ref 174), some (.ref 231), some (.int (Int32.ofNat i)), o5, o6] [.int (Int32.ofNat i + (1 : Int32)), .retAddr 0, .ref 0] (fun go h => rfl) ?_
  refine lw_scr (j := i + 1) rfl (Int32.ofNat_add i 1).symm (by omega) hl ?_
  refine lw_inv rfl rfl (by omega) rfl rfl (hq_rcv rfl rfl) (f_X11_go_run (by omega) hX) rfl ?_
  refine lw_p 5 748 [some (.retAddr 0), some (.ref 0), some (.ref 174), some (.ref 231), some (.int (Int32.ofNat i)), o5, o6] [.int (Int32.ofNat i + (1 : Int32)), .retAddr 0, .ref 174, .int v] (fun go h => rfl) ?_
  refine lw_scr (j := i + 1) rfl (Int32.ofNat_add i 1).symm (by omega) hl ?_
  refine lw_inv rfl rfl (by omega) rfl rfl (hq_rcv rfl rfl) (f_X12_go_run (by omega) hM) rfl ?_
  refine lw_icE rfl ?_
  refine lw_p 2 23 [some (.retAddr 0), some (.ref 0), some (.ref 174), some (.ref 231), some (.int (Int32.ofNat i + (6 : Int32))), o5, o6] [] (fun go h => rfl) ?_
  rw [show Int32.ofNat i + (6 : Int32) = Int32.ofNat (i + 6) from (Int32.ofNat_add i 6).symm]
  exact H
theorem lw_op_13 {xs : List Int32} {d i : Nat} {s s1 s2 : hq_S} {g n1 n2 : Nat} {o5 o6 : Option Value} {X : mm_Res × mm_Heap × Nat} {v : Int32} (hd : 1000 ≤ d) (hi : i + 6 ≤ xs.length) (hl : xs.length ≤ 3072) (hX : f_X11_ahead n1 (xs.getD (i + 1) 0) (xs.getD (i + 2) 0) (xs.getD (i + 3) 0) s = some (v, s1)) (hM : f_X12_ahead n2 (xs.getD (i + 1) 0) (xs.getD (i + 2) 0) (xs.getD (i + 3) 0) s1 = some (v, s2)) (H : lw_X xs d 23 (lw_r (Int32.ofNat (i + 6)) o5 o6) [] s2 g X) : lw_X xs d 40 (lw_r (Int32.ofNat i) o5 o6) [.int 13] s g X := by
  refine lw_p 6 763 [some (.retAddr 0), some (.ref 0), some (.ref 174), some (.ref 231), some (.int (Int32.ofNat i)), o5, o6] [.int (Int32.ofNat i + (1 : Int32)), .retAddr 0, .ref 0] (fun go h => rfl) ?_
  refine lw_scr (j := i + 1) rfl (Int32.ofNat_add i 1).symm (by omega) hl ?_
  refine lw_p 4 769 [some (.retAddr 0), some (.ref 0), some (.ref 174), some (.ref 231), some (.int (Int32.ofNat i)), o5, o6] [.int (Int32.ofNat i + (2 : Int32)), .retAddr 0, .int (xs.getD (i + 1) 0), .ref 0] (fun go h => rfl) ?_
  refine lw_scr (j := i + 2) rfl (Int32.ofNat_add i 2).symm (by omega) hl ?_
  refine lw_p 4 775 [some (.retAddr 0), some (.ref 0), some (.ref 174), some (.ref 231), some (.int (Int32.ofNat i)), o5, o6] [.int (Int32.ofNat i + (3 : Int32)), .retAddr 0, .int (xs.getD (i + 2) 0), .int (xs.getD (i + 1) 0), .ref 0] (fun go h => rfl) ?_
  refine lw_scr (j := i + 3) rfl (Int32.ofNat_add i 3).symm (by omega) hl ?_
  refine lw_inv rfl rfl (by omega) rfl rfl (hq_rcv rfl rfl) (f_X11_ahead_run (by omega) hX) rfl ?_
  refine lw_p 5 785 [some (.retAddr 0), some (.ref 0), some (.ref 174), some (.ref 231), some (.int (Int32.ofNat i)), o5, o6] [.int (Int32.ofNat i + (1 : Int32)), .retAddr 0, .ref 174, .int v] (fun go h => rfl) ?_
  refine lw_scr (j := i + 1) rfl (Int32.ofNat_add i 1).symm (by omega) hl ?_
  refine lw_p 4 791 [some (.retAddr 0), some (.ref 0), some (.ref 174), some (.ref 231), some (.int (Int32.ofNat i)), o5, o6] [.int (Int32.ofNat i + (2 : Int32)), .retAddr 0, .int (xs.getD (i + 1) 0), .ref 174, .int v] (fun go h => rfl) ?_
  refine lw_scr (j := i + 2) rfl (Int32.ofNat_add i 2).symm (by omega) hl ?_
  refine lw_p 4 797 [some (.retAddr 0), some (.ref 0), some (.ref 174), some (.ref 231), some (.int (Int32.ofNat i)), o5, o6] [.int (Int32.ofNat i + (3 : Int32)), .retAddr 0, .int (xs.getD (i + 2) 0), .int (xs.getD (i + 1) 0), .ref 174, .int v] (fun go h => rfl) ?_
  refine lw_scr (j := i + 3) rfl (Int32.ofNat_add i 3).symm (by omega) hl ?_
  refine lw_inv rfl rfl (by omega) rfl rfl (hq_rcv rfl rfl) (f_X12_ahead_run (by omega) hM) rfl ?_
  refine lw_icE rfl ?_
  refine lw_p 2 23 [some (.retAddr 0), some (.ref 0), some (.ref 174), some (.ref 231), some (.int (Int32.ofNat i + (6 : Int32))), o5, o6] [] (fun go h => rfl) ?_
  rw [show Int32.ofNat i + (6 : Int32) = Int32.ofNat (i + 6) from (Int32.ofNat_add i 6).symm]
  exact H
theorem lw_op_14 {xs : List Int32} {d i : Nat} {s s1 s2 : hq_S} {g n1 n2 : Nat} {o5 o6 : Option Value} {X : mm_Res × mm_Heap × Nat} {v : Int32} (hd : 1000 ≤ d) (hi : i + 6 ≤ xs.length) (hl : xs.length ≤ 3072) (hX : f_X11_caught n1 (xs.getD (i + 1) 0) s = some (v, s1)) (hM : f_X12_caught n2 (xs.getD (i + 1) 0) s1 = some (v, s2)) (H : lw_X xs d 23 (lw_r (Int32.ofNat (i + 6)) o5 o6) [] s2 g X) : lw_X xs d 40 (lw_r (Int32.ofNat i) o5 o6) [.int 14] s g X := by
  refine lw_p 6 812 [some (.retAddr 0), some (.ref 0), some (.ref 174), some (.ref 231), some (.int (Int32.ofNat i)), o5, o6] [.int (Int32.ofNat i + (1 : Int32)), .retAddr 0, .ref 0] (fun go h => rfl) ?_
  refine lw_scr (j := i + 1) rfl (Int32.ofNat_add i 1).symm (by omega) hl ?_
  refine lw_inv rfl rfl (by omega) rfl rfl (hq_rcv rfl rfl) (f_X11_caught_run (by omega) hX) rfl ?_
  refine lw_p 5 822 [some (.retAddr 0), some (.ref 0), some (.ref 174), some (.ref 231), some (.int (Int32.ofNat i)), o5, o6] [.int (Int32.ofNat i + (1 : Int32)), .retAddr 0, .ref 174, .int v] (fun go h => rfl) ?_
  refine lw_scr (j := i + 1) rfl (Int32.ofNat_add i 1).symm (by omega) hl ?_
  refine lw_inv rfl rfl (by omega) rfl rfl (hq_rcv rfl rfl) (f_X12_caught_run (by omega) hM) rfl ?_
  refine lw_icE rfl ?_
  refine lw_p 2 23 [some (.retAddr 0), some (.ref 0), some (.ref 174), some (.ref 231), some (.int (Int32.ofNat i + (6 : Int32))), o5, o6] [] (fun go h => rfl) ?_
  rw [show Int32.ofNat i + (6 : Int32) = Int32.ofNat (i + 6) from (Int32.ofNat_add i 6).symm]
  exact H
theorem lw_op_15 {xs : List Int32} {d i : Nat} {s s1 s2 : hq_S} {g n1 n2 : Nat} {o5 o6 : Option Value} {X : mm_Res × mm_Heap × Nat} {v : Int32} (hd : 1000 ≤ d) (hi : i + 6 ≤ xs.length) (hl : xs.length ≤ 3072) (hX : f_X11_far n1 (xs.getD (i + 1) 0) (xs.getD (i + 2) 0) s = some (v, s1)) (hM : f_X12_far n2 (xs.getD (i + 1) 0) (xs.getD (i + 2) 0) s1 = some (v, s2)) (H : lw_X xs d 23 (lw_r (Int32.ofNat (i + 6)) o5 o6) [] s2 g X) : lw_X xs d 40 (lw_r (Int32.ofNat i) o5 o6) [.int 15] s g X := by
  refine lw_p 6 837 [some (.retAddr 0), some (.ref 0), some (.ref 174), some (.ref 231), some (.int (Int32.ofNat i)), o5, o6] [.int (Int32.ofNat i + (1 : Int32)), .retAddr 0, .ref 0] (fun go h => rfl) ?_
  refine lw_scr (j := i + 1) rfl (Int32.ofNat_add i 1).symm (by omega) hl ?_
  refine lw_p 4 843 [some (.retAddr 0), some (.ref 0), some (.ref 174), some (.ref 231), some (.int (Int32.ofNat i)), o5, o6] [.int (Int32.ofNat i + (2 : Int32)), .retAddr 0, .int (xs.getD (i + 1) 0), .ref 0] (fun go h => rfl) ?_
  refine lw_scr (j := i + 2) rfl (Int32.ofNat_add i 2).symm (by omega) hl ?_
  refine lw_inv rfl rfl (by omega) rfl rfl (hq_rcv rfl rfl) (f_X11_far_run (by omega) hX) rfl ?_
  refine lw_p 5 853 [some (.retAddr 0), some (.ref 0), some (.ref 174), some (.ref 231), some (.int (Int32.ofNat i)), o5, o6] [.int (Int32.ofNat i + (1 : Int32)), .retAddr 0, .ref 174, .int v] (fun go h => rfl) ?_
  refine lw_scr (j := i + 1) rfl (Int32.ofNat_add i 1).symm (by omega) hl ?_
  refine lw_p 4 859 [some (.retAddr 0), some (.ref 0), some (.ref 174), some (.ref 231), some (.int (Int32.ofNat i)), o5, o6] [.int (Int32.ofNat i + (2 : Int32)), .retAddr 0, .int (xs.getD (i + 1) 0), .ref 174, .int v] (fun go h => rfl) ?_
  refine lw_scr (j := i + 2) rfl (Int32.ofNat_add i 2).symm (by omega) hl ?_
  refine lw_inv rfl rfl (by omega) rfl rfl (hq_rcv rfl rfl) (f_X12_far_run (by omega) hM) rfl ?_
  refine lw_icE rfl ?_
  refine lw_p 2 23 [some (.retAddr 0), some (.ref 0), some (.ref 174), some (.ref 231), some (.int (Int32.ofNat i + (6 : Int32))), o5, o6] [] (fun go h => rfl) ?_
  rw [show Int32.ofNat i + (6 : Int32) = Int32.ofNat (i + 6) from (Int32.ofNat_add i 6).symm]
  exact H
theorem lw_op_16 {xs : List Int32} {d i : Nat} {s s1 s2 : hq_S} {g n1 n2 : Nat} {o5 o6 : Option Value} {X : mm_Res × mm_Heap × Nat} {v : Int32} (hd : 1000 ≤ d) (hi : i + 6 ≤ xs.length) (hl : xs.length ≤ 3072) (hX : f_X11_way n1 (xs.getD (i + 1) 0) (xs.getD (i + 2) 0) (xs.getD (i + 3) 0) s = some (v, s1)) (hM : f_X12_way n2 (xs.getD (i + 1) 0) (xs.getD (i + 2) 0) (xs.getD (i + 3) 0) s1 = some (v, s2)) (H : lw_X xs d 23 (lw_r (Int32.ofNat (i + 6)) o5 o6) [] s2 g X) : lw_X xs d 40 (lw_r (Int32.ofNat i) o5 o6) [.int 16] s g X := by
  refine lw_p 6 874 [some (.retAddr 0), some (.ref 0), some (.ref 174), some (.ref 231), some (.int (Int32.ofNat i)), o5, o6] [.int (Int32.ofNat i + (1 : Int32)), .retAddr 0, .ref 0] (fun go h => rfl) ?_
  refine lw_scr (j := i + 1) rfl (Int32.ofNat_add i 1).symm (by omega) hl ?_
  refine lw_p 4 880 [some (.retAddr 0), some (.ref 0), some (.ref 174), some (.ref 231), some (.int (Int32.ofNat i)), o5, o6] [.int (Int32.ofNat i + (2 : Int32)), .retAddr 0, .int (xs.getD (i + 1) 0), .ref 0] (fun go h => rfl) ?_
  refine lw_scr (j := i + 2) rfl (Int32.ofNat_add i 2).symm (by omega) hl ?_
  refine lw_p 4 886 [some (.retAddr 0), some (.ref 0), some (.ref 174), some (.ref 231), some (.int (Int32.ofNat i)), o5, o6] [.int (Int32.ofNat i + (3 : Int32)), .retAddr 0, .int (xs.getD (i + 2) 0), .int (xs.getD (i + 1) 0), .ref 0] (fun go h => rfl) ?_
  refine lw_scr (j := i + 3) rfl (Int32.ofNat_add i 3).symm (by omega) hl ?_
  refine lw_inv rfl rfl (by omega) rfl rfl (hq_rcv rfl rfl) (f_X11_way_run (by omega) hX) rfl ?_
  refine lw_p 5 896 [some (.retAddr 0), some (.ref 0), some (.ref 174), some (.ref 231), some (.int (Int32.ofNat i)), o5, o6] [.int (Int32.ofNat i + (1 : Int32)), .retAddr 0, .ref 174, .int v] (fun go h => rfl) ?_
  refine lw_scr (j := i + 1) rfl (Int32.ofNat_add i 1).symm (by omega) hl ?_
  refine lw_p 4 902 [some (.retAddr 0), some (.ref 0), some (.ref 174), some (.ref 231), some (.int (Int32.ofNat i)), o5, o6] [.int (Int32.ofNat i + (2 : Int32)), .retAddr 0, .int (xs.getD (i + 1) 0), .ref 174, .int v] (fun go h => rfl) ?_
  refine lw_scr (j := i + 2) rfl (Int32.ofNat_add i 2).symm (by omega) hl ?_
  refine lw_p 4 908 [some (.retAddr 0), some (.ref 0), some (.ref 174), some (.ref 231), some (.int (Int32.ofNat i)), o5, o6] [.int (Int32.ofNat i + (3 : Int32)), .retAddr 0, .int (xs.getD (i + 2) 0), .int (xs.getD (i + 1) 0), .ref 174, .int v] (fun go h => rfl) ?_
  refine lw_scr (j := i + 3) rfl (Int32.ofNat_add i 3).symm (by omega) hl ?_
  refine lw_inv rfl rfl (by omega) rfl rfl (hq_rcv rfl rfl) (f_X12_way_run (by omega) hM) rfl ?_
  refine lw_icE rfl ?_
  refine lw_p 2 23 [some (.retAddr 0), some (.ref 0), some (.ref 174), some (.ref 231), some (.int (Int32.ofNat i + (6 : Int32))), o5, o6] [] (fun go h => rfl) ?_
  rw [show Int32.ofNat i + (6 : Int32) = Int32.ofNat (i + 6) from (Int32.ofNat_add i 6).symm]
  exact H
theorem lw_op_17 {xs : List Int32} {d i : Nat} {s s1 s2 : hq_S} {g n1 n2 : Nat} {o5 o6 : Option Value} {X : mm_Res × mm_Heap × Nat} {v : Int32} (hd : 1000 ≤ d) (hi : i + 6 ≤ xs.length) (hl : xs.length ≤ 3072) (hX : f_X11_reach n1 (xs.getD (i + 1) 0) s = some (v, s1)) (hM : f_X12_reach n2 (xs.getD (i + 1) 0) s1 = some (v, s2)) (H : lw_X xs d 23 (lw_r (Int32.ofNat (i + 6)) o5 o6) [] s2 g X) : lw_X xs d 40 (lw_r (Int32.ofNat i) o5 o6) [.int 17] s g X := by
  refine lw_p 6 923 [some (.retAddr 0), some (.ref 0), some (.ref 174), some (.ref 231), some (.int (Int32.ofNat i)), o5, o6] [.int (Int32.ofNat i + (1 : Int32)), .retAddr 0, .ref 0] (fun go h => rfl) ?_
  refine lw_scr (j := i + 1) rfl (Int32.ofNat_add i 1).symm (by omega) hl ?_
  refine lw_inv rfl rfl (by omega) rfl rfl (hq_rcv rfl rfl) (f_X11_reach_run (by omega) hX) rfl ?_
  refine lw_p 5 933 [some (.retAddr 0), some (.ref 0), some (.ref 174), some (.ref 231), some (.int (Int32.ofNat i)), o5, o6] [.int (Int32.ofNat i + (1 : Int32)), .retAddr 0, .ref 174, .int v] (fun go h => rfl) ?_
  refine lw_scr (j := i + 1) rfl (Int32.ofNat_add i 1).symm (by omega) hl ?_
  refine lw_inv rfl rfl (by omega) rfl rfl (hq_rcv rfl rfl) (f_X12_reach_run (by omega) hM) rfl ?_
  refine lw_icE rfl ?_
  refine lw_p 2 23 [some (.retAddr 0), some (.ref 0), some (.ref 174), some (.ref 231), some (.int (Int32.ofNat i + (6 : Int32))), o5, o6] [] (fun go h => rfl) ?_
  rw [show Int32.ofNat i + (6 : Int32) = Int32.ofNat (i + 6) from (Int32.ofNat_add i 6).symm]
  exact H
theorem lw_op_18 {xs : List Int32} {d i : Nat} {s s1 s2 : hq_S} {g n1 n2 : Nat} {o5 o6 : Option Value} {X : mm_Res × mm_Heap × Nat} {v : Int32} (hd : 1000 ≤ d) (hi : i + 6 ≤ xs.length) (hl : xs.length ≤ 3072) (hX : f_X11_parts n1 s = some (v, s1)) (hM : f_X12_parts n2 s1 = some (v, s2)) (H : lw_X xs d 23 (lw_r (Int32.ofNat (i + 6)) o5 o6) [] s2 g X) : lw_X xs d 40 (lw_r (Int32.ofNat i) o5 o6) [.int 18] s g X := by
  refine lw_p 2 943 [some (.retAddr 0), some (.ref 0), some (.ref 174), some (.ref 231), some (.int (Int32.ofNat i)), o5, o6] [.ref 0] (fun go h => rfl) ?_
  refine lw_inv rfl rfl (by omega) rfl rfl (hq_rcv rfl rfl) (f_X11_parts_run (by omega) hX) rfl ?_
  refine lw_p 1 947 [some (.retAddr 0), some (.ref 0), some (.ref 174), some (.ref 231), some (.int (Int32.ofNat i)), o5, o6] [.ref 174, .int v] (fun go h => rfl) ?_
  refine lw_inv rfl rfl (by omega) rfl rfl (hq_rcv rfl rfl) (f_X12_parts_run (by omega) hM) rfl ?_
  refine lw_icE rfl ?_
  refine lw_p 2 23 [some (.retAddr 0), some (.ref 0), some (.ref 174), some (.ref 231), some (.int (Int32.ofNat i + (6 : Int32))), o5, o6] [] (fun go h => rfl) ?_
  rw [show Int32.ofNat i + (6 : Int32) = Int32.ofNat (i + 6) from (Int32.ofNat_add i 6).symm]
  exact H
theorem lw_op_19 {xs : List Int32} {d i : Nat} {s s1 s2 : hq_S} {g n1 n2 : Nat} {o5 o6 : Option Value} {X : mm_Res × mm_Heap × Nat} {v : Int32} (hd : 1000 ≤ d) (hi : i + 6 ≤ xs.length) (hl : xs.length ≤ 3072) (hX : f_X11_chase n1 (xs.getD (i + 1) 0) (xs.getD (i + 2) 0) s = some (v, s1)) (hM : f_X12_chase n2 (xs.getD (i + 1) 0) (xs.getD (i + 2) 0) s1 = some (v, s2)) (H : lw_X xs d 23 (lw_r (Int32.ofNat (i + 6)) o5 o6) [] s2 g X) : lw_X xs d 40 (lw_r (Int32.ofNat i) o5 o6) [.int 19] s g X := by
  refine lw_p 6 961 [some (.retAddr 0), some (.ref 0), some (.ref 174), some (.ref 231), some (.int (Int32.ofNat i)), o5, o6] [.int (Int32.ofNat i + (1 : Int32)), .retAddr 0, .ref 0] (fun go h => rfl) ?_
  refine lw_scr (j := i + 1) rfl (Int32.ofNat_add i 1).symm (by omega) hl ?_
  refine lw_p 4 967 [some (.retAddr 0), some (.ref 0), some (.ref 174), some (.ref 231), some (.int (Int32.ofNat i)), o5, o6] [.int (Int32.ofNat i + (2 : Int32)), .retAddr 0, .int (xs.getD (i + 1) 0), .ref 0] (fun go h => rfl) ?_
  refine lw_scr (j := i + 2) rfl (Int32.ofNat_add i 2).symm (by omega) hl ?_
  refine lw_inv rfl rfl (by omega) rfl rfl (hq_rcv rfl rfl) (f_X11_chase_run (by omega) hX) rfl ?_
  refine lw_p 5 977 [some (.retAddr 0), some (.ref 0), some (.ref 174), some (.ref 231), some (.int (Int32.ofNat i)), o5, o6] [.int (Int32.ofNat i + (1 : Int32)), .retAddr 0, .ref 174, .int v] (fun go h => rfl) ?_
  refine lw_scr (j := i + 1) rfl (Int32.ofNat_add i 1).symm (by omega) hl ?_
  refine lw_p 4 983 [some (.retAddr 0), some (.ref 0), some (.ref 174), some (.ref 231), some (.int (Int32.ofNat i)), o5, o6] [.int (Int32.ofNat i + (2 : Int32)), .retAddr 0, .int (xs.getD (i + 1) 0), .ref 174, .int v] (fun go h => rfl) ?_
  refine lw_scr (j := i + 2) rfl (Int32.ofNat_add i 2).symm (by omega) hl ?_
  refine lw_inv rfl rfl (by omega) rfl rfl (hq_rcv rfl rfl) (f_X12_chase_run (by omega) hM) rfl ?_
  refine lw_icE rfl ?_
  refine lw_p 2 23 [some (.retAddr 0), some (.ref 0), some (.ref 174), some (.ref 231), some (.int (Int32.ofNat i + (6 : Int32))), o5, o6] [] (fun go h => rfl) ?_
  rw [show Int32.ofNat i + (6 : Int32) = Int32.ofNat (i + 6) from (Int32.ofNat_add i 6).symm]
  exact H
theorem lw_op_20 {xs : List Int32} {d i : Nat} {s s1 s2 : hq_S} {g n1 n2 : Nat} {o5 o6 : Option Value} {X : mm_Res × mm_Heap × Nat} {v : Int32} (hd : 1000 ≤ d) (hi : i + 6 ≤ xs.length) (hl : xs.length ≤ 3072) (hX : f_X11_firstGo n1 (xs.getD (i + 1) 0) (xs.getD (i + 2) 0) (xs.getD (i + 3) 0) s = some (v, s1)) (hM : f_X12_firstGo n2 (xs.getD (i + 1) 0) (xs.getD (i + 2) 0) (xs.getD (i + 3) 0) s1 = some (v, s2)) (H : lw_X xs d 23 (lw_r (Int32.ofNat (i + 6)) o5 o6) [] s2 g X) : lw_X xs d 40 (lw_r (Int32.ofNat i) o5 o6) [.int 20] s g X := by
  refine lw_p 6 998 [some (.retAddr 0), some (.ref 0), some (.ref 174), some (.ref 231), some (.int (Int32.ofNat i)), o5, o6] [.int (Int32.ofNat i + (1 : Int32)), .retAddr 0, .ref 0] (fun go h => rfl) ?_
  refine lw_scr (j := i + 1) rfl (Int32.ofNat_add i 1).symm (by omega) hl ?_
  refine lw_p 4 1004 [some (.retAddr 0), some (.ref 0), some (.ref 174), some (.ref 231), some (.int (Int32.ofNat i)), o5, o6] [.int (Int32.ofNat i + (2 : Int32)), .retAddr 0, .int (xs.getD (i + 1) 0), .ref 0] (fun go h => rfl) ?_
  refine lw_scr (j := i + 2) rfl (Int32.ofNat_add i 2).symm (by omega) hl ?_
  refine lw_p 4 1010 [some (.retAddr 0), some (.ref 0), some (.ref 174), some (.ref 231), some (.int (Int32.ofNat i)), o5, o6] [.int (Int32.ofNat i + (3 : Int32)), .retAddr 0, .int (xs.getD (i + 2) 0), .int (xs.getD (i + 1) 0), .ref 0] (fun go h => rfl) ?_
  refine lw_scr (j := i + 3) rfl (Int32.ofNat_add i 3).symm (by omega) hl ?_
  refine lw_inv rfl rfl (by omega) rfl rfl (hq_rcv rfl rfl) (f_X11_firstGo_run (by omega) hX) rfl ?_
  refine lw_p 5 1020 [some (.retAddr 0), some (.ref 0), some (.ref 174), some (.ref 231), some (.int (Int32.ofNat i)), o5, o6] [.int (Int32.ofNat i + (1 : Int32)), .retAddr 0, .ref 174, .int v] (fun go h => rfl) ?_
  refine lw_scr (j := i + 1) rfl (Int32.ofNat_add i 1).symm (by omega) hl ?_
  refine lw_p 4 1026 [some (.retAddr 0), some (.ref 0), some (.ref 174), some (.ref 231), some (.int (Int32.ofNat i)), o5, o6] [.int (Int32.ofNat i + (2 : Int32)), .retAddr 0, .int (xs.getD (i + 1) 0), .ref 174, .int v] (fun go h => rfl) ?_
  refine lw_scr (j := i + 2) rfl (Int32.ofNat_add i 2).symm (by omega) hl ?_
  refine lw_p 4 1032 [some (.retAddr 0), some (.ref 0), some (.ref 174), some (.ref 231), some (.int (Int32.ofNat i)), o5, o6] [.int (Int32.ofNat i + (3 : Int32)), .retAddr 0, .int (xs.getD (i + 2) 0), .int (xs.getD (i + 1) 0), .ref 174, .int v] (fun go h => rfl) ?_
  refine lw_scr (j := i + 3) rfl (Int32.ofNat_add i 3).symm (by omega) hl ?_
  refine lw_inv rfl rfl (by omega) rfl rfl (hq_rcv rfl rfl) (f_X12_firstGo_run (by omega) hM) rfl ?_
  refine lw_icE rfl ?_
  refine lw_p 2 23 [some (.retAddr 0), some (.ref 0), some (.ref 174), some (.ref 231), some (.int (Int32.ofNat i + (6 : Int32))), o5, o6] [] (fun go h => rfl) ?_
  rw [show Int32.ofNat i + (6 : Int32) = Int32.ofNat (i + 6) from (Int32.ofNat_add i 6).symm]
  exact H
theorem lw_op_21 {xs : List Int32} {d i : Nat} {s s1 s2 : hq_S} {g n1 n2 : Nat} {o5 o6 : Option Value} {X : mm_Res × mm_Heap × Nat} {v : Int32} (hd : 1000 ≤ d) (hi : i + 6 ≤ xs.length) (hl : xs.length ≤ 3072) (hX : f_X11_flee n1 (xs.getD (i + 1) 0) (xs.getD (i + 2) 0) s = some (v, s1)) (hM : f_X12_flee n2 (xs.getD (i + 1) 0) (xs.getD (i + 2) 0) s1 = some (v, s2)) (H : lw_X xs d 23 (lw_r (Int32.ofNat (i + 6)) o5 o6) [] s2 g X) : lw_X xs d 40 (lw_r (Int32.ofNat i) o5 o6) [.int 21] s g X := by
  refine lw_p 6 1047 [some (.retAddr 0), some (.ref 0), some (.ref 174), some (.ref 231), some (.int (Int32.ofNat i)), o5, o6] [.int (Int32.ofNat i + (1 : Int32)), .retAddr 0, .ref 0] (fun go h => rfl) ?_
  refine lw_scr (j := i + 1) rfl (Int32.ofNat_add i 1).symm (by omega) hl ?_
  refine lw_p 4 1053 [some (.retAddr 0), some (.ref 0), some (.ref 174), some (.ref 231), some (.int (Int32.ofNat i)), o5, o6] [.int (Int32.ofNat i + (2 : Int32)), .retAddr 0, .int (xs.getD (i + 1) 0), .ref 0] (fun go h => rfl) ?_
  refine lw_scr (j := i + 2) rfl (Int32.ofNat_add i 2).symm (by omega) hl ?_
  refine lw_inv rfl rfl (by omega) rfl rfl (hq_rcv rfl rfl) (f_X11_flee_run (by omega) hX) rfl ?_
  refine lw_p 5 1063 [some (.retAddr 0), some (.ref 0), some (.ref 174), some (.ref 231), some (.int (Int32.ofNat i)), o5, o6] [.int (Int32.ofNat i + (1 : Int32)), .retAddr 0, .ref 174, .int v] (fun go h => rfl) ?_
  refine lw_scr (j := i + 1) rfl (Int32.ofNat_add i 1).symm (by omega) hl ?_
  refine lw_p 4 1069 [some (.retAddr 0), some (.ref 0), some (.ref 174), some (.ref 231), some (.int (Int32.ofNat i)), o5, o6] [.int (Int32.ofNat i + (2 : Int32)), .retAddr 0, .int (xs.getD (i + 1) 0), .ref 174, .int v] (fun go h => rfl) ?_
  refine lw_scr (j := i + 2) rfl (Int32.ofNat_add i 2).symm (by omega) hl ?_
  refine lw_inv rfl rfl (by omega) rfl rfl (hq_rcv rfl rfl) (f_X12_flee_run (by omega) hM) rfl ?_
  refine lw_icE rfl ?_
  refine lw_p 2 23 [some (.retAddr 0), some (.ref 0), some (.ref 174), some (.ref 231), some (.int (Int32.ofNat i + (6 : Int32))), o5, o6] [] (fun go h => rfl) ?_
  rw [show Int32.ofNat i + (6 : Int32) = Int32.ofNat (i + 6) from (Int32.ofNat_add i 6).symm]
  exact H
theorem lw_op_22 {xs : List Int32} {d i : Nat} {s s1 s2 : hq_S} {g n1 n2 : Nat} {o5 o6 : Option Value} {X : mm_Res × mm_Heap × Nat} {v : Int32} (hd : 1000 ≤ d) (hi : i + 6 ≤ xs.length) (hl : xs.length ≤ 3072) (hX : f_X11_takers n1 s = some (v, s1)) (hM : f_X12_takers n2 s1 = some (v, s2)) (H : lw_X xs d 23 (lw_r (Int32.ofNat (i + 6)) o5 o6) [] s2 g X) : lw_X xs d 40 (lw_r (Int32.ofNat i) o5 o6) [.int 22] s g X := by
  refine lw_p 2 1079 [some (.retAddr 0), some (.ref 0), some (.ref 174), some (.ref 231), some (.int (Int32.ofNat i)), o5, o6] [.ref 0] (fun go h => rfl) ?_
  refine lw_inv rfl rfl (by omega) rfl rfl (hq_rcv rfl rfl) (f_X11_takers_run (by omega) hX) rfl ?_
  refine lw_p 1 1083 [some (.retAddr 0), some (.ref 0), some (.ref 174), some (.ref 231), some (.int (Int32.ofNat i)), o5, o6] [.ref 174, .int v] (fun go h => rfl) ?_
  refine lw_inv rfl rfl (by omega) rfl rfl (hq_rcv rfl rfl) (f_X12_takers_run (by omega) hM) rfl ?_
  refine lw_icE rfl ?_
  refine lw_p 2 23 [some (.retAddr 0), some (.ref 0), some (.ref 174), some (.ref 231), some (.int (Int32.ofNat i + (6 : Int32))), o5, o6] [] (fun go h => rfl) ?_
  rw [show Int32.ofNat i + (6 : Int32) = Int32.ofNat (i + 6) from (Int32.ofNat_add i 6).symm]
  exact H
theorem lw_op_23 {xs : List Int32} {d i : Nat} {s s1 s2 : hq_S} {g n1 n2 : Nat} {o5 o6 : Option Value} {X : mm_Res × mm_Heap × Nat} {v : Int32} (hd : 1000 ≤ d) (hi : i + 6 ≤ xs.length) (hl : xs.length ≤ 3072) (hX : f_X11_post n1 (xs.getD (i + 1) 0) s = some (v, s1)) (hM : f_X12_post n2 (xs.getD (i + 1) 0) s1 = some (v, s2)) (H : lw_X xs d 23 (lw_r (Int32.ofNat (i + 6)) o5 o6) [] s2 g X) : lw_X xs d 40 (lw_r (Int32.ofNat i) o5 o6) [.int 23] s g X := by
  refine lw_p 6 1097 [some (.retAddr 0), some (.ref 0), some (.ref 174), some (.ref 231), some (.int (Int32.ofNat i)), o5, o6] [.int (Int32.ofNat i + (1 : Int32)), .retAddr 0, .ref 0] (fun go h => rfl) ?_
  refine lw_scr (j := i + 1) rfl (Int32.ofNat_add i 1).symm (by omega) hl ?_
  refine lw_inv rfl rfl (by omega) rfl rfl (hq_rcv rfl rfl) (f_X11_post_run (by omega) hX) rfl ?_
  refine lw_p 5 1107 [some (.retAddr 0), some (.ref 0), some (.ref 174), some (.ref 231), some (.int (Int32.ofNat i)), o5, o6] [.int (Int32.ofNat i + (1 : Int32)), .retAddr 0, .ref 174, .int v] (fun go h => rfl) ?_
  refine lw_scr (j := i + 1) rfl (Int32.ofNat_add i 1).symm (by omega) hl ?_
  refine lw_inv rfl rfl (by omega) rfl rfl (hq_rcv rfl rfl) (f_X12_post_run (by omega) hM) rfl ?_
  refine lw_icE rfl ?_
  refine lw_p 2 23 [some (.retAddr 0), some (.ref 0), some (.ref 174), some (.ref 231), some (.int (Int32.ofNat i + (6 : Int32))), o5, o6] [] (fun go h => rfl) ?_
  rw [show Int32.ofNat i + (6 : Int32) = Int32.ofNat (i + 6) from (Int32.ofNat_add i 6).symm]
  exact H
theorem lw_op_24 {xs : List Int32} {d i : Nat} {s s1 s2 : hq_S} {g n1 n2 : Nat} {o5 o6 : Option Value} {X : mm_Res × mm_Heap × Nat} {v : Int32} (hd : 1000 ≤ d) (hi : i + 6 ≤ xs.length) (hl : xs.length ≤ 3072) (hX : f_X11_sweep n1 (xs.getD (i + 1) 0) s = some (v, s1)) (hM : f_X12_sweep n2 (xs.getD (i + 1) 0) s1 = some (v, s2)) (H : lw_X xs d 23 (lw_r (Int32.ofNat (i + 6)) o5 o6) [] s2 g X) : lw_X xs d 40 (lw_r (Int32.ofNat i) o5 o6) [.int 24] s g X := by
  refine lw_p 6 1122 [some (.retAddr 0), some (.ref 0), some (.ref 174), some (.ref 231), some (.int (Int32.ofNat i)), o5, o6] [.int (Int32.ofNat i + (1 : Int32)), .retAddr 0, .ref 0] (fun go h => rfl) ?_
  refine lw_scr (j := i + 1) rfl (Int32.ofNat_add i 1).symm (by omega) hl ?_
  refine lw_inv rfl rfl (by omega) rfl rfl (hq_rcv rfl rfl) (f_X11_sweep_run (by omega) hX) rfl ?_
  refine lw_p 5 1132 [some (.retAddr 0), some (.ref 0), some (.ref 174), some (.ref 231), some (.int (Int32.ofNat i)), o5, o6] [.int (Int32.ofNat i + (1 : Int32)), .retAddr 0, .ref 174, .int v] (fun go h => rfl) ?_
  refine lw_scr (j := i + 1) rfl (Int32.ofNat_add i 1).symm (by omega) hl ?_
  refine lw_inv rfl rfl (by omega) rfl rfl (hq_rcv rfl rfl) (f_X12_sweep_run (by omega) hM) rfl ?_
  refine lw_icE rfl ?_
  refine lw_p 2 23 [some (.retAddr 0), some (.ref 0), some (.ref 174), some (.ref 231), some (.int (Int32.ofNat i + (6 : Int32))), o5, o6] [] (fun go h => rfl) ?_
  rw [show Int32.ofNat i + (6 : Int32) = Int32.ofNat (i + 6) from (Int32.ofNat_add i 6).symm]
  exact H
theorem lw_op_25 {xs : List Int32} {d i : Nat} {s s1 s2 : hq_S} {g n1 n2 : Nat} {o5 o6 : Option Value} {X : mm_Res × mm_Heap × Nat} {v : Int32} (hd : 1000 ≤ d) (hi : i + 6 ≤ xs.length) (hl : xs.length ≤ 3072) (hX : f_X11_look n1 (xs.getD (i + 1) 0) s = some (v, s1)) (hM : f_X12_look n2 (xs.getD (i + 1) 0) s1 = some (v, s2)) (H : lw_X xs d 23 (lw_r (Int32.ofNat (i + 6)) o5 o6) [] s2 g X) : lw_X xs d 40 (lw_r (Int32.ofNat i) o5 o6) [.int 25] s g X := by
  refine lw_p 6 1147 [some (.retAddr 0), some (.ref 0), some (.ref 174), some (.ref 231), some (.int (Int32.ofNat i)), o5, o6] [.int (Int32.ofNat i + (1 : Int32)), .retAddr 0, .ref 0] (fun go h => rfl) ?_
  refine lw_scr (j := i + 1) rfl (Int32.ofNat_add i 1).symm (by omega) hl ?_
  refine lw_inv rfl rfl (by omega) rfl rfl (hq_rcv rfl rfl) (f_X11_look_run (by omega) hX) rfl ?_
  refine lw_p 5 1157 [some (.retAddr 0), some (.ref 0), some (.ref 174), some (.ref 231), some (.int (Int32.ofNat i)), o5, o6] [.int (Int32.ofNat i + (1 : Int32)), .retAddr 0, .ref 174, .int v] (fun go h => rfl) ?_
  refine lw_scr (j := i + 1) rfl (Int32.ofNat_add i 1).symm (by omega) hl ?_
  refine lw_inv rfl rfl (by omega) rfl rfl (hq_rcv rfl rfl) (f_X12_look_run (by omega) hM) rfl ?_
  refine lw_icE rfl ?_
  refine lw_p 2 23 [some (.retAddr 0), some (.ref 0), some (.ref 174), some (.ref 231), some (.int (Int32.ofNat i + (6 : Int32))), o5, o6] [] (fun go h => rfl) ?_
  rw [show Int32.ofNat i + (6 : Int32) = Int32.ofNat (i + 6) from (Int32.ofNat_add i 6).symm]
  exact H
theorem lw_op_26 {xs : List Int32} {d i : Nat} {s s1 s2 : hq_S} {g n1 n2 : Nat} {o5 o6 : Option Value} {X : mm_Res × mm_Heap × Nat} {v : Int32} (hd : 1000 ≤ d) (hi : i + 6 ≤ xs.length) (hl : xs.length ≤ 3072) (hX : f_X11_dark n1 s = some (v, s1)) (hM : f_X12_dark n2 s1 = some (v, s2)) (H : lw_X xs d 23 (lw_r (Int32.ofNat (i + 6)) o5 o6) [] s2 g X) : lw_X xs d 40 (lw_r (Int32.ofNat i) o5 o6) [.int 26] s g X := by
  refine lw_p 2 1167 [some (.retAddr 0), some (.ref 0), some (.ref 174), some (.ref 231), some (.int (Int32.ofNat i)), o5, o6] [.ref 0] (fun go h => rfl) ?_
  refine lw_inv rfl rfl (by omega) rfl rfl (hq_rcv rfl rfl) (f_X11_dark_run (by omega) hX) rfl ?_
  refine lw_p 1 1171 [some (.retAddr 0), some (.ref 0), some (.ref 174), some (.ref 231), some (.int (Int32.ofNat i)), o5, o6] [.ref 174, .int v] (fun go h => rfl) ?_
  refine lw_inv rfl rfl (by omega) rfl rfl (hq_rcv rfl rfl) (f_X12_dark_run (by omega) hM) rfl ?_
  refine lw_icE rfl ?_
  refine lw_p 2 23 [some (.retAddr 0), some (.ref 0), some (.ref 174), some (.ref 231), some (.int (Int32.ofNat i + (6 : Int32))), o5, o6] [] (fun go h => rfl) ?_
  rw [show Int32.ofNat i + (6 : Int32) = Int32.ofNat (i + 6) from (Int32.ofNat_add i 6).symm]
  exact H
theorem lw_op_27 {xs : List Int32} {d i : Nat} {s s1 s2 : hq_S} {g n1 n2 : Nat} {o5 o6 : Option Value} {X : mm_Res × mm_Heap × Nat} {v : Int32} (hd : 1000 ≤ d) (hi : i + 6 ≤ xs.length) (hl : xs.length ≤ 3072) (hX : f_X11_could n1 (xs.getD (i + 1) 0) (xs.getD (i + 2) 0) s = some (v, s1)) (hM : f_X12_could n2 (xs.getD (i + 1) 0) (xs.getD (i + 2) 0) s1 = some (v, s2)) (H : lw_X xs d 23 (lw_r (Int32.ofNat (i + 6)) o5 o6) [] s2 g X) : lw_X xs d 40 (lw_r (Int32.ofNat i) o5 o6) [.int 27] s g X := by
  refine lw_p 6 1185 [some (.retAddr 0), some (.ref 0), some (.ref 174), some (.ref 231), some (.int (Int32.ofNat i)), o5, o6] [.int (Int32.ofNat i + (1 : Int32)), .retAddr 0, .ref 0] (fun go h => rfl) ?_
  refine lw_scr (j := i + 1) rfl (Int32.ofNat_add i 1).symm (by omega) hl ?_
  refine lw_p 4 1191 [some (.retAddr 0), some (.ref 0), some (.ref 174), some (.ref 231), some (.int (Int32.ofNat i)), o5, o6] [.int (Int32.ofNat i + (2 : Int32)), .retAddr 0, .int (xs.getD (i + 1) 0), .ref 0] (fun go h => rfl) ?_
  refine lw_scr (j := i + 2) rfl (Int32.ofNat_add i 2).symm (by omega) hl ?_
  refine lw_inv rfl rfl (by omega) rfl rfl (hq_rcv rfl rfl) (f_X11_could_run (by omega) hX) rfl ?_
  refine lw_p 5 1201 [some (.retAddr 0), some (.ref 0), some (.ref 174), some (.ref 231), some (.int (Int32.ofNat i)), o5, o6] [.int (Int32.ofNat i + (1 : Int32)), .retAddr 0, .ref 174, .int v] (fun go h => rfl) ?_
  refine lw_scr (j := i + 1) rfl (Int32.ofNat_add i 1).symm (by omega) hl ?_
  refine lw_p 4 1207 [some (.retAddr 0), some (.ref 0), some (.ref 174), some (.ref 231), some (.int (Int32.ofNat i)), o5, o6] [.int (Int32.ofNat i + (2 : Int32)), .retAddr 0, .int (xs.getD (i + 1) 0), .ref 174, .int v] (fun go h => rfl) ?_
  refine lw_scr (j := i + 2) rfl (Int32.ofNat_add i 2).symm (by omega) hl ?_
  refine lw_inv rfl rfl (by omega) rfl rfl (hq_rcv rfl rfl) (f_X12_could_run (by omega) hM) rfl ?_
  refine lw_icE rfl ?_
  refine lw_p 2 23 [some (.retAddr 0), some (.ref 0), some (.ref 174), some (.ref 231), some (.int (Int32.ofNat i + (6 : Int32))), o5, o6] [] (fun go h => rfl) ?_
  rw [show Int32.ofNat i + (6 : Int32) = Int32.ofNat (i + 6) from (Int32.ofNat_add i 6).symm]
  exact H
theorem lw_op_28 {xs : List Int32} {d i : Nat} {s s1 s2 : hq_S} {g n1 n2 : Nat} {o5 o6 : Option Value} {X : mm_Res × mm_Heap × Nat} {v : Int32} (hd : 1000 ≤ d) (hi : i + 6 ≤ xs.length) (hl : xs.length ≤ 3072) (hX : f_X11_unseen n1 (xs.getD (i + 1) 0) s = some (v, s1)) (hM : f_X12_unseen n2 (xs.getD (i + 1) 0) s1 = some (v, s2)) (H : lw_X xs d 23 (lw_r (Int32.ofNat (i + 6)) o5 o6) [] s2 g X) : lw_X xs d 40 (lw_r (Int32.ofNat i) o5 o6) [.int 28] s g X := by
  refine lw_p 6 1222 [some (.retAddr 0), some (.ref 0), some (.ref 174), some (.ref 231), some (.int (Int32.ofNat i)), o5, o6] [.int (Int32.ofNat i + (1 : Int32)), .retAddr 0, .ref 0] (fun go h => rfl) ?_
  refine lw_scr (j := i + 1) rfl (Int32.ofNat_add i 1).symm (by omega) hl ?_
  refine lw_inv rfl rfl (by omega) rfl rfl (hq_rcv rfl rfl) (f_X11_unseen_run (by omega) hX) rfl ?_
  refine lw_p 5 1232 [some (.retAddr 0), some (.ref 0), some (.ref 174), some (.ref 231), some (.int (Int32.ofNat i)), o5, o6] [.int (Int32.ofNat i + (1 : Int32)), .retAddr 0, .ref 174, .int v] (fun go h => rfl) ?_
  refine lw_scr (j := i + 1) rfl (Int32.ofNat_add i 1).symm (by omega) hl ?_
  refine lw_inv rfl rfl (by omega) rfl rfl (hq_rcv rfl rfl) (f_X12_unseen_run (by omega) hM) rfl ?_
  refine lw_icE rfl ?_
  refine lw_p 2 23 [some (.retAddr 0), some (.ref 0), some (.ref 174), some (.ref 231), some (.int (Int32.ofNat i + (6 : Int32))), o5, o6] [] (fun go h => rfl) ?_
  rw [show Int32.ofNat i + (6 : Int32) = Int32.ofNat (i + 6) from (Int32.ofNat_add i 6).symm]
  exact H
theorem lw_op_29 {xs : List Int32} {d i : Nat} {s s1 s2 : hq_S} {g n1 n2 : Nat} {o5 o6 : Option Value} {X : mm_Res × mm_Heap × Nat} {v : Int32} (hd : 1000 ≤ d) (hi : i + 6 ≤ xs.length) (hl : xs.length ≤ 3072) (hX : f_X11_round n1 (xs.getD (i + 1) 0) s = some (v, s1)) (hM : f_X12_round n2 (xs.getD (i + 1) 0) s1 = some (v, s2)) (H : lw_X xs d 23 (lw_r (Int32.ofNat (i + 6)) o5 o6) [] s2 g X) : lw_X xs d 40 (lw_r (Int32.ofNat i) o5 o6) [.int 29] s g X := by
  refine lw_p 6 1247 [some (.retAddr 0), some (.ref 0), some (.ref 174), some (.ref 231), some (.int (Int32.ofNat i)), o5, o6] [.int (Int32.ofNat i + (1 : Int32)), .retAddr 0, .ref 0] (fun go h => rfl) ?_
  refine lw_scr (j := i + 1) rfl (Int32.ofNat_add i 1).symm (by omega) hl ?_
  refine lw_inv rfl rfl (by omega) rfl rfl (hq_rcv rfl rfl) (f_X11_round_run (by omega) hX) rfl ?_
  refine lw_p 5 1257 [some (.retAddr 0), some (.ref 0), some (.ref 174), some (.ref 231), some (.int (Int32.ofNat i)), o5, o6] [.int (Int32.ofNat i + (1 : Int32)), .retAddr 0, .ref 174, .int v] (fun go h => rfl) ?_
  refine lw_scr (j := i + 1) rfl (Int32.ofNat_add i 1).symm (by omega) hl ?_
  refine lw_inv rfl rfl (by omega) rfl rfl (hq_rcv rfl rfl) (f_X12_round_run (by omega) hM) rfl ?_
  refine lw_icE rfl ?_
  refine lw_p 2 23 [some (.retAddr 0), some (.ref 0), some (.ref 174), some (.ref 231), some (.int (Int32.ofNat i + (6 : Int32))), o5, o6] [] (fun go h => rfl) ?_
  rw [show Int32.ofNat i + (6 : Int32) = Int32.ofNat (i + 6) from (Int32.ofNat_add i 6).symm]
  exact H
theorem lw_op_30 {xs : List Int32} {d i : Nat} {s s1 s2 : hq_S} {g n1 n2 : Nat} {o5 o6 : Option Value} {X : mm_Res × mm_Heap × Nat} {v : Int32} (hd : 1000 ≤ d) (hi : i + 6 ≤ xs.length) (hl : xs.length ≤ 3072) (hX : f_X11_wall n1 (xs.getD (i + 1) 0) (xs.getD (i + 2) 0) s = some (v, s1)) (hM : f_X12_wall n2 (xs.getD (i + 1) 0) (xs.getD (i + 2) 0) s1 = some (v, s2)) (H : lw_X xs d 23 (lw_r (Int32.ofNat (i + 6)) o5 o6) [] s2 g X) : lw_X xs d 40 (lw_r (Int32.ofNat i) o5 o6) [.int 30] s g X := by
  refine lw_p 6 1272 [some (.retAddr 0), some (.ref 0), some (.ref 174), some (.ref 231), some (.int (Int32.ofNat i)), o5, o6] [.int (Int32.ofNat i + (1 : Int32)), .retAddr 0, .ref 0] (fun go h => rfl) ?_
  refine lw_scr (j := i + 1) rfl (Int32.ofNat_add i 1).symm (by omega) hl ?_
  refine lw_p 4 1278 [some (.retAddr 0), some (.ref 0), some (.ref 174), some (.ref 231), some (.int (Int32.ofNat i)), o5, o6] [.int (Int32.ofNat i + (2 : Int32)), .retAddr 0, .int (xs.getD (i + 1) 0), .ref 0] (fun go h => rfl) ?_
  refine lw_scr (j := i + 2) rfl (Int32.ofNat_add i 2).symm (by omega) hl ?_
  refine lw_inv rfl rfl (by omega) rfl rfl (hq_rcv rfl rfl) (f_X11_wall_run (by omega) hX) rfl ?_
  refine lw_p 5 1288 [some (.retAddr 0), some (.ref 0), some (.ref 174), some (.ref 231), some (.int (Int32.ofNat i)), o5, o6] [.int (Int32.ofNat i + (1 : Int32)), .retAddr 0, .ref 174, .int v] (fun go h => rfl) ?_
  refine lw_scr (j := i + 1) rfl (Int32.ofNat_add i 1).symm (by omega) hl ?_
  refine lw_p 4 1294 [some (.retAddr 0), some (.ref 0), some (.ref 174), some (.ref 231), some (.int (Int32.ofNat i)), o5, o6] [.int (Int32.ofNat i + (2 : Int32)), .retAddr 0, .int (xs.getD (i + 1) 0), .ref 174, .int v] (fun go h => rfl) ?_
  refine lw_scr (j := i + 2) rfl (Int32.ofNat_add i 2).symm (by omega) hl ?_
  refine lw_inv rfl rfl (by omega) rfl rfl (hq_rcv rfl rfl) (f_X12_wall_run (by omega) hM) rfl ?_
  refine lw_icE rfl ?_
  refine lw_p 2 23 [some (.retAddr 0), some (.ref 0), some (.ref 174), some (.ref 231), some (.int (Int32.ofNat i + (6 : Int32))), o5, o6] [] (fun go h => rfl) ?_
  rw [show Int32.ofNat i + (6 : Int32) = Int32.ofNat (i + 6) from (Int32.ofNat_add i 6).symm]
  exact H
theorem lw_op_31 {xs : List Int32} {d i : Nat} {s s1 s2 : hq_S} {g n1 n2 : Nat} {o5 o6 : Option Value} {X : mm_Res × mm_Heap × Nat} {v : Int64} (hd : 1000 ≤ d) (hi : i + 6 ≤ xs.length) (hl : xs.length ≤ 3072) (hX : f_X11_drunk n1 (xs.getD (i + 1) 0) (xs.getD (i + 2) 0) (xs.getD (i + 3) 0) (xs.getD (i + 4) 0) s = some (v, s1)) (hM : f_X12_drunk n2 (xs.getD (i + 1) 0) (xs.getD (i + 2) 0) (xs.getD (i + 3) 0) (xs.getD (i + 4) 0) s1 = some (v, s2)) (H : lw_X xs d 23 (lw_r (Int32.ofNat (i + 6)) o5 o6) [] s2 g X) : lw_X xs d 40 (lw_r (Int32.ofNat i) o5 o6) [.int 31] s g X := by
  refine lw_p 6 1309 [some (.retAddr 0), some (.ref 0), some (.ref 174), some (.ref 231), some (.int (Int32.ofNat i)), o5, o6] [.int (Int32.ofNat i + (1 : Int32)), .retAddr 0, .ref 0] (fun go h => rfl) ?_
  refine lw_scr (j := i + 1) rfl (Int32.ofNat_add i 1).symm (by omega) hl ?_
  refine lw_p 4 1315 [some (.retAddr 0), some (.ref 0), some (.ref 174), some (.ref 231), some (.int (Int32.ofNat i)), o5, o6] [.int (Int32.ofNat i + (2 : Int32)), .retAddr 0, .int (xs.getD (i + 1) 0), .ref 0] (fun go h => rfl) ?_
  refine lw_scr (j := i + 2) rfl (Int32.ofNat_add i 2).symm (by omega) hl ?_
  refine lw_p 4 1321 [some (.retAddr 0), some (.ref 0), some (.ref 174), some (.ref 231), some (.int (Int32.ofNat i)), o5, o6] [.int (Int32.ofNat i + (3 : Int32)), .retAddr 0, .int (xs.getD (i + 2) 0), .int (xs.getD (i + 1) 0), .ref 0] (fun go h => rfl) ?_
  refine lw_scr (j := i + 3) rfl (Int32.ofNat_add i 3).symm (by omega) hl ?_
  refine lw_p 4 1327 [some (.retAddr 0), some (.ref 0), some (.ref 174), some (.ref 231), some (.int (Int32.ofNat i)), o5, o6] [.int (Int32.ofNat i + (4 : Int32)), .retAddr 0, .int (xs.getD (i + 3) 0), .int (xs.getD (i + 2) 0), .int (xs.getD (i + 1) 0), .ref 0] (fun go h => rfl) ?_
  refine lw_scr (j := i + 4) rfl (Int32.ofNat_add i 4).symm (by omega) hl ?_
  refine lw_inv rfl rfl (by omega) rfl rfl (hq_rcv rfl rfl) (f_X11_drunk_run (by omega) hX) rfl ?_
  refine lw_p 5 1337 [some (.retAddr 0), some (.ref 0), some (.ref 174), some (.ref 231), some (.int (Int32.ofNat i)), o5, o6] [.int (Int32.ofNat i + (1 : Int32)), .retAddr 0, .ref 174, .long v] (fun go h => rfl) ?_
  refine lw_scr (j := i + 1) rfl (Int32.ofNat_add i 1).symm (by omega) hl ?_
  refine lw_p 4 1343 [some (.retAddr 0), some (.ref 0), some (.ref 174), some (.ref 231), some (.int (Int32.ofNat i)), o5, o6] [.int (Int32.ofNat i + (2 : Int32)), .retAddr 0, .int (xs.getD (i + 1) 0), .ref 174, .long v] (fun go h => rfl) ?_
  refine lw_scr (j := i + 2) rfl (Int32.ofNat_add i 2).symm (by omega) hl ?_
  refine lw_p 4 1349 [some (.retAddr 0), some (.ref 0), some (.ref 174), some (.ref 231), some (.int (Int32.ofNat i)), o5, o6] [.int (Int32.ofNat i + (3 : Int32)), .retAddr 0, .int (xs.getD (i + 2) 0), .int (xs.getD (i + 1) 0), .ref 174, .long v] (fun go h => rfl) ?_
  refine lw_scr (j := i + 3) rfl (Int32.ofNat_add i 3).symm (by omega) hl ?_
  refine lw_p 4 1355 [some (.retAddr 0), some (.ref 0), some (.ref 174), some (.ref 231), some (.int (Int32.ofNat i)), o5, o6] [.int (Int32.ofNat i + (4 : Int32)), .retAddr 0, .int (xs.getD (i + 3) 0), .int (xs.getD (i + 2) 0), .int (xs.getD (i + 1) 0), .ref 174, .long v] (fun go h => rfl) ?_
  refine lw_scr (j := i + 4) rfl (Int32.ofNat_add i 4).symm (by omega) hl ?_
  refine lw_inv rfl rfl (by omega) rfl rfl (hq_rcv rfl rfl) (f_X12_drunk_run (by omega) hM) rfl ?_
  refine lw_p 1 1360 [some (.retAddr 0), some (.ref 0), some (.ref 174), some (.ref 231), some (.int (Int32.ofNat i)), o5, o6] [.int (lg_cmp v v)] (fun go h => rfl) ?_
  refine lw_izT rfl (by rw [lw_cmp]; rfl) ?_
  refine lw_p 2 23 [some (.retAddr 0), some (.ref 0), some (.ref 174), some (.ref 231), some (.int (Int32.ofNat i + (6 : Int32))), o5, o6] [] (fun go h => rfl) ?_
  rw [show Int32.ofNat i + (6 : Int32) = Int32.ofNat (i + 6) from (Int32.ofNat_add i 6).symm]
  exact H
theorem lw_op_32 {xs : List Int32} {d i : Nat} {s s1 s2 : hq_S} {g n1 n2 : Nat} {o5 o6 : Option Value} {X : mm_Res × mm_Heap × Nat} {v : Int32} (hd : 1000 ≤ d) (hi : i + 6 ≤ xs.length) (hl : xs.length ≤ 3072) (hX : f_X11_match n1 (xs.getD (i + 1) 0) s = some (v, s1)) (hM : f_X12_match n2 (xs.getD (i + 1) 0) s1 = some (v, s2)) (H : lw_X xs d 23 (lw_r (Int32.ofNat (i + 6)) o5 o6) [] s2 g X) : lw_X xs d 40 (lw_r (Int32.ofNat i) o5 o6) [.int 32] s g X := by
  refine lw_p 6 1371 [some (.retAddr 0), some (.ref 0), some (.ref 174), some (.ref 231), some (.int (Int32.ofNat i)), o5, o6] [.int (Int32.ofNat i + (1 : Int32)), .retAddr 0, .ref 0] (fun go h => rfl) ?_
  refine lw_scr (j := i + 1) rfl (Int32.ofNat_add i 1).symm (by omega) hl ?_
  refine lw_inv rfl rfl (by omega) rfl rfl (hq_rcv rfl rfl) (f_X11_match_run (by omega) hX) rfl ?_
  refine lw_p 5 1381 [some (.retAddr 0), some (.ref 0), some (.ref 174), some (.ref 231), some (.int (Int32.ofNat i)), o5, o6] [.int (Int32.ofNat i + (1 : Int32)), .retAddr 0, .ref 174, .int v] (fun go h => rfl) ?_
  refine lw_scr (j := i + 1) rfl (Int32.ofNat_add i 1).symm (by omega) hl ?_
  refine lw_inv rfl rfl (by omega) rfl rfl (hq_rcv rfl rfl) (f_X12_match_run (by omega) hM) rfl ?_
  refine lw_icE rfl ?_
  refine lw_p 2 23 [some (.retAddr 0), some (.ref 0), some (.ref 174), some (.ref 231), some (.int (Int32.ofNat i + (6 : Int32))), o5, o6] [] (fun go h => rfl) ?_
  rw [show Int32.ofNat i + (6 : Int32) = Int32.ofNat (i + 6) from (Int32.ofNat_add i 6).symm]
  exact H
theorem lw_op_33 {xs : List Int32} {d i : Nat} {s s1 s2 : hq_S} {g n1 n2 : Nat} {o5 o6 : Option Value} {X : mm_Res × mm_Heap × Nat} {v : Int32} (hd : 1000 ≤ d) (hi : i + 6 ≤ xs.length) (hl : xs.length ≤ 3072) (hX : f_X11_rests n1 (xs.getD (i + 1) 0) (xs.getD (i + 2) 0) s = some (v, s1)) (hM : f_X12_rests n2 (xs.getD (i + 1) 0) (xs.getD (i + 2) 0) s1 = some (v, s2)) (H : lw_X xs d 23 (lw_r (Int32.ofNat (i + 6)) o5 o6) [] s2 g X) : lw_X xs d 40 (lw_r (Int32.ofNat i) o5 o6) [.int 33] s g X := by
  refine lw_p 6 1396 [some (.retAddr 0), some (.ref 0), some (.ref 174), some (.ref 231), some (.int (Int32.ofNat i)), o5, o6] [.int (Int32.ofNat i + (1 : Int32)), .retAddr 0, .ref 0] (fun go h => rfl) ?_
  refine lw_scr (j := i + 1) rfl (Int32.ofNat_add i 1).symm (by omega) hl ?_
  refine lw_p 4 1402 [some (.retAddr 0), some (.ref 0), some (.ref 174), some (.ref 231), some (.int (Int32.ofNat i)), o5, o6] [.int (Int32.ofNat i + (2 : Int32)), .retAddr 0, .int (xs.getD (i + 1) 0), .ref 0] (fun go h => rfl) ?_
  refine lw_scr (j := i + 2) rfl (Int32.ofNat_add i 2).symm (by omega) hl ?_
  refine lw_inv rfl rfl (by omega) rfl rfl (hq_rcv rfl rfl) (f_X11_rests_run (by omega) hX) rfl ?_
  refine lw_p 5 1412 [some (.retAddr 0), some (.ref 0), some (.ref 174), some (.ref 231), some (.int (Int32.ofNat i)), o5, o6] [.int (Int32.ofNat i + (1 : Int32)), .retAddr 0, .ref 174, .int v] (fun go h => rfl) ?_
  refine lw_scr (j := i + 1) rfl (Int32.ofNat_add i 1).symm (by omega) hl ?_
  refine lw_p 4 1418 [some (.retAddr 0), some (.ref 0), some (.ref 174), some (.ref 231), some (.int (Int32.ofNat i)), o5, o6] [.int (Int32.ofNat i + (2 : Int32)), .retAddr 0, .int (xs.getD (i + 1) 0), .ref 174, .int v] (fun go h => rfl) ?_
  refine lw_scr (j := i + 2) rfl (Int32.ofNat_add i 2).symm (by omega) hl ?_
  refine lw_inv rfl rfl (by omega) rfl rfl (hq_rcv rfl rfl) (f_X12_rests_run (by omega) hM) rfl ?_
  refine lw_icE rfl ?_
  refine lw_p 2 23 [some (.retAddr 0), some (.ref 0), some (.ref 174), some (.ref 231), some (.int (Int32.ofNat i + (6 : Int32))), o5, o6] [] (fun go h => rfl) ?_
  rw [show Int32.ofNat i + (6 : Int32) = Int32.ofNat (i + 6) from (Int32.ofNat_add i 6).symm]
  exact H
theorem lw_op_34 {xs : List Int32} {d i : Nat} {s s1 s2 : hq_S} {g n1 n2 : Nat} {o5 o6 : Option Value} {X : mm_Res × mm_Heap × Nat} {v : Int32} (hd : 1000 ≤ d) (hi : i + 6 ≤ xs.length) (hl : xs.length ≤ 3072) (hX : f_X11_rest n1 (xs.getD (i + 1) 0) (xs.getD (i + 2) 0) (xs.getD (i + 3) 0) s = some (v, s1)) (hM : f_X12_rest n2 (xs.getD (i + 1) 0) (xs.getD (i + 2) 0) (xs.getD (i + 3) 0) s1 = some (v, s2)) (H : lw_X xs d 23 (lw_r (Int32.ofNat (i + 6)) o5 o6) [] s2 g X) : lw_X xs d 40 (lw_r (Int32.ofNat i) o5 o6) [.int 34] s g X := by
  refine lw_p 6 1433 [some (.retAddr 0), some (.ref 0), some (.ref 174), some (.ref 231), some (.int (Int32.ofNat i)), o5, o6] [.int (Int32.ofNat i + (1 : Int32)), .retAddr 0, .ref 0] (fun go h => rfl) ?_
  refine lw_scr (j := i + 1) rfl (Int32.ofNat_add i 1).symm (by omega) hl ?_
  refine lw_p 4 1439 [some (.retAddr 0), some (.ref 0), some (.ref 174), some (.ref 231), some (.int (Int32.ofNat i)), o5, o6] [.int (Int32.ofNat i + (2 : Int32)), .retAddr 0, .int (xs.getD (i + 1) 0), .ref 0] (fun go h => rfl) ?_
  refine lw_scr (j := i + 2) rfl (Int32.ofNat_add i 2).symm (by omega) hl ?_
  refine lw_p 4 1445 [some (.retAddr 0), some (.ref 0), some (.ref 174), some (.ref 231), some (.int (Int32.ofNat i)), o5, o6] [.int (Int32.ofNat i + (3 : Int32)), .retAddr 0, .int (xs.getD (i + 2) 0), .int (xs.getD (i + 1) 0), .ref 0] (fun go h => rfl) ?_
  refine lw_scr (j := i + 3) rfl (Int32.ofNat_add i 3).symm (by omega) hl ?_
  refine lw_inv rfl rfl (by omega) rfl rfl (hq_rcv rfl rfl) (f_X11_rest_run (by omega) hX) rfl ?_
  refine lw_p 5 1455 [some (.retAddr 0), some (.ref 0), some (.ref 174), some (.ref 231), some (.int (Int32.ofNat i)), o5, o6] [.int (Int32.ofNat i + (1 : Int32)), .retAddr 0, .ref 174, .int v] (fun go h => rfl) ?_
  refine lw_scr (j := i + 1) rfl (Int32.ofNat_add i 1).symm (by omega) hl ?_
  refine lw_p 4 1461 [some (.retAddr 0), some (.ref 0), some (.ref 174), some (.ref 231), some (.int (Int32.ofNat i)), o5, o6] [.int (Int32.ofNat i + (2 : Int32)), .retAddr 0, .int (xs.getD (i + 1) 0), .ref 174, .int v] (fun go h => rfl) ?_
  refine lw_scr (j := i + 2) rfl (Int32.ofNat_add i 2).symm (by omega) hl ?_
  refine lw_p 4 1467 [some (.retAddr 0), some (.ref 0), some (.ref 174), some (.ref 231), some (.int (Int32.ofNat i)), o5, o6] [.int (Int32.ofNat i + (3 : Int32)), .retAddr 0, .int (xs.getD (i + 2) 0), .int (xs.getD (i + 1) 0), .ref 174, .int v] (fun go h => rfl) ?_
  refine lw_scr (j := i + 3) rfl (Int32.ofNat_add i 3).symm (by omega) hl ?_
  refine lw_inv rfl rfl (by omega) rfl rfl (hq_rcv rfl rfl) (f_X12_rest_run (by omega) hM) rfl ?_
  refine lw_icE rfl ?_
  refine lw_p 2 23 [some (.retAddr 0), some (.ref 0), some (.ref 174), some (.ref 231), some (.int (Int32.ofNat i + (6 : Int32))), o5, o6] [] (fun go h => rfl) ?_
  rw [show Int32.ofNat i + (6 : Int32) = Int32.ofNat (i + 6) from (Int32.ofNat_add i 6).symm]
  exact H
theorem lw_op_35 {xs : List Int32} {d i : Nat} {s s1 s2 : hq_S} {g n1 n2 : Nat} {o5 o6 : Option Value} {X : mm_Res × mm_Heap × Nat} {v : Int64} (hd : 1000 ≤ d) (hi : i + 6 ≤ xs.length) (hl : xs.length ≤ 3072) (hX : f_X11_holds n1 (xs.getD (i + 1) 0) (xs.getD (i + 2) 0) s = some (v, s1)) (hM : f_X12_holds n2 (xs.getD (i + 1) 0) (xs.getD (i + 2) 0) s1 = some (v, s2)) (H : lw_X xs d 23 (lw_r (Int32.ofNat (i + 6)) o5 o6) [] s2 g X) : lw_X xs d 40 (lw_r (Int32.ofNat i) o5 o6) [.int 35] s g X := by
  refine lw_p 6 1482 [some (.retAddr 0), some (.ref 0), some (.ref 174), some (.ref 231), some (.int (Int32.ofNat i)), o5, o6] [.int (Int32.ofNat i + (1 : Int32)), .retAddr 0, .ref 0] (fun go h => rfl) ?_
  refine lw_scr (j := i + 1) rfl (Int32.ofNat_add i 1).symm (by omega) hl ?_
  refine lw_p 4 1488 [some (.retAddr 0), some (.ref 0), some (.ref 174), some (.ref 231), some (.int (Int32.ofNat i)), o5, o6] [.int (Int32.ofNat i + (2 : Int32)), .retAddr 0, .int (xs.getD (i + 1) 0), .ref 0] (fun go h => rfl) ?_
  refine lw_scr (j := i + 2) rfl (Int32.ofNat_add i 2).symm (by omega) hl ?_
  refine lw_inv rfl rfl (by omega) rfl rfl (hq_rcv rfl rfl) (f_X11_holds_run (by omega) hX) rfl ?_
  refine lw_p 5 1498 [some (.retAddr 0), some (.ref 0), some (.ref 174), some (.ref 231), some (.int (Int32.ofNat i)), o5, o6] [.int (Int32.ofNat i + (1 : Int32)), .retAddr 0, .ref 174, .long v] (fun go h => rfl) ?_
  refine lw_scr (j := i + 1) rfl (Int32.ofNat_add i 1).symm (by omega) hl ?_
  refine lw_p 4 1504 [some (.retAddr 0), some (.ref 0), some (.ref 174), some (.ref 231), some (.int (Int32.ofNat i)), o5, o6] [.int (Int32.ofNat i + (2 : Int32)), .retAddr 0, .int (xs.getD (i + 1) 0), .ref 174, .long v] (fun go h => rfl) ?_
  refine lw_scr (j := i + 2) rfl (Int32.ofNat_add i 2).symm (by omega) hl ?_
  refine lw_inv rfl rfl (by omega) rfl rfl (hq_rcv rfl rfl) (f_X12_holds_run (by omega) hM) rfl ?_
  refine lw_p 1 1509 [some (.retAddr 0), some (.ref 0), some (.ref 174), some (.ref 231), some (.int (Int32.ofNat i)), o5, o6] [.int (lg_cmp v v)] (fun go h => rfl) ?_
  refine lw_izT rfl (by rw [lw_cmp]; rfl) ?_
  refine lw_p 2 23 [some (.retAddr 0), some (.ref 0), some (.ref 174), some (.ref 231), some (.int (Int32.ofNat i + (6 : Int32))), o5, o6] [] (fun go h => rfl) ?_
  rw [show Int32.ofNat i + (6 : Int32) = Int32.ofNat (i + 6) from (Int32.ofNat_add i 6).symm]
  exact H
theorem lw_op_36 {xs : List Int32} {d i : Nat} {s s1 s2 : hq_S} {g n1 n2 : Nat} {o5 o6 : Option Value} {X : mm_Res × mm_Heap × Nat} {v : Int32} (hd : 1000 ≤ d) (hi : i + 6 ≤ xs.length) (hl : xs.length ≤ 3072) {b : Int32} (hb : b = if xs.getD (i + 4) 0 = 0 then 0 else 1) (hX : f_X11_see n1 (xs.getD (i + 1) 0) (xs.getD (i + 2) 0) (xs.getD (i + 3) 0) b s = some (v, s1)) (hM : f_X12_see n2 (xs.getD (i + 1) 0) (xs.getD (i + 2) 0) (xs.getD (i + 3) 0) b s1 = some (v, s2)) (H : lw_X xs d 23 (lw_r (Int32.ofNat (i + 6)) o5 o6) [] s2 g X) : lw_X xs d 40 (lw_r (Int32.ofNat i) o5 o6) [.int 36] s g X := by
  refine lw_p 6 1520 [some (.retAddr 0), some (.ref 0), some (.ref 174), some (.ref 231), some (.int (Int32.ofNat i)), o5, o6] [.int (Int32.ofNat i + (1 : Int32)), .retAddr 0, .ref 0] (fun go h => rfl) ?_
  refine lw_scr (j := i + 1) rfl (Int32.ofNat_add i 1).symm (by omega) hl ?_
  refine lw_p 4 1526 [some (.retAddr 0), some (.ref 0), some (.ref 174), some (.ref 231), some (.int (Int32.ofNat i)), o5, o6] [.int (Int32.ofNat i + (2 : Int32)), .retAddr 0, .int (xs.getD (i + 1) 0), .ref 0] (fun go h => rfl) ?_
  refine lw_scr (j := i + 2) rfl (Int32.ofNat_add i 2).symm (by omega) hl ?_
  refine lw_p 4 1532 [some (.retAddr 0), some (.ref 0), some (.ref 174), some (.ref 231), some (.int (Int32.ofNat i)), o5, o6] [.int (Int32.ofNat i + (3 : Int32)), .retAddr 0, .int (xs.getD (i + 2) 0), .int (xs.getD (i + 1) 0), .ref 0] (fun go h => rfl) ?_
  refine lw_scr (j := i + 3) rfl (Int32.ofNat_add i 3).symm (by omega) hl ?_
  refine lw_p 4 1538 [some (.retAddr 0), some (.ref 0), some (.ref 174), some (.ref 231), some (.int (Int32.ofNat i)), o5, o6] [.int (Int32.ofNat i + (4 : Int32)), .retAddr 0, .int (xs.getD (i + 3) 0), .int (xs.getD (i + 2) 0), .int (xs.getD (i + 1) 0), .ref 0] (fun go h => rfl) ?_
  refine lw_scr (j := i + 4) rfl (Int32.ofNat_add i 4).symm (by omega) hl ?_
  suffices hT0 : lw_X xs d 1547 [some (.retAddr 0), some (.ref 0), some (.ref 174), some (.ref 231), some (.int (Int32.ofNat i)), o5, o6] [.int b, .int (xs.getD (i + 3) 0), .int (xs.getD (i + 2) 0), .int (xs.getD (i + 1) 0), .ref 0] s g X from by
    by_cases hz : xs.getD (i + 4) 0 = 0
    · refine lw_izT rfl (hq_c_eq_T hz) ?_
      refine lw_p 1 1547 [some (.retAddr 0), some (.ref 0), some (.ref 174), some (.ref 231), some (.int (Int32.ofNat i)), o5, o6] [.int (0 : Int32), .int (xs.getD (i + 3) 0), .int (xs.getD (i + 2) 0), .int (xs.getD (i + 1) 0), .ref 0] (fun go h => rfl) ?_
      rw [if_pos hz] at hb; rw [hb] at hT0; exact hT0
    · refine lw_izF rfl (hq_c_eq_F hz) ?_
      refine lw_p 2 1547 [some (.retAddr 0), some (.ref 0), some (.ref 174), some (.ref 231), some (.int (Int32.ofNat i)), o5, o6] [.int (1 : Int32), .int (xs.getD (i + 3) 0), .int (xs.getD (i + 2) 0), .int (xs.getD (i + 1) 0), .ref 0] (fun go h => rfl) ?_
      rw [if_neg hz] at hb; rw [hb] at hT0; exact hT0
  refine lw_inv rfl rfl (by omega) rfl rfl (hq_rcv rfl rfl) (f_X11_see_run (by omega) hX) rfl ?_
  refine lw_p 5 1556 [some (.retAddr 0), some (.ref 0), some (.ref 174), some (.ref 231), some (.int (Int32.ofNat i)), o5, o6] [.int (Int32.ofNat i + (1 : Int32)), .retAddr 0, .ref 174, .int v] (fun go h => rfl) ?_
  refine lw_scr (j := i + 1) rfl (Int32.ofNat_add i 1).symm (by omega) hl ?_
  refine lw_p 4 1562 [some (.retAddr 0), some (.ref 0), some (.ref 174), some (.ref 231), some (.int (Int32.ofNat i)), o5, o6] [.int (Int32.ofNat i + (2 : Int32)), .retAddr 0, .int (xs.getD (i + 1) 0), .ref 174, .int v] (fun go h => rfl) ?_
  refine lw_scr (j := i + 2) rfl (Int32.ofNat_add i 2).symm (by omega) hl ?_
  refine lw_p 4 1568 [some (.retAddr 0), some (.ref 0), some (.ref 174), some (.ref 231), some (.int (Int32.ofNat i)), o5, o6] [.int (Int32.ofNat i + (3 : Int32)), .retAddr 0, .int (xs.getD (i + 2) 0), .int (xs.getD (i + 1) 0), .ref 174, .int v] (fun go h => rfl) ?_
  refine lw_scr (j := i + 3) rfl (Int32.ofNat_add i 3).symm (by omega) hl ?_
  refine lw_p 4 1574 [some (.retAddr 0), some (.ref 0), some (.ref 174), some (.ref 231), some (.int (Int32.ofNat i)), o5, o6] [.int (Int32.ofNat i + (4 : Int32)), .retAddr 0, .int (xs.getD (i + 3) 0), .int (xs.getD (i + 2) 0), .int (xs.getD (i + 1) 0), .ref 174, .int v] (fun go h => rfl) ?_
  refine lw_scr (j := i + 4) rfl (Int32.ofNat_add i 4).symm (by omega) hl ?_
  suffices hT1 : lw_X xs d 1583 [some (.retAddr 0), some (.ref 0), some (.ref 174), some (.ref 231), some (.int (Int32.ofNat i)), o5, o6] [.int b, .int (xs.getD (i + 3) 0), .int (xs.getD (i + 2) 0), .int (xs.getD (i + 1) 0), .ref 174, .int v] s1 g X from by
    by_cases hz : xs.getD (i + 4) 0 = 0
    · refine lw_izT rfl (hq_c_eq_T hz) ?_
      refine lw_p 1 1583 [some (.retAddr 0), some (.ref 0), some (.ref 174), some (.ref 231), some (.int (Int32.ofNat i)), o5, o6] [.int (0 : Int32), .int (xs.getD (i + 3) 0), .int (xs.getD (i + 2) 0), .int (xs.getD (i + 1) 0), .ref 174, .int v] (fun go h => rfl) ?_
      rw [if_pos hz] at hb; rw [hb] at hT1; exact hT1
    · refine lw_izF rfl (hq_c_eq_F hz) ?_
      refine lw_p 2 1583 [some (.retAddr 0), some (.ref 0), some (.ref 174), some (.ref 231), some (.int (Int32.ofNat i)), o5, o6] [.int (1 : Int32), .int (xs.getD (i + 3) 0), .int (xs.getD (i + 2) 0), .int (xs.getD (i + 1) 0), .ref 174, .int v] (fun go h => rfl) ?_
      rw [if_neg hz] at hb; rw [hb] at hT1; exact hT1
  refine lw_inv rfl rfl (by omega) rfl rfl (hq_rcv rfl rfl) (f_X12_see_run (by omega) hM) rfl ?_
  refine lw_icE rfl ?_
  refine lw_p 2 23 [some (.retAddr 0), some (.ref 0), some (.ref 174), some (.ref 231), some (.int (Int32.ofNat i + (6 : Int32))), o5, o6] [] (fun go h => rfl) ?_
  rw [show Int32.ofNat i + (6 : Int32) = Int32.ofNat (i + 6) from (Int32.ofNat_add i 6).symm]
  exact H
theorem lw_op_37 {xs : List Int32} {d i : Nat} {s s1 s2 : hq_S} {g n1 n2 : Nat} {o5 o6 : Option Value} {X : mm_Res × mm_Heap × Nat} {v : Int32} (hd : 1000 ≤ d) (hi : i + 6 ≤ xs.length) (hl : xs.length ≤ 3072) (hX : f_X11_strike n1 (xs.getD (i + 1) 0) s = some (v, s1)) (hM : f_X12_strike n2 (xs.getD (i + 1) 0) s1 = some (v, s2)) (H : lw_X xs d 23 (lw_r (Int32.ofNat (i + 6)) o5 o6) [] s2 g X) : lw_X xs d 40 (lw_r (Int32.ofNat i) o5 o6) [.int 37] s g X := by
  refine lw_p 6 1597 [some (.retAddr 0), some (.ref 0), some (.ref 174), some (.ref 231), some (.int (Int32.ofNat i)), o5, o6] [.int (Int32.ofNat i + (1 : Int32)), .retAddr 0, .ref 0] (fun go h => rfl) ?_
  refine lw_scr (j := i + 1) rfl (Int32.ofNat_add i 1).symm (by omega) hl ?_
  refine lw_inv rfl rfl (by omega) rfl rfl (hq_rcv rfl rfl) (f_X11_strike_run (by omega) hX) rfl ?_
  refine lw_p 5 1607 [some (.retAddr 0), some (.ref 0), some (.ref 174), some (.ref 231), some (.int (Int32.ofNat i)), o5, o6] [.int (Int32.ofNat i + (1 : Int32)), .retAddr 0, .ref 174, .int v] (fun go h => rfl) ?_
  refine lw_scr (j := i + 1) rfl (Int32.ofNat_add i 1).symm (by omega) hl ?_
  refine lw_inv rfl rfl (by omega) rfl rfl (hq_rcv rfl rfl) (f_X12_strike_run (by omega) hM) rfl ?_
  refine lw_icE rfl ?_
  refine lw_p 2 23 [some (.retAddr 0), some (.ref 0), some (.ref 174), some (.ref 231), some (.int (Int32.ofNat i + (6 : Int32))), o5, o6] [] (fun go h => rfl) ?_
  rw [show Int32.ofNat i + (6 : Int32) = Int32.ofNat (i + 6) from (Int32.ofNat_add i 6).symm]
  exact H
theorem lw_op_38 {xs : List Int32} {d i : Nat} {s s1 s2 : hq_S} {g n1 n2 : Nat} {o5 o6 : Option Value} {X : mm_Res × mm_Heap × Nat} {v : Int32} (hd : 1000 ≤ d) (hi : i + 6 ≤ xs.length) (hl : xs.length ≤ 3072) (hX : f_X11_known n1 (xs.getD (i + 1) 0) s = some (v, s1)) (hM : f_X12_known n2 (xs.getD (i + 1) 0) s1 = some (v, s2)) (H : lw_X xs d 23 (lw_r (Int32.ofNat (i + 6)) o5 o6) [] s2 g X) : lw_X xs d 40 (lw_r (Int32.ofNat i) o5 o6) [.int 38] s g X := by
  refine lw_p 6 1622 [some (.retAddr 0), some (.ref 0), some (.ref 174), some (.ref 231), some (.int (Int32.ofNat i)), o5, o6] [.int (Int32.ofNat i + (1 : Int32)), .retAddr 0, .ref 0] (fun go h => rfl) ?_
  refine lw_scr (j := i + 1) rfl (Int32.ofNat_add i 1).symm (by omega) hl ?_
  refine lw_inv rfl rfl (by omega) rfl rfl (hq_rcv rfl rfl) (f_X11_known_run (by omega) hX) rfl ?_
  refine lw_p 5 1632 [some (.retAddr 0), some (.ref 0), some (.ref 174), some (.ref 231), some (.int (Int32.ofNat i)), o5, o6] [.int (Int32.ofNat i + (1 : Int32)), .retAddr 0, .ref 174, .int v] (fun go h => rfl) ?_
  refine lw_scr (j := i + 1) rfl (Int32.ofNat_add i 1).symm (by omega) hl ?_
  refine lw_inv rfl rfl (by omega) rfl rfl (hq_rcv rfl rfl) (f_X12_known_run (by omega) hM) rfl ?_
  refine lw_icE rfl ?_
  refine lw_p 2 23 [some (.retAddr 0), some (.ref 0), some (.ref 174), some (.ref 231), some (.int (Int32.ofNat i + (6 : Int32))), o5, o6] [] (fun go h => rfl) ?_
  rw [show Int32.ofNat i + (6 : Int32) = Int32.ofNat (i + 6) from (Int32.ofNat_add i 6).symm]
  exact H
theorem lw_op_39 {xs : List Int32} {d i : Nat} {s s1 s2 : hq_S} {g n1 n2 : Nat} {o5 o6 : Option Value} {X : mm_Res × mm_Heap × Nat} {v : Int32} (hd : 1000 ≤ d) (hi : i + 6 ≤ xs.length) (hl : xs.length ≤ 3072) (hX : f_X11_bolds n1 (xs.getD (i + 1) 0) s = some (v, s1)) (hM : f_X12_bolds n2 (xs.getD (i + 1) 0) s1 = some (v, s2)) (H : lw_X xs d 23 (lw_r (Int32.ofNat (i + 6)) o5 o6) [] s2 g X) : lw_X xs d 40 (lw_r (Int32.ofNat i) o5 o6) [.int 39] s g X := by
  refine lw_p 6 1647 [some (.retAddr 0), some (.ref 0), some (.ref 174), some (.ref 231), some (.int (Int32.ofNat i)), o5, o6] [.int (Int32.ofNat i + (1 : Int32)), .retAddr 0, .ref 0] (fun go h => rfl) ?_
  refine lw_scr (j := i + 1) rfl (Int32.ofNat_add i 1).symm (by omega) hl ?_
  refine lw_inv rfl rfl (by omega) rfl rfl (hq_rcv rfl rfl) (f_X11_bolds_run (by omega) hX) rfl ?_
  refine lw_p 5 1657 [some (.retAddr 0), some (.ref 0), some (.ref 174), some (.ref 231), some (.int (Int32.ofNat i)), o5, o6] [.int (Int32.ofNat i + (1 : Int32)), .retAddr 0, .ref 174, .int v] (fun go h => rfl) ?_
  refine lw_scr (j := i + 1) rfl (Int32.ofNat_add i 1).symm (by omega) hl ?_
  refine lw_inv rfl rfl (by omega) rfl rfl (hq_rcv rfl rfl) (f_X12_bolds_run (by omega) hM) rfl ?_
  refine lw_icE rfl ?_
  refine lw_p 2 23 [some (.retAddr 0), some (.ref 0), some (.ref 174), some (.ref 231), some (.int (Int32.ofNat i + (6 : Int32))), o5, o6] [] (fun go h => rfl) ?_
  rw [show Int32.ofNat i + (6 : Int32) = Int32.ofNat (i + 6) from (Int32.ofNat_add i 6).symm]
  exact H
theorem lw_op_40 {xs : List Int32} {d i : Nat} {s s1 s2 : hq_S} {g n1 n2 : Nat} {o5 o6 : Option Value} {X : mm_Res × mm_Heap × Nat} {v : Int32} (hd : 1000 ≤ d) (hi : i + 6 ≤ xs.length) (hl : xs.length ≤ 3072) (hX : f_X11_ask n1 (xs.getD (i + 1) 0) (xs.getD (i + 2) 0) s = some (v, s1)) (hM : f_X12_ask n2 (xs.getD (i + 1) 0) (xs.getD (i + 2) 0) s1 = some (v, s2)) (H : lw_X xs d 23 (lw_r (Int32.ofNat (i + 6)) o5 o6) [] s2 g X) : lw_X xs d 40 (lw_r (Int32.ofNat i) o5 o6) [.int 40] s g X := by
  refine lw_p 6 1672 [some (.retAddr 0), some (.ref 0), some (.ref 174), some (.ref 231), some (.int (Int32.ofNat i)), o5, o6] [.int (Int32.ofNat i + (1 : Int32)), .retAddr 0, .ref 0] (fun go h => rfl) ?_
  refine lw_scr (j := i + 1) rfl (Int32.ofNat_add i 1).symm (by omega) hl ?_
  refine lw_p 4 1678 [some (.retAddr 0), some (.ref 0), some (.ref 174), some (.ref 231), some (.int (Int32.ofNat i)), o5, o6] [.int (Int32.ofNat i + (2 : Int32)), .retAddr 0, .int (xs.getD (i + 1) 0), .ref 0] (fun go h => rfl) ?_
  refine lw_scr (j := i + 2) rfl (Int32.ofNat_add i 2).symm (by omega) hl ?_
  refine lw_inv rfl rfl (by omega) rfl rfl (hq_rcv rfl rfl) (f_X11_ask_run (by omega) hX) rfl ?_
  refine lw_p 5 1688 [some (.retAddr 0), some (.ref 0), some (.ref 174), some (.ref 231), some (.int (Int32.ofNat i)), o5, o6] [.int (Int32.ofNat i + (1 : Int32)), .retAddr 0, .ref 174, .int v] (fun go h => rfl) ?_
  refine lw_scr (j := i + 1) rfl (Int32.ofNat_add i 1).symm (by omega) hl ?_
  refine lw_p 4 1694 [some (.retAddr 0), some (.ref 0), some (.ref 174), some (.ref 231), some (.int (Int32.ofNat i)), o5, o6] [.int (Int32.ofNat i + (2 : Int32)), .retAddr 0, .int (xs.getD (i + 1) 0), .ref 174, .int v] (fun go h => rfl) ?_
  refine lw_scr (j := i + 2) rfl (Int32.ofNat_add i 2).symm (by omega) hl ?_
  refine lw_inv rfl rfl (by omega) rfl rfl (hq_rcv rfl rfl) (f_X12_ask_run (by omega) hM) rfl ?_
  refine lw_icE rfl ?_
  refine lw_p 2 23 [some (.retAddr 0), some (.ref 0), some (.ref 174), some (.ref 231), some (.int (Int32.ofNat i + (6 : Int32))), o5, o6] [] (fun go h => rfl) ?_
  rw [show Int32.ofNat i + (6 : Int32) = Int32.ofNat (i + 6) from (Int32.ofNat_add i 6).symm]
  exact H
theorem lw_op_41 {xs : List Int32} {d i : Nat} {s s1 s2 : hq_S} {g n1 n2 : Nat} {o5 o6 : Option Value} {X : mm_Res × mm_Heap × Nat} {v : Int32} (hd : 1000 ≤ d) (hi : i + 6 ≤ xs.length) (hl : xs.length ≤ 3072) (hX : f_X11_chance n1 (xs.getD (i + 1) 0) (xs.getD (i + 2) 0) (xs.getD (i + 3) 0) s = some (v, s1)) (hM : f_X12_chance n2 (xs.getD (i + 1) 0) (xs.getD (i + 2) 0) (xs.getD (i + 3) 0) s1 = some (v, s2)) (H : lw_X xs d 23 (lw_r (Int32.ofNat (i + 6)) o5 o6) [] s2 g X) : lw_X xs d 40 (lw_r (Int32.ofNat i) o5 o6) [.int 41] s g X := by
  refine lw_p 6 1709 [some (.retAddr 0), some (.ref 0), some (.ref 174), some (.ref 231), some (.int (Int32.ofNat i)), o5, o6] [.int (Int32.ofNat i + (1 : Int32)), .retAddr 0, .ref 0] (fun go h => rfl) ?_
  refine lw_scr (j := i + 1) rfl (Int32.ofNat_add i 1).symm (by omega) hl ?_
  refine lw_p 4 1715 [some (.retAddr 0), some (.ref 0), some (.ref 174), some (.ref 231), some (.int (Int32.ofNat i)), o5, o6] [.int (Int32.ofNat i + (2 : Int32)), .retAddr 0, .int (xs.getD (i + 1) 0), .ref 0] (fun go h => rfl) ?_
  refine lw_scr (j := i + 2) rfl (Int32.ofNat_add i 2).symm (by omega) hl ?_
  refine lw_p 4 1721 [some (.retAddr 0), some (.ref 0), some (.ref 174), some (.ref 231), some (.int (Int32.ofNat i)), o5, o6] [.int (Int32.ofNat i + (3 : Int32)), .retAddr 0, .int (xs.getD (i + 2) 0), .int (xs.getD (i + 1) 0), .ref 0] (fun go h => rfl) ?_
  refine lw_scr (j := i + 3) rfl (Int32.ofNat_add i 3).symm (by omega) hl ?_
  refine lw_inv rfl rfl (by omega) rfl rfl (hq_rcv rfl rfl) (f_X11_chance_run (by omega) hX) rfl ?_
  refine lw_p 5 1731 [some (.retAddr 0), some (.ref 0), some (.ref 174), some (.ref 231), some (.int (Int32.ofNat i)), o5, o6] [.int (Int32.ofNat i + (1 : Int32)), .retAddr 0, .ref 174, .int v] (fun go h => rfl) ?_
  refine lw_scr (j := i + 1) rfl (Int32.ofNat_add i 1).symm (by omega) hl ?_
  refine lw_p 4 1737 [some (.retAddr 0), some (.ref 0), some (.ref 174), some (.ref 231), some (.int (Int32.ofNat i)), o5, o6] [.int (Int32.ofNat i + (2 : Int32)), .retAddr 0, .int (xs.getD (i + 1) 0), .ref 174, .int v] (fun go h => rfl) ?_
  refine lw_scr (j := i + 2) rfl (Int32.ofNat_add i 2).symm (by omega) hl ?_
  refine lw_p 4 1743 [some (.retAddr 0), some (.ref 0), some (.ref 174), some (.ref 231), some (.int (Int32.ofNat i)), o5, o6] [.int (Int32.ofNat i + (3 : Int32)), .retAddr 0, .int (xs.getD (i + 2) 0), .int (xs.getD (i + 1) 0), .ref 174, .int v] (fun go h => rfl) ?_
  refine lw_scr (j := i + 3) rfl (Int32.ofNat_add i 3).symm (by omega) hl ?_
  refine lw_inv rfl rfl (by omega) rfl rfl (hq_rcv rfl rfl) (f_X12_chance_run (by omega) hM) rfl ?_
  refine lw_icE rfl ?_
  refine lw_p 2 23 [some (.retAddr 0), some (.ref 0), some (.ref 174), some (.ref 231), some (.int (Int32.ofNat i + (6 : Int32))), o5, o6] [] (fun go h => rfl) ?_
  rw [show Int32.ofNat i + (6 : Int32) = Int32.ofNat (i + 6) from (Int32.ofNat_add i 6).symm]
  exact H
theorem lw_op_42 {xs : List Int32} {d i : Nat} {s s1 s2 : hq_S} {g n1 n2 : Nat} {o5 o6 : Option Value} {X : mm_Res × mm_Heap × Nat} {v : Int32} (hd : 1000 ≤ d) (hi : i + 6 ≤ xs.length) (hl : xs.length ≤ 3072) (hX : f_X11_tried n1 (xs.getD (i + 1) 0) (xs.getD (i + 2) 0) (xs.getD (i + 3) 0) s = some (v, s1)) (hM : f_X12_tried n2 (xs.getD (i + 1) 0) (xs.getD (i + 2) 0) (xs.getD (i + 3) 0) s1 = some (v, s2)) (H : lw_X xs d 23 (lw_r (Int32.ofNat (i + 6)) o5 o6) [] s2 g X) : lw_X xs d 40 (lw_r (Int32.ofNat i) o5 o6) [.int 42] s g X := by
  refine lw_p 6 1758 [some (.retAddr 0), some (.ref 0), some (.ref 174), some (.ref 231), some (.int (Int32.ofNat i)), o5, o6] [.int (Int32.ofNat i + (1 : Int32)), .retAddr 0, .ref 0] (fun go h => rfl) ?_
  refine lw_scr (j := i + 1) rfl (Int32.ofNat_add i 1).symm (by omega) hl ?_
  refine lw_p 4 1764 [some (.retAddr 0), some (.ref 0), some (.ref 174), some (.ref 231), some (.int (Int32.ofNat i)), o5, o6] [.int (Int32.ofNat i + (2 : Int32)), .retAddr 0, .int (xs.getD (i + 1) 0), .ref 0] (fun go h => rfl) ?_
  refine lw_scr (j := i + 2) rfl (Int32.ofNat_add i 2).symm (by omega) hl ?_
  refine lw_p 4 1770 [some (.retAddr 0), some (.ref 0), some (.ref 174), some (.ref 231), some (.int (Int32.ofNat i)), o5, o6] [.int (Int32.ofNat i + (3 : Int32)), .retAddr 0, .int (xs.getD (i + 2) 0), .int (xs.getD (i + 1) 0), .ref 0] (fun go h => rfl) ?_
  refine lw_scr (j := i + 3) rfl (Int32.ofNat_add i 3).symm (by omega) hl ?_
  refine lw_inv rfl rfl (by omega) rfl rfl (hq_rcv rfl rfl) (f_X11_tried_run (by omega) hX) rfl ?_
  refine lw_p 5 1780 [some (.retAddr 0), some (.ref 0), some (.ref 174), some (.ref 231), some (.int (Int32.ofNat i)), o5, o6] [.int (Int32.ofNat i + (1 : Int32)), .retAddr 0, .ref 174, .int v] (fun go h => rfl) ?_
  refine lw_scr (j := i + 1) rfl (Int32.ofNat_add i 1).symm (by omega) hl ?_
  refine lw_p 4 1786 [some (.retAddr 0), some (.ref 0), some (.ref 174), some (.ref 231), some (.int (Int32.ofNat i)), o5, o6] [.int (Int32.ofNat i + (2 : Int32)), .retAddr 0, .int (xs.getD (i + 1) 0), .ref 174, .int v] (fun go h => rfl) ?_
  refine lw_scr (j := i + 2) rfl (Int32.ofNat_add i 2).symm (by omega) hl ?_
  refine lw_p 4 1792 [some (.retAddr 0), some (.ref 0), some (.ref 174), some (.ref 231), some (.int (Int32.ofNat i)), o5, o6] [.int (Int32.ofNat i + (3 : Int32)), .retAddr 0, .int (xs.getD (i + 2) 0), .int (xs.getD (i + 1) 0), .ref 174, .int v] (fun go h => rfl) ?_
  refine lw_scr (j := i + 3) rfl (Int32.ofNat_add i 3).symm (by omega) hl ?_
  refine lw_inv rfl rfl (by omega) rfl rfl (hq_rcv rfl rfl) (f_X12_tried_run (by omega) hM) rfl ?_
  refine lw_icE rfl ?_
  refine lw_p 2 23 [some (.retAddr 0), some (.ref 0), some (.ref 174), some (.ref 231), some (.int (Int32.ofNat i + (6 : Int32))), o5, o6] [] (fun go h => rfl) ?_
  rw [show Int32.ofNat i + (6 : Int32) = Int32.ofNat (i + 6) from (Int32.ofNat_add i 6).symm]
  exact H
theorem lw_op_43 {xs : List Int32} {d i : Nat} {s s1 s2 : hq_S} {g n1 n2 : Nat} {o5 o6 : Option Value} {X : mm_Res × mm_Heap × Nat} {v : Int32} (hd : 1000 ≤ d) (hi : i + 6 ≤ xs.length) (hl : xs.length ≤ 3072) (hX : f_X11_undo n1 s = some (v, s1)) (hM : f_X12_undo n2 s1 = some (v, s2)) (H : lw_X xs d 23 (lw_r (Int32.ofNat (i + 6)) o5 o6) [] s2 g X) : lw_X xs d 40 (lw_r (Int32.ofNat i) o5 o6) [.int 43] s g X := by
  refine lw_p 2 1802 [some (.retAddr 0), some (.ref 0), some (.ref 174), some (.ref 231), some (.int (Int32.ofNat i)), o5, o6] [.ref 0] (fun go h => rfl) ?_
  refine lw_inv rfl rfl (by omega) rfl rfl (hq_rcv rfl rfl) (f_X11_undo_run (by omega) hX) rfl ?_
  refine lw_p 1 1806 [some (.retAddr 0), some (.ref 0), some (.ref 174), some (.ref 231), some (.int (Int32.ofNat i)), o5, o6] [.ref 174, .int v] (fun go h => rfl) ?_
  refine lw_inv rfl rfl (by omega) rfl rfl (hq_rcv rfl rfl) (f_X12_undo_run (by omega) hM) rfl ?_
  refine lw_icE rfl ?_
  refine lw_p 2 23 [some (.retAddr 0), some (.ref 0), some (.ref 174), some (.ref 231), some (.int (Int32.ofNat i + (6 : Int32))), o5, o6] [] (fun go h => rfl) ?_
  rw [show Int32.ofNat i + (6 : Int32) = Int32.ofNat (i + 6) from (Int32.ofNat_add i 6).symm]
  exact H
theorem lw_op_44 {xs : List Int32} {d i : Nat} {s s1 s2 : hq_S} {g n1 n2 : Nat} {o5 o6 : Option Value} {X : mm_Res × mm_Heap × Nat} {v : Int32} (hd : 1000 ≤ d) (hi : i + 6 ≤ xs.length) (hl : xs.length ≤ 3072) (hX : f_X11_keep n1 s = some (v, s1)) (hM : f_X12_keep n2 s1 = some (v, s2)) (H : lw_X xs d 23 (lw_r (Int32.ofNat (i + 6)) o5 o6) [] s2 g X) : lw_X xs d 40 (lw_r (Int32.ofNat i) o5 o6) [.int 44] s g X := by
  refine lw_p 2 1815 [some (.retAddr 0), some (.ref 0), some (.ref 174), some (.ref 231), some (.int (Int32.ofNat i)), o5, o6] [.ref 0] (fun go h => rfl) ?_
  refine lw_inv rfl rfl (by omega) rfl rfl (hq_rcv rfl rfl) (f_X11_keep_run (by omega) hX) rfl ?_
  refine lw_p 1 1819 [some (.retAddr 0), some (.ref 0), some (.ref 174), some (.ref 231), some (.int (Int32.ofNat i)), o5, o6] [.ref 174, .int v] (fun go h => rfl) ?_
  refine lw_inv rfl rfl (by omega) rfl rfl (hq_rcv rfl rfl) (f_X12_keep_run (by omega) hM) rfl ?_
  refine lw_icE rfl ?_
  refine lw_p 2 23 [some (.retAddr 0), some (.ref 0), some (.ref 174), some (.ref 231), some (.int (Int32.ofNat i + (6 : Int32))), o5, o6] [] (fun go h => rfl) ?_
  rw [show Int32.ofNat i + (6 : Int32) = Int32.ofNat (i + 6) from (Int32.ofNat_add i 6).symm]
  exact H
theorem lw_op_45 {xs : List Int32} {d i : Nat} {s s1 s2 : hq_S} {g n1 n2 : Nat} {o5 o6 : Option Value} {X : mm_Res × mm_Heap × Nat} {v : Int32} (hd : 1000 ≤ d) (hi : i + 6 ≤ xs.length) (hl : xs.length ≤ 3072) (hX : f_X11_back n1 s = some (v, s1)) (hM : f_X12_back n2 s1 = some (v, s2)) (H : lw_X xs d 23 (lw_r (Int32.ofNat (i + 6)) o5 o6) [] s2 g X) : lw_X xs d 40 (lw_r (Int32.ofNat i) o5 o6) [.int 45] s g X := by
  refine lw_p 2 1828 [some (.retAddr 0), some (.ref 0), some (.ref 174), some (.ref 231), some (.int (Int32.ofNat i)), o5, o6] [.ref 0] (fun go h => rfl) ?_
  refine lw_inv rfl rfl (by omega) rfl rfl (hq_rcv rfl rfl) (f_X11_back_run (by omega) hX) rfl ?_
  refine lw_p 1 1832 [some (.retAddr 0), some (.ref 0), some (.ref 174), some (.ref 231), some (.int (Int32.ofNat i)), o5, o6] [.ref 174, .int v] (fun go h => rfl) ?_
  refine lw_inv rfl rfl (by omega) rfl rfl (hq_rcv rfl rfl) (f_X12_back_run (by omega) hM) rfl ?_
  refine lw_icE rfl ?_
  refine lw_p 2 23 [some (.retAddr 0), some (.ref 0), some (.ref 174), some (.ref 231), some (.int (Int32.ofNat i + (6 : Int32))), o5, o6] [] (fun go h => rfl) ?_
  rw [show Int32.ofNat i + (6 : Int32) = Int32.ofNat (i + 6) from (Int32.ofNat_add i 6).symm]
  exact H
theorem lw_op_46 {xs : List Int32} {d i : Nat} {s s1 s2 : hq_S} {g n1 n2 : Nat} {o5 o6 : Option Value} {X : mm_Res × mm_Heap × Nat} {v : Int32} (hd : 1000 ≤ d) (hi : i + 6 ≤ xs.length) (hl : xs.length ≤ 3072) (hX : f_X11_count n1 (xs.getD (i + 1) 0) s = some (v, s1)) (hM : f_X12_count n2 (xs.getD (i + 1) 0) s1 = some (v, s2)) (H : lw_X xs d 23 (lw_r (Int32.ofNat (i + 6)) o5 o6) [] s2 g X) : lw_X xs d 40 (lw_r (Int32.ofNat i) o5 o6) [.int 46] s g X := by
  refine lw_p 6 1846 [some (.retAddr 0), some (.ref 0), some (.ref 174), some (.ref 231), some (.int (Int32.ofNat i)), o5, o6] [.int (Int32.ofNat i + (1 : Int32)), .retAddr 0, .ref 0] (fun go h => rfl) ?_
  refine lw_scr (j := i + 1) rfl (Int32.ofNat_add i 1).symm (by omega) hl ?_
  refine lw_inv rfl rfl (by omega) rfl rfl (hq_rcv rfl rfl) (f_X11_count_run (by omega) hX) rfl ?_
  refine lw_p 5 1856 [some (.retAddr 0), some (.ref 0), some (.ref 174), some (.ref 231), some (.int (Int32.ofNat i)), o5, o6] [.int (Int32.ofNat i + (1 : Int32)), .retAddr 0, .ref 174, .int v] (fun go h => rfl) ?_
  refine lw_scr (j := i + 1) rfl (Int32.ofNat_add i 1).symm (by omega) hl ?_
  refine lw_inv rfl rfl (by omega) rfl rfl (hq_rcv rfl rfl) (f_X12_count_run (by omega) hM) rfl ?_
  refine lw_icE rfl ?_
  refine lw_p 2 23 [some (.retAddr 0), some (.ref 0), some (.ref 174), some (.ref 231), some (.int (Int32.ofNat i + (6 : Int32))), o5, o6] [] (fun go h => rfl) ?_
  rw [show Int32.ofNat i + (6 : Int32) = Int32.ofNat (i + 6) from (Int32.ofNat_add i 6).symm]
  exact H
