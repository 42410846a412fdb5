def fb_Fin (xs : List Int32) (d pc : Nat) (r : mm_Loc) (st : List Value) (h : mm_Heap) : Prop := ∃ (n : Nat) (hF : mm_Heap) (gF : Nat), mm_run mm_P (mm_O xs) n d mc_L_law pc r st h 0 = some (some (.int 1), hF, gF) ∧ hF.length = 232 ∧ mm_sz hF = mm_sz fb_B ∧ gF ≤ 2
def fb_rl : mm_Loc := [some (.retAddr 0), some (.ref 0), some (.ref 174), some (.ref 231), some (.int 0), none, none]
theorem fb_use {xs : List Int32} (hxs : xs.length = 6) {S : fx_Orc} (hS : fx_okS mm_P (0 :: xs, (mm_sb, mm_fts)) fb_B xs S) {n : Nat} {E : fx_Env} {v : fx_V} {p : Nat → Int32} (h : fx_run mm_P fb_L S n E 200 mc_L_law 40 fb_r [v] [] 0 fb_K = true) (hp : fx_ok xs E p) {x : Int32} (hv : fx_ev p v = .int x) : fb_Fin xs 200 40 fb_rl [.int x] fb_B := by
  obtain ⟨E', p', w, U', g', n', -, hK, hrun⟩ := fx_run_spec fb_okL hxs hS n _ _ _ _ _ _ _ _ _ _ h hp
  have hrun : mm_run mm_P (mm_O xs) n' 200 mc_L_law 40 fb_rl [fx_ev p v] fb_B 0 = some (w.map (fx_ev p'), fx_evh fb_B p' U', g') := hrun
  rw [hv] at hrun
  unfold fb_K at hK
  split at hK
  · next z =>
    obtain ⟨k1, k2⟩ := Bool.and_eq_true_iff.mp hK
    have k1 := of_decide_eq_true k1
    subst k1
    obtain ⟨l1, l2⟩ := fx_evh_len fb_B p' U'
    exact ⟨n', _, g', hrun, l1.trans fb_l232, l2, Nat.le_of_ble_eq_true k2⟩
  · cases hK
theorem fb_ok0 {xs : List Int32} : fx_ok xs fb_E (fun i => xs.getD i 0) := by
  refine ⟨Nat.le_refl 6, fun _ _ => rfl, fun j q hq => ?_⟩
  have : q = fx_top := by
    have hm := List.mem_of_getElem? hq
    unfold fb_E at hm
    simpa using hm
  rw [this]
  exact fx_top_ok _
theorem fb_at40 {xs : List Int32} (hxs : xs.length = 6) {x : Int32} (h1 : 0 ≤ x.toInt) (h2 : x.toInt ≤ 63) : fb_Fin xs 200 40 fb_rl [.int x] fb_B := by
  by_cases hk : x.toInt < 47
  · have hx : x = Int32.ofNat x.toInt.toNat := by
      apply Int32.toInt_inj.mp
      rw [fx_ofNat_toInt (by omega)]
      omega
    have hl : x.toInt.toNat < 47 := by omega
    generalize x.toInt.toNat = k at hx hl
    subst hx
    have S0 := fx_okS0 mm_P (0 :: xs, (mm_sb, mm_fts)) fb_B xs
    have u : ∀ (S : fx_Orc) (n j : Nat), fx_okS mm_P (0 :: xs, (mm_sb, mm_fts)) fb_B xs S → fb_opS S n j = true → k = j → fb_Fin xs 200 40 fb_rl [.int (Int32.ofNat k)] fb_B := fun S n j hS h e => by
      subst e
      exact fb_use hxs hS h fb_ok0 rfl
    have u0 : ∀ j : Nat, fb_op j = true → k = j → fb_Fin xs 200 40 fb_rl [.int (Int32.ofNat k)] fb_B := fun j h e => u fb_S0 12000 j S0 h e
    by_cases e0 : k = 0
    · exact u0 _ fb_op_0 e0
    by_cases e1 : k = 1
    · exact u0 _ fb_op_1 e1
    by_cases e2 : k = 2
    · exact u0 _ fb_op_2 e2
    by_cases e3 : k = 3
    · exact u0 _ fb_op_3 e3
    by_cases e4 : k = 4
    · exact u0 _ fb_op_4 e4
    by_cases e5 : k = 5
    · exact u0 _ fb_op_5 e5
    by_cases e6 : k = 6
    · exact u0 _ fb_op_6 e6
    by_cases e7 : k = 7
    · exact u0 _ fb_op_7 e7
    by_cases e8 : k = 8
    · exact u0 _ fb_op_8 e8
    by_cases e9 : k = 9
    · exact u0 _ fb_op_9 e9
    by_cases e10 : k = 10
    · exact u0 _ fb_op_10 e10
    by_cases e11 : k = 11
    · exact u0 _ fb_op_11 e11
    by_cases e12 : k = 12
    · exact u _ _ _ (fb_okS12 hxs) fb_op_12 e12
    by_cases e13 : k = 13
    · exact u _ _ _ (fb_okS13 hxs) fb_op_13 e13
    by_cases e14 : k = 14
    · exact u0 _ fb_op_14 e14
    by_cases e15 : k = 15
    · exact u0 _ fb_op_15 e15
    by_cases e16 : k = 16
    · exact u0 _ fb_op_16 e16
    by_cases e17 : k = 17
    · exact u0 _ fb_op_17 e17
    by_cases e18 : k = 18
    · exact u0 _ fb_op_18 e18
    by_cases e19 : k = 19
    · exact u0 _ fb_op_19 e19
    by_cases e20 : k = 20
    · exact u0 _ fb_op_20 e20
    by_cases e21 : k = 21
    · exact u0 _ fb_op_21 e21
    by_cases e22 : k = 22
    · exact u0 _ fb_op_22 e22
    by_cases e23 : k = 23
    · exact u0 _ fb_op_23 e23
    by_cases e24 : k = 24
    · exact u _ _ _ fb_okS24 fb_op_24 e24
    by_cases e25 : k = 25
    · exact u _ _ _ fb_okS24 fb_op_25 e25
    by_cases e26 : k = 26
    · exact u0 _ fb_op_26 e26
    by_cases e27 : k = 27
    · exact u0 _ fb_op_27 e27
    by_cases e28 : k = 28
    · exact u0 _ fb_op_28 e28
    by_cases e29 : k = 29
    · exact u0 _ fb_op_29 e29
    by_cases e30 : k = 30
    · exact u0 _ fb_op_30 e30
    by_cases e31 : k = 31
    · exact u0 _ fb_op_31 e31
    by_cases e32 : k = 32
    · exact u0 _ fb_op_32 e32
    by_cases e33 : k = 33
    · exact u0 _ fb_op_33 e33
    by_cases e34 : k = 34
    · exact u0 _ fb_op_34 e34
    by_cases e35 : k = 35
    · exact u0 _ fb_op_35 e35
    by_cases e36 : k = 36
    · exact u0 _ fb_op_36 e36
    by_cases e37 : k = 37
    · exact u0 _ fb_op_37 e37
    by_cases e38 : k = 38
    · exact u0 _ fb_op_38 e38
    by_cases e39 : k = 39
    · exact u0 _ fb_op_39 e39
    by_cases e40 : k = 40
    · exact u0 _ fb_op_40 e40
    by_cases e41 : k = 41
    · exact u0 _ fb_op_41 e41
    by_cases e42 : k = 42
    · exact u _ _ _ (fb_okS13 hxs) fb_op_42 e42
    by_cases e43 : k = 43
    · exact u0 _ fb_op_43 e43
    by_cases e44 : k = 44
    · exact u0 _ fb_op_44 e44
    by_cases e45 : k = 45
    · exact u0 _ fb_op_45 e45
    by_cases e46 : k = 46
    · exact u0 _ fb_op_46 e46
    omega
  · have hM := fx_push (xs := xs) (iv := (47, 63)) fb_ok0 (x := x) (by dsimp only; omega) (by dsimp only; omega)
    exact fb_use hxs (fx_okS0 mm_P (0 :: xs, (mm_sb, mm_fts)) fb_B xs) fb_op_rest hM.1 (fx_push_ev _ _ _)
theorem fb_Fin.step {xs : List Int32} {d pc pc' : Nat} {r r' : mm_Loc} {st st' : List Value} {h h' : mm_Heap} (hs : ∀ n, mm_run mm_P (mm_O xs) (n + 1) d mc_L_law pc r st h 0 = mm_run mm_P (mm_O xs) n d mc_L_law pc' r' st' h' 0) (H : fb_Fin xs d pc' r' st' h') : fb_Fin xs d pc r st h := by
  obtain ⟨n, hF, gF, h1, h2⟩ := H
  exact ⟨n + 1, hF, gF, (hs n).trans h1, h2⟩
theorem fb_Fin.ge {xs : List Int32} {d e pc : Nat} {r : mm_Loc} {st : List Value} {h : mm_Heap} (hd : d ≤ e) (H : fb_Fin xs d pc r st h) : fb_Fin xs e pc r st h := by
  obtain ⟨n, hF, gF, h1, h2⟩ := H
  exact ⟨n, hF, gF, mm_run_ge (Nat.le_refl _) hd h1, h2⟩
theorem fb_gt1 : ∀ L, L < 6 → mm_cmp .gt 0 (Int32.ofNat L - (Int8.ofInt 6).toInt32) = true := by decide
theorem fb_gt2 : mm_cmp .gt 0 (Int32.ofNat 6 - (Int8.ofInt 6).toInt32) = false := by decide
theorem fb_at23 {xs : List Int32} (hxs : xs.length ≤ 6) : fb_Fin xs 250 23 fb_rl [] fb_B := by
  refine fb_Fin.step (pc' := 25) (r' := fb_rl) (st' := [.int 0]) (h' := fb_B) (fun n => rfl) ?_
  refine fb_Fin.step (pc' := 26) (r' := fb_rl) (st' := [.retAddr 0, .int 0]) (h' := fb_B) (fun n => rfl) ?_
  refine fb_Fin.step (pc' := 27) (r' := fb_rl) (st' := [.int (Int32.ofNat xs.length), .int 0]) (h' := fb_B) (fun n => rfl) ?_
  refine fb_Fin.step (pc' := 29) (r' := fb_rl) (st' := [.int (Int8.ofInt 6).toInt32, .int (Int32.ofNat xs.length), .int 0]) (h' := fb_B) (fun n => rfl) ?_
  refine fb_Fin.step (pc' := 30) (r' := fb_rl) (st' := [.int (Int32.ofNat xs.length - (Int8.ofInt 6).toInt32), .int 0]) (h' := fb_B) (fun n => rfl) ?_
  by_cases hl : xs.length < 6
  · refine fb_Fin.step (pc' := 1871) (r' := fb_rl) (st' := []) (h' := fb_B) (fun n => ?_) ?_
    · show (bif mm_cmp .gt 0 (Int32.ofNat xs.length - (Int8.ofInt 6).toInt32) then mm_run mm_P (mm_O xs) n 250 mc_L_law 1871 fb_rl [] fb_B 0 else mm_run mm_P (mm_O xs) n 250 mc_L_law 33 fb_rl [] fb_B 0) = _
      rw [fb_gt1 _ hl]
      rfl
    · exact ⟨2, fb_B, 0, rfl, fb_l232, rfl, by decide⟩
  · have h6 : xs.length = 6 := by omega
    refine fb_Fin.step (pc' := 33) (r' := fb_rl) (st' := []) (h' := fb_B) (fun n => ?_) ?_
    · show (bif mm_cmp .gt 0 (Int32.ofNat xs.length - (Int8.ofInt 6).toInt32) then mm_run mm_P (mm_O xs) n 250 mc_L_law 1871 fb_rl [] fb_B 0 else mm_run mm_P (mm_O xs) n 250 mc_L_law 33 fb_rl [] fb_B 0) = _
      rw [h6, fb_gt2]
      rfl
    refine fb_Fin.step (pc' := 34) (r' := fb_rl) (st' := [.retAddr 0]) (h' := fb_B) (fun n => rfl) ?_
    refine fb_Fin.step (pc' := 36) (r' := fb_rl) (st' := [.int 0, .retAddr 0]) (h' := fb_B) (fun n => rfl) ?_
    refine fb_Fin.step (pc' := 37) (r' := fb_rl) (st' := [.int (xs.getD 0 0)]) (h' := fb_B) (fun n => ?_) ?_
    · have hi : mm_iald (mm_O xs) fb_B (.retAddr 0) 0 = some (xs.getD 0 0) := by
        show (bif Nat.beq 0 0 && mm_in 0 xs.length then some (xs.getD (0 : Int32).toNatClampNeg 0) else none) = _
        rw [h6]
        rfl
      show (match (mm_iald (mm_O xs) fb_B (.retAddr 0) 0).map (fun x => (fb_rl, [Value.int x], fb_B)) with
        | some (r', st', h') => mm_run mm_P (mm_O xs) n 250 mc_L_law 37 r' st' h' 0
        | none => none) = _
      rw [hi]
      rfl
    refine fb_Fin.step (pc' := 39) (r' := fb_rl) (st' := [.int (Int8.ofInt 63).toInt32, .int (xs.getD 0 0)]) (h' := fb_B) (fun n => rfl) ?_
    refine fb_Fin.step (pc' := 40) (r' := fb_rl) (st' := [.int (xs.getD 0 0 &&& (Int8.ofInt 63).toInt32)]) (h' := fb_B) (fun n => rfl) ?_
    have hb := fx_ivand_ok (xs.getD 0 0) (Int8.ofInt 63).toInt32 fx_top (63, 63) (fx_top_ok _).1 (fx_top_ok _).2 (by decide) (by decide)
    exact fb_Fin.ge (by decide) (fb_at40 h6 hb.1 hb.2)
theorem fb_lawful : mm_Lawful 6 := by
  intro xs hxs
  obtain ⟨n, hF, gF, h1, h2, h3, h4⟩ := fb_at23 hxs
  obtain ⟨m, hm⟩ := fb_start xs h1
  have := Nat.le_of_ble_eq_true fb_sz
  exact ⟨m, 250, hF, gF, hm, by omega, by omega, by omega, by omega⟩
