/-! CORNER in the law's loop -/
section
variable {xs : List Int32} {d i : Nat} {s s1 s2 : hq_S} {g : Nat} {o5 o6 : Option Value} {X : mm_Res × mm_Heap × Nat}
/-- from the catching call's number on -/
theorem lw_4b {n2 : Nat} {k b : Int32} {o5' : Option Value} (hd : 1000 ≤ d) (hi : i + 6 ≤ xs.length) (hl : xs.length ≤ 3072) (hM : f_X12_corner n2 (xs.getD (i + 1) 0) (xs.getD (i + 2) 0) s1 = some (b, s2)) (hk : hq_gi s2 174 0 = k) (H : lw_X xs d 452 (lw_r (Int32.ofNat i) (some (.int k)) (some (.int b))) [] s2 g X) : lw_X xs d 421 (lw_r (Int32.ofNat i) o5 o6) [.int k] s1 g X := by
  refine lw_p 6 429 [some (.retAddr 0), some (.ref 0), some (.ref 174), some (.ref 231), some (.int (Int32.ofNat i)), some (.int k), o6] [.int (Int32.ofNat i + (1 : Int32)), .retAddr 0, .ref 174] (fun go h => rfl) ?_
  refine lw_scr (j := i + 1) rfl (Int32.ofNat_add i 1).symm (by omega) hl ?_
  refine lw_p 4 435 [some (.retAddr 0), some (.ref 0), some (.ref 174), some (.ref 231), some (.int (Int32.ofNat i)), some (.int k), o6] [.int (Int32.ofNat i + (2 : Int32)), .retAddr 0, .int (xs.getD (i + 1) 0), .ref 174] (fun go h => rfl) ?_
  refine lw_scr (j := i + 2) rfl (Int32.ofNat_add i 2).symm (by omega) hl ?_
  refine lw_inv rfl rfl (by omega) rfl rfl (hq_rcv rfl rfl) (f_X12_corner_run (by omega) hM) rfl ?_
  refine lw_p 2 442 [some (.retAddr 0), some (.ref 0), some (.ref 174), some (.ref 231), some (.int (Int32.ofNat i)), some (.int k), some (.int b)] [.ref 174] (fun go h => rfl) ?_
  have hT : f_X12_thrown 0 s2 = some (k, s2) := by
    unfold f_X12_thrown
    rw [hk]
  refine lw_inv rfl rfl (by omega) rfl rfl (hq_rcv rfl rfl) (f_X12_thrown_run (by omega) hT) rfl ?_
  refine lw_p 1 447 [some (.retAddr 0), some (.ref 0), some (.ref 174), some (.ref 231), some (.int (Int32.ofNat i)), some (.int k), some (.int b)] [.int k, .int k] (fun go h => rfl) ?_
  exact lw_icE rfl H
theorem lw_4a {X : mm_Res × mm_Heap × Nat} (hi : i + 6 ≤ xs.length) (hl : xs.length ≤ 3072) (H : lw_X xs d 418 (lw_r (Int32.ofNat i) o5 o6) [.ref 231, .int (xs.getD (i + 2) 0), .int (xs.getD (i + 1) 0), .ref 0] s g X) : lw_X xs d 40 (lw_r (Int32.ofNat i) o5 o6) [.int 4] s g X := by
  refine lw_p 6 410 [some (.retAddr 0), some (.ref 0), some (.ref 174), some (.ref 231), some (.int (Int32.ofNat i)), o5, o6] [.int (Int32.ofNat i + (1 : Int32)), .retAddr 0, .ref 0] (fun go h => rfl) ?_
  refine lw_scr (j := i + 1) rfl (Int32.ofNat_add i 1).symm (by omega) hl ?_
  refine lw_p 4 416 [some (.retAddr 0), some (.ref 0), some (.ref 174), some (.ref 231), some (.int (Int32.ofNat i)), o5, o6] [.int (Int32.ofNat i + (2 : Int32)), .retAddr 0, .int (xs.getD (i + 1) 0), .ref 0] (fun go h => rfl) ?_
  refine lw_scr (j := i + 2) rfl (Int32.ofNat_add i 2).symm (by omega) hl ?_
  exact lw_p 1 418 [some (.retAddr 0), some (.ref 0), some (.ref 174), some (.ref 231), some (.int (Int32.ofNat i)), o5, o6] [.ref 231, .int (xs.getD (i + 2) 0), .int (xs.getD (i + 1) 0), .ref 0] (fun go h => rfl) H
/-- it answered -/
theorem lw_4r {n1 n2 : Nat} {v : Int32} (hd : 1000 ≤ d) (hi : i + 6 ≤ xs.length) (hl : xs.length ≤ 3072) (hX : f_X11_corner n1 (xs.getD (i + 1) 0) (xs.getD (i + 2) 0) s = some (v, s1)) (hM : f_X12_corner n2 (xs.getD (i + 1) 0) (xs.getD (i + 2) 0) (hq_sj s1 231 0 v.toInt64) = some (v, s2)) (hk : hq_gi s2 174 0 = 0) (ho : hq_gj s2 231 0 = v.toInt64) (H : lw_X xs d 23 (lw_r (Int32.ofNat (i + 6)) (some (.int 0)) (some (.int v))) [] s2 g X) : lw_X xs d 40 (lw_r (Int32.ofNat i) o5 o6) [.int 4] s g X := by
  refine lw_4a hi hl ?_
  refine lw_cat rfl (by omega) (f_X11_corner_run (by omega) hX) ?_
  refine lw_4b (o5' := none) hd hi hl hM hk ?_
  refine lw_p 1 454 [some (.retAddr 0), some (.ref 0), some (.ref 174), some (.ref 231), some (.int (Int32.ofNat i)), some (.int 0), some (.int v)] [.int 0] (fun go h => rfl) ?_
  refine lw_izF rfl (hq_c_ne_F rfl) ?_
  refine lw_p 2 459 [some (.retAddr 0), some (.ref 0), some (.ref 174), some (.ref 231), some (.int (Int32.ofNat i)), some (.int 0), some (.int v)] [.int 0, .ref 231] (fun go h => rfl) ?_
  refine lw_lal rfl ?_
  rw [ho]
  refine lw_p 3 464 [some (.retAddr 0), some (.ref 0), some (.ref 174), some (.ref 231), some (.int (Int32.ofNat i)), some (.int 0), some (.int v)] [.int (lg_cmp v.toInt64 v.toInt64)] (fun go h => rfl) ?_
  refine lw_izT rfl (by rw [lw_cmp]; rfl) ?_
  refine lw_p 3 23 [some (.retAddr 0), some (.ref 0), some (.ref 174), some (.ref 231), some (.int (Int32.ofNat i + (6 : Int32))), some (.int 0), some (.int v)] [] (fun go h => rfl) ?_
  rw [show Int32.ofNat i + (6 : Int32) = Int32.ofNat (i + 6) from (Int32.ofNat_add i 6).symm]
  exact H
/-- it refused -/
theorem lw_4t {n2 u : Nat} {b k : Int32} (hd : 1000 ≤ d) (hi : i + 6 ≤ xs.length) (hl : xs.length ≤ 3072) (hX : hx_X mc_X11_corner xs (d - 2) 0 [some (.ref 0), some (.int (xs.getD (i + 1) 0)), some (.int (xs.getD (i + 2) 0))] [] s g (some (.retAddr u), hq_hp s, g + 1)) (hM : f_X12_corner n2 (xs.getD (i + 1) 0) (xs.getD (i + 2) 0) s = some (b, s2)) (hu : (bif Nat.beq u 13 then (1 : Int32) else 2) = k) (hk : hq_gi s2 174 0 = k) (hk0 : ¬ k = 0) (H : lw_X xs d 23 (lw_r (Int32.ofNat (i + 6)) (some (.int k)) (some (.int b))) [] s2 (g + 1) X) : lw_X xs d 40 (lw_r (Int32.ofNat i) o5 o6) [.int 4] s g X := by
  refine lw_4a hi hl ?_
  refine lw_cat2 rfl (by omega) hX ?_
  rw [hu]
  refine lw_4b (o5' := none) hd hi hl hM hk ?_
  refine lw_p 1 454 [some (.retAddr 0), some (.ref 0), some (.ref 174), some (.ref 231), some (.int (Int32.ofNat i)), some (.int k), some (.int b)] [.int k] (fun go h => rfl) ?_
  refine lw_izT rfl (hq_c_ne_T hk0) ?_
  refine lw_p 3 23 [some (.retAddr 0), some (.ref 0), some (.ref 174), some (.ref 231), some (.int (Int32.ofNat i + (6 : Int32))), some (.int k), some (.int b)] [] (fun go h => rfl) ?_
  rw [show Int32.ofNat i + (6 : Int32) = Int32.ofNat (i + 6) from (Int32.ofNat_add i 6).symm]
  exact H
end
theorem hq_op_4 {N : Nat} {HC : hq_S → Prop} (hc : hc_loc HC) (hN : 300 < N) : hq_OpL (fun s => hR HC s s) 4 := by
  intro xs d i s g G o5 o6 hd hi hl hI hK
  have I0 : hR HC s s := hI
  have loc := hR_loc hc
  obtain ⟨sm', h1, h2⟩ := cn_sim hc hN (xs.getD (i + 1) 0) (xs.getD (i + 2) 0) I0
  rcases h2 with ⟨v, e1, e2, e3⟩ | ⟨e1, ⟨e2, e3⟩ | ⟨e2, e4, e3⟩⟩
  · have fj : hq_fm s (hq_sj s 231 0 v.toInt64) := fun k hk j => ⟨rfl, hq_jn (fun q => by omega), rfl⟩
    have I1 : hR HC s (hq_sj s 231 0 v.toInt64) := hR_k (sx := s) (sx' := s) (sm := s) (sm' := hq_sj s 231 0 v.toInt64) hc (fun _ _ _ => ⟨rfl, rfl, rfl⟩) (fun k j hk => ⟨rfl, hq_jn (k := 231) (i := 0) (k' := k) (i' := j) (fun q => by rw [q.1, q.2] at hk; exact absurd hk (by decide)), rfl⟩) (fun _ _ _ _ _ => rfl) I0
    obtain ⟨s2, h3, h4⟩ := cn_sim hc hN (xs.getD (i + 1) 0) (xs.getD (i + 2) 0) I1
    rcases h4 with ⟨v', w1, w2, w3⟩ | ⟨w1, ⟨w2, w3⟩ | ⟨w2, w4, w3⟩⟩
    · rw [e1] at w1
      cases w1
      have f2 : hq_fm (hq_sj s 231 0 v.toInt64) s2 := f_X12_corner_fr w2
      have I2 : hR HC s2 s2 := loc s s2 s2 s2 (fun k hk j => ⟨(f2 k hk j).1.trans (fj k hk j).1, (f2 k hk j).2.1.trans (fj k hk j).2.1, (f2 k hk j).2.2.trans (fj k hk j).2.2⟩) (hq_fx_rf s2) h3
      obtain ⟨h', g', z1, z2⟩ := hK s2 g (some (.int 0)) (some (.int v)) I2 (by omega)
      exact ⟨h', g', lw_4r hd hi hl e1 w2 w3 (((f_X12_corner_fw w2) 231 0 (by decide)).2.1.trans hq_j1) z1, z2⟩
    · unfold f_X11_corner at e1
      rw [w2] at e1
      cases e1
    · unfold f_X11_corner at e1
      rw [w2] at e1
      simp only [ob] at e1
      rw [if_neg (by decide), if_neg w4.1, if_neg w4.2.1, if_neg w4.2.2.1, if_neg w4.2.2.2.1, if_neg w4.2.2.2.2] at e1
      cases e1
  · have f2 : hq_fm s sm' := f_X12_corner_fr e1
    have I2 : hR HC sm' sm' := loc s sm' sm' sm' f2 (hq_fx_rf sm') h1
    obtain ⟨h', g', z1, z2⟩ := hK sm' (g + 1) (some (.int 1)) (some (.int 0)) I2 (by omega)
    exact ⟨h', g', lw_4t (u := 13) (k := 1) hd hi hl (corner_t1 (by omega) e2) e1 rfl e3 (by decide) z1, z2⟩
  · have f2 : hq_fm s sm' := f_X12_corner_fr e1
    have I2 : hR HC sm' sm' := loc s sm' sm' sm' f2 (hq_fx_rf sm') h1
    obtain ⟨h', g', z1, z2⟩ := hK sm' (g + 1) (some (.int 2)) (some (.int 0)) I2 (by omega)
    exact ⟨h', g', lw_4t (u := 14) (k := 2) hd hi hl (corner_t2 (by omega) e2 e4) e1 rfl e3 (by decide) z1, z2⟩
