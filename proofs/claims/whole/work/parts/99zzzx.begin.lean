/-! THE READER: how both begin -/
section
variable {s : hq_S} {k k' i : Nat} {g : Nat → Int32}
theorem w9_g : hq_gi (hq_w s k g) k i = g i := if_pos rfl
theorem w9_n (h : ¬ k' = k) : hq_gi (hq_w s k g) k' i = hq_gi s k' i := if_neg h
end
/-- what stays in the class while it reads into v -/
def kX (v : Nat) (s s' : hq_S) : Prop := ∀ k i, ¬ (v ≤ k ∧ k ≤ v + 22) → ¬ k = 48 → ¬ k = 49 → ¬ k = 75 → hq_gi s' k i = hq_gi s k i ∧ hq_gj s' k i = hq_gj s k i ∧ hq_gr s' k i = hq_gr s k i
theorem kX_rf (v : Nat) (s : hq_S) : kX v s s := fun _ _ _ _ _ _ => ⟨rfl, rfl, rfl⟩
theorem kX_tr {v : Nat} {s t u : hq_S} (h : kX v s t) (g : kX v t u) : kX v s u := fun k i h1 h2 h3 h4 => ⟨(g k i h1 h2 h3 h4).1.trans (h k i h1 h2 h3 h4).1, (g k i h1 h2 h3 h4).2.1.trans (h k i h1 h2 h3 h4).2.1, (g k i h1 h2 h3 h4).2.2.trans (h k i h1 h2 h3 h4).2.2⟩
def kxo (v : Nat) (W : List (Nat × Option Nat)) : Bool := W.all fun w => (Nat.ble v w.1 && Nat.ble w.1 (v + 22)) || (Nat.beq w.1 48 || (Nat.beq w.1 49 || Nat.beq w.1 75))
theorem kX_fc {v : Nat} {W : List (Nat × Option Nat)} {s s' : hq_S} (h : kxo v W = true) (f : hq_fc W s s') : kX v s s' := fun k i h1 h2 h3 h4 => f k i (by
  refine List.all_eq_true.mpr fun w hw => ?_
  have q := List.all_eq_true.mp h w hw
  have e : Nat.beq w.1 k = false := by
    cases e : Nat.beq w.1 k with
    | false => rfl
    | true =>
      have e := Nat.eq_of_beq_eq_true e
      rw [e] at q
      rcases Bool.or_eq_true_iff.mp q with q | q
      · obtain ⟨q1, q2⟩ := Bool.and_eq_true_iff.mp q
        rw [Nat.ble_eq] at q1 q2
        exact absurd ⟨q1, q2⟩ h1
      · rcases Bool.or_eq_true_iff.mp q with q | q
        · exact absurd (Nat.eq_of_beq_eq_true q) h2
        · rcases Bool.or_eq_true_iff.mp q with q | q
          · exact absurd (Nat.eq_of_beq_eq_true q) h3
          · exact absurd (Nat.eq_of_beq_eq_true q) h4
  rw [e]; rfl)
/-- what stays in the reference while it reads -/
def kM (s s' : hq_S) : Prop := (∀ k i, 175 ≤ k → ¬ (176 ≤ k ∧ k ≤ 193) → hq_gi s' k i = hq_gi s k i) ∧ (∀ k i, 176 ≤ k → k ≤ 193 → i < hf k → hq_gi s' k i = hq_gi s k i) ∧ ∀ i, 34 ≤ i → hq_gi s' 174 i = hq_gi s 174 i
theorem kM_tr {s t u : hq_S} (h : kM s t) (g : kM t u) : kM s u := ⟨fun k i h1 h2 => (g.1 k i h1 h2).trans (h.1 k i h1 h2), fun k i h1 h2 h3 => (g.2.1 k i h1 h2 h3).trans (h.2.1 k i h1 h2 h3), fun i hi => (g.2.2 i hi).trans (h.2.2 i hi)⟩
def kmo (W : List (Nat × Option Nat)) : Bool := W.all fun w => (Nat.ble 176 w.1 && Nat.ble w.1 193) || (Nat.beq w.1 174 && (match w.2 with
  | none => false
  | some b => Nat.blt b 34))
theorem kmo_nw {W : List (Nat × Option Nat)} (h : kmo W = true) {k i : Nat} (h1 : ¬ (176 ≤ k ∧ k ≤ 193)) (h2 : k = 174 → 34 ≤ i) : hq_nw W k i = true := by
  refine List.all_eq_true.mpr fun w hw => ?_
  have q := List.all_eq_true.mp h w hw
  obtain ⟨w1, w2⟩ := w
  dsimp only at q ⊢
  cases e : Nat.beq w1 k with
  | false => rfl
  | true =>
    have e := Nat.eq_of_beq_eq_true e
    rw [e] at q
    rcases Bool.or_eq_true_iff.mp q with q | q
    · obtain ⟨q1, q2⟩ := Bool.and_eq_true_iff.mp q
      rw [Nat.ble_eq] at q1 q2
      exact absurd ⟨q1, q2⟩ h1
    · obtain ⟨q1, q2⟩ := Bool.and_eq_true_iff.mp q
      have q1 := h2 (Nat.eq_of_beq_eq_true q1)
      cases w2 with
      | none => cases q2
      | some b =>
        dsimp only at q2 ⊢
        rw [Nat.blt_eq] at q2
        cases e : Nat.beq b i with
        | false => rfl
        | true =>
          have e := Nat.eq_of_beq_eq_true e
          omega
theorem kM_fc {W : List (Nat × Option Nat)} {s s' : hq_S} (h : kmo W = true) (f : hq_fc W s s') (K : hgK s s') : kM s s' := ⟨fun k i h1 h2 => (f k i (kmo_nw h h2 (by omega))).1, fun k i h1 h2 h3 => K k i h1 h2 h3, fun i hi => (f 174 i (kmo_nw h (by omega) (fun _ => hi))).1⟩
section
variable {N L v : Nat} {s : hq_S}
/-- the class's town, cleared -/
def clF (v : Nat) (s : hq_S) : Prop := (hq_gi s v 0 = 0 ∧ hq_gi s v 3 = 0 ∧ hq_gi s v 6 = 0 ∧ hq_gi s v 7 = 0 ∧ hq_gi s v 11 = 0 ∧ hq_gi s v 13 = 100 ∧ hq_gi s v 14 = 0 ∧ hq_gi s v 15 = 0) ∧ (hq_gi s (v + 9) 0 = 0 ∧ hq_gi s (v + 9) 1 = 0 ∧ hq_gi s (v + 14) 0 = 0 ∧ hq_gj s (v + 14) 1 = 0 ∧ hq_gi s (v + 14) 2 = 0) ∧ (∀ i, i < 3 → hq_gi s (v + 7) i = 0 ∧ hq_gi s (v + 11) i = 0 ∧ hq_gi s (v + 12) i = 0 ∧ hq_gi s (v + 17) i = 0 ∧ hq_gi s (v + 18) i = 0) ∧ (∀ i, i < 10 → hq_gi s (v + 15) i = 0) ∧ ∀ i, i < 4 → hq_gi s (v + 21) i = 0 ∧ hq_gi s (v + 22) i = -2
theorem hq_jn {k i k' i' : Nat} {x : Int64} (h : ¬ (k' = k ∧ i' = i)) : hq_gj (hq_sj s k i x) k' i' = hq_gj s k' i' := if_neg h
theorem hq_j1 {k i : Nat} {x : Int64} : hq_gj (hq_sj s k i x) k i = x := if_pos ⟨rfl, rfl⟩
theorem cl_w {k i : Nat} {g : Nat → Int32} {k' : Nat} : hq_gj (hq_w s k' g) k i = hq_gj s k i := rfl
theorem cl_f {k L : Nat} {x : Int32} {s : hq_S} (hk : hq_alI k = some L) (hk' : hq_alA k = some (Int32.ofNat L)) (hL : L < 100) (hN : 1000 < N) : ∃ s', f_J7_fill_53178 N k x s = some s' ∧ (∀ i, i < L → hq_gi s' k i = x) ∧ (∀ k' i, ¬ k' = k → hq_gi s' k' i = hq_gi s k' i) ∧ ∀ k' i, hq_gj s' k' i = hq_gj s k' i := by
  refine ⟨_, nb_fill hk hk' (by omega) (by omega), fun i hi => ?_, fun k' i h => w9_n h, fun _ _ => rfl⟩
  rw [w9_g, if_pos hi]
theorem clr (hN : 1000 < N) (hv : v = 2 ∨ v = 25) : ∃ s', f_X10_clear N v s = some s' ∧ clF v s' := by
  have al : (hq_alI (v + 7) = some 3 ∧ hq_alI (v + 11) = some 3 ∧ hq_alI (v + 12) = some 3 ∧ hq_alI (v + 15) = some 10 ∧ hq_alI (v + 16) = some 3 ∧ hq_alI (v + 17) = some 3 ∧ hq_alI (v + 18) = some 3) ∧ (hq_alI (v + 19) = some 4 ∧ hq_alI (v + 20) = some 4 ∧ hq_alI (v + 21) = some 4 ∧ hq_alI (v + 22) = some 4) := by
    rcases hv with rfl | rfl <;> exact ⟨⟨rfl, rfl, rfl, rfl, rfl, rfl, rfl⟩, rfl, rfl, rfl, rfl⟩
  have al' : (hq_alA (v + 7) = some (Int32.ofNat 3) ∧ hq_alA (v + 11) = some (Int32.ofNat 3) ∧ hq_alA (v + 12) = some (Int32.ofNat 3) ∧ hq_alA (v + 15) = some (Int32.ofNat 10) ∧ hq_alA (v + 16) = some (Int32.ofNat 3) ∧ hq_alA (v + 17) = some (Int32.ofNat 3) ∧ hq_alA (v + 18) = some (Int32.ofNat 3)) ∧ (hq_alA (v + 19) = some (Int32.ofNat 4) ∧ hq_alA (v + 20) = some (Int32.ofNat 4) ∧ hq_alA (v + 21) = some (Int32.ofNat 4) ∧ hq_alA (v + 22) = some (Int32.ofNat 4)) := by
    rcases hv with rfl | rfl <;> exact ⟨⟨rfl, rfl, rfl, rfl, rfl, rfl, rfl⟩, rfl, rfl, rfl, rfl⟩
  obtain ⟨⟨a7, a11, a12, a15, a16, a17, a18⟩, a19, a20, a21, a22⟩ := al
  obtain ⟨⟨b7, b11, b12, b15, b16, b17, b18⟩, b19, b20, b21, b22⟩ := al'
  have p1 : ∀ {s : hq_S} {k b : Nat}, hq_pi s k b 1 0 = some (hq_si s k b 0) := fun {s k b} => rfl
  obtain ⟨s1, e1, f1, n1, j1⟩ := cl_f (x := 0) (s := hq_si (hq_si (hq_si (hq_si s v 0 0) v 3 0) v 6 0) v 7 0) a7 b7 (by omega) hN
  obtain ⟨s2, e2, f2, n2, j2⟩ := cl_f (x := 0) (s := hq_si (hq_si (hq_si (hq_si (hq_si (hq_si s1 v 11 0) v 13 100) v 14 0) v 15 0) (v + 9) 0 0) (v + 9) 1 0) a11 b11 (by omega) hN
  obtain ⟨s3, e3, f3, n3, j3⟩ := cl_f (x := 0) (s := s2) a12 b12 (by omega) hN
  obtain ⟨s4, e4, f4, n4, j4⟩ := cl_f (x := 0) (s := hq_si (hq_sj (hq_si s3 (v + 14) 0 0) (v + 14) 1 0) (v + 14) 2 0) a15 b15 (by omega) hN
  obtain ⟨s5, e5, f5, n5, j5⟩ := cl_f (x := 0) (s := s4) a16 b16 (by omega) hN
  obtain ⟨s6, e6, f6, n6, j6⟩ := cl_f (x := 0) (s := s5) a17 b17 (by omega) hN
  obtain ⟨s7, e7, f7, n7, j7⟩ := cl_f (x := 0) (s := s6) a18 b18 (by omega) hN
  obtain ⟨s8, e8, f8, n8, j8⟩ := cl_f (x := 0) (s := s7) a19 b19 (by omega) hN
  obtain ⟨s9, e9, f9, n9, j9⟩ := cl_f (x := 0) (s := s8) a20 b20 (by omega) hN
  obtain ⟨s10, e10, f10, n10, j10⟩ := cl_f (x := 0) (s := s9) a21 b21 (by omega) hN
  obtain ⟨s11, e11, f11, n11, j11⟩ := cl_f (x := -2) (s := s10) a22 b22 (by omega) hN
  refine ⟨s11, ?_, ⟨?_, ?_, ?_, ?_, ?_, ?_, ?_, ?_⟩, ⟨?_, ?_, ?_, ?_, ?_⟩, fun i hi => ⟨?_, ?_, ?_, ?_, ?_⟩, fun i hi => ?_, fun i hi => ⟨?_, ?_⟩⟩
  · unfold f_X10_clear f_X4_clear f_X5_clear
    simp only [nn_pi, ob, p1, nn_pjv, e1, show v + 9 + 2 = v + 11 from rfl, show v + 9 + 3 = v + 12 from rfl, e2, e3, show v + 14 + 1 = v + 15 from rfl, show v + 14 + 2 = v + 16 from rfl, show v + 14 + 3 = v + 17 from rfl, show v + 14 + 4 = v + 18 from rfl, show v + 14 + 5 = v + 19 from rfl, show v + 14 + 6 = v + 20 from rfl, show v + 14 + 7 = v + 21 from rfl, show v + 14 + 8 = v + 22 from rfl, e4, e5, e6, e7, e8, e9, e10, e11]
  all_goals simp (disch := omega) only [f1, f2, f3, f4, f6, f7, f10, f11, n1, n2, n3, n4, n5, n6, n7, n8, n9, n10, n11, j1, j2, j3, j4, j5, j6, j7, j8, j9, j10, j11, nb_ji, nn_g1, nn_n, nb_ij, hq_j1, hq_jn]
/-- the class, ahead of the first token -/
theorem tx_X (hN : 1000 < N) (hv : v = 2 ∨ v = 25) (hL : L ≤ 700) : ∃ s6, f_X6_readText N 1 (Int32.ofNat L) v s = (f_X9_advance N s6).bind (fun s7 => f_X6_readText_L36 N N 1 (Int32.ofNat L) v s7) ∧ clF v s6 ∧ (hq_gr s6 48 1 = v ∧ hq_gr s6 49 1 = 1 ∧ hq_gi s6 48 7 = 0 ∧ hq_gi s6 48 8 = -1 ∧ hq_gi s6 48 9 = 0 ∧ hq_gi s6 49 2 = Int32.ofNat L ∧ hq_gi s6 49 3 = 0) ∧ kX v s s6 := by
  have hT : hq_isT v := hv
  obtain ⟨s3, c1, c2⟩ := clr (s := hq_sr s 48 1 v) hN hv
  have f3 : kX v (hq_sr s 48 1 v) s3 := kX_fc (by rcases hv with rfl | rfl <;> decide) (f_X10_clear_fw hT c1)
  have g3 : hq_gr s3 48 1 = v := ((f_X10_clear_fw hT c1) 48 1 (by rcases hv with rfl | rfl <;> decide)).2.2.trans (by rw [nb_rr, if_pos ⟨rfl, rfl⟩])
  have mn : hq_min (Int32.ofNat L) 700 = Int32.ofNat L := by
    unfold hq_min
    rw [if_neg (by rw [show (700 : Int32) = Int32.ofNat 700 from rfl, nn_lt (by omega) (by omega)]; omega)]
  have al : hq_alA 1 = some 700 := by decide +kernel
  refine ⟨hq_si (hq_si (hq_sr (hq_si (hq_si (hq_si s3 48 7 0) 48 8 (-1)) 48 9 0) 49 1 1) 49 2 (Int32.ofNat L)) 49 3 0, ?_, ?_, ?_, ?_⟩
  · unfold f_X6_readText f_X9_start
    have pr : ∀ {s : hq_S} {k b x : Nat}, hq_pr s k b x = some (hq_sr s k b x) := fun {s k b x} => rfl
    rw [pr]
    simp only [ob]
    rw [show hq_gr (hq_sr s 48 1 v) 48 1 = v from by rw [nb_rr, if_pos ⟨rfl, rfl⟩], if_pos hT, c1]
    simp only [ob, nn_pi, pr, al, mn]
    cases f_X9_advance N (hq_si (hq_si (hq_sr (hq_si (hq_si (hq_si s3 48 7 0) 48 8 (-1)) 48 9 0) 49 1 1) 49 2 (Int32.ofNat L)) 49 3 0) <;> rfl
  · obtain ⟨⟨h1, h2, h3, h4, h5, h6, h7, h8⟩, ⟨h9, h10, h11, h12, h13⟩, h14, h15, h16⟩ := c2
    have e : ∀ k i, (k = v ∨ v + 7 ≤ k ∧ k ≤ v + 22) → hq_gi (hq_si (hq_si (hq_sr (hq_si (hq_si (hq_si s3 48 7 0) 48 8 (-1)) 48 9 0) 49 1 1) 49 2 (Int32.ofNat L)) 49 3 0) k i = hq_gi s3 k i := fun k i hk => by
      rw [nn_n (by omega), nn_n (by omega), nb_ri, nn_n (by omega), nn_n (by omega), nn_n (by omega)]
    refine ⟨⟨?_, ?_, ?_, ?_, ?_, ?_, ?_, ?_⟩, ⟨?_, ?_, ?_, ?_, ?_⟩, fun i hi => ⟨?_, ?_, ?_, ?_, ?_⟩, fun i hi => ?_, fun i hi => ⟨?_, ?_⟩⟩
    all_goals first | exact h12 | rw [e _ _ (by omega)]
    all_goals first | assumption | exact (h14 i hi).1 | exact (h14 i hi).2.1 | exact (h14 i hi).2.2.1 | exact (h14 i hi).2.2.2.1 | exact (h14 i hi).2.2.2.2 | exact h15 i hi | exact (h16 i hi).1 | exact (h16 i hi).2
  · refine ⟨?_, ?_, ?_, ?_, ?_, ?_, ?_⟩
    · show hq_gr (hq_sr (hq_si (hq_si (hq_si s3 48 7 0) 48 8 (-1)) 48 9 0) 49 1 1) 48 1 = v
      rw [nb_rr, if_neg (by omega)]; exact g3
    · show hq_gr (hq_sr (hq_si (hq_si (hq_si s3 48 7 0) 48 8 (-1)) 48 9 0) 49 1 1) 49 1 = 1
      rw [nb_rr, if_pos ⟨rfl, rfl⟩]
    · rw [nn_n (by omega), nn_n (by omega), nb_ri, nn_n (by omega), nn_n (by omega), nn_g1]
    · rw [nn_n (by omega), nn_n (by omega), nb_ri, nn_n (by omega), nn_g1]
    · rw [nn_n (by omega), nn_n (by omega), nb_ri, nn_g1]
    · rw [nn_n (by omega), nn_g1]
    · rw [nn_g1]
  · intro k i h1 h2 h3 h4
    obtain ⟨q1, q2, q3⟩ := f3 k i h1 h2 h3 h4
    refine ⟨?_, q2, ?_⟩
    · rw [nn_n (by omega), nn_n (by omega), nb_ri, nn_n (by omega), nn_n (by omega), nn_n (by omega)]
      exact q1
    · show hq_gr (hq_sr (hq_si (hq_si (hq_si s3 48 7 0) 48 8 (-1)) 48 9 0) 49 1 1) k i = _
      rw [nb_rr, if_neg (by omega)]
      refine q3.trans ?_
      rw [nb_rr, if_neg (by omega)]
end
