/-! WALL: one more way gone, and the end -/
section
variable {N nc nl bar : Nat} {fr to on : Nat → Nat} {HC : hq_S → Prop}
theorem wa_put {f : Nat → Int} {s : hq_S} {k : Nat} {d : Int} (hk : k < nl) (q : bar.testBit k = false) (h1 : -1 ≤ f k + d) (h2 : f k + d ≤ 1) (h3 : on k = 1 → 0 ≤ f k + d) (M : wa_M nl nc bar fr to on f s) : wa_M nl nc bar fr to on (fun i => if i = k then f i + d else f i) (hq_si s 219 k (Int32.ofInt (f k) + Int32.ofInt d)) := by
  obtain ⟨M1, B, Bl, ok, F⟩ := M
  have e : ∀ c i, ¬ c = 219 → hq_gi (hq_si s 219 k (Int32.ofInt (f k) + Int32.ofInt d)) c i = hq_gi s c i := fun c i h => by rw [nb_ii, if_neg (fun z => h z.1)]
  refine ⟨?_, by rw [e _ _ (by omega)]; exact B, Bl, fun j hj => ?_, fun j hj => ?_⟩
  · unfold hl_M at M1 ⊢
    simp (disch := omega) only [e]
    exact M1
  · show (bar.testBit j = true → (if j = k then f j + d else f j) = 0) ∧ -1 ≤ (if j = k then f j + d else f j) ∧ (if j = k then f j + d else f j) ≤ 1 ∧ (on j = 1 → 0 ≤ (if j = k then f j + d else f j))
    by_cases z : j = k
    · rw [if_pos z, z]
      exact ⟨fun h => (by rw [q] at h; cases h), h1, h2, h3⟩
    · rw [if_neg z]
      exact ok j hj
  · show _ = Int32.ofInt (if j = k then f j + d else f j)
    rw [nb_ii]
    by_cases z : j = k
    · rw [if_pos ⟨rfl, z⟩, if_pos z, z, Int32.ofInt_add]
    · rw [if_neg (fun w => z w.2), if_neg z]
      exact F j hj
theorem wa_66 {q51 : Int32 → Int32 → Int32 → hq_S → Option (Int32 × hq_S)} {a t B R : Nat} {n : Int32} {r : Nat → Nat} {f0 : Nat → Int} {s0 : hq_S} {cc : Int} (hl : nl ≤ 20) (hnc : nc ≤ 10) (ha : a < nc) (J : wa_J nl nc bar a fr to on f0 r R B s0) : ∀ (q v m : Nat) (f : Nat → Int) (s : hq_S), r v = q → q < m → B.testBit v = true → wa_M nl nc bar fr to on f s → (∀ i, hq_gi s 220 i = hq_gi s0 220 i) → (∀ b k, B.testBit b = true → r b ≤ r v → ¬ b = a → k < nl → hq_gi s0 220 b = Int32.ofNat k → f k = f0 k) → (∀ S, wa_s fr to f S nl = cc * (wa_x S a - wa_x S t) + (wa_x S v - wa_x S t)) → ∃ f' s', f_X12_wall_L66 N q51 m (Int32.ofNat a) (Int32.ofNat t) n (Int32.ofNat v) s = q51 (Int32.ofNat a) (Int32.ofNat t) n s' ∧ wa_M nl nc bar fr to on f' s' ∧ (∀ S, wa_s fr to f' S nl = (cc + 1) * (wa_x S a - wa_x S t)) := by
  intro q
  induction q using Nat.strongRecOn with
  | ind q ih =>
    intro v m f s hq hm hv M h220 ag sm
    obtain ⟨m, rfl⟩ : ∃ j, m = j + 1 := ⟨m - 1, by omega⟩
    have hvn : v < nc := nb_tlt J.1 hv
    by_cases e : v = a
    · have c : Int32.ofNat v = Int32.ofNat a := by rw [e]
      refine ⟨f, s, by simp only [f_X12_wall_L66_s, f_X12_wall_L66_B, if_pos c], M, fun S => ?_⟩
      rw [sm S, e, Int.add_mul]
      omega
    · have c : ¬ Int32.ofNat v = Int32.ofNat a := fun z => e ((nn_inj (by omega) (by omega)).mp z)
      obtain ⟨k, hk, k2, k3, k4⟩ := J.2.2.2.2 v hv e
      obtain ⟨⟨m1, m2, m3, m4, m5⟩, -, -, ok, F⟩ := id M
      obtain ⟨y1, y2, y3, y4, y5, y6⟩ := m5 k hk
      obtain ⟨o1, o2, o3, o4⟩ := ok k hk
      have fk : f k = f0 k := ag v k hv (Nat.le_refl _) e hk k2
      have l0 : hq_ld s 220 10 (Int32.ofNat v) = some (Int32.ofNat k) := by rw [nn_ld (by omega) (by omega), h220, k2]
      have l1 : ∀ s' : hq_S, hq_gi s' 181 k = hq_gi s 181 k → hq_ld s' 181 40 (Int32.ofNat k) = some (Int32.ofNat (to k)) := fun s' h => by rw [nn_ld (by omega) (by omega), h, y4]
      have l2 : ∀ s' : hq_S, hq_gi s' 180 k = hq_gi s 180 k → hq_ld s' 180 40 (Int32.ofNat k) = some (Int32.ofNat (fr k)) := fun s' h => by rw [nn_ld (by omega) (by omega), h, y3]
      have l3 : hq_ld s 219 20 (Int32.ofNat k) = some (Int32.ofInt (f k)) := by rw [nn_ld (by omega) (by omega), F k hk]
      have st : ∀ x, hq_st s 219 20 (Int32.ofNat k) x = some (hq_si s 219 k x) := fun x => nn_st (by omega) (by omega)
      have e9 : ∀ x c i, ¬ c = 219 → hq_gi (hq_si s 219 k x) c i = hq_gi s c i := fun x c i h => by rw [nb_ii, if_neg (fun z => h z.1)]
      have d10 : ¬ (1 : Int32) = 0 := by decide
      have q2 := nb_eq (show to k < 2147483648 by omega) (show v < 2147483648 by omega)
      have agr : ∀ (d : Int) (v' : Nat), r v' < r v → ((to k = v ∧ r (fr k) < r v) ∨ (fr k = v ∧ r (to k) < r v)) → ∀ b k', B.testBit b = true → r b ≤ r v' → ¬ b = a → k' < nl → hq_gi s0 220 b = Int32.ofNat k' → (fun i => if i = k then f i + d else f i) k' = f0 k' := fun d v' hv' hkv b k' hb hr hba hk' hb' => by
        show (if k' = k then f k' + d else f k') = f0 k'
        rw [if_neg]
        · exact ag b k' hb (by omega) hba hk' hb'
        · intro z
          subst z
          obtain ⟨k1, i1, i2, -, i4⟩ := J.2.2.2.2 b hb hba
          rw [hb'] at i2
          have i2 : k' = k1 := (nn_inj (by omega) (by omega)).mp i2
          subst i2
          rcases hkv with ⟨g1, g2⟩ | ⟨g1, g2⟩ <;> rcases i4 with ⟨j1, -, j3, -⟩ | ⟨j1, -, j3, -⟩
          · rw [g1] at j1; rw [← j1] at hr; omega
          · rw [g1] at j3; omega
          · rw [g1] at j3; omega
          · rw [g1] at j1; rw [← j1] at hr; omega
      have upd := fun S (d : Int) => wa_upd (fr := fr) (to := to) (f := f) (S := S) (k0 := k) (d := d) nl
      rcases k4 with ⟨c1, c2, c3, c4⟩ | ⟨c1, c2, c3, c4⟩
      · have M' := wa_put (d := 1) hk k3 (by omega) (by omega) (fun h => by have := o4 h; omega) M
        obtain ⟨f', s', r1, r2⟩ := ih (r (fr k)) (by omega) (fr k) m _ _ rfl (by omega) c2 M' (fun i => (e9 _ _ _ (by omega)).trans (h220 i)) (agr 1 (fr k) c3 (Or.inl ⟨c1, c3⟩)) (fun S => by rw [upd S 1, if_pos hk, sm S, c1]; omega)
        refine ⟨f', s', ?_, r2⟩
        rw [← r1]
        have z1 : (1 : Int32) = Int32.ofInt 1 := rfl
        simp only [f_X12_wall_L66_s, f_X12_wall_L66_B, if_neg c, l0, l1 s rfl, Option.bind_some, q2, if_pos c1, l3, if_neg d10, st, l2 _ (e9 _ 180 k (by omega))]
        rw [z1]
      · have nto : ¬ to k = v := fun z => by rw [z] at c3; omega
        have M' := wa_put (d := -1) hk k3 (by by_cases o : on k = 1 <;> simp only [o, if_true, if_false] at c4 <;> omega) (by omega) (fun h => by rw [if_pos h] at c4; omega) M
        obtain ⟨f', s', r1, r2⟩ := ih (r (to k)) (by omega) (to k) m _ _ rfl (by omega) c2 M' (fun i => (e9 _ _ _ (by omega)).trans (h220 i)) (agr (-1) (to k) c3 (Or.inr ⟨c1, c3⟩)) (fun S => by rw [upd S (-1), if_pos hk, sm S, c1]; omega)
        refine ⟨f', s', ?_, r2⟩
        rw [← r1]
        have z1 : (-1 : Int32) = Int32.ofInt (-1) := by decide
        simp only [f_X12_wall_L66_s, f_X12_wall_L66_B, if_neg c, l0, l1 s rfl, Option.bind_some, q2, if_neg nto, l3, if_true, st, l1 _ (e9 _ 181 k (by omega))]
        rw [← z1]
theorem wa_51 {a t : Nat} (hN : 1100 < N) (ha : a < nc) (ht : t < nc) (hat : ¬ a = t) (ho : ∀ k, k < nl → on k ≤ 1) : ∀ (q n m : Nat) (f : Nat → Int) (s : hq_S), n + q = 21 → q < m → wa_M nl nc bar fr to on f s → (∀ S, wa_s fr to f S nl = (n : Int) * (wa_x S a - wa_x S t)) → ∃ s', f_X12_wall_L51 N m (Int32.ofNat a) (Int32.ofNat t) (Int32.ofNat n) s = some (Int32.ofNat (wa_m fr to on bar nl a t (2 ^ nc)), s') := by
  have cut : ∀ (n : Nat) (f : Nat → Int) (s : hq_S), wa_M nl nc bar fr to on f s → (∀ S, wa_s fr to f S nl = (n : Int) * (wa_x S a - wa_x S t)) → ∀ S, S.testBit a = true → S.testBit t = false → n ≤ wa_o fr to on bar S nl := fun n f s M sm S h1 h2 => by
    have h := wa_le (fr := fr) (to := to) (S := S) ho M.2.2.2.1 nl (Nat.le_refl _)
    rw [sm S, wa_x, wa_x, if_pos h1, h2, if_neg (by decide)] at h
    omega
  intro q
  induction q with
  | zero =>
    intro n m f s hn hm M sm
    have h := cut n f s M sm (2 ^ a) (by rw [nb_2p]; exact decide_eq_true rfl) (by rw [nb_2p]; exact decide_eq_false hat)
    have h2 := wa_o_le (fr := fr) (to := to) (on := on) (bar := bar) (S := 2 ^ a) nl
    have h3 := M.1.2.1
    omega
  | succ q ih =>
    intro n m f s hn hm M sm
    obtain ⟨m, rfl⟩ : ∃ j, m = j + 1 := ⟨m - 1, by omega⟩
    obtain ⟨B, R, r, s1, e1, J, k1, cl⟩ := wa_find (N := N) hN ha ht M
    have M1 := wa_M_k k1 M
    have d10 : ¬ (1 : Int32) = 0 := by decide
    have hB := nb_1024 M.1.1 J.1
    by_cases qt : B.testBit t = true
    · rw [if_pos qt] at e1
      have rt := J.2.2.2.1 t qt
      have rR := J.2.2.1
      obtain ⟨f', s', f1, f2, f3⟩ := wa_66 (N := N) (q51 := f_X12_wall_L51 N m) (t := t) (n := Int32.ofNat (n + 1)) (cc := (n : Int)) M.1.2.1 M.1.1 ha J (r t) t N f s1 rfl (by omega) qt M1 (fun _ => rfl) (fun _ _ _ _ _ _ _ => rfl) (fun S => by rw [sm S]; omega)
      obtain ⟨s2, g⟩ := ih (n + 1) m f' s' (by omega) (by omega) f2 (fun S => by rw [f3 S]; rfl)
      refine ⟨s2, ?_⟩
      rw [← g, ← f1]
      simp only [f_X12_wall_L51_s, f_X12_wall_L51_B, e1, Option.bind_some, if_neg d10, nn_succ]
    · have qt' : B.testBit t = false := by cases z : B.testBit t with | true => exact absurd z qt | false => rfl
      rw [if_neg qt] at e1
      have en : wa_m fr to on bar nl a t (2 ^ nc) = n := by
        have h1 := wa_eq (fr := fr) (to := to) (B := B) ho M.2.2.2.1 (cl qt') nl (Nat.le_refl _)
        rw [sm B, wa_x, wa_x, if_pos J.2.1, qt', if_neg (by decide)] at h1
        have h2 : n = wa_o fr to on bar B nl := by omega
        have h3 := wa_m_le (fr := fr) (to := to) (on := on) (bar := bar) (nl := nl) J.2.1 qt' (2 ^ nc) J.1
        have h4 := wa_o_le (fr := fr) (to := to) (on := on) (bar := bar) (S := B) nl
        have h5 := M.1.2.1
        have h6 := wa_m_ge (fr := fr) (to := to) (on := on) (bar := bar) (nl := nl) (n := n) (a := a) (b := t) (by omega) (cut n f s M sm) (2 ^ nc)
        omega
      rw [en]
      exact ⟨s1, by simp only [f_X12_wall_L51_s, f_X12_wall_L51_B, e1, Option.bind_some, if_true]⟩
theorem wa_30 {a t : Int32} : ∀ (q j m : Nat) (s : hq_S), j + q = 20 → q < m → (∀ i, i < j → hq_gi s 219 i = 0) → ∃ s', f_X12_wall_L30 N m a t (Int32.ofNat j) s = f_X12_wall_L51 N N a t 0 s' ∧ (∀ i, i < 20 → hq_gi s' 219 i = 0) ∧ ∀ c i, ¬ c = 219 → hq_gi s' c i = hq_gi s c i := by
  intro q
  induction q with
  | zero =>
    intro j m s hj hm h
    obtain ⟨m, rfl⟩ : ∃ j, m = j + 1 := ⟨m - 1, by omega⟩
    have c : ¬ Int32.ofNat j < (20 : Int32) := by rw [nb_lit 20, nn_lt (by omega) (by omega)]; omega
    exact ⟨s, by simp only [f_X12_wall_L30_s, f_X12_wall_L30_B, if_neg c], fun i hi => h i (by omega), fun _ _ _ => rfl⟩
  | succ q ih =>
    intro j m s hj hm h
    obtain ⟨m, rfl⟩ : ∃ j, m = j + 1 := ⟨m - 1, by omega⟩
    have c : Int32.ofNat j < (20 : Int32) := by rw [nb_lit 20, nn_lt (by omega) (by omega)]; omega
    have st : hq_st s 219 20 (Int32.ofNat j) 0 = some (hq_si s 219 j 0) := nn_st (by omega) (by omega)
    obtain ⟨s', e1, e2, e3⟩ := ih (j + 1) m (hq_si s 219 j 0) (by omega) (by omega) (fun i hi => by
      rw [nb_ii]
      by_cases z : i = j
      · rw [if_pos ⟨rfl, z⟩]
      · rw [if_neg (fun w => z w.2)]; exact h i (by omega))
    refine ⟨s', ?_, e2, fun c i h => (e3 c i h).trans (by rw [nb_ii, if_neg (fun z => h z.1)])⟩
    rw [← e1]
    simp only [f_X12_wall_L30_s, f_X12_wall_L30_B, if_pos c, st, Option.bind_some, nn_succ]
theorem wa_s0 {S : Nat} : ∀ n, wa_s fr to (fun _ => 0) S n = 0
  | 0 => rfl
  | n + 1 => by rw [wa_s, wa_s0 n]; omega
theorem hs_op_30 (hc : hc_loc HC) (hN : 1100 < N) (a1 a2 : Int32) : hq_Sim (hR HC) (f_X11_wall N a1 a2) (f_X12_wall N a1 a2) := hs_mk hc (WX := w_X11_wall) (WM := w_X12_wall) (by decide) (by decide) (by decide) (fun _ _ => f_X11_wall_fw) (fun _ _ => f_X12_wall_fw) fun sx sm R => by
  obtain ⟨nc, nl, ng, nt, t, bar, fr, to, on, TT⟩ := R.2.2.2.2.2
  obtain ⟨I, T⟩ := hT_th 0 R.2.2.1 TT
  obtain ⟨⟨t1, t2, t3⟩, ⟨⟨b1, b2, b3, b4⟩, ⟨c1, c2, -⟩, -⟩, ⟨X, M, S, F, B, Bl⟩, W, -⟩ := T
  have iT : hq_isT t := t2
  have d10 : ¬ (1 : Int32) = 0 := by decide
  rcases hs_isCorner (N := N) (a := a1) (by omega) t1 t2 c1 c2 with ⟨a, ha, rfl, e1, e2⟩ | ⟨e1, e2⟩
  · rcases hs_isCorner (N := N) (a := a2) (by omega) t1 t2 c1 c2 with ⟨b, hb, rfl, e3, e4⟩ | ⟨e3, e4⟩
    · by_cases ab : Int32.ofNat a = Int32.ofNat b
      · exact ⟨-1, sx, hq_si sm 174 0 0, by simp only [f_X11_wall, e1, e3, Option.bind_some, if_neg d10, if_pos ab], by simp only [f_X12_wall, nn_pi, e2, e4, Option.bind_some, if_neg d10, if_pos ab]⟩
      · have nab : ¬ a = b := fun z => ab (by rw [z])
        have bx : hq_gi sx 76 2 = Int32.ofNat bar := by
          obtain ⟨d, hd, dx, dm⟩ := W.2.2.1
          rw [B] at dm
          rw [dx, (nn_inj (by omega) (by omega)).mp dm]
        have ho : ∀ k, k < nl → on k ≤ 1 := fun k hk => (M.2.2.2.2 k hk).2.2.2.2.1
        have rx := wa_X2 (N := N) (t := t) (a := a) (b := b) (s := sx) (bar := bar) hN (by omega) ha hb X
        obtain ⟨s1, f1, f2, f3⟩ := wa_30 (N := N) (a := Int32.ofNat a) (t := Int32.ofNat b) 20 0 N (hq_si sm 174 0 0) (by omega) (by omega) (fun i hi => by omega)
        have f1 : f_X12_wall_L30 N N (Int32.ofNat a) (Int32.ofNat b) 0 (hq_si sm 174 0 0) = _ := f1
        have Mw : wa_M nl nc bar fr to on (fun _ => 0) s1 := by
          refine ⟨?_, by rw [f3 _ _ (by omega)]; exact B, Bl, fun k hk => ⟨fun _ => rfl, (by decide : (-1 : Int) ≤ 0), (by decide : (0 : Int) ≤ 1), fun _ => Int.le_refl _⟩, fun k hk => by rw [f2 k (by have := M.2.1; omega)]; rfl⟩
          unfold hl_M at M ⊢
          simp (disch := omega) only [f3]
          exact M
        obtain ⟨s2, g⟩ := wa_51 (N := N) (a := a) (t := b) hN ha hb nab ho 21 0 N (fun _ => 0) s1 (by omega) (by omega) Mw (fun S => by rw [wa_s0]; simp)
        have g : f_X12_wall_L51 N N (Int32.ofNat a) (Int32.ofNat b) 0 s1 = _ := g
        exact ⟨Int32.ofNat (wa_m fr to on bar nl a b (2 ^ nc)), sx, s2, by simp only [f_X11_wall, e1, e3, Option.bind_some, if_neg d10, if_neg ab, t1, if_pos iT, bx, rx], by simp only [f_X12_wall, nn_pi, e2, e4, Option.bind_some, if_neg d10, if_neg ab, f1, g]⟩
    · exact ⟨-1, sx, hq_si sm 174 0 0, by simp only [f_X11_wall, e1, e3, Option.bind_some, if_neg d10, if_true], by simp only [f_X12_wall, nn_pi, e2, e4, Option.bind_some, if_neg d10, if_true]⟩
  · exact ⟨-1, sx, hq_si sm 174 0 0, by simp only [f_X11_wall, e1, Option.bind_some, if_true], by simp only [f_X12_wall, nn_pi, e2, Option.bind_some, if_true]⟩
end
