/-! TRIED -/
def hd_Mt : List (Nat × Option Nat) := [(174, some 2), (174, some 30), (174, some 31), (174, some 47), (174, some 48), (174, some 53), (174, some 74), (174, some 75), (175, none), (176, none), (177, none), (178, none), (179, none), (180, none), (181, none), (182, none), (183, none), (184, none), (185, none), (186, none), (187, none), (188, none), (189, none), (190, none), (191, none), (192, none), (193, none), (212, none), (224, none), (225, none), (226, none), (227, none), (228, none)]
def hd_Mb : List (Nat × Option Nat) := [(174, some 2), (174, some 30), (174, some 31), (174, some 47), (174, some 48), (174, some 49), (174, some 50), (174, some 74), (174, some 75), (175, none), (176, none), (177, none), (178, none), (179, none), (180, none), (181, none), (182, none), (183, none), (184, none), (185, none), (186, none), (187, none), (188, none), (189, none), (190, none), (191, none), (192, none), (193, none), (212, none), (224, none), (225, none), (226, none), (227, none), (228, none)]
theorem hd_split {D E F : List (Nat × Option Nat)} (h : hd_in D (E ++ F) = true) (k i : Nat) (hk : hq_ind D k i = true) : hq_ind E k i = true ∨ hq_ind F k i = true := by
  have h1 := hd_sub h k i hk
  unfold hq_ind at h1 ⊢
  rw [List.any_append, Bool.or_eq_true] at h1
  exact h1
theorem hd_one {c b k i : Nat} (h : hq_ind [(c, some b)] k i = true) : k = c ∧ i = b := by
  unfold hq_ind at h
  rw [List.any_cons, List.any_nil, Bool.or_false, Bool.and_eq_true] at h
  exact ⟨(Nat.eq_of_beq_eq_true h.1).symm, (Nat.eq_of_beq_eq_true h.2).symm⟩
section
variable {N nc nl ng nt t u k l bar : Nat} {fr to on : Nat → Nat} {both : Bool} {bn : Int32} {o sx sx' sm sm' : hq_S} {HC : hq_S → Prop}
theorem ly_both {fr to on : Nat → Nat} {a b : Nat} : ∀ n c, ly_nx fr to on a true n c = ly_nx fr to on b true n c := by
  intro n
  induction n with
  | zero => intro c; rfl
  | succ n ih =>
    intro c
    have n1 : ∀ p : Prop, ¬ (true = false ∧ p) := fun p h => by cases h.1
    rw [ly_nx, ly_nx, if_neg (n1 _), if_neg (n1 _), ih c]
/-- other modes: only the hours' own words and the reference's change -/
theorem hh_P_mode (P : hh_P nc nl ng nt t u k l fr to on bar false bn o sx sm) (ex : ∀ c i, ¬ c = 113 → hq_gi sx' c i = hq_gi sx c i) (ej : ∀ c i, hq_gj sx' c i = hq_gj sx c i) (er : ∀ c i, hq_gr sx' c i = hq_gr sx c i) (em : ∀ c i, ¬ c = 174 → hq_gi sm' c i = hq_gi sm c i) (e3 : hq_gi sm' 174 53 = hq_gi sm 174 53) (e4 : hq_gi sm' 174 54 = hq_gi sm 174 54) (n4 : ¬ hq_gi sm' 174 49 = 4) (Mo : hh_M bn sx' sm') : hh_P nc nl ng nt t u k l fr to on bar false bn o sx' sm' := by
  obtain ⟨T, ⟨t2, u2, k2⟩, ⟨r0, r1, r2⟩, X, F, ⟨M, B, Bl, bo⟩, W, -, O⟩ := P
  have b := T.1
  refine ⟨hr_told_f t2 (fun c i hc => ex c i (by omega)) (fun c i _ => ej c i) (fun c i h1 h2 => em c i (by omega)) T, ⟨t2, u2, k2⟩, ⟨by rw [er]; exact r0, by rw [er]; exact r1, by rw [er]; exact r2⟩, ⟨by rw [ex _ _ (by omega)]; exact X.1, fun c hc => by rw [ex _ _ (by omega)]; exact X.2 c hc⟩, fun a b ha hb => by rw [ex _ _ (by omega)]; exact F a b ha hb, ⟨?_, by rw [em _ _ (by omega)]; exact B, Bl, ⟨fun h => (by cases h), fun h => absurd h n4⟩⟩, ?_, Mo, fun c i h1 h2 h3 => (em c i (by omega)).trans (O c i h1 h2 h3)⟩
  · unfold hl_M at M ⊢
    simp (disch := decide) only [em]
    exact M
  · exact hn_N_k (by omega) (by omega) (by omega) (fun c i h1 h2 => ex c i (by omega)) (ej _ _) (fun c i h => em c i (by unfold hm_sl at h; omega)) (fun i => em _ _ (by omega)) (fun i _ => by
      unfold hn_bold
      rw [e3, e4, em 189 i (by omega)]) W
theorem hR_gi (e : ∀ k i, hq_gi sm' k i = hq_gi sm k i) (h : hR HC sx sm) : hR HC sx sm' := by
  revert h
  unfold hR hr_tape hr_flt hr_idle hr_T hr_told hr_rule hr_str hl_M hr_img hn_N hn_bold hr_facts hu_all hu_deed hu_sl
  simp only [e, imp_self]
theorem hs_op_42 (hc : hc_loc HC) (hN : 300 < N) (a1 a2 a3 : Int32) : hq_Sim (hR HC) (f_X11_tried N a1 a2 a3) (f_X12_tried N a1 a2 a3) := fun sx sm R => by
  have R2 := hR_th hc (x := 0) R
  obtain ⟨nc, nl, ng, nt, t, bar, fr, to, on, TT⟩ := R.2.2.2.2.2
  obtain ⟨I, T⟩ := hT_th 0 R.2.2.1 TT
  have T0 := T
  obtain ⟨⟨t1, t2, t3⟩, ⟨⟨b1, b2, b3, b4⟩, ⟨c1, c2, -, -, g1, g2, d1, d2⟩, -⟩, ⟨X, -⟩, -⟩ := T
  have d10 : ¬ (1 : Int32) = 0 := by decide
  have iT : hq_isT t := t2
  have n200 : (200 : Int32) = Int32.ofNat 200 := rfl
  -- behind the tests: the reference's mode z, the class's state sxm
  have run : ∀ (n : Nat) (u : Nat) (both : Bool) (z : Int32) (sx1 sm1 sxm : hq_S), n ≤ 200 → f_X11_playAsItGoes N sx = some sx1 → f_X12_copies N 1 0 (hq_si sm 174 0 0) = some sm1 → hh_P nc nl ng nt t u 94 1 fr to on bar both 0 (hq_si sm 174 0 0) sxm (hq_si (hq_si sm1 174 49 z) 174 50 a2) → hq_gr sxm 0 2 = t → ∃ v sx' sm', f_X11_tried_J144 N a1 a2 (Int32.ofNat n) sxm = some (v, sx') ∧ ((f_X12_goesOn N (Int32.ofNat n) (hq_si (hq_si sm1 174 49 z) 174 50 a2)).bind fun s16 => (hq_pi s16 174 49 0 (0 : Int32)).bind fun s17 => (hq_pi s17 174 50 0 (-1 : Int32)).bind fun s18 => (f_X12_sumOf N 204 (4 : Int32) (1 : Int32) s18).bind fun y19 => some (y19.1, y19.2)) = some (v, sm') ∧ hm_o 1 (hq_si sm 174 0 0) sm' ∧ hq_gi sm' 174 49 = 0 ∧ hq_gi sm' 174 50 = -1 := by
    intro n u both z sx1 sm1 sxm hn p1 p2 P r
    obtain ⟨sx2, sm2, q1, q2, P2⟩ := hp_many (N := N) hN hn P
    have W2 : hn_N nc ng nt 94 1 sx2 (hq_si (hq_si sm2 174 49 0) 174 50 (-1)) := hn_N_k (sx := sx2) (sm := sm2) b1 b3 b4 (fun _ _ _ _ => rfl) rfl (fun c i h => by rw [nn_gk (by unfold hm_sl at h; omega), nn_gk (by unfold hm_sl at h; omega)]) (fun i => by rw [nn_gk (by omega), nn_gk (by omega)]) (fun i _ => by
      unfold hn_bold
      rw [nn_gn (s := hq_si sm2 174 49 0) (k := 174) (i := 50) (k' := 174) (i' := 53) (x := -1) (by omega), nn_gn (s := sm2) (k := 174) (i := 49) (k' := 174) (i' := 53) (x := 0) (by omega), nn_gn (s := hq_si sm2 174 49 0) (k := 174) (i := 50) (k' := 174) (i' := 54) (x := -1) (by omega), nn_gn (s := sm2) (k := 174) (i := 49) (k' := 174) (i' := 54) (x := 0) (by omega), nn_gk (s := hq_si sm2 174 49 0) (k := 174) (i := 50) (k' := 189) (i' := i) (x := -1) (by omega), nn_gk (s := sm2) (k := 174) (i := 49) (k' := 189) (i' := i) (x := 0) (by omega)]) P2.2.2.2.2.2.2.1
    obtain ⟨v, v1, v2⟩ := hp_had (N := N) (l := 1) (by omega) (by omega) b4 W2
    have v2 : f_X12_sumOf N 204 4 1 (hq_si (hq_si sm2 174 49 0) 174 50 (-1)) = some (v, hq_si (hq_si sm2 174 49 0) 174 50 (-1)) := v2
    have ex := P2.1.2.1.2.2.2.2.2.2.1
    have r2 : hq_gr sx2 0 2 = t := by
      rw [(f_X3_passMany_fw (u := 94) (Or.inr rfl) P.2.2.1.2.2 q1 0 2 (by decide)).2.2]
      exact r
    refine ⟨v, sx2, hq_si (hq_si sm2 174 49 0) 174 50 (-1), ?_, ?_, fun c i h1 h2 h3 => ?_, ?_, nn_g1⟩
    · simp only [f_X11_tried_J144, q1, Option.bind_some, r2, if_pos iT, ex, v1]
    · simp only [q2, nn_pi, Option.bind_some, v2]
    · rw [nn_gk (by omega), nn_gk (by omega)]; exact P2.2.2.2.2.2.2.2.2 c i h1 h2 h3
    · rw [nn_gn (by omega), nn_g1]
  have fin : ∀ v sx' sm', f_X11_tried N a1 a2 a3 sx = some (v, sx') → f_X12_tried N a1 a2 a3 sm = some (v, sm') → hm_o 1 (hq_si sm 174 0 0) sm' → hq_gi sm' 174 49 = 0 → hq_gi sm' 174 50 = -1 → ∃ v sx' sm', f_X11_tried N a1 a2 a3 sx = some (v, sx') ∧ f_X12_tried N a1 a2 a3 sm = some (v, sm') ∧ hR HC sx' sm' := fun v sx' sm' e1 e2 O h49 h50 => by
    have kx := f_X11_tried_fw e1
    have km := f_X12_tried_fw e2
    refine ⟨v, sx', sm', e1, e2, hR_gi (sm := (sm'.1, sm.2)) (fun _ _ => rfl) (hR_k (sx := sx) (sm := sm) hc (kx.kp (by decide)) (fun k i hk => ?_) (hm_o_th O) R)⟩
    rcases hd_split (D := hd_M) (E := hd_Mt) (F := [(174, some 49)] ++ [(174, some 50)]) (by decide) k i hk with h | h
    · exact ⟨((km.kp (D := hd_Mt) (by decide)) k i h).1, rfl, rfl⟩
    · rcases hd_split (D := [(174, some 49)] ++ [(174, some 50)]) (E := [(174, some 49)]) (F := [(174, some 50)]) (by decide) k i h with h | h
      · obtain ⟨rfl, rfl⟩ := hd_one h
        exact ⟨h49.trans R.2.2.1.1.symm, rfl, rfl⟩
      · obtain ⟨rfl, rfl⟩ := hd_one h
        exact ⟨h50.trans R.2.2.1.2.1.symm, rfl, rfl⟩
  have base := hp_asItGoes (N := N) (by omega) I T0
  obtain ⟨sx1, sm1, p1, p2, P, r⟩ := base
  have tw : hq_gi sm1 174 49 = 0 := by rw [(f_X12_copies_fw p2 174 49 rfl).1]; exact I.1
  have MM := P.2.2.2.2.2.2.2.1
  have m5 : hq_gi sx1 113 5 = 1 := by
    rcases MM.1 with ⟨-, h⟩ | ⟨h, -⟩
    · rw [tw] at h; exact absurd h (by decide)
    · exact h
  have m4 : hq_gi sx1 113 4 = -1 := by
    rcases MM.2.1 with ⟨h, -⟩ | ⟨h, -⟩
    · exact h
    · rw [tw] at h; exact absurd h (by decide)
  have m3 : hq_gi sx1 113 3 = 1 := by
    rcases MM.2.2 with ⟨-, h⟩ | ⟨-, h⟩ | ⟨-, -, ⟨h, -⟩ | ⟨-, h⟩⟩
    · rw [tw] at h; exact absurd h (by decide)
    · rw [tw] at h; exact absurd h (by decide)
    · exact h
    · exact absurd h (by decide)
  -- words of the hours and of the reference
  have em : ∀ (z : Int32) c i, ¬ c = 174 → hq_gi (hq_si (hq_si sm1 174 49 z) 174 50 a2) c i = hq_gi sm1 c i := fun z c i h => by rw [nn_gk h, nn_gk h]
  have e49 : ∀ z : Int32, hq_gi (hq_si (hq_si sm1 174 49 z) 174 50 a2) 174 49 = z := fun z => by rw [nn_gn (by omega), nn_g1]
  have e50 : ∀ z : Int32, hq_gi (hq_si (hq_si sm1 174 49 z) 174 50 a2) 174 50 = a2 := fun z => nn_g1
  have e53 : ∀ z : Int32, hq_gi (hq_si (hq_si sm1 174 49 z) 174 50 a2) 174 53 = hq_gi sm1 174 53 := fun z => by rw [nn_gn (by omega), nn_gn (by omega)]
  have e54 : ∀ z : Int32, hq_gi (hq_si (hq_si sm1 174 49 z) 174 50 a2) 174 54 = hq_gi sm1 174 54 := fun z => by rw [nn_gn (by omega), nn_gn (by omega)]
  have mode : ∀ (p : Nat) (x z : Int32), ¬ z = 4 → hh_M 0 (hq_si sx1 113 p x) (hq_si (hq_si sm1 174 49 z) 174 50 a2) → hh_P nc nl ng nt t 103 94 1 fr to on bar false 0 (hq_si sm 174 0 0) (hq_si sx1 113 p x) (hq_si (hq_si sm1 174 49 z) 174 50 a2) := fun p x z hz Mo => hh_P_mode P (fun c i h => nn_gk h) (fun _ _ => rfl) (fun _ _ => rfl) (em z) (e53 z) (e54 z) (by rw [e49]; exact hz) Mo
  have no : f_X11_tried N a1 a2 a3 sx = some (-1, sx) → f_X12_tried N a1 a2 a3 sm = some (-1, hq_si sm 174 0 0) → ∃ v sx' sm', f_X11_tried N a1 a2 a3 sx = some (v, sx') ∧ f_X12_tried N a1 a2 a3 sm = some (v, sm') ∧ hR HC sx' sm' := fun e1 e2 => ⟨-1, sx, hq_si sm 174 0 0, e1, e2, R2⟩
  have d5 : ¬ (5 : Int32) = 4 := by decide
  rcases nn_5 a1 with (rfl | rfl | rfl | rfl | rfl) | ⟨hb, h0, h1, h2, h3, h4⟩
  · by_cases qa : a2 = 0
    · subst qa
      rcases nn_le (a := a3) (n := 200) (by omega) with ⟨n, hn, rfl, k0, k2⟩ | k0 | ⟨k0, k2⟩
      · rw [← n200] at k2
        have Mo : hh_M 0 (hq_si sx1 113 3 2) (hq_si (hq_si sm1 174 49 5) 174 50 0) := by
          unfold hh_M
          rw [e49, nn_gn (show ¬ 5 = 3 by omega), nn_gn (show ¬ 4 = 3 by omega), nn_g1, m5, m4]
          exact ⟨Or.inr ⟨rfl, by decide⟩, Or.inl ⟨rfl, by decide⟩, Or.inl ⟨rfl, rfl⟩⟩
        obtain ⟨v, sx', sm', r1, r2, O, h49, h50⟩ := run n 103 false 5 sx1 sm1 _ hn p1 p2 (mode 3 2 5 (by decide) Mo) r
        refine fin v sx' sm' ?_ ?_ O h49 h50
        · simp (config := {decide := true}) only [f_X11_tried, f_X11_tried_J42, if_neg k0, if_neg k2, Option.bind_some, p1, nn_pi, reduceIte]
          exact r1
        · simp (config := {decide := true}) only [f_X12_tried, nn_pi, Option.bind_some, if_neg k0, if_neg k2, p2, reduceIte]
          exact r2
      · exact no (by simp (config := {decide := true}) only [f_X11_tried, if_pos k0, reduceIte]) (by simp (config := {decide := true}) only [f_X12_tried, nn_pi, Option.bind_some, if_pos k0, reduceIte])
      · rw [← n200] at k2
        exact no (by simp (config := {decide := true}) only [f_X11_tried, if_neg k0, if_pos k2, reduceIte]) (by simp (config := {decide := true}) only [f_X12_tried, nn_pi, Option.bind_some, if_neg k0, if_pos k2, reduceIte])
    · refine no ?_ (by simp (config := {decide := true}) only [f_X12_tried, nn_pi, if_neg qa, Option.bind_some, reduceIte])
      by_cases k0 : a3 < 0
      · simp (config := {decide := true}) only [f_X11_tried, if_pos k0, reduceIte]
      · by_cases k2 : (200 : Int32) < a3
        · simp (config := {decide := true}) only [f_X11_tried, if_neg k0, if_pos k2, reduceIte]
        · simp (config := {decide := true}) only [f_X11_tried, if_neg k0, if_neg k2, if_neg qa, reduceIte]
  · by_cases qa : a2 = 0
    · subst qa
      rcases nn_le (a := a3) (n := 200) (by omega) with ⟨n, hn, rfl, k0, k2⟩ | k0 | ⟨k0, k2⟩
      · rw [← n200] at k2
        have Mo : hh_M 0 (hq_si sx1 113 3 3) (hq_si (hq_si sm1 174 49 1) 174 50 0) := by
          unfold hh_M
          rw [e49, nn_gn (show ¬ 5 = 3 by omega), nn_gn (show ¬ 4 = 3 by omega), nn_g1, m5, m4]
          exact ⟨Or.inr ⟨rfl, by decide⟩, Or.inl ⟨rfl, by decide⟩, Or.inr (Or.inl ⟨rfl, rfl⟩)⟩
        obtain ⟨v, sx', sm', r1, r2, O, h49, h50⟩ := run n 103 false 1 sx1 sm1 _ hn p1 p2 (mode 3 3 1 (by decide) Mo) r
        refine fin v sx' sm' ?_ ?_ O h49 h50
        · simp (config := {decide := true}) only [f_X11_tried, f_X11_tried_J42, if_neg k0, if_neg k2, Option.bind_some, p1, nn_pi, reduceIte]
          exact r1
        · simp (config := {decide := true}) only [f_X12_tried, nn_pi, Option.bind_some, if_neg k0, if_neg k2, p2, reduceIte]
          exact r2
      · exact no (by simp (config := {decide := true}) only [f_X11_tried, if_pos k0, reduceIte]) (by simp (config := {decide := true}) only [f_X12_tried, nn_pi, Option.bind_some, if_pos k0, reduceIte])
      · rw [← n200] at k2
        exact no (by simp (config := {decide := true}) only [f_X11_tried, if_neg k0, if_pos k2, reduceIte]) (by simp (config := {decide := true}) only [f_X12_tried, nn_pi, Option.bind_some, if_neg k0, if_pos k2, reduceIte])
    · refine no ?_ (by simp (config := {decide := true}) only [f_X12_tried, nn_pi, if_neg qa, Option.bind_some, reduceIte])
      by_cases k0 : a3 < 0
      · simp (config := {decide := true}) only [f_X11_tried, if_pos k0, reduceIte]
      · by_cases k2 : (200 : Int32) < a3
        · simp (config := {decide := true}) only [f_X11_tried, if_neg k0, if_pos k2, reduceIte]
        · simp (config := {decide := true}) only [f_X11_tried, if_neg k0, if_neg k2, if_neg qa, reduceIte]
  · rcases hs_isGuard (N := N) (a := a2) (by omega) t1 t2 g1 g2 with ⟨g, hg, rfl, e1, e2⟩ | ⟨e1, e2⟩
    · rcases nn_le (a := a3) (n := 200) (by omega) with ⟨n, hn, rfl, k0, k2⟩ | k0 | ⟨k0, k2⟩
      · rw [← n200] at k2
        have Mo : hh_M 0 (hq_si sx1 113 4 (Int32.ofNat g)) (hq_si (hq_si sm1 174 49 2) 174 50 (Int32.ofNat g)) := by
          unfold hh_M
          rw [e49, e50, nn_gn (by omega), nn_g1, nn_gn (by omega), m5, m3]
          exact ⟨Or.inr ⟨rfl, by decide⟩, Or.inr ⟨rfl, rfl⟩, Or.inr (Or.inr ⟨by decide, by decide, Or.inl ⟨rfl, rfl⟩⟩)⟩
        obtain ⟨v, sx', sm', r1, r2, O, h49, h50⟩ := run n 103 false 2 sx1 sm1 _ hn p1 p2 (mode 4 (Int32.ofNat g) 2 (by decide) Mo) r
        refine fin v sx' sm' ?_ ?_ O h49 h50
        · simp (config := {decide := true}) only [f_X11_tried, f_X11_tried_J42, if_neg k0, if_neg k2, e1, Option.bind_some, p1, nn_pi, reduceIte]
          exact r1
        · simp (config := {decide := true}) only [f_X12_tried, nn_pi, e2, Option.bind_some, if_neg k0, if_neg k2, p2, reduceIte]
          exact r2
      · exact no (by simp (config := {decide := true}) only [f_X11_tried, if_pos k0, reduceIte]) (by simp (config := {decide := true}) only [f_X12_tried, nn_pi, e2, Option.bind_some, if_pos k0, reduceIte])
      · rw [← n200] at k2
        exact no (by simp (config := {decide := true}) only [f_X11_tried, if_neg k0, if_pos k2, reduceIte]) (by simp (config := {decide := true}) only [f_X12_tried, nn_pi, e2, Option.bind_some, if_neg k0, if_pos k2, reduceIte])
    · refine no ?_ (by simp (config := {decide := true}) only [f_X12_tried, nn_pi, e2, Option.bind_some, reduceIte])
      by_cases k0 : a3 < 0
      · simp (config := {decide := true}) only [f_X11_tried, if_pos k0, reduceIte]
      · by_cases k2 : (200 : Int32) < a3
        · simp (config := {decide := true}) only [f_X11_tried, if_neg k0, if_pos k2, reduceIte]
        · simp (config := {decide := true}) only [f_X11_tried, if_neg k0, if_neg k2, e1, Option.bind_some, reduceIte]
  · by_cases qa : a2 = 0
    · subst qa
      rcases nn_le (a := a3) (n := 200) (by omega) with ⟨n, hn, rfl, k0, k2⟩ | k0 | ⟨k0, k2⟩
      · rw [← n200] at k2
        have Mo : hh_M 0 (hq_si sx1 113 5 0) (hq_si (hq_si sm1 174 49 3) 174 50 0) := by
          unfold hh_M
          rw [e49, nn_g1, nn_gn (show ¬ 4 = 5 by omega), nn_gn (show ¬ 3 = 5 by omega), m4, m3]
          exact ⟨Or.inl ⟨rfl, rfl⟩, Or.inl ⟨rfl, by decide⟩, Or.inr (Or.inr ⟨by decide, by decide, Or.inl ⟨rfl, rfl⟩⟩)⟩
        obtain ⟨v, sx', sm', r1, r2, O, h49, h50⟩ := run n 103 false 3 sx1 sm1 _ hn p1 p2 (mode 5 0 3 (by decide) Mo) r
        have p5 : hq_pi sx1 113 5 1 0 = some (hq_si sx1 113 5 0) := rfl
        refine fin v sx' sm' ?_ ?_ O h49 h50
        · simp (config := {decide := true}) only [f_X11_tried, f_X11_tried_J42, if_neg k0, if_neg k2, Option.bind_some, p1, nn_pi, p5, reduceIte]
          exact r1
        · simp (config := {decide := true}) only [f_X12_tried, nn_pi, Option.bind_some, if_neg k0, if_neg k2, p2, reduceIte]
          exact r2
      · exact no (by simp (config := {decide := true}) only [f_X11_tried, if_pos k0, reduceIte]) (by simp (config := {decide := true}) only [f_X12_tried, nn_pi, Option.bind_some, if_pos k0, reduceIte])
      · rw [← n200] at k2
        exact no (by simp (config := {decide := true}) only [f_X11_tried, if_neg k0, if_pos k2, reduceIte]) (by simp (config := {decide := true}) only [f_X12_tried, nn_pi, Option.bind_some, if_neg k0, if_pos k2, reduceIte])
    · refine no ?_ (by simp (config := {decide := true}) only [f_X12_tried, nn_pi, if_neg qa, Option.bind_some, reduceIte])
      by_cases k0 : a3 < 0
      · simp (config := {decide := true}) only [f_X11_tried, if_pos k0, reduceIte]
      · by_cases k2 : (200 : Int32) < a3
        · simp (config := {decide := true}) only [f_X11_tried, if_neg k0, if_pos k2, reduceIte]
        · simp (config := {decide := true}) only [f_X11_tried, if_neg k0, if_neg k2, if_neg qa, reduceIte]
  · by_cases qa : a2 = 0
    · subst qa
      rcases nn_le (a := a3) (n := 200) (by omega) with ⟨n, hn, rfl, k0, k2⟩ | k0 | ⟨k0, k2⟩
      · rw [← n200] at k2
        obtain ⟨Tt, ⟨t2', -, k2'⟩, ⟨q0, q1, q2⟩, Sx, Fx, ⟨Mm, Bm, Bl, -⟩, Wm, -, Om⟩ := P
        have X1 : hl_X t nl nc fr to on sx1 := by
          have hp := f_X11_playAsItGoes_fw p1
          have ex : ∀ c i, hq_inA hd_X1 c = true → hq_gi sx1 c i = hq_gi sx c i := fun c i h => ((hp.kp (D := hd_X1) (by decide)) c i (hq_inA_spec h i)).1
          unfold hl_X at X ⊢
          rcases t2 with rfl | rfl <;> simp (disch := decide) only [ex] <;> exact X
        obtain ⟨g, f, bu, bg, bf⟩ := hb_build (N := N) (u := 108) (t := t) (both := true) (a3 := 1) (bar := 0) (Or.inr rfl) t2 (by omega) rfl (by omega) X1
        have bu : f_X8_build N 108 t 0 1 sx1 = some (hq_w (hq_w (hq_si sx1 108 0 (Int32.ofNat nc)) (108 + 1) g) (108 + 2) f) := bu
        have nxe : ly_nx fr to on 0 true nl = ly_nx fr to on bar true nl := funext fun c => ly_both nl c
        rw [nxe] at bg bf
        have xo : ∀ c i, ¬ c = 108 → ¬ c = 109 → ¬ c = 110 → hq_gi (hq_sr (hq_w (hq_w (hq_si sx1 108 0 (Int32.ofNat nc)) (108 + 1) g) (108 + 2) f) 113 1 108) c i = hq_gi sx1 c i := fun c i h1 h2 h3 => by rw [nb_ri, hw_n h3, hw_n h2, nn_gk h1]
        have rr : ∀ c i, ¬ (c = 113 ∧ i = 1) → hq_gr (hq_sr (hq_w (hq_w (hq_si sx1 108 0 (Int32.ofNat nc)) (108 + 1) g) (108 + 2) f) 113 1 108) c i = hq_gr sx1 c i := fun c i h => by rw [nb_rr, if_neg h]; rfl
        have P4 : hh_P nc nl ng nt t 108 94 1 fr to on bar true 0 (hq_si sm 174 0 0) (hq_sr (hq_w (hq_w (hq_si sx1 108 0 (Int32.ofNat nc)) (108 + 1) g) (108 + 2) f) 113 1 108) (hq_si (hq_si sm1 174 49 4) 174 50 0) := by
          refine ⟨hr_told_f t2 (fun c i hc' => xo c i (by omega) (by omega) (by omega)) (fun _ _ _ => rfl) (fun c i h1 h2 => em 4 c i (by omega)) Tt, ⟨t2, Or.inr rfl, Or.inr rfl⟩, ⟨by rw [rr _ _ (by omega)]; exact q0, by rw [nb_rr, if_pos ⟨rfl, rfl⟩], by rw [rr _ _ (by omega)]; exact q2⟩, ⟨?_, fun c hc' => ?_⟩, fun a b ha hb => ?_, ⟨?_, by rw [em 4 _ _ (by omega)]; exact Bm, Bl, by rw [e49]; decide⟩, ?_, ?_, fun c i h1 h2 h3 => (em 4 c i (by omega)).trans (Om c i h1 h2 h3)⟩
          · rw [nb_ri, hw_n (by omega), hw_n (by omega), nn_g1]
          · rw [nb_ri, hw_n (by omega), hw_g]; exact bg c hc'
          · rw [nb_ri, hw_g]; exact bf a b ha hb
          · unfold hl_M at Mm ⊢
            simp (disch := decide) only [em]
            exact Mm
          · exact hn_N_k (sx := sx1) (sm := sm1) b1 b3 b4 (fun c i h1 h2 => xo c i (by omega) (by omega) (by omega)) rfl (fun c i h => em 4 c i (by unfold hm_sl at h; omega)) (fun i => em 4 _ _ (by omega)) (fun i _ => by
              unfold hn_bold
              rw [e53, e54, em 4 189 i (by omega)]) Wm
          · unfold hh_M
            rw [e49, xo 113 5 (by omega) (by omega) (by omega), xo 113 4 (by omega) (by omega) (by omega), xo 113 3 (by omega) (by omega) (by omega), m5, m4, m3]
            exact ⟨Or.inr ⟨rfl, by decide⟩, Or.inl ⟨rfl, by decide⟩, Or.inr (Or.inr ⟨by decide, by decide, Or.inl ⟨rfl, rfl⟩⟩)⟩
        obtain ⟨v, sx', sm', r1, r2, O, h49, h50⟩ := run n 108 true 4 sx1 sm1 _ hn p1 p2 P4 (by rw [rr _ _ (by omega)]; exact r)
        have pr : hq_pr (hq_w (hq_w (hq_si sx1 108 0 (Int32.ofNat nc)) (108 + 1) g) (108 + 2) f) 113 1 108 = some (hq_sr (hq_w (hq_w (hq_si sx1 108 0 (Int32.ofNat nc)) (108 + 1) g) (108 + 2) f) 113 1 108) := rfl
        refine fin v sx' sm' ?_ ?_ O h49 h50
        · simp (config := {decide := true}) only [f_X11_tried, f_X11_tried_J42, if_neg k0, if_neg k2, Option.bind_some, p1, r, if_pos iT, bu, pr, reduceIte]
          exact r1
        · simp (config := {decide := true}) only [f_X12_tried, nn_pi, Option.bind_some, if_neg k0, if_neg k2, p2, reduceIte]
          exact r2
      · exact no (by simp (config := {decide := true}) only [f_X11_tried, if_pos k0, reduceIte]) (by simp (config := {decide := true}) only [f_X12_tried, nn_pi, Option.bind_some, if_pos k0, reduceIte])
      · rw [← n200] at k2
        exact no (by simp (config := {decide := true}) only [f_X11_tried, if_neg k0, if_pos k2, reduceIte]) (by simp (config := {decide := true}) only [f_X12_tried, nn_pi, Option.bind_some, if_neg k0, if_pos k2, reduceIte])
    · refine no ?_ (by simp (config := {decide := true}) only [f_X12_tried, nn_pi, if_neg qa, Option.bind_some, reduceIte])
      by_cases k0 : a3 < 0
      · simp (config := {decide := true}) only [f_X11_tried, if_pos k0, reduceIte]
      · by_cases k2 : (200 : Int32) < a3
        · simp (config := {decide := true}) only [f_X11_tried, if_neg k0, if_pos k2, reduceIte]
        · simp (config := {decide := true}) only [f_X11_tried, if_neg k0, if_neg k2, if_neg qa, reduceIte]
  · refine no ?_ ?_
    · by_cases k0 : a1 < 0
      · simp only [f_X11_tried, if_pos k0]
      · simp only [f_X11_tried, if_neg k0, if_pos (hb.resolve_left k0)]
    · by_cases k0 : a1 < 0
      · simp only [f_X12_tried, nn_pi, Option.bind_some, if_neg h2, if_pos k0, reduceIte]
      · simp only [f_X12_tried, nn_pi, Option.bind_some, if_neg h2, if_neg k0, if_pos (hb.resolve_left k0), reduceIte]
end
