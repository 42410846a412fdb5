section GO
variable {N0 : Nat} {od : Nat → Nat} {cy : ArrayType → ClassId} {D : va_G} {B0 : Heap} {O : mm_Old} {P : Nat → Option mm_Meth} {l : Launch}
theorem mm_words_lv (N0 : Nat) (od : Nat → Nat) (t : List Value) : ((t.map (mm_lv N0 od)).map fun v => v.category).sum = mm_words t := by
  unfold mm_words
  rw [List.map_map]
  congr 1
  apply List.map_congr_left
  intro z _
  exact mm_lv_cat N0 od z
theorem mm_val_no {v : Option Value} {vs : List Value} (h : mm_val v = some vs) : ∀ q, v ≠ some (.retAddr q) := by
  intro q e
  subst e
  cases h
theorem mm_val_map {v : Option Value} {vs t : List Value} (h : mm_val v = some vs) : (v.map (mm_lv N0 od)).toList ++ t.map (mm_lv N0 od) = (vs ++ t).map (mm_lv N0 od) := by
  rw [mm_val_spec h]
  cases v <;> rfl
theorem mm_splice_get {f g : List Int32} {sp dp n : Nat} (h1 : sp + n ≤ f.length) (h2 : dp + n ≤ g.length) : va_cpy (fun j => f.getD j 0) (fun j => g.getD j 0) sp dp n = fun j => (mm_splice f g sp dp n).getD j 0 := by
  funext j
  unfold va_cpy mm_splice
  simp only [List.getD_eq_getElem?_getD, List.getElem?_append, List.length_take, List.length_drop, List.getElem?_take, List.getElem?_drop]
  by_cases c1 : dp ≤ j
  · by_cases c2 : j < dp + n
    · rw [if_pos ⟨c1, c2⟩, if_neg (by omega), if_pos (by omega)]
      rw [if_pos (by omega), show min dp g.length = dp by omega]
    · rw [if_neg (by omega), if_neg (by omega), if_neg (by omega)]
      rw [show dp + n + (j - min dp g.length - min n (f.length - sp)) = j by omega]
  · rw [if_neg (by omega), if_pos (by omega), if_pos (by omega)]
theorem mm_splice_getJ {f g : List Int64} {sp dp n : Nat} (h1 : sp + n ≤ f.length) (h2 : dp + n ≤ g.length) : va_cpy (fun j => f.getD j 0) (fun j => g.getD j 0) sp dp n = fun j => (mm_splice f g sp dp n).getD j 0 := by
  funext j
  unfold va_cpy mm_splice
  simp only [List.getD_eq_getElem?_getD, List.getElem?_append, List.length_take, List.length_drop, List.getElem?_take, List.getElem?_drop]
  by_cases c1 : dp ≤ j
  · by_cases c2 : j < dp + n
    · rw [if_pos ⟨c1, c2⟩, if_neg (by omega), if_pos (by omega)]
      rw [if_pos (by omega), show min dp g.length = dp by omega]
    · rw [if_neg (by omega), if_neg (by omega), if_neg (by omega)]
      rw [show dp + n + (j - min dp g.length - min n (f.length - sp)) = j by omega]
  · rw [if_neg (by omega), if_pos (by omega), if_pos (by omega)]
set_option maxHeartbeats 4000000 in
theorem mm_go (hst : l.stackTraces = false) (hcls : mm_okCls O.2.2) (hac : mm_okArr) (hprog : mm_okProg P) : ∀ n, mm_Go N0 od cy D B0 O P l n := by
  intro n
  induction n with
  | zero => intro d M pc r st h g v hF gF hr; cases hr
  | succ n ih =>
    intro d M pc r st h g v hF gF hr hrows p e R s m args below meth c0 Q H locs ls cells slots n0 z0 X hP hS hL hsn hcn hsl hRc hRs hRf hRl hE
    obtain ⟨hx, hb, hml, hown, hts, hK, hret, hlk, hnm, hold, hle, hB0⟩ := id X
    have hD : va_D (mm_A N0) (mm_ws N0 od cy h) := mm_D h
    rw [mm_run_succ] at hr
    unfold mm_body at hr
    split at hr
    · cases hr
    next w hw =>
    obtain ⟨hdg, hok⟩ := hrows pc w hw
    obtain ⟨i, len, a, b, c⟩ := w
    dsimp only at hr hdg hok
    /- the plain instructions -/
    have plain : ∀ {pc1 : Nat} {i : Instr}, (mm_isNew i = true → g = 0) → decode (mm_bytes M) pc = .ok (i, len) → len = mm_len1 i → mm_okStep M i a b c → pc1 = pc + mm_len1 i → (match mm_step O (i, len, a, b, c) pc r st h with
        | some (r', st', h') => mm_run P O n d M pc1 r' st' h' g
        | none => none) = some (v, hF, gF) → W p l e R s m args below meth c0 H locs cells slots Q (F0 m pc ls (st.map (mm_lv N0 od))) := by
      intro pc1 i hg0 hdg hlen hok hpc hr
      split at hr
      · next r' st' h' hs =>
        obtain ⟨⟨g1, g2⟩, g5⟩ := mm_run_mono _ _ _ _ _ _ _ _ _ _ _ hr
        obtain ⟨g3, g4⟩ := mm_step_mono hs
        refine mm_sstep hcls hac X hdg hlen hok hs hP hS hL (fun z => by have := hg0 z; omega) (by omega) (by omega) (fun H' locs' ls' cells' slots' e1 e2 hP' hS' hL' => ?_)
        rw [← hpc]
        exact ih d M pc1 r' st' h' g v hF gF hr hrows p e R s m args below meth c0 Q H' locs' ls' cells' slots' n0 z0 X hP' hS' hL' hsn (by omega) (by omega) hRc hRs hRf hRl hE
      · cases hr
    /- a jump -/
    have jump : ∀ {q : Nat} {t : List Value}, mm_run P O n d M q r t h g = some (v, hF, gF) → W p l e R s m args below meth c0 H locs cells slots Q (F0 m q ls (t.map (mm_lv N0 od))) := fun hr =>
      ih d M _ r _ h g v hF gF hr hrows p e R s m args below meth c0 Q H locs ls cells slots n0 z0 X hP hS hL hsn hcn hsl hRc hRs hRf hRl hE
    /- behind a call -/
    have after : ∀ {d' : Nat} {N : mm_Meth} {us vs t : List Value} {v1 : mm_Res} {h1 : mm_Heap} {g1 : Nat}, mm_run P O n d' N 0 (mm_entry (mm_maxL N) us) [] h g = some (v1, h1, g1) → mm_val v1 = some vs → mm_run P O n d M (pc + 3) r (vs ++ t) h1 g1 = some (v, hF, gF) →
        ∀ (H1 : Heap) (locs1 : List Loc), mm_Pic N0 od cy D h1 H1 → va_S (mm_A N0) s.heap H1 locs1 → W p l e R s m args below meth c0 H1 locs1 (cells + mm_mc h h1 g g1) (slots + mm_ms h h1 g g1) Q (F0 m (pc + 3) ls ((v1.map (mm_lv N0 od)).toList ++ t.map (mm_lv N0 od))) := by
      intro d' N us vs t v1 h1 g1 hc hvs hr H1 locs1 hP1 hS1
      obtain ⟨⟨k1, k2⟩, k3⟩ := mm_run_mono _ _ _ _ _ _ _ _ _ _ _ hc
      rw [mm_val_map hvs]
      exact ih d M (pc + 3) r (vs ++ t) h1 g1 v hF gF hr hrows p e R s m args below meth c0 Q H1 locs1 ls _ _ n0 z0 X hP1 hS1 hL hsn (by unfold mm_mc; omega) (by unfold mm_ms; omega) hRc hRs hRf hRl hE
    have roomOf : ∀ {d' : Nat} {N : mm_Meth} {us vs t : List Value} {v1 : mm_Res} {h1 : mm_Heap} {g1 : Nat}, mm_run P O n d' N 0 (mm_entry (mm_maxL N) us) [] h g = some (v1, h1, g1) → mm_run P O n d M (pc + 3) r (vs ++ t) h1 g1 = some (v, hF, gF) → cells + mm_mc h h1 g g1 ≤ R.cells ∧ slots + mm_ms h h1 g g1 ≤ R.slots := by
      intro d' N us vs t v1 h1 g1 hc hr
      obtain ⟨⟨k1, k2⟩, k3⟩ := mm_run_mono _ _ _ _ _ _ _ _ _ _ _ hc
      obtain ⟨⟨k4, k5⟩, k6⟩ := mm_run_mono _ _ _ _ _ _ _ _ _ _ _ hr
      exact ⟨by unfold mm_mc; omega, by unfold mm_ms; omega⟩
    have hpre : ∀ (us : List Value) (hz : H.size ≤ s.heap.size + cells) (U : State), U.heap = H → s.WarmedH U.vm → mm_Pc N0 od cy D B0 O us h g (us.map (mm_lv N0 od)).toArray U := by
      intro us hz U hU hW
      refine ⟨rfl, ⟨by rw [hU]; omega, by rw [hU]; exact Nat.le_trans hle hS.1⟩, by rw [hU]; exact hP, mm_K_warm hW hK, fun q hq => ?_, hB0⟩
      · rw [hU, hS.2.1 q (by omega) (Nat.not_le.mpr hq)]
        exact hold q hq
    have hlsz : ls.size = mm_maxL M := hL.2.1
    have hfix : CallFix p m c0 (mm_bytes M) (mm_maxL M) s args lw_g (mm_cn (mm_own M)) := ⟨hx, hb, hml, hown, hts⟩
    cases i
    case goto off =>
      exact lv_goto hx hb (hok.2 ▸ hdg) hok.1 (jump hr)
    case if_icmp cd off =>
      try dsimp only at hr
      split at hr
      · next y x t =>
        have hdg := hok.2 ▸ hdg
        cases cd
        all_goals (rcases mm_bif hr with ⟨hc, hr⟩ | ⟨hc, hr⟩ <;> (simp only [mm_cmp, decide_eq_true_eq, decide_eq_false_iff_not, Classical.not_not] at hc))
        · exact lv_icmp_eq hx hb hdg hok.1 (fun _ => jump hr) (fun q => absurd hc q)
        · exact lv_icmp_eq hx hb hdg hok.1 (fun q => absurd q hc) (fun _ => jump hr)
        · exact lv_icmp_ne hx hb hdg hok.1 (fun _ => jump hr) (fun q => absurd q hc)
        · exact lv_icmp_ne hx hb hdg hok.1 (fun q => absurd hc q) (fun _ => jump hr)
        · exact lv_icmp_lt hx hb hdg hok.1 (fun _ => jump hr) (fun q => absurd hc q)
        · exact lv_icmp_lt hx hb hdg hok.1 (fun q => absurd q hc) (fun _ => jump hr)
        · exact lv_icmp_ge hx hb hdg hok.1 (fun _ => jump hr) (fun q => absurd hc q)
        · exact lv_icmp_ge hx hb hdg hok.1 (fun q => absurd q hc) (fun _ => jump hr)
        · exact lv_icmp_gt hx hb hdg hok.1 (fun _ => jump hr) (fun q => absurd hc q)
        · exact lv_icmp_gt hx hb hdg hok.1 (fun q => absurd q hc) (fun _ => jump hr)
        · exact lv_icmp_le hx hb hdg hok.1 (fun _ => jump hr) (fun q => absurd hc q)
        · exact lv_icmp_le hx hb hdg hok.1 (fun q => absurd q hc) (fun _ => jump hr)
      · cases hr
    case ifCond cd off =>
      try dsimp only at hr
      split at hr
      · next x t =>
        have hdg := hok.2 ▸ hdg
        cases cd
        all_goals (rcases mm_bif hr with ⟨hc, hr⟩ | ⟨hc, hr⟩ <;> (simp only [mm_cmp, decide_eq_true_eq, decide_eq_false_iff_not, Classical.not_not] at hc))
        · exact lv_if_eq hx hb hdg hok.1 (fun _ => jump hr) (fun q => absurd hc q)
        · exact lv_if_eq hx hb hdg hok.1 (fun q => absurd q hc) (fun _ => jump hr)
        · exact lv_if_ne hx hb hdg hok.1 (fun _ => jump hr) (fun q => absurd q hc)
        · exact lv_if_ne hx hb hdg hok.1 (fun q => absurd hc q) (fun _ => jump hr)
        · exact lv_if_lt hx hb hdg hok.1 (fun _ => jump hr) (fun q => absurd hc q)
        · exact lv_if_lt hx hb hdg hok.1 (fun q => absurd q hc) (fun _ => jump hr)
        · exact lv_if_ge hx hb hdg hok.1 (fun _ => jump hr) (fun q => absurd hc q)
        · exact lv_if_ge hx hb hdg hok.1 (fun q => absurd q hc) (fun _ => jump hr)
        · exact lv_if_gt hx hb hdg hok.1 (fun _ => jump hr) (fun q => absurd hc q)
        · exact lv_if_gt hx hb hdg hok.1 (fun q => absurd q hc) (fun _ => jump hr)
        · exact lv_if_le hx hb hdg hok.1 (fun _ => jump hr) (fun q => absurd hc q)
        · exact lv_if_le hx hb hdg hok.1 (fun q => absurd q hc) (fun _ => jump hr)
      · cases hr
    case tableswitch df lo hi offs =>
      try dsimp only at hr
      split at hr
      · next x t =>
        split at hr
        · next q hq =>
          have tgt : ∀ {o : Int}, mm_tgt pc o = some q → (pc : Int) + o = (q : Int) := by
            intro o ho
            unfold mm_tgt at ho
            split at ho
            · cases ho; omega
            · cases ho
          unfold mm_tsw at hq
          split at hq
          · next h1 => exact lv_tableOut hx hb hdg (Or.inl h1) (tgt hq) (jump hr)
          · next h1 =>
            split at hq
            · next h2 => exact lv_tableOut hx hb hdg (Or.inr h2) (tgt hq) (jump hr)
            · next h2 =>
              split at hq
              · next o ho => exact lv_tableIn hx hb hdg h1 h2 (by simpa using ho) (tgt hq) (jump hr)
              · cases hq
        · cases hr
      · cases hr
    case lookupswitch df ps =>
      try dsimp only at hr
      split at hr
      · next x t =>
        split at hr
        · next q hq =>
          unfold mm_lsw mm_tgt at hq
          split at hq
          · cases hq
            exact lv_lookup hx hb hdg hok rfl (by omega) (jump hr)
          · cases hq
        · cases hr
      · cases hr
    case ireturn =>
      try dsimp only at hr
      split at hr
      · next x =>
        rcases mm_bif hr with ⟨hc, hr⟩ | ⟨hc, hr⟩
        · cases hr
          exact (hE H locs ls pc cells slots hS).1 x rfl hc (hok ▸ hdg) hP hcn hsl
        · cases hr
      · cases hr
    case lreturn =>
      try dsimp only at hr
      split at hr
      · next x =>
        cases hr
        exact (hE H locs ls pc cells slots hS).2.1 x rfl hok.2 (hok.1 ▸ hdg) hP hcn hsl
      · cases hr
    case return_ =>
      try dsimp only at hr
      split at hr
      · cases hr
        exact (hE H locs ls pc cells slots hS).2.2.1 rfl hok.2 (hok.1 ▸ hdg) hP hcn hsl
      · cases hr
    case invokevirtual idx =>
      try dsimp only at hr
      rcases hPN : P a with _ | N
      · rw [hPN] at hr; cases hr
      rw [hPN] at hr
      rcases d with _ | d'
      · cases hr
      · try dsimp only at hr
        split at hr
        · next v0 t hdrop =>
          rcases mm_bif hr with ⟨hc, hr⟩ | ⟨hc, hr⟩
          · split at hr
            · next v1 h1 g1 hrun =>
              split at hr
              · next vs hvs =>
                simp only [Bool.and_eq_true, Nat.ble_eq] at hc
                obtain ⟨hwd, hln, hsl1, hrcv⟩ := hc
                have hln := Nat.eq_of_beq_eq_true hln
                obtain ⟨hN, hNr⟩ := hprog a N hPN
                obtain ⟨hlk1, hin, hse⟩ := hok.2 N hPN
                obtain ⟨hpl, hcn1, hcode, hini, hd, hmx⟩ := id hN
                refine mm_W_size (fun hz => ?_)
                have hst : st = st.take (mm_par N) ++ v0 :: t := by rw [← hdrop, List.take_append_drop]
                have hrec : ∃ b0, mm_lv N0 od v0 = .ref b0 ∧ ∃ cell : Cell, H[b0]? = some cell ∧ cell.vm.isStatics = false ∧ s.vm.findClass (mm_name N).cls = some cell.cls := by
                  unfold mm_rcv at hrcv
                  split at hrcv
                  · next k0 =>
                    split at hrcv
                    · next o hk0 =>
                      have ho := Nat.eq_of_beq_eq_true hrcv
                      obtain ⟨q, hq1, -⟩ := hP k0 _ (mm_ws_get hk0)
                      have hq1 : mm_Cl[o.1]? = some q := hq1
                      have := va_recv hK.1 hP (ci := o.1) hq1 (mm_ws_get hk0)
                      refine ⟨N0 + k0, rfl, ?_⟩
                      rw [hcn1, ← ho, ← mm_cnCl hq1]
                      exact this
                    · cases hrcv
                  · next n1 =>
                    cases n1 with
                    | zero => cases hrcv
                    | succ j =>
                      dsimp only at hrcv
                      obtain ⟨h20, hj⟩ := Bool.and_eq_true_iff.mp hrcv
                      have h20 := Nat.eq_of_beq_eq_true h20
                      have hj : j < O.2.1.length := by simpa [Nat.blt_eq] using hj
                      have hvS : vk_S O.2.1.length (O.2.1.map List.length) O.2.1 (fun i => od (i + 1)) (fun i => od (i + 101)) (mm_A N0) s s.heap := hK.2.2.1.kept (fun q hq hn => hold q (by rw [← hB0]; exact hq))
                      have := vk_recv hvS hj hS
                      refine ⟨od (j + 1), rfl, ?_⟩
                      rw [hcn1, h20]
                      exact this
                  · cases hrcv
                obtain ⟨b0, hb0, hrec⟩ := hrec
                have hM1 := mm_met ih hrun hN hNr hsl1 (mm_val_no hvs)
                have hstk : st.map (mm_lv N0 od) = (((st.take (mm_par N)).reverse).map (mm_lv N0 od)).reverse ++ .ref b0 :: t.map (mm_lv N0 od) := by
                  rw [← List.map_reverse, List.reverse_reverse, ← hb0, ← List.map_cons, ← List.map_append, ← hst]
                have hPc : ∀ U : State, U.heap = H → s.WarmedH U.vm → mm_Pc N0 od cy D B0 O (v0 :: (st.take (mm_par N)).reverse) h g (Value.ref b0 :: ((st.take (mm_par N)).reverse).map (mm_lv N0 od)).toArray U := by
                  intro U hU hW
                  have := hpre (v0 :: (st.take (mm_par N)).reverse) hz U hU hW
                  rw [List.map_cons, hb0] at this
                  exact this
                have hcw : CallW R s args (mm_cn (mm_own M)) (mm_name N).cls idx (mm_name N) (mm_bytes N) (mm_maxL N) (mm_ret N) (Cond.code (mm_name N) (mm_bytes N) (mm_maxL N) (mm_ret N) :: lw_g) (mm_rm d' h h1 g g1) (mm_mc h h1 g g1) (mm_ms h h1 g g1) (mm_par N) :=
                  ⟨callB_of (mm_par N) hts (mm_goodc hcode) rfl rfl rfl (hts _ hini) (hts _ hlk1) hd ⟨hRf, by show 8 + (mm_maxL N + 11) + 40 * d' ≤ R.locals; omega⟩, hts _ hin, hts _ hse⟩
                refine mm_call (v := v1) (h' := h1) (rest := t.map (mm_lv N0 od)) (va_runV hfix hM1 hcw ⟨mm_blind, hrec, hPc⟩ rfl (by rw [List.length_map, List.length_reverse]; exact hln) hlsz hstk (lv_room (by rw [mm_words_lv]; exact hwd)) (hok.1 ▸ hdg) (roomOf hrun hr)) hS (after hrun hvs hr)
              · cases hr
            · cases hr
          · cases hr
        · cases hr
    case invokestatic idx =>
      have h9 := mm_bif hr
      clear hr
      rcases h9 with ⟨hb0, hr⟩ | ⟨hb0, hr⟩
      · try dsimp only at hr
        have hb0 := Nat.eq_of_beq_eq_true hb0
        rcases hPN : P a with _ | N
        · rw [hPN] at hr; cases hr
        rw [hPN] at hr
        rcases d with _ | d'
        · cases hr
        · try dsimp only at hr
          rcases mm_bif hr with ⟨hc, hr⟩ | ⟨hc, hr⟩
          · split at hr
            · next v1 h1 g1 hrun =>
              split at hr
              · next vs hvs =>
                simp only [Bool.and_eq_true, Nat.ble_eq] at hc
                obtain ⟨hwd, hln, hsl1⟩ := hc
                have hln := Nat.eq_of_beq_eq_true hln
                obtain ⟨hN, hNr⟩ := hprog a N hPN
                obtain ⟨hlk1, hstt⟩ := hok.2.1 hb0 N hPN
                obtain ⟨hpl, hcn1, hcode, hini, hd, hmx⟩ := id hN
                refine mm_W_size (fun hz => ?_)
                have hM1 := mm_met ih hrun hN hNr hsl1 (mm_val_no hvs)
                have hstk : st.map (mm_lv N0 od) = (((st.take (mm_par N)).reverse).map (mm_lv N0 od)).reverse ++ (st.drop (mm_par N)).map (mm_lv N0 od) := by
                  rw [← List.map_reverse, List.reverse_reverse, ← List.map_append, List.take_append_drop]
                have hcw : CallB R s args (mm_cn (mm_own M)) idx (mm_name N) (mm_bytes N) (mm_maxL N) (mm_ret N) (Cond.code (mm_name N) (mm_bytes N) (mm_maxL N) (mm_ret N) :: lw_g) (mm_rm d' h h1 g g1) (mm_mc h h1 g g1) (mm_ms h h1 g g1) (mm_par N) ∧ (Cond.static (mm_name N)).before args s = true :=
                  ⟨callB_of (mm_par N) hts (mm_goodc hcode) rfl rfl rfl (hts _ hini) (hts _ hlk1) hd ⟨hRf, by show 8 + (mm_maxL N + 11) + 40 * d' ≤ R.locals; omega⟩, hts _ hstt⟩
                exact mm_call (v := v1) (h' := h1) (rest := (st.drop (mm_par N)).map (mm_lv N0 od)) (va_runS hfix hM1 hcw ⟨mm_blind, hpre _ hz⟩ rfl (by rw [List.length_map, List.length_reverse]; exact hln) hlsz hstk (lv_room (by rw [mm_words_lv]; exact hwd)) (hok.1 ▸ hdg) (roomOf hrun hr)) hS (after hrun hvs hr)
              · cases hr
            · cases hr
          · cases hr
      · have h9 := mm_bif hr
        clear hr
        rcases h9 with ⟨hb2, hr⟩ | ⟨hb2, hr⟩
        · have hb2 := Nat.eq_of_beq_eq_true hb2
          obtain ⟨hlkC, hNC⟩ := hok.2.2.2.2.2 hb2
          rcases hPN : P a with _ | N
          · rw [hPN] at hr; cases hr
          rw [hPN] at hr
          rcases d with _ | d
          · cases hr
          rcases d with _ | d'
          · cases hr
          try dsimp only at hr
          split at hr
          · next o p1 p0 x t =>
            rcases mm_bif hr with ⟨hc, hr⟩ | ⟨hc, hr⟩
            · simp only [Bool.and_eq_true, Nat.ble_eq] at hc
              obtain ⟨hwd, hpar, hmx3, hrcv⟩ := hc
              have hpar := Nat.eq_of_beq_eq_true hpar
              obtain ⟨hN, hNr⟩ := hprog a N hPN
              obtain ⟨hNn, hNv, hNret⟩ := hNC N hPN
              have hrcv : ∃ fs, h[x]? = some (.inl (mm_own N, fs)) := by
                unfold mm_rcv at hrcv
                dsimp only at hrcv
                split at hrcv
                · next q hq => exact ⟨q.2, by rw [hq, ← Nat.eq_of_beq_eq_true hrcv]⟩
                · cases hrcv
              have hgd : GoodIn lw_g (va_wsS (mm_cn (mm_own M)) idx yL_corner (Cond.codeWith yL_corner cL_corner 5 (some .int) [(0, 10, 13, 13), (0, 10, 17, 15)] :: lw_g)) := by
                intro w hw
                unfold va_wsS at hw
                rcases List.mem_append.mp hw with q | q
                · rcases List.mem_cons.mp q with rfl | q
                  · exact mm_good _ hlkC
                  · rcases List.mem_cons.mp q with rfl | q
                    · exact mm_good _ mm_x7
                    · rw [List.mem_singleton.mp q]
                      exact mm_good _ mm_x8
                · exact mm_goodc mm_x9 w q
              refine mm_W_size (fun hz => ?_)
              split at hr
              · next y h1 g1 hrun =>
                split at hr
                · next h2 hl2 =>
                  have hM1 := mm_lcI ih (o := o) hrun hN hNr hmx3 hpar hNret hNv hrcv hl2
                  obtain ⟨⟨k1, k2⟩, k3⟩ := mm_run_mono _ _ _ _ _ _ _ _ _ _ _ hrun
                  obtain ⟨k4, k5⟩ := mm_last_same hl2
                  obtain ⟨⟨k6, k7⟩, k8⟩ := mm_run_mono _ _ _ _ _ _ _ _ _ _ _ hr
                  have hcw := vx_cwSW (R := R) (rm := mm_rm (d' + 1) h h2 g g1) (mc := mm_mc h h2 g g1) (ms := mm_ms h h2 g g1) 4 hts hgd rfl rfl rfl (by decide +kernel) ⟨hRf, by show 8 + (5 + 11) + 40 * (d' + 1) ≤ R.locals; omega⟩
                  refine mm_call (v := some (.int 0)) (h' := h2) (rest := t.map (mm_lv N0 od)) (vx_runSW (As := [.ref (N0 + x), .int p0, .int p1, .ref (N0 + o)]) hfix hM1 hcw ⟨mm_blind, hpre [.ref x, .int p0, .int p1, .ref o] hz⟩ rfl rfl hlsz rfl (lv_room (by rw [mm_words_lv]; exact hwd)) (hok.1 ▸ hdg) ⟨by unfold mm_mc; omega, by unfold mm_ms; omega⟩) hS (fun H1 locs1 hP1 hS1 => ?_)
                  exact ih _ M (pc + 3) r (.int 0 :: t) h2 g1 v hF gF hr hrows p e R s m args below meth c0 Q H1 locs1 ls _ _ n0 z0 X hP1 hS1 hL hsn (by unfold mm_mc; omega) (by unfold mm_ms; omega) hRc hRs hRf hRl hE
                · cases hr
              · next q h1 g1 hrun =>
                have hM1 := mm_lcX hst ih (o := o) hrun hN hNr hmx3 hpar hNret hNv hrcv
                obtain ⟨⟨k1, k2⟩, k3⟩ := mm_run_mono _ _ _ _ _ _ _ _ _ _ _ hrun
                obtain ⟨⟨k6, k7⟩, k8⟩ := mm_run_mono _ _ _ _ _ _ _ _ _ _ _ hr
                have hcw := vx_cwSW (R := R) (rm := mm_rm (d' + 1) h h1 g g1) (mc := mm_mc h h1 g g1) (ms := mm_ms h h1 g g1) 4 hts hgd rfl rfl rfl (by decide +kernel) ⟨hRf, by show 8 + (5 + 11) + 40 * (d' + 1) ≤ R.locals; omega⟩
                refine mm_call (v := some (.int (bif Nat.beq q 13 then 1 else 2))) (h' := h1) (rest := t.map (mm_lv N0 od)) (vx_runSW (As := [.ref (N0 + x), .int p0, .int p1, .ref (N0 + o)]) hfix hM1 hcw ⟨mm_blind, hpre [.ref x, .int p0, .int p1, .ref o] hz⟩ rfl rfl hlsz rfl (lv_room (by rw [mm_words_lv]; exact hwd)) (hok.1 ▸ hdg) ⟨by unfold mm_mc; omega, by unfold mm_ms; omega⟩) hS (fun H1 locs1 hP1 hS1 => ?_)
                exact ih _ M (pc + 3) r _ h1 g1 v hF gF hr hrows p e R s m args below meth c0 Q H1 locs1 ls _ _ n0 z0 X hP1 hS1 hL hsn (by unfold mm_mc; omega) (by unfold mm_ms; omega) hRc hRs hRf hRl hE
              · cases hr
            · cases hr
          · cases hr
        · have h9 := mm_bif hr
          clear hr
          rcases h9 with ⟨hb3, hr⟩ | ⟨hb3, hr⟩
          · obtain ⟨q1, q2, q3, q4⟩ := hok.2.2.2.2.1 (Nat.eq_of_beq_eq_true hb3)
            split at hr
            · next st' hm =>
              rcases mm_bif hr with ⟨hc, hr⟩ | ⟨hc, hr⟩
              · simp only [Bool.and_eq_true, Nat.ble_eq] at hc
                obtain ⟨⟨k1, k2⟩, k3⟩ := mm_run_mono _ _ _ _ _ _ _ _ _ _ _ hr
                have hcc : cells ≤ R.cells := by omega
                have hss : slots ≤ R.slots := by omega
                have hd1 : 1 ≤ R.frames := by omega
                have hwl : ∀ t : List Value, mm_words t ≤ 10 → ((t.map (mm_lv N0 od)).map fun v => v.category).sum + 15 ≤ R.locals := by
                  intro t ht
                  rw [mm_words_lv]
                  omega
                have hw1 : ∀ (x : Value) (t : List Value), mm_words t ≤ mm_words (x :: t) := by
                  intro x t
                  unfold mm_words
                  simp
                have hJ := jump hr
                unfold mm_math at hm
                split at hm
                · next y x t =>
                  cases hm
                  exact va_mmax hx hb (hml.trans hlsz.symm) hown (hts _ q1) (hts _ q2) (hts _ q3) (hts _ q4) hd1 (by have := hwl t (Nat.le_trans (hw1 _ t) hc.1); omega) hcc hss (hok.1 ▸ hdg) hJ
                · next y x t =>
                  cases hm
                  exact va_mmin hx hb (hml.trans hlsz.symm) hown (hts _ q1) (hts _ q2) (hts _ q3) (hts _ q4) hd1 (by have := hwl t (Nat.le_trans (hw1 _ t) hc.1); omega) hcc hss (hok.1 ▸ hdg) hJ
                · next y x t =>
                  cases hm
                  exact va_mmax_long hx hb (hml.trans hlsz.symm) hown (hts _ q1) (hts _ q2) (hts _ q3) (hts _ q4) hd1 (hwl t (Nat.le_trans (hw1 _ t) hc.1)) hcc hss (hok.1 ▸ hdg) hJ
                · next y x t =>
                  cases hm
                  exact va_mmin_long hx hb (hml.trans hlsz.symm) hown (hts _ q1) (hts _ q2) (hts _ q3) (hts _ q4) hd1 (hwl t (Nat.le_trans (hw1 _ t) hc.1)) hcc hss (hok.1 ▸ hdg) hJ
                · next x t =>
                  cases hm
                  exact va_mabs_long hx hb (hml.trans hlsz.symm) hown (hts _ q1) (hts _ q2) (hts _ q3) (hts _ q4) hd1 (by have := hwl t (Nat.le_trans (hw1 _ t) hc.1); omega) hcc hss (hok.1 ▸ hdg) hJ
                · cases hm
              · cases hr
            · cases hr
          try dsimp only at hr
          split at hr
          · next nn dp w' sp v0 t =>
            rcases mm_bif hr with ⟨hc, hr⟩ | ⟨hc, hr⟩
            · split at hr
              · next h1 hcp =>
                simp only [Bool.and_eq_true, Nat.ble_eq] at hc
                obtain ⟨hwd, hd1⟩ := hc
                obtain ⟨o1, o2, o3, o4⟩ := hok.2.2.1 (hok.2.2.2.1 (Nat.ne_of_beq_eq_false hb0) (Nat.ne_of_beq_eq_false hb2) (Nat.ne_of_beq_eq_false hb3))
                obtain ⟨k1, k2⟩ := mm_copy_same hcp
                rcases mm_copy_spec hcp with ⟨k, j, f, gg, rfl, rfl, hk, hj, c1, c2, c3, c4, c5, rfl⟩ | ⟨k, j, f, gg, rfl, rfl, hk, hj, c1, c2, c3, c4, c5, rfl⟩
                · refine va_copyi (cl := mm_Cl) hx hb (hml.trans hlsz.symm) hown (hts _ o1) (hts _ o2) (hts _ o3) (hts _ o4) hK.1 hP hD hS k j 0 0 (mm_ws_get hk) (mm_ws_get hj) rfl rfl rfl c1 c2 c3 c4 c5 (fun i _ => rfl) (by omega) ?_ (hok.1 ▸ hdg) (fun H1 locs1 hP1 hD1 hS1 => ?_)
                  · rw [mm_words_lv]
                    have : nativeFrameWords "java/lang/System" "arraycopy" 5 ≤ 20 := by decide
                    omega
                  · rw [mm_splice_get c4 c5] at hP1
                    refine ih d M (pc + 3) r _ _ g v hF gF hr hrows p e R s m args below meth c0 Q H1 locs1 ls cells slots n0 z0 X ?_ hS1 hL hsn (by omega) (by omega) hRc hRs hRf hRl hE
                    show va_P D mm_Cl (mm_ws N0 od cy _) H1
                    rw [← mm_ws_set]
                    simpa [mm_lc, mm_splice_len _ _ _ _ _ c4 c5] using hP1
                · refine va_copyl (cl := mm_Cl) hx hb (hml.trans hlsz.symm) hown (hts _ o1) (hts _ o2) (hts _ o3) (hts _ o4) hK.1 hP hD hS k j 1 1 (mm_ws_get hk) (mm_ws_get hj) rfl rfl rfl c1 c2 c3 c4 c5 (fun i _ => rfl) (by omega) ?_ (hok.1 ▸ hdg) (fun H1 locs1 hP1 hD1 hS1 => ?_)
                  · rw [mm_words_lv]
                    have : nativeFrameWords "java/lang/System" "arraycopy" 5 ≤ 20 := by decide
                    omega
                  · rw [mm_splice_getJ c4 c5] at hP1
                    refine ih d M (pc + 3) r _ _ g v hF gF hr hrows p e R s m args below meth c0 Q H1 locs1 ls cells slots n0 z0 X ?_ hS1 hL hsn (by omega) (by omega) hRc hRs hRf hRl hE
                    show va_P D mm_Cl (mm_ws N0 od cy _) H1
                    rw [← mm_ws_set]
                    simpa [mm_lc, mm_splice_len _ _ _ _ _ c4 c5] using hP1
              · cases hr
            · cases hr
          · cases hr
    case invokespecial idx =>
      rcases mm_bif hr with ⟨hb0, hr⟩ | ⟨hb0, hr⟩
      · try dsimp only at hr
        have hb0 := Nat.eq_of_beq_eq_true hb0
        split at hr
        · next k0 t =>
          rcases mm_bif hr with ⟨hc, hr⟩ | ⟨hc, hr⟩
          · simp only [Bool.and_eq_true, Nat.ble_eq] at hc
            obtain ⟨o1, o2, o3⟩ := hok.2.1 hb0
            exact W.objInit hx hb hown (hts _ o1) (hts _ o2) (hts _ o3) rfl (hlsz.trans hml.symm) rfl (hok.1 ▸ hdg) (by omega) (by rw [mm_words_lv]; show 2 * 0 + _ + 12 ≤ _; omega) (jump hr)
          · cases hr
        · cases hr
      · try dsimp only at hr
        have hb0 := Nat.ne_of_beq_eq_false hb0
        rcases hPN : P a with _ | N
        · rw [hPN] at hr; cases hr
        rw [hPN] at hr
        rcases d with _ | d'
        · cases hr
        · try dsimp only at hr
          split at hr
          · next k0 t hdrop =>
            rcases mm_bif hr with ⟨hc, hr⟩ | ⟨hc, hr⟩
            · split at hr
              · next v1 h1 g1 hrun =>
                split at hr
                · next vs hvs =>
                  simp only [Bool.and_eq_true, Nat.ble_eq] at hc
                  obtain ⟨hwd, hln, hsl1⟩ := hc
                  have hln := Nat.eq_of_beq_eq_true hln
                  obtain ⟨hN, hNr⟩ := hprog a N hPN
                  obtain ⟨⟨⟨hl1, hl2⟩, hin, hyn⟩, hretN⟩ := hok.2.2 hb0 N hPN
                  obtain ⟨hpl, hcn1, hcode, hini, hd, hmx⟩ := id hN
                  refine mm_W_size (fun hz => ?_)
                  have hst : st = st.take (mm_par N) ++ .ref k0 :: t := by rw [← hdrop, List.take_append_drop]
                  have hstk : st.map (mm_lv N0 od) = (((st.take (mm_par N)).reverse).map (mm_lv N0 od)).reverse ++ .ref (N0 + k0) :: t.map (mm_lv N0 od) := by
                    rw [← List.map_reverse, List.reverse_reverse, show Value.ref (N0 + k0) = mm_lv N0 od (.ref k0) from rfl, ← List.map_cons, ← List.map_append, ← hst]
                  have hM1 := mm_met ih hrun hN hNr hsl1 (mm_val_no hvs)
                  have hpcs : PreS s H (mm_Pc N0 od cy D B0 O (.ref k0 :: (st.take (mm_par N)).reverse) h g) (.ref (N0 + k0) :: ((st.take (mm_par N)).reverse).map (mm_lv N0 od)) := ⟨mm_blind, hpre (.ref k0 :: (st.take (mm_par N)).reverse) hz⟩
                  rw [hretN] at hM1 hcode
                  by_cases hb1 : b = 1
                  · have hcw : CallB R s args (mm_cn (mm_own M)) idx (mm_name N) (mm_bytes N) (mm_maxL N) none (Cond.code (mm_name N) (mm_bytes N) (mm_maxL N) none :: lw_g) (mm_rm d' h h1 g g1) (mm_mc h h1 g g1) (mm_ms h h1 g g1) (mm_par N) ∧ (mm_name N).name = "<init>" ∧ (Cond.instanceMethod (mm_name N)).before args s = true :=
                      ⟨callB_of (mm_par N) hts (mm_goodc hcode) rfl rfl rfl (hts _ hini) (hts _ (hl1 hb1)) hd ⟨hRf, by show 8 + (mm_maxL N + 11) + 40 * d' ≤ R.locals; omega⟩, hyn, hts _ hin⟩
                    exact mm_call (v := v1) (h' := h1) (rest := t.map (mm_lv N0 od)) (va_runI hfix hM1 hcw hpcs rfl (by rw [List.length_map, List.length_reverse]; exact hln) hlsz hstk (lv_room (by rw [mm_words_lv]; exact hwd)) (hok.1 ▸ hdg) (roomOf hrun hr)) hS (after hrun hvs hr)
                  · obtain ⟨host, hl⟩ := hl2 hb1
                    have hcw : va_CN R s args (mm_cn (mm_own M)) idx (mm_name N) host (mm_bytes N) (mm_maxL N) none (Cond.code (mm_name N) (mm_bytes N) (mm_maxL N) none :: lw_g) (mm_rm d' h h1 g g1) (mm_mc h h1 g g1) (mm_ms h h1 g g1) (mm_par N) ∧ (mm_name N).name = "<init>" ∧ (Cond.instanceMethod (mm_name N)).before args s = true :=
                      ⟨va_cnB (mm_par N) hts (mm_goodc hcode) rfl rfl rfl (hK.2.2.2.2.2.1 _ _ _ _ hl) (hts _ hini) hd ⟨hRf, by show 8 + (mm_maxL N + 11) + 40 * d' ≤ R.locals; omega⟩, hyn, hts _ hin⟩
                    exact mm_call (v := v1) (h' := h1) (rest := t.map (mm_lv N0 od)) (va_runIN hfix hM1 hcw hpcs rfl (by rw [List.length_map, List.length_reverse]; exact hln) hlsz hstk (lv_room (by rw [mm_words_lv]; exact hwd)) (hok.1 ▸ hdg) (roomOf hrun hr)) hS (after hrun hvs hr)
                · cases hr
              · cases hr
            · cases hr
          · cases hr
    case new idx =>
      rcases mm_bif hr with ⟨hb1, hr⟩ | ⟨hb1, hr⟩
      · try dsimp only at hr
        split at hr
        · rcases mm_bif hr with ⟨hd6, hr⟩ | ⟨hd6, hr⟩
          · cases hr
            have hd6 : 6 ≤ d := by simpa [Nat.ble_eq] using hd6
            exact (hE H locs ls pc cells slots hS).2.2.2 a rfl (hok.2.1 (Nat.eq_of_beq_eq_true hb1)) ⟨by omega, by omega⟩ hP (by omega) (by omega) hlsz
          · cases hr
        · cases hr
      · rcases mm_bif hr with ⟨hg0, hr⟩ | ⟨hg0, hr⟩
        · exact plain (fun _ => Nat.eq_of_beq_eq_true hg0) hdg hok.1 (hok.2.2 (Nat.ne_of_beq_eq_false hb1)) rfl hr
        · cases hr
    case newarray ty =>
      rcases mm_bif hr with ⟨hg0, hr⟩ | ⟨hg0, hr⟩
      · cases hr
      · exact plain (fun _ => by cases hq : Nat.beq g 0 with | true => exact Nat.eq_of_beq_eq_true hq | false => rw [hq] at hg0; cases hg0) hdg hok.1 hok.2 rfl hr
    all_goals exact plain (fun z => by cases z) hdg hok.1 hok.2 rfl hr
end GO
