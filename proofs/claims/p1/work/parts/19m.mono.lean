/-! RUNS KEEP THEIR ANSWERS: with more fuel, more frames, and with a script where there was none -/
def mm_leO (O O' : mm_Old) : Prop := O.2 = O'.2 ∧ (O.1 = [] ∨ O.1 = O'.1)
theorem mm_leO.rf (O : mm_Old) : mm_leO O O := ⟨rfl, Or.inr rfl⟩
theorem mm_len_le {O O' : mm_Old} (hO : mm_leO O O') {h : mm_Heap} {v : Value} {x : Int32} (hx : mm_len O h v = some x) : mm_len O' h v = some x := by
  obtain ⟨o1, o2⟩ := O
  obtain ⟨p1, p2⟩ := O'
  obtain ⟨h1, h2⟩ := hO
  dsimp only at h1 h2
  subst h1
  rcases h2 with rfl | rfl
  · cases v with
    | retAddr n =>
      cases n with
      | zero => cases hx
      | succ k => exact hx
    | _ => exact hx
  · exact hx
theorem mm_iald_le {O O' : mm_Old} (hO : mm_leO O O') {h : mm_Heap} {v : Value} {i x : Int32} (hx : mm_iald O h v i = some x) : mm_iald O' h v i = some x := by
  obtain ⟨o1, o2⟩ := O
  obtain ⟨p1, p2⟩ := O'
  obtain ⟨h1, h2⟩ := hO
  dsimp only at h1 h2
  subst h1
  rcases h2 with rfl | rfl
  · cases v with
    | retAddr n => cases hx
    | _ => exact hx
  · exact hx
theorem mm_step_le {O O' : mm_Old} (hO : mm_leO O O') {w : mm_Row} {pc : Nat} {r : mm_Loc} {st : List Value} {h : mm_Heap} {x : mm_Loc × List Value × mm_Heap} (hx : mm_step O w pc r st h = some x) : mm_step O' w pc r st h = some x := by
  have e2 : O'.2 = O.2 := hO.1.symm
  obtain ⟨i, len, a, b, c⟩ := w
  cases i
  case arraylength =>
    unfold mm_step at hx ⊢
    dsimp only at hx ⊢
    split at hx
    · next v t =>
      obtain ⟨y, h1, h2⟩ := Option.map_eq_some_iff.mp hx
      rw [mm_len_le hO h1]
      exact congrArg some h2
    · cases hx
  case iaload =>
    unfold mm_step at hx ⊢
    dsimp only at hx ⊢
    split at hx
    · next j v t =>
      obtain ⟨y, h1, h2⟩ := Option.map_eq_some_iff.mp hx
      rw [mm_iald_le hO h1]
      exact congrArg some h2
    · cases hx
  case baload =>
    unfold mm_step mm_bald at hx ⊢
    rw [e2]
    exact hx
  case getfield idx =>
    unfold mm_step mm_getf at hx ⊢
    rw [e2]
    exact hx
  case new idx =>
    unfold mm_step at hx ⊢
    rw [e2]
    exact hx
  case ldc idx =>
    unfold mm_step at hx ⊢
    rw [e2]
    exact hx
  all_goals exact hx
theorem mm_rcv_eq {O O' : mm_Old} (hO : mm_leO O O') (h : mm_Heap) (v : Value) (o : Nat) : mm_rcv O h v o = mm_rcv O' h v o := by
  unfold mm_rcv
  rw [hO.1]
set_option maxHeartbeats 4000000 in
theorem mm_body_le {P : Nat → Option mm_Meth} {O O' : mm_Old} (hO : mm_leO O O') {go go' : Nat → mm_Meth → Nat → mm_Loc → List Value → mm_Heap → Nat → Option (mm_Res × mm_Heap × Nat)}
    (hgo : ∀ (d e : Nat) (M : mm_Meth) (pc : Nat) (r : mm_Loc) (st : List Value) (h : mm_Heap) (g : Nat) (x : mm_Res × mm_Heap × Nat), d ≤ e → go d M pc r st h g = some x → go' e M pc r st h g = some x)
    {d e : Nat} (hde : d ≤ e) {M : mm_Meth} {pc : Nat} {r : mm_Loc} {st : List Value} {h : mm_Heap} {g : Nat} {x : mm_Res × mm_Heap × Nat} (hr : mm_body P O go d M pc r st h g = some x) : mm_body P O' go' e M pc r st h g = some x := by
  unfold mm_body at hr ⊢
  split at hr
  · cases hr
  next w hw =>
  obtain ⟨i, len, a, b, c⟩ := w
  dsimp only at hr ⊢
  cases i
  case goto off => exact hgo _ _ _ _ _ _ _ _ _ hde hr
  case if_icmp cd off =>
    dsimp only at hr ⊢
    split at hr
    · rcases mm_bif hr with ⟨hc, hr⟩ | ⟨hc, hr⟩ <;> rw [hc] <;> exact hgo _ _ _ _ _ _ _ _ _ hde hr
    · cases hr
  case ifCond cd off =>
    dsimp only at hr ⊢
    split at hr
    · rcases mm_bif hr with ⟨hc, hr⟩ | ⟨hc, hr⟩ <;> rw [hc] <;> exact hgo _ _ _ _ _ _ _ _ _ hde hr
    · cases hr
  case tableswitch =>
    dsimp only at hr ⊢
    split at hr
    · split at hr
      · next q hq =>
        try rw [hq]
        exact hgo _ _ _ _ _ _ _ _ _ hde hr
      · cases hr
    · cases hr
  case lookupswitch =>
    dsimp only at hr ⊢
    split at hr
    · split at hr
      · next q hq =>
        try rw [hq]
        exact hgo _ _ _ _ _ _ _ _ _ hde hr
      · cases hr
    · cases hr
  case ireturn => exact hr
  case lreturn => exact hr
  case return_ => exact hr
  case invokevirtual idx =>
    dsimp only at hr ⊢
    rcases hPN : P a with _ | N
    · rw [hPN] at hr; cases hr
    rw [hPN] at hr
    rcases d with _ | d'
    · cases hr
    obtain ⟨e', rfl⟩ : ∃ e', e = e' + 1 := ⟨e - 1, by omega⟩
    dsimp only at hr ⊢
    split at hr
    · next v0 t hdrop =>
      try rw [hdrop]
      try dsimp only
      rw [← mm_rcv_eq hO]
      rcases mm_bif hr with ⟨hc, hr⟩ | ⟨hc, hr⟩
      · rw [hc]
        simp only [cond_true]
        split at hr
        · next v1 h1 g1 hrun =>
          rw [hgo _ e' _ _ _ _ _ _ _ (by omega) hrun]
          try dsimp only
          split at hr
          · next vs hvs =>
            try rw [hvs]
            exact hgo _ _ _ _ _ _ _ _ _ hde hr
          · cases hr
        · cases hr
      · cases hr
    · cases hr
  case invokestatic idx =>
    dsimp only at hr ⊢
    have h9 := mm_bif hr
    clear hr
    rcases h9 with ⟨hb0, hr⟩ | ⟨hb0, hr⟩
    · rw [hb0]
      simp only [cond_true]
      rcases hPN : P a with _ | N
      · rw [hPN] at hr; cases hr
      rw [hPN] at hr
      rcases d with _ | d'
      · cases hr
      obtain ⟨e', rfl⟩ : ∃ e', e = e' + 1 := ⟨e - 1, by omega⟩
      dsimp only at hr ⊢
      rcases mm_bif hr with ⟨hc, hr⟩ | ⟨hc, hr⟩
      · rw [hc]
        simp only [cond_true]
        split at hr
        · next v1 h1 g1 hrun =>
          rw [hgo _ e' _ _ _ _ _ _ _ (by omega) hrun]
          try dsimp only
          split at hr
          · next vs hvs =>
            try rw [hvs]
            exact hgo _ _ _ _ _ _ _ _ _ hde hr
          · cases hr
        · cases hr
      · cases hr
    · rw [hb0]
      simp only [cond_false]
      have h9 := mm_bif hr
      clear hr
      rcases h9 with ⟨hb2, hr⟩ | ⟨hb2, hr⟩
      · rw [hb2]
        simp only [cond_true]
        rcases hPN : P a with _ | N
        · rw [hPN] at hr; cases hr
        rw [hPN] at hr
        rcases d with _ | d
        · cases hr
        rcases d with _ | d'
        · cases hr
        obtain ⟨e', rfl⟩ : ∃ e', e = e' + 1 + 1 := ⟨e - 2, by omega⟩
        dsimp only at hr ⊢
        split at hr
        · rw [← mm_rcv_eq hO]
          rcases mm_bif hr with ⟨hc, hr⟩ | ⟨hc, hr⟩
          · rw [hc]
            simp only [cond_true]
            split at hr
            · next hrun =>
              rw [hgo _ e' _ _ _ _ _ _ _ (by omega) hrun]
              try dsimp only
              split at hr
              · next hl =>
                try rw [hl]
                exact hgo _ _ _ _ _ _ _ _ _ hde hr
              · cases hr
            · next hrun =>
              rw [hgo _ e' _ _ _ _ _ _ _ (by omega) hrun]
              exact hgo _ _ _ _ _ _ _ _ _ hde hr
            · cases hr
          · cases hr
        · cases hr
      · rw [hb2]
        simp only [cond_false]
        have h9 := mm_bif hr
        clear hr
        rcases h9 with ⟨hb3, hr⟩ | ⟨hb3, hr⟩
        · rw [hb3]
          simp only [cond_true]
          split at hr
          · next hm =>
            try rw [hm]
            rcases mm_bif hr with ⟨hc, hr⟩ | ⟨hc, hr⟩
            · obtain ⟨c1, c2⟩ := Bool.and_eq_true_iff.mp hc
              rw [Nat.ble_eq] at c2
              have c3 : Nat.ble 1 e = true := by rw [Nat.ble_eq]; omega
              try dsimp only
              rw [c1, c3]
              exact hgo _ _ _ _ _ _ _ _ _ hde hr
            · cases hr
          · cases hr
        rw [hb3]
        simp only [cond_false]
        split at hr
        · rcases mm_bif hr with ⟨hc, hr⟩ | ⟨hc, hr⟩
          · obtain ⟨c1, c2⟩ := Bool.and_eq_true_iff.mp hc
            rw [Nat.ble_eq] at c2
            have c3 : Nat.ble 1 e = true := by rw [Nat.ble_eq]; omega
            rw [c1, c3]
            simp only [Bool.and_true, cond_true]
            split at hr
            · next hcp =>
              try rw [hcp]
              exact hgo _ _ _ _ _ _ _ _ _ hde hr
            · cases hr
          · cases hr
        · cases hr
  case invokespecial idx =>
    dsimp only at hr ⊢
    have h9 := mm_bif hr
    clear hr
    rcases h9 with ⟨hb0, hr⟩ | ⟨hb0, hr⟩
    · rw [hb0]
      simp only [cond_true]
      split at hr
      · rcases mm_bif hr with ⟨hc, hr⟩ | ⟨hc, hr⟩
        · obtain ⟨c1, c2⟩ := Bool.and_eq_true_iff.mp hc
          rw [Nat.ble_eq] at c2
          have c3 : Nat.ble 1 e = true := by rw [Nat.ble_eq]; omega
          rw [c1, c3]
          exact hgo _ _ _ _ _ _ _ _ _ hde hr
        · cases hr
      · cases hr
    · rw [hb0]
      simp only [cond_false]
      rcases hPN : P a with _ | N
      · rw [hPN] at hr; cases hr
      rw [hPN] at hr
      rcases d with _ | d'
      · cases hr
      obtain ⟨e', rfl⟩ : ∃ e', e = e' + 1 := ⟨e - 1, by omega⟩
      dsimp only at hr ⊢
      split at hr
      · next v0 t hdrop =>
        try rw [hdrop]
        try dsimp only
        rcases mm_bif hr with ⟨hc, hr⟩ | ⟨hc, hr⟩
        · rw [hc]
          simp only [cond_true]
          split at hr
          · next v1 h1 g1 hrun =>
            rw [hgo _ e' _ _ _ _ _ _ _ (by omega) hrun]
            try dsimp only
            split at hr
            · next vs hvs =>
              try rw [hvs]
              exact hgo _ _ _ _ _ _ _ _ _ hde hr
            · cases hr
          · cases hr
        · cases hr
      · cases hr
  case new idx =>
    dsimp only at hr ⊢
    have h9 := mm_bif hr
    clear hr
    rcases h9 with ⟨hb0, hr⟩ | ⟨hb0, hr⟩
    · rw [hb0]
      simp only [cond_true]
      split at hr
      · rcases mm_bif hr with ⟨hc, hr⟩ | ⟨hc, hr⟩
        · rw [Nat.ble_eq] at hc
          have c3 : Nat.ble 6 e = true := by rw [Nat.ble_eq]; omega
          rw [c3]
          exact hr
        · cases hr
      · cases hr
    · rw [hb0]
      simp only [cond_false]
      rcases mm_bif hr with ⟨hc, hr⟩ | ⟨hc, hr⟩
      · rw [hc]
        simp only [cond_true]
        split at hr
        · next r' st' h' hs =>
          rw [mm_step_le hO hs]
          exact hgo _ _ _ _ _ _ _ _ _ hde hr
        · cases hr
      · cases hr
  all_goals
    rcases mm_bif hr with ⟨hc, hr⟩ | ⟨hc, hr⟩
    · cases hr
    · rw [hc]
      simp only [cond_false]
      split at hr
      · next r' st' h' hs =>
        rw [mm_step_le hO hs]
        exact hgo _ _ _ _ _ _ _ _ _ hde hr
      · cases hr
theorem mm_run_le {P : Nat → Option mm_Meth} {O O' : mm_Old} (hO : mm_leO O O') : ∀ (n k d e : Nat) (M : mm_Meth) (pc : Nat) (r : mm_Loc) (st : List Value) (h : mm_Heap) (g : Nat) (x : mm_Res × mm_Heap × Nat), d ≤ e → mm_run P O n d M pc r st h g = some x → mm_run P O' (n + k) e M pc r st h g = some x := by
  intro n
  induction n with
  | zero => intro k d e M pc r st h g x _ hr; cases hr
  | succ n ih =>
    intro k d e M pc r st h g x hde hr
    rw [show n + 1 + k = (n + k) + 1 by omega, mm_run_succ]
    rw [mm_run_succ] at hr
    exact mm_body_le hO (fun d e M pc r st h g x hde hr => ih k d e M pc r st h g x hde hr) hde hr
