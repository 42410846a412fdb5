/-! THE LOOP: from what each operation does to the whole law -/
theorem hq_len232 (s : hq_S) : (hq_hp s).length = fb_B.length := by
  unfold hq_hp
  rw [List.length_mapIdx]
theorem hq_sz1 (s : hq_S) (k : Nat) (c : mm_Cell) : mm_sz1 (hq_cell s k c) = mm_sz1 c := by
  rcases c with o | o | o
  · simp [hq_cell, mm_sz1]
  · simp [hq_cell, mm_sz1]
  · simp [hq_cell, mm_sz1]
theorem hq_szI (s : hq_S) : ∀ (l : List mm_Cell) (k : Nat), mm_sz (l.mapIdx fun i c => hq_cell s (i + k) c) = mm_sz l := by
  intro l
  induction l with
  | nil => intro k; rfl
  | cons c l ih =>
    intro k
    rw [List.mapIdx_cons]
    have := ih (k + 1)
    simp only [mm_sz, List.map_cons, List.sum_cons] at this ⊢
    rw [hq_sz1]
    rw [show (fun i c => hq_cell s (i + 1 + k) c) = fun i c => hq_cell s (i + (k + 1)) c from funext fun i => by rw [show i + 1 + k = i + (k + 1) by omega]]
    rw [this]
theorem hq_szB (s : hq_S) : mm_sz (hq_hp s) = mm_sz fb_B := hq_szI s fb_B 0
def lw_F (xs : List Int32) (d pc : Nat) (r : mm_Loc) (st : List Value) (s : hq_S) (g G : Nat) : Prop := ∃ h' g', lw_X xs d pc r st s g (some (.int 1), h', g') ∧ h'.length = fb_B.length ∧ mm_sz h' = mm_sz fb_B ∧ g' ≤ G
/-- what an operation must do -/
def hq_OpL (Inv : hq_S → Prop) (k : Nat) : Prop := ∀ (xs : List Int32) (d i : Nat) (s : hq_S) (g G : Nat) (o5 o6 : Option Value), 1000 ≤ d → i + 6 ≤ xs.length → xs.length ≤ 3072 → Inv s → (∀ (s' : hq_S) (g' : Nat) (o5' o6' : Option Value), Inv s' → g' ≤ g + 1 → lw_F xs d 23 (lw_r (Int32.ofNat (i + 6)) o5' o6') [] s' g' G) → lw_F xs d 40 (lw_r (Int32.ofNat i) o5 o6) [.int (Int32.ofNat k)] s g G
theorem lw_F.p {xs : List Int32} {d pc : Nat} {r : mm_Loc} {st : List Value} {s : hq_S} {g G : Nat} (k : Nat) (pc' : Nat) (r' : mm_Loc) (st' : List Value) (h : ∀ go h, hq_bk (mm_O xs) k go d mc_L_law pc r st h g = go d mc_L_law pc' r' st' h g) (H : lw_F xs d pc' r' st' s g G) : lw_F xs d pc r st s g G := by
  obtain ⟨h', g', h1, h2⟩ := H
  exact ⟨h', g', lw_p k pc' r' st' h h1, h2⟩
theorem lw_icG {xs : List Int32} {d pc : Nat} {r : mm_Loc} {t : List Value} {s : hq_S} {g : Nat} {X : mm_Res × mm_Heap × Nat} {c : Jvm.ClassFile.Cond} {z : Int} {l a b e : Nat} {x y : Int32} (hat : mm_at (mm_rows mc_L_law) pc = some (.if_icmp c z, l, a, b, e)) (H : lw_X xs d (bif mm_cmp c x y then a else pc + 3) r t s g X) : lw_X xs d pc r (.int y :: .int x :: t) s g X := by
  obtain ⟨n, hn⟩ := H
  refine ⟨n + 1, ?_⟩
  rw [mm_run_succ]
  unfold mm_body
  rw [hat]
  dsimp only
  cases hc : mm_cmp c x y with
  | true => rw [hc] at hn; exact hn
  | false => rw [hc] at hn; exact hn
theorem lw_toInt {j : Nat} (h : j < 2147483648) : (Int32.ofNat j).toInt = j := by
  rw [Int32.toInt_ofNat']
  simp only [Int.bmod, Int32.size]
  omega
theorem lw_sub6 {L : Nat} (h : L ≤ 3072) : (Int32.ofNat L - (6 : Int32)).toInt = (L : Int) - 6 := by
  rw [Int32.toInt_sub, lw_toInt (by omega), show (6 : Int32).toInt = 6 from rfl]
  simp only [Int.bmod]
  omega
theorem lw_len {xs : List Int32} (h : mm_Heap) : mm_len (mm_O xs) h (.retAddr 0) = some (Int32.ofNat xs.length) := rfl
theorem lw_alen {xs : List Int32} {d pc : Nat} {r : mm_Loc} {t : List Value} {s : hq_S} {g : Nat} {X : mm_Res × mm_Heap × Nat} {a b c : Nat} (hat : mm_at (mm_rows mc_L_law) pc = some (.arraylength, 1, a, b, c)) (H : lw_X xs d (pc + 1) r (.int (Int32.ofNat xs.length) :: t) s g X) : lw_X xs d pc r (.retAddr 0 :: t) s g X := by
  obtain ⟨n, hn⟩ := H
  refine ⟨n + 1, ?_⟩
  generalize hq_hp s = h at hn ⊢
  rw [mm_run_succ]
  unfold mm_body
  rw [hat]
  exact hn
/-- the head of the loop -/
theorem lw_head {Inv : hq_S → Prop} (hop : ∀ k, k < 47 → hq_OpL Inv k) {xs : List Int32} (hl : xs.length ≤ 3072) {d : Nat} (hd : 1000 ≤ d) {G : Nat} : ∀ (c i : Nat) (s : hq_S) (g : Nat) (o5 o6 : Option Value), xs.length < i + 6 + 6 * c → i ≤ 3078 → g + c ≤ G → Inv s → lw_F xs d 23 (lw_r (Int32.ofNat i) o5 o6) [] s g G := by
  intro c
  induction c with
  | zero =>
    intro i s g o5 o6 hx hi hg hI
    refine lw_F.p 2 26 (lw_r (Int32.ofNat i) o5 o6) [.retAddr 0, .int (Int32.ofNat i)] (fun go h => rfl) ?_
    refine ⟨hq_hp s, g, ?_, hq_len232 s, hq_szB s, by omega⟩
    refine lw_alen rfl ?_
    refine lw_p 2 30 (lw_r (Int32.ofNat i) o5 o6) [.int (Int32.ofNat xs.length - (6 : Int32)), .int (Int32.ofNat i)] (fun go h => rfl) ?_
    refine lw_icG rfl ?_
    rw [show mm_cmp .gt (Int32.ofNat i) (Int32.ofNat xs.length - (6 : Int32)) = true from hq_c_gt_T (Int32.lt_iff_toInt_lt.mpr (by rw [lw_sub6 hl, lw_toInt (by omega)]; omega))]
    exact ⟨2, rfl⟩
  | succ c ih =>
    intro i s g o5 o6 hx hi hg hI
    refine lw_F.p 2 26 (lw_r (Int32.ofNat i) o5 o6) [.retAddr 0, .int (Int32.ofNat i)] (fun go h => rfl) ?_
    by_cases hlt : xs.length < i + 6
    · refine ⟨hq_hp s, g, ?_, hq_len232 s, hq_szB s, by omega⟩
      refine lw_alen rfl ?_
      refine lw_p 2 30 (lw_r (Int32.ofNat i) o5 o6) [.int (Int32.ofNat xs.length - (6 : Int32)), .int (Int32.ofNat i)] (fun go h => rfl) ?_
      refine lw_icG rfl ?_
      rw [show mm_cmp .gt (Int32.ofNat i) (Int32.ofNat xs.length - (6 : Int32)) = true from hq_c_gt_T (Int32.lt_iff_toInt_lt.mpr (by rw [lw_sub6 hl, lw_toInt (by omega)]; omega))]
      exact ⟨2, rfl⟩
    · have hK : ∀ (s' : hq_S) (g' : Nat) (o5' o6' : Option Value), Inv s' → g' ≤ g + 1 → lw_F xs d 23 (lw_r (Int32.ofNat (i + 6)) o5' o6') [] s' g' G := fun s' g' o5' o6' hI' hg' => ih (i + 6) s' g' o5' o6' (by omega) (by omega) (by omega) hI'
      have hb := fx_ivand_ok (xs.getD i 0) (Int8.ofInt 63).toInt32 fx_top (63, 63) (fx_top_ok _).1 (fx_top_ok _).2 (by decide) (by decide)
      have hb1 : 0 ≤ (xs.getD i 0 &&& (Int8.ofInt 63).toInt32).toInt := hb.1
      have hb2 : (xs.getD i 0 &&& (Int8.ofInt 63).toInt32).toInt ≤ 63 := hb.2
      suffices H40 : lw_F xs d 40 (lw_r (Int32.ofNat i) o5 o6) [.int (xs.getD i 0 &&& (Int8.ofInt 63).toInt32)] s g G from by
        obtain ⟨h', g', h1, h2⟩ := H40
        refine ⟨h', g', ?_, h2⟩
        refine lw_alen rfl ?_
        refine lw_p 2 30 (lw_r (Int32.ofNat i) o5 o6) [.int (Int32.ofNat xs.length - (6 : Int32)), .int (Int32.ofNat i)] (fun go h => rfl) ?_
        refine lw_icG rfl ?_
        rw [show mm_cmp .gt (Int32.ofNat i) (Int32.ofNat xs.length - (6 : Int32)) = false from hq_c_gt_F (fun q => by
          have := Int32.lt_iff_toInt_lt.mp q
          rw [lw_sub6 hl, lw_toInt (by omega)] at this
          omega)]
        refine lw_p 2 36 (lw_r (Int32.ofNat i) o5 o6) [.int (Int32.ofNat i), .retAddr 0] (fun go h => rfl) ?_
        refine lw_scr rfl rfl (by omega) hl ?_
        refine lw_p 2 40 (lw_r (Int32.ofNat i) o5 o6) [.int (xs.getD i 0 &&& (Int8.ofInt 63).toInt32)] (fun go h => rfl) ?_
        exact h1
      generalize xs.getD i 0 &&& (Int8.ofInt 63).toInt32 = x at hb1 hb2
      by_cases hk : x.toInt < 47
      · have hx : x = Int32.ofNat x.toInt.toNat := by
          apply Int32.toInt_inj.mp
          rw [lw_toInt (by omega)]
          omega
        rw [hx]
        exact hop x.toInt.toNat (by omega) xs d i s g G o5 o6 hd (by omega) hl hI hK
      · obtain ⟨h', g', h1, h2⟩ := hK s g o5 o6 hI (by omega)
        refine ⟨h', g', ?_, h2⟩
        obtain ⟨n, hn⟩ := h1
        refine ⟨n + 3, ?_⟩
        rw [show Int32.ofNat (i + 6) = Int32.ofNat i + 6 from Int32.ofNat_add i 6] at hn
        generalize hq_hp s = h at hn ⊢
        have e0 : mm_tsw 40 1825 0 46 #[204, 277, 302, 327, 364, 432, 469, 506, 543, 593, 630, 655, 692, 717, 766, 791, 828, 877, 902, 915, 952, 1001, 1038, 1051, 1076, 1101, 1126, 1139, 1176, 1201, 1226, 1263, 1325, 1350, 1387, 1436, 1474, 1551, 1576, 1601, 1626, 1663, 1712, 1761, 1774, 1787, 1800] x = some 1865 := by
          unfold mm_tsw
          rw [if_neg (by omega), if_pos (by omega)]
          rfl
        rw [mm_run_succ]
        show (match mm_tsw 40 1825 0 46 #[204, 277, 302, 327, 364, 432, 469, 506, 543, 593, 630, 655, 692, 717, 766, 791, 828, 877, 902, 915, 952, 1001, 1038, 1051, 1076, 1101, 1126, 1139, 1176, 1201, 1226, 1263, 1325, 1350, 1387, 1436, 1474, 1551, 1576, 1601, 1626, 1663, 1712, 1761, 1774, 1787, 1800] x with
          | some q => mm_run mm_P (mm_O xs) (n + 2) d mc_L_law q (lw_r (Int32.ofNat i) o5 o6) [] h g
          | none => none) = _
        rw [e0]
        have e1 := congrFun (congrFun (congrFun (congrFun (congrFun (congrFun (congrFun (hq_bk_run (mm_O xs) n 2) d) mc_L_law) 1865) (lw_r (Int32.ofNat i) o5 o6)) []) h) g
        show mm_run mm_P (mm_O xs) (n + 2) d mc_L_law 1865 (lw_r (Int32.ofNat i) o5 o6) [] h g = _
        rw [e1]
        exact hn
/-- the fresh contents -/
def hq_s0 : hq_S := (fun k i => match fb_L k with
    | some (.inl o) => (match o.2[i]? with
      | some (.int x) => x
      | _ => 0)
    | some (.inr (.inl a)) => a.2.getD i 0
    | _ => 0, fun k i => match fb_L k with
    | some (.inl o) => (match o.2[i]? with
      | some (.long x) => x
      | _ => 0)
    | some (.inr (.inr a)) => a.getD i 0
    | _ => 0, fun k i => match fb_L k with
    | some (.inl o) => (match o.2[i]? with
      | some (.ref x) => x
      | _ => 0)
    | _ => 0)
theorem hq_range_getD {α : Type} (l : List α) (d : α) : (List.range l.length).map (fun i => l.getD i d) = l := by
  apply List.ext_getElem?
  intro i
  rw [List.getElem?_map]
  by_cases h : i < l.length
  · rw [List.getElem?_range h, List.getElem?_eq_getElem h]
    simp [List.getD_eq_getElem?_getD, List.getElem?_eq_getElem h]
  · rw [List.getElem?_eq_none (by rw [List.length_range]; omega), List.getElem?_eq_none (by omega)]
    rfl
theorem hq_cell0 {k : Nat} {c : mm_Cell} (h : fb_L k = some c) : hq_cell hq_s0 k c = c := by
  rcases c with o | o | o
  · simp only [hq_cell]
    refine congrArg Sum.inl (Prod.ext rfl ?_)
    apply List.ext_getElem?
    intro b
    rw [List.getElem?_mapIdx]
    cases hb : o.2[b]? with
    | none => rfl
    | some v =>
      refine congrArg some ?_
      cases v
      case int x =>
        show Value.int (hq_s0.1 k b) = _
        simp only [hq_s0, h, hb]
      case long x =>
        show Value.long (hq_s0.2.1 k b) = _
        simp only [hq_s0, h, hb]
      case ref x =>
        show Value.ref (bif hq_mut k b then hq_s0.2.2 k b else x) = _
        simp only [hq_s0, h, hb]
        cases hq_mut k b <;> rfl
      all_goals rfl
  · simp only [hq_cell]
    rw [show hq_gi hq_s0 k = fun i => o.2.getD i 0 from funext fun i => by show hq_s0.1 k i = _; simp only [hq_s0, h], hq_range_getD]
  · simp only [hq_cell]
    rw [show hq_gj hq_s0 k = fun i => o.getD i 0 from funext fun i => by show hq_s0.2.1 k i = _; simp only [hq_s0, h], hq_range_getD]
theorem fb_conv : ∀ (cs : List (List mm_Cell)), (∀ c ∈ cs, c.length = 8) → ∀ (k : Nat) (x : mm_Cell), cs.flatten[k]? = some x → (match cs[k / 8]? with
  | some ch => ch[k % 8]?
  | none => none) = some x := by
  intro cs
  induction cs with
  | nil => intro _ k x h; cases h
  | cons c cs ih =>
    intro hl k x h
    have h8 := hl c List.mem_cons_self
    rw [List.flatten_cons] at h
    by_cases hk : k < 8
    · rw [List.getElem?_append_left (by omega)] at h
      rw [show k / 8 = 0 by omega, show k % 8 = k by omega]
      exact h
    · rw [List.getElem?_append_right (by omega), h8] at h
      have := ih (fun c hc => hl c (List.mem_cons_of_mem _ hc)) (k - 8) x h
      rw [show k / 8 = (k - 8) / 8 + 1 by omega, show k % 8 = (k - 8) % 8 by omega]
      exact this
theorem fb_LB {k : Nat} {c : mm_Cell} (h : fb_B[k]? = some c) : fb_L k = some c := fb_conv fb_C (by
  have : fb_C.all (fun c => Nat.beq c.length 8) = true := by decide +kernel
  intro c hc
  exact Nat.eq_of_beq_eq_true (List.all_eq_true.mp this c hc)) k c h
theorem hq_fresh : hq_hp hq_s0 = fb_B := by
  unfold hq_hp
  apply List.ext_getElem?
  intro k
  rw [List.getElem?_mapIdx]
  cases hk : fb_B[k]? with
  | none => rfl
  | some c => exact congrArg some (hq_cell0 (fb_LB hk))
theorem fb_sz6 : Nat.ble (mm_sz fb_B + 3600) 7293033 = true := by decide +kernel
/-- the law, from an invariant that the fresh objects have and every operation keeps -/
theorem hq_lawful {Inv : hq_S → Prop} (h0 : Inv hq_s0) (hop : ∀ k, k < 47 → hq_OpL Inv k) : ∀ xs : List Int32, xs.length ≤ 3072 → ∃ (n d : Nat) (hF : mm_Heap) (gF : Nat), mm_run mm_P (mm_O xs) n d mc_L_law 0 (mm_entry 7 [.retAddr 0]) [] [] 0 = some (some (.int 1), hF, gF) ∧ d ≤ 2048 ∧ 40 * d ≤ 84000 ∧ hF.length + gF ≤ 600000 ∧ mm_sz hF + 6 * gF ≤ 7293033 := by
  intro xs hl
  have hd : 1000 ≤ 1999 + 1 := by omega
  obtain ⟨h', g', h1, h2, h3, h4⟩ := lw_head hop hl hd (G := 600) 513 0 hq_s0 0 none none (by omega) (by omega) (by omega) h0
  obtain ⟨n, hn⟩ := h1
  rw [hq_fresh] at hn
  obtain ⟨m, hm⟩ := fc_start xs (d := 1999) (by omega) hn
  have h5 := Nat.le_of_ble_eq_true fb_sz6
  have h6 := fb_l232
  exact ⟨m, 1999 + 1, h', g', hm, by omega, by omega, by omega, by omega⟩
