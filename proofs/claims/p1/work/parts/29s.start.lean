/-! WHERE THE LAW BEGINS: what the Statement gives, in the mini machine's words -/
def mm_sb : List (List Int32) := [[99, 111, 114, 110, 101, 114, 108, 97, 110, 101, 32, 32, 115, 116, 101, 112, 115, 32, 103, 117, 97, 114, 100, 32, 98, 101, 97, 116, 32, 32, 116, 104, 105, 101, 102, 32, 103, 114, 105, 112, 32, 32, 115, 101, 101, 100, 32, 32, 108, 97, 119, 32, 32, 32, 100, 114, 101, 97, 100, 32, 116, 97, 107, 101, 32, 32, 115, 116, 105, 114, 32, 32], [108, 105, 103, 104, 116, 32, 102, 97, 114, 32, 32, 32, 108, 111, 111, 116, 32, 32, 98, 111, 108, 100, 32, 32, 104, 97, 100, 32, 32, 32, 103, 117, 97, 114, 100, 115, 104, 111, 117, 114, 32, 32, 97, 110, 100, 32, 32, 32, 111, 114, 32, 32, 32, 32, 110, 111, 116, 32, 32, 32], [110, 111, 32, 115, 117, 99, 104, 32, 99, 111, 114, 110, 101, 114], [110, 111, 32, 115, 117, 99, 104, 32, 119, 104, 97, 116], [99, 111, 114, 110, 101, 114, 32, 108, 97, 110, 101, 32, 115, 116, 101, 112, 115, 32, 103, 117, 97, 114, 100, 32, 98, 101, 97, 116, 32, 116, 104, 105, 101, 102, 32, 103, 114, 105, 112, 32, 115, 101, 101, 100, 32, 108, 97, 119, 32, 100, 114, 101, 97, 100, 32, 116, 97, 107, 101, 32, 115, 116, 105, 114, 32, 111, 114, 32, 97, 110, 100, 32, 110, 111, 116, 32, 108, 105, 103, 104, 116, 32, 102, 97, 114, 32, 108, 111, 111, 116, 32, 98, 111, 108, 100, 32, 104, 97, 100, 32, 103, 117, 97, 114, 100, 115, 32, 104, 111, 117, 114, 32]]
def mm_O (xs : List Int32) : mm_Old := (0 :: xs, mm_sb, mm_fts)
def mm_fl : List Cond := flatC (Jvm.Cond.and given_1 narrow_1)
def mm_tm (i : Nat) : Term := .string (mm_cn (mm_strs.getD i (0, 0, "")).1) (mm_strs.getD i (0, 0, "")).2.1
def mm_sp : List (Nat × Nat) := [(39, 72), (115, 60), (180, 14), (200, 12), (219, 112)]
def mm_at9 (p : Nat) (w : Cond) : Bool := match mm_fl[p]? with
  | some v => decide (v = w)
  | none => false
theorem mm_at9_in {p : Nat} {w : Cond} (h : mm_at9 p w = true) : w ∈ mm_fl := by
  unfold mm_at9 at h
  split at h
  · next v hv =>
    have h1 : v = w := of_decide_eq_true h
    subst h1
    exact List.mem_of_getElem? hv
  · cases h
def mm_ck9 (i : Nat) : Bool := mm_at9 (mm_sp.getD i (0, 0)).1 (.exactly (mm_tm i) "java/lang/String") && (mm_at9 ((mm_sp.getD i (0, 0)).1 + 1) (.eq (.field (mm_tm i) "java/lang/String" "coder" "B") (.int 0)) && (mm_at9 ((mm_sp.getD i (0, 0)).1 + 2) (.arrayOf (.field (mm_tm i) "java/lang/String" "value" "[B") .byte) && mm_at9 ((mm_sp.getD i (0, 0)).1 + 3) (.eq (.length (.field (mm_tm i) "java/lang/String" "value" "[B")) (.int (Int32.ofNat ((mm_sb.map List.length).getD i 0))))))
def mm_el9 (i : Nat) : Bool := (List.range ((mm_sb.map List.length).getD i 0)).all fun j => mm_at9 ((mm_sp.getD i (0, 0)).1 + 4 + j) (.eq (.elem (.field (mm_tm i) "java/lang/String" "value" "[B") (.int (Int32.ofNat j))) (.int ((mm_sb.getD i []).getD j 0)))
theorem mm_ck9_0 : mm_ck9 0 = true := by decide +kernel
theorem mm_ck9_1 : mm_ck9 1 = true := by decide +kernel
theorem mm_ck9_2 : mm_ck9 2 = true := by decide +kernel
theorem mm_ck9_3 : mm_ck9 3 = true := by decide +kernel
theorem mm_ck9_4 : mm_ck9 4 = true := by decide +kernel
theorem mm_el9_0 : mm_el9 0 = true := by decide +kernel
theorem mm_el9_1 : mm_el9 1 = true := by decide +kernel
theorem mm_el9_2 : mm_el9 2 = true := by decide +kernel
theorem mm_el9_3 : mm_el9 3 = true := by decide +kernel
theorem mm_el9_4 : mm_el9 4 = true := by decide +kernel
theorem mm_ck9_all {i : Nat} (hi : i < 5) : mm_ck9 i = true ∧ mm_el9 i = true := by
  match i, hi with
  | 0, _ => exact ⟨mm_ck9_0, mm_el9_0⟩
  | 1, _ => exact ⟨mm_ck9_1, mm_el9_1⟩
  | 2, _ => exact ⟨mm_ck9_2, mm_el9_2⟩
  | 3, _ => exact ⟨mm_ck9_3, mm_el9_3⟩
  | 4, _ => exact ⟨mm_ck9_4, mm_el9_4⟩
  | i + 5, hi => omega
/-- the places of 'these two are different' -/
def mm_np (i j : Nat) : Nat := match i, j with
  | 0, 1 => 179
  | 0, 2 => 198
  | 0, 3 => 216
  | 0, 4 => 335
  | 1, 2 => 199
  | 1, 3 => 217
  | 1, 4 => 336
  | 2, 3 => 218
  | 2, 4 => 337
  | 3, 4 => 338
  | _, _ => 0
def mm_nb : Bool := (List.range 5).all fun i => (List.range 5).all fun j => Nat.ble j i || mm_at9 (mm_np i j) (.not (.eq (mm_tm i) (mm_tm j)))
theorem mm_nb_ok : mm_nb = true := by decide +kernel
def mm_m9 : Bool := mm_at9 4 (.eq (.static "java/lang/String" "COMPACT_STRINGS" "Z") (.int 1)) && (mm_at9 5 (.isRef (.static "jdk/internal/util/Preconditions" "SIOOBE_FORMATTER" "Ljava/util/function/BiFunction;")) && (mm_at9 9 (.isRef (.static Bundle.tN "UNASSIGNED_STACK" Bundle.steD)) && (mm_at9 10 (.isRef (.static Bundle.tN "SUPPRESSED_SENTINEL" Bundle.listD)) && mm_at9 24 (.not (.castable "java/util/NoSuchElementException" "java/lang/IndexOutOfBoundsException")))))
theorem mm_m9_ok : mm_m9 = true := by decide +kernel
theorem mm_inT {w : Cond} (p : Nat) (h1 : lw_tbl[p]? = some w) : w ∈ lw_tbl := List.mem_of_getElem? h1
set_option maxHeartbeats 1000000 in
/-- what is known at the law's start -/
theorem mm_startK {s : State} {b : Addr} {xs : List Int32} (hts : ∀ w ∈ lw_tbl, w.before #[Value.ref b] s = true) (hX : va_X b xs.length (fun j => xs.getD j 0) s s.heap) (hbl : b < s.heap.size) (hgv : (Jvm.Cond.and given_1 narrow_1).before #[Value.ref b] s = true) :
    ∃ (od : Nat → Nat) (cy : ArrayType → ClassId) (D : va_G), od 0 = b ∧ mm_K s.heap.size od cy D s.heap (mm_O xs) s := by
  have hfl : ∀ w ∈ mm_fl, w.before #[Value.ref b] s = true := flat_of_before _ hgv
  have htg : ∀ w ∈ lw_g, w.before #[Value.ref b] s = true := fun w hw => hts w (List.mem_filter.mp hw).1
  have hA : ∀ a : Nat, a < s.heap.size → ¬ mm_A s.heap.size a := fun a ha => Nat.not_le.mpr ha
  /- classes -/
  have hcl : ∀ a : Nat, ∃ q : ClassId × (Nat → Nat), ∀ z : vw_C, mm_Cl[a]? = some z → u_Kn s z.1 z.2.1 z.2.2 q.1 q.2 := by
    intro a
    cases hz : mm_Cl[a]? with
    | none => exact ⟨(0, fun _ => 0), fun z h => by cases h⟩
    | some z =>
      rcases Nat.lt_or_ge a 13 with ha | ha
      · have hv : vwCl[a]? = some z := by
          have : mm_Cl[a]? = vwCl[a]? := by
            unfold mm_Cl
            rw [List.getElem?_append_left (show a < vwCl.length from ha)]
          rw [← this]; exact hz
        obtain ⟨C, T, N⟩ := z
        obtain ⟨h1, -, h3, -, -⟩ := mm_cls_ok a C T N hv
        obtain ⟨c, i, hk⟩ := u_known (C := C) (T := T) (N := N) (n := N) htg h1 (htg _ h3)
        exact ⟨(c, i), fun z h => by cases h; exact hk⟩
      · have hl : a < 15 := (List.getElem?_eq_some_iff.mp hz).1
        have h13 : a = 13 ∨ a = 14 := by omega
        rcases h13 with rfl | rfl
        · have hz' : some ("java/lang/IndexOutOfBoundsException", mm_T0, 0) = some z := hz
          cases hz'
          obtain ⟨c, i, hk⟩ := u_known (C := "java/lang/IndexOutOfBoundsException") (T := mm_T0) (N := 0) (n := 6) hts (fun w h => by cases h) (hts (.instantiable "java/lang/IndexOutOfBoundsException" 6) (mm_inT 1600 (by decide +kernel)))
          exact ⟨(c, i), fun z h => by cases h; exact hk⟩
        · have hz' : some ("java/util/NoSuchElementException", mm_T0, 0) = some z := hz
          cases hz'
          obtain ⟨c, i, hk⟩ := u_known (C := "java/util/NoSuchElementException") (T := mm_T0) (N := 0) (n := 6) hts (fun w h => by cases h) (hts (.instantiable "java/util/NoSuchElementException" 6) (mm_inT 1674 (by decide +kernel)))
          exact ⟨(c, i), fun z h => by cases h; exact hk⟩
  obtain ⟨f, hf⟩ := Classical.axiomOfChoice hcl
  /- arrays -/
  obtain ⟨hArr, -⟩ := mm_misc_all.1
  have har : ∀ ty : FieldType, Cond.arrayClass ty ∈ lw_g → (∀ C, ty ≠ .object C) → ∃ cA : ClassId, ArrOfT s cA ty ∧ va_RA s cA ty := by
    intro ty hin hno
    obtain ⟨cA, k, comp, h1, h2, h3⟩ := Cond.arrayClass_spec (htg _ hin)
    refine ⟨cA, fun n z => ⟨fun k q => (by cases q), k, h2, comp, h3⟩, ?_⟩
    cases ty with
    | object C => exact absurd rfl (hno C)
    | _ => exact h1
  obtain ⟨cI, hI⟩ := har .int hArr.1 (fun C q => by cases q)
  obtain ⟨cJ, hJ⟩ := har .long hArr.2.1 (fun C q => by cases q)
  obtain ⟨cB, hBy⟩ := har .byte hArr.2.2.1 (fun C q => by cases q)
  obtain ⟨cZ, hZb⟩ := har .boolean hArr.2.2.2 (fun C q => by cases q)
  /- strings -/
  have h5 : mm_sb.length = 5 := rfl
  have hs9 : ∀ i, i < 5 → (Cond.exactly (mm_tm i) "java/lang/String").before #[Value.ref b] s = true ∧ (Cond.eq (.field (mm_tm i) "java/lang/String" "coder" "B") (.int 0)).before #[Value.ref b] s = true ∧ (Cond.arrayOf (.field (mm_tm i) "java/lang/String" "value" "[B") .byte).before #[Value.ref b] s = true ∧ (Cond.eq (.length (.field (mm_tm i) "java/lang/String" "value" "[B")) (.int (Int32.ofNat ((mm_sb.map List.length).getD i 0)))).before #[Value.ref b] s = true := by
    intro i hi
    have h := (mm_ck9_all hi).1
    unfold mm_ck9 at h
    simp only [Bool.and_eq_true] at h
    exact ⟨hfl _ (mm_at9_in h.1), hfl _ (mm_at9_in h.2.1), hfl _ (mm_at9_in h.2.2.1), hfl _ (mm_at9_in h.2.2.2)⟩
  obtain ⟨adK, adV, hS, hev⟩ := vk_Sof (args := #[Value.ref b]) (s := s) (N := 5) (tm := mm_tm) (len := mm_sb.map List.length) (byt := mm_sb) (A := mm_A s.heap.size) (fun i hi => by
      match i, hi with
      | 0, _ => decide
      | 1, _ => decide
      | 2, _ => decide
      | 3, _ => decide
      | 4, _ => decide
      | i + 5, hi => omega) (fun i hi => (hs9 i hi).1) (fun i hi => (hs9 i hi).2.1) (fun i hi => (hs9 i hi).2.2.1) (fun i hi => (hs9 i hi).2.2.2)
    (fun i hi j hj => by
      have h := (mm_ck9_all hi).2
      unfold mm_el9 at h
      exact hfl _ (mm_at9_in (List.all_eq_true.mp h j (List.mem_range.mpr hj))))
    (fun i j hi hj hne => by
      have h := mm_nb_ok
      unfold mm_nb at h
      have g : ∀ a c : Nat, a < 5 → c < 5 → a < c → (Cond.not (.eq (mm_tm a) (mm_tm c))).before #[Value.ref b] s = true := by
        intro a c ha hc hac
        have g1 := List.all_eq_true.mp (List.all_eq_true.mp h a (List.mem_range.mpr ha)) c (List.mem_range.mpr hc)
        rcases (Bool.or_eq_true _ _).mp g1 with q | q
        · rw [Nat.ble_eq] at q
          omega
        · exact hfl _ (mm_at9_in q)
      rcases Nat.lt_or_ge i j with q | q
      · exact Or.inl (g i j hi hj q)
      · exact Or.inr (g j i hj hi (by omega)))
    hA
  have hm9 := mm_m9_ok
  unfold mm_m9 at hm9
  simp only [Bool.and_eq_true] at hm9
  obtain ⟨n1, n2, n3, n4, n5⟩ := hm9
  have hZ1 : va_Z "java/lang/String" "COMPACT_STRINGS" "Z" (.int 1) (mm_A s.heap.size) s s.heap := va_Zof (hts (.laysStatic "java/lang/String" "COMPACT_STRINGS" "Z") (mm_inT 423 (by decide +kernel))) (hts (.initialized "java/lang/String") (mm_inT 171 (by decide +kernel))) (va_eqi (hfl _ (mm_at9_in n1))) hA
  have hZ2 := va_Zqof (A := mm_A s.heap.size) (hts (.laysStatic "jdk/internal/util/Preconditions" "SIOOBE_FORMATTER" "Ljava/util/function/BiFunction;") (mm_inT 439 (by decide +kernel))) (hts (.initialized "jdk/internal/util/Preconditions") (mm_inT 173 (by decide +kernel))) (hfl _ (mm_at9_in n2)) hA
  obtain ⟨sf, hsf⟩ : ∃ sf : Nat, va_Z "jdk/internal/util/Preconditions" "SIOOBE_FORMATTER" "Ljava/util/function/BiFunction;" (mm_sf sf) (mm_A s.heap.size) s s.heap := by
    rcases hZ2 with h | ⟨t, h⟩
    · exact ⟨0, h⟩
    · exact ⟨t + 1, h⟩
  have hU := vx_Zqof (A := mm_A s.heap.size) (hts (.laysStatic Bundle.tN "UNASSIGNED_STACK" Bundle.steD) (mm_inT 1626 (by decide +kernel))) (hts (.initialized Bundle.tN) (mm_inT 184 (by decide +kernel))) (hfl _ (mm_at9_in n3)) hA
  have hV := vx_Zqof (A := mm_A s.heap.size) (hts (.laysStatic Bundle.tN "SUPPRESSED_SENTINEL" Bundle.listD) (mm_inT 1628 (by decide +kernel))) (hts (.initialized Bundle.tN) (mm_inT 184 (by decide +kernel))) (hfl _ (mm_at9_in n4)) hA
  refine ⟨fun n => if n = 0 then b else if n = 500 then sf else if n < 101 then adK (n - 1) else adV (n - 101), fun t => match t with
    | .int => cI
    | .long => cJ
    | .byte => cB
    | .boolean => cZ
    | _ => 0, (fun a => (f a).1, fun a => (f a).2), rfl, ⟨fun c q hq => hf c q hq, fun k q hq => ?_⟩, fun z ys hz => ?_, ⟨fun i hi => ?_, fun i j hi hj he => ?_⟩, ⟨hZ1, hsf⟩, fun j q hq => ?_, fun a i x h hin => va_Nw.of rfl (hts _ hin), fun C T hin => va_Nw.of rfl (hts _ hin), fun x hin => va_Nw.of rfl (hts _ hin), hU, hV, va_Nc.of (hfl _ (mm_at9_in n5))⟩
  · have hk : k < 4 := (List.getElem?_eq_some_iff.mp hq).1
    match k, hk with
    | 0, _ => cases hq; exact hI
    | 1, _ => cases hq; exact hJ
    | 2, _ => cases hq; exact hBy
    | 3, _ => cases hq; exact hZb
    | k + 4, hk => omega
  · have hz : (0 : Int32) :: xs = z :: ys := hz
    cases hz
    exact ⟨hX, hbl⟩
  · have hi : i < 5 := hi
    have e1 : (if i + 1 = 0 then b else if i + 1 = 500 then sf else if i + 1 < 101 then adK (i + 1 - 1) else adV (i + 1 - 101)) = adK i := by
      rw [if_neg (by omega), if_neg (by omega), if_pos (by omega)]
      rfl
    have e2 : (if i + 101 = 0 then b else if i + 101 = 500 then sf else if i + 101 < 101 then adK (i + 101 - 1) else adV (i + 101 - 101)) = adV i := by
      rw [if_neg (by omega), if_neg (by omega), if_neg (by omega)]
      rfl
    dsimp only
    rw [e1, e2]
    exact hS.1 i hi
  · have hi : i < 5 := hi
    have hj : j < 5 := hj
    have e1 : ∀ k, k < 5 → (if k + 1 = 0 then b else if k + 1 = 500 then sf else if k + 1 < 101 then adK (k + 1 - 1) else adV (k + 1 - 101)) = adK k := by
      intro k hk
      rw [if_neg (by omega), if_neg (by omega), if_pos (by omega)]
      rfl
    dsimp only at he
    rw [e1 i hi, e1 j hj] at he
    exact hS.2 i j hi hj he
  · have hj : j < 5 := (List.getElem?_eq_some_iff.mp hq).1
    have e1 : (if j + 1 = 0 then b else if j + 1 = 500 then sf else if j + 1 < 101 then adK (j + 1 - 1) else adV (j + 1 - 101)) = adK j := by
      rw [if_neg (by omega), if_neg (by omega), if_pos (by omega)]
      rfl
    dsimp only
    rw [e1]
    have hev := hev j hj
    have htm : mm_tm j = .string (mm_cn q.1) q.2.1 := by
      unfold mm_tm
      rw [List.getD_eq_getElem?_getD, hq]
      rfl
    rw [htm] at hev
    refine vk_R.of (hts _ ?_) hev
    match j, hj with
    | 0, _ => cases hq; exact mm_inT 409 (by decide +kernel)
    | 1, _ => cases hq; exact mm_inT 462 (by decide +kernel)
    | 2, _ => cases hq; exact mm_inT 1639 (by decide +kernel)
    | 3, _ => cases hq; exact mm_inT 1682 (by decide +kernel)
    | 4, _ => cases hq; exact mm_inT 1984 (by decide +kernel)
    | j + 5, hj => omega
