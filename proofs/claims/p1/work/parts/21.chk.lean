/-! THE CHECKS: what a program decides of the tables, and what it means -/
/-- the tables' words by pieces: no long lists to be walked -/
def mm_pce (k : Nat) : List Cond := match k with
  | 0 => k2_sels lw_privs
  | 1 => tables_1_1
  | 2 => tables_1_2
  | 3 => tables_1_3
  | 4 => tables_1_4
  | 5 => tables_1_5
  | 6 => tables_1_6
  | 7 => tables_1_7
  | 8 => tables_1_8
  | 9 => tables_1_9
  | 10 => tables_1_10
  | 11 => tables_1_11
  | _ => []
theorem mm_pce_in {k : Nat} {w : Cond} (h : w ∈ mm_pce k) : w ∈ lw_tbl := by
  unfold mm_pce at h
  unfold lw_tbl tables_1
  simp only [List.mem_append]
  split at h
  · exact Or.inl h
  · exact Or.inr (Or.inl h)
  · exact Or.inr (Or.inr (Or.inl h))
  · exact Or.inr (Or.inr (Or.inr (Or.inl h)))
  · exact Or.inr (Or.inr (Or.inr (Or.inr (Or.inl h))))
  · exact Or.inr (Or.inr (Or.inr (Or.inr (Or.inr (Or.inl h)))))
  · exact Or.inr (Or.inr (Or.inr (Or.inr (Or.inr (Or.inr (Or.inl h))))))
  · exact Or.inr (Or.inr (Or.inr (Or.inr (Or.inr (Or.inr (Or.inr (Or.inl h)))))))
  · exact Or.inr (Or.inr (Or.inr (Or.inr (Or.inr (Or.inr (Or.inr (Or.inr (Or.inl h))))))))
  · exact Or.inr (Or.inr (Or.inr (Or.inr (Or.inr (Or.inr (Or.inr (Or.inr (Or.inr (Or.inl h)))))))))
  · exact Or.inr (Or.inr (Or.inr (Or.inr (Or.inr (Or.inr (Or.inr (Or.inr (Or.inr (Or.inr (Or.inl h))))))))))
  · exact Or.inr (Or.inr (Or.inr (Or.inr (Or.inr (Or.inr (Or.inr (Or.inr (Or.inr (Or.inr (Or.inr h))))))))))
  · cases h
def mm_look (p : Nat) : Option Cond := bif Nat.blt p 163 then (mm_pce 0)[p]? else (mm_pce ((p - 163) / 240 + 1))[(p - 163) % 240]?
theorem mm_look_in {p : Nat} {w : Cond} (h : mm_look p = some w) : w ∈ lw_tbl := by
  unfold mm_look at h
  rcases mm_bif h with ⟨-, h⟩ | ⟨-, h⟩ <;> exact mm_pce_in (List.mem_of_getElem? h)
def mm_has (w : Cond) (p : Nat) : Bool := match mm_look p with
  | some v => decide (v = w) && goodWord w
  | none => false
theorem mm_has_in {w : Cond} {p : Nat} (h : mm_has w p = true) : w ∈ lw_g := by
  unfold mm_has at h
  split at h
  · next v hv =>
    obtain ⟨h1, h2⟩ := Bool.and_eq_true_iff.mp h
    have h1 : v = w := of_decide_eq_true h1
    subst h1
    exact List.mem_filter.mpr ⟨mm_look_in hv, h2⟩
  · cases h
def mm_hasT (w : Cond) (p : Nat) : Bool := match mm_look p with
  | some v => decide (v = w)
  | none => false
theorem mm_hasT_in {w : Cond} {p : Nat} (h : mm_hasT w p = true) : w ∈ lw_tbl := by
  unfold mm_hasT at h
  split at h
  · next v hv =>
    have h1 : v = w := of_decide_eq_true h
    subst h1
    exact mm_look_in hv
  · cases h
theorem mm_and {α : Type} {a b : List α} {f : α → Bool} (h1 : a.all f = true) (h2 : b.all f = true) : (a ++ b).all f = true := by rw [List.all_append, h1, h2]; rfl
def mm_tcB (c : Nat) (ty : FieldType) : Bool := match c, ty with
  | 0, .int => true
  | 1, .boolean => true
  | 2, .byte => true
  | 3, .long => true
  | 4, .object _ => true
  | 4, .array _ => true
  | _, _ => false
theorem mm_tcB_spec {c : Nat} {ty : FieldType} (h : mm_tcB c ty = true) : mm_tc c ty ∧ c < 8 := by
  unfold mm_tcB at h
  split at h
  · exact ⟨rfl, by omega⟩
  · exact ⟨rfl, by omega⟩
  · exact ⟨rfl, by omega⟩
  · exact ⟨rfl, by omega⟩
  · exact ⟨Or.inl ⟨_, rfl⟩, by omega⟩
  · exact ⟨Or.inr ⟨_, rfl⟩, by omega⟩
  · cases h
def mm_ptc (d : String) (c : Nat) : Bool := match parseFieldDescriptor d with
  | some ty => mm_tcB c ty
  | none => false
theorem mm_ptc_spec {d : String} {c : Nat} (h : mm_ptc d c = true) : ∃ ty, parseFieldDescriptor d = some ty ∧ mm_tc c ty ∧ c < 8 := by
  unfold mm_ptc at h
  split at h
  · next ty hty => exact ⟨ty, hty, mm_tcB_spec h⟩
  · cases h
def mm_chkF (q : (Nat × Nat × Nat × Nat × Nat × Nat) × Nat) : Bool := match vwCl[q.1.2.2.1]? with
  | some z => Nat.blt q.1.2.2.2.1 z.2.2 && (mm_has (.fieldLink (mm_cn q.1.1) q.1.2.1 (z.2.1 q.1.2.2.2.1).1 (z.2.1 q.1.2.2.2.1).2.1 (z.2.1 q.1.2.2.2.1).2.2.1) q.2 && (mm_ptc (z.2.1 q.1.2.2.2.1).2.2.1 q.1.2.2.2.2.1 && ((z.2.1 q.1.2.2.2.1).2.2.2 == Nat.beq q.1.2.2.2.2.2 1 && decide ((z.2.1 q.1.2.2.2.1).1 = mm_cn q.1.2.2.1))))
  | none => false
def mm_allF : Bool := mm_LF.all mm_chkF
/-- a method's name, by its number -/
def mm_y (k : Nat) : MethodName := mm_yn.getD k ⟨"", "", ""⟩
def mm_chkM (q : (Nat × Nat × Nat × Nat) × Nat) : Bool := match q.1.2.2.1 with
  | 1 => mm_has (.methodLink (mm_cn q.1.1) q.1.2.1 (mm_y q.1.2.2.2)) q.2
  | 2 => mm_has (.methodLink (mm_cn q.1.1) q.1.2.1 (mm_y q.1.2.2.2)) q.2
  | 3 => mm_has (.methodLink (mm_cn q.1.1) q.1.2.1 (mm_y q.1.2.2.2)) q.2
  | 4 => mm_hasT (.methodLinkNest (mm_cn q.1.1) q.1.2.1 (mm_y q.1.2.2.2) "ThiefTakers") q.2
  | 5 => mm_has (.methodLink (mm_cn q.1.1) q.1.2.1 Lib.objectInit) q.2
  | 6 => mm_has (.methodLink (mm_cn q.1.1) q.1.2.1 arraycopyName) q.2
  | 7 => mm_has (.methodLink (mm_cn q.1.1) q.1.2.1 yL_corner) q.2
  | 8 => mm_has (.methodLink (mm_cn q.1.1) q.1.2.1 (mm_mname q.1.2.2.2)) q.2
  | _ => false
def mm_mathW : Bool := mm_has (.initialized "java/lang/Math") mm_mipos && (List.range 5).all (fun a => mm_has (.static (mm_mname a)) (mm_mpos.getD a (0, 0)).1 && mm_has (mm_mcode a) (mm_mpos.getD a (0, 0)).2)
theorem mm_mathW_ok : mm_mathW = true := by decide +kernel
theorem mm_mathW_in {a : Nat} (ha : a < 5) : Cond.static (mm_mname a) ∈ lw_g ∧ Cond.initialized "java/lang/Math" ∈ lw_g ∧ mm_mcode a ∈ lw_g := by
  obtain ⟨h1, h2⟩ := Bool.and_eq_true_iff.mp mm_mathW_ok
  obtain ⟨h3, h4⟩ := Bool.and_eq_true_iff.mp (List.all_eq_true.mp h2 a (List.mem_range.mpr ha))
  exact ⟨mm_has_in h3, mm_has_in h1, mm_has_in h4⟩
def mm_allM : Bool := mm_LM.all mm_chkM
def mm_chkN (q : (Nat × Nat × Nat) × Nat) : Bool := match vwCl[q.1.2.2]? with
  | some z => mm_has (.classLink (mm_cn q.1.1) q.1.2.1 z.1) q.2
  | none => false
def mm_allN : Bool := mm_LN.all mm_chkN
def mm_chkK (q : (Nat × Nat × Nat × Nat) × Nat) : Bool := match q.1.1 with
  | 0 => mm_has (.constant (mm_cn q.1.2.1) q.1.2.2.1 (Int32.ofNat q.1.2.2.2)) q.2
  | 1 => mm_has (.constantLong (mm_cn q.1.2.1) q.1.2.2.1 (Int64.ofNat q.1.2.2.2)) q.2
  | _ => false
def mm_allK : Bool := mm_LK.all mm_chkK
/-- the words of a method by its number: kind 1 instance and selects, 2 static, 3 constructor -/
def mm_chkY (k : Nat) (q : Nat × Nat × Nat × Nat × Nat) : Bool := match q.1 with
  | 1 => mm_has (.instanceMethod (mm_y k)) q.2.2.2.1 && mm_has (.selects (mm_y k).cls (mm_y k) (mm_y k)) q.2.2.2.2
  | 2 => mm_has (.static (mm_y k)) q.2.2.2.1
  | 3 => mm_has (.instanceMethod (mm_y k)) q.2.2.2.1 && decide ((mm_y k).name = "<init>")
  | _ => false
def mm_misc : Bool := mm_has (.arrayClass .int) mm_apos.1 && (mm_has (.arrayClass .long) mm_apos.2.1 && (mm_has (.arrayClass .byte) mm_apos.2.2.1 && (mm_has (.arrayClass .boolean) mm_apos.2.2.2 &&
  (mm_has (.instanceMethod Lib.objectInit) mm_opos.1 && (mm_has (.code Lib.objectInit ⟨#[0xb1]⟩ 1 none) mm_opos.2 && (mm_has (.native arraycopyName) mm_kpos.1 && (mm_has (.static arraycopyName) mm_kpos.2.1 && (mm_has (.initialized "java/lang/System") mm_kpos.2.2 &&
  (mm_has (.fieldLink "java/lang/String" 9 "java/lang/String" "value" "[B") mm_spos.1 && (mm_has (.fieldLink "java/lang/String" 15 "java/lang/String" "coder" "B") mm_spos.2.1 && (mm_has (.fieldLink "java/lang/String" 38 "java/lang/String" "COMPACT_STRINGS" "Z") mm_spos.2.2.1 && mm_has (.fieldLink "java/lang/String" 1053 "jdk/internal/util/Preconditions" "SIOOBE_FORMATTER" "Ljava/util/function/BiFunction;") mm_spos.2.2.2)))))))))))
theorem mm_tF0 : mm_LF_0.all mm_chkF = true := by decide +kernel
theorem mm_tF1 : mm_LF_1.all mm_chkF = true := by decide +kernel
theorem mm_tF2 : mm_LF_2.all mm_chkF = true := by decide +kernel
theorem mm_tF3 : mm_LF_3.all mm_chkF = true := by decide +kernel
theorem mm_tF4 : mm_LF_4.all mm_chkF = true := by decide +kernel
theorem mm_allF_ok : mm_allF = true := mm_and mm_tF0 (mm_and mm_tF1 (mm_and mm_tF2 (mm_and mm_tF3 (mm_tF4))))
theorem mm_tM0 : mm_LM_0.all mm_chkM = true := by decide +kernel
theorem mm_tM1 : mm_LM_1.all mm_chkM = true := by decide +kernel
theorem mm_tM2 : mm_LM_2.all mm_chkM = true := by decide +kernel
theorem mm_tM3 : mm_LM_3.all mm_chkM = true := by decide +kernel
theorem mm_tM4 : mm_LM_4.all mm_chkM = true := by decide +kernel
theorem mm_tM5 : mm_LM_5.all mm_chkM = true := by decide +kernel
theorem mm_tM6 : mm_LM_6.all mm_chkM = true := by decide +kernel
theorem mm_tM7 : mm_LM_7.all mm_chkM = true := by decide +kernel
theorem mm_allM_ok : mm_allM = true := mm_and mm_tM0 (mm_and mm_tM1 (mm_and mm_tM2 (mm_and mm_tM3 (mm_and mm_tM4 (mm_and mm_tM5 (mm_and mm_tM6 (mm_tM7)))))))
theorem mm_tN0 : mm_LN_0.all mm_chkN = true := by decide +kernel
theorem mm_allN_ok : mm_allN = true := mm_tN0
theorem mm_tK0 : mm_LK_0.all mm_chkK = true := by decide +kernel
theorem mm_allK_ok : mm_allK = true := mm_tK0
theorem mm_misc_ok : mm_misc = true := by decide +kernel
