/-! ROWS of System.arraycopy, of the String constant's length and letters -/
def hq_cpS (s : hq_S) (k j sp dp n : Nat) : hq_S := (fun k' i => if k' = j ∧ (dp ≤ i ∧ i < dp + n) then s.1 k (sp + (i - dp)) else s.1 k' i, s.2)
def hq_cp (s : hq_S) (k Lk j Lj : Nat) (sp dp n : Int32) : Option hq_S := bif !(decide (sp < 0)) && (!(decide (dp < 0)) && (!(decide (n < 0)) && (Nat.ble (sp.toNatClampNeg + n.toNatClampNeg) Lk && Nat.ble (dp.toNatClampNeg + n.toNatClampNeg) Lj))) then some (hq_cpS s k j sp.toNatClampNeg dp.toNatClampNeg n.toNatClampNeg) else none
theorem hq_splice {α : Type} {f g e : Nat → α} {Lf Lg sp dp n : Nat} (h1 : sp + n ≤ Lf) (h2 : dp + n ≤ Lg) (e1 : ∀ i, dp ≤ i → i < dp + n → e i = f (sp + (i - dp))) (e2 : ∀ i, ¬ (dp ≤ i ∧ i < dp + n) → e i = g i) : (List.range Lg).map e = mm_splice ((List.range Lf).map f) ((List.range Lg).map g) sp dp n := by
  unfold mm_splice
  apply List.ext_getElem?
  intro i
  have hl1 : (((List.range Lg).map g).take dp).length = dp := by simp; omega
  have hl2 : ((((List.range Lf).map f).drop sp).take n).length = n := by simp; omega
  by_cases c1 : i < dp
  · rw [List.getElem?_append_left (by omega), List.getElem?_take_of_lt c1, List.getElem?_map, List.getElem?_map, List.getElem?_range (by omega)]
    exact congrArg some (e2 i (by omega))
  · rw [List.getElem?_append_right (by omega), hl1]
    by_cases c2 : i < dp + n
    · rw [List.getElem?_append_left (by omega), List.getElem?_take_of_lt (by omega), List.getElem?_drop, List.getElem?_map, List.getElem?_map, List.getElem?_range (by omega), List.getElem?_range (by omega)]
      exact congrArg some (e1 i (by omega) c2)
    · rw [List.getElem?_append_right (by omega), hl2, List.getElem?_drop, List.getElem?_map, List.getElem?_map, show dp + n + (i - dp - n) = i by omega]
      by_cases c3 : i < Lg
      · rw [List.getElem?_range c3]
        exact congrArg some (e2 i (by omega))
      · rw [List.getElem?_eq_none (by simp; omega)]
        rfl
theorem hq_copyE {s s1 : hq_S} {k j Lk Lj : Nat} {xs ys : List Int32} {sp dp n : Int32} (hk : fb_L k = some (.inr (.inl (.int, xs)))) (hlk : xs.length = Lk) (hj : fb_L j = some (.inr (.inl (.int, ys)))) (hlj : ys.length = Lj) (hx : hq_cp s k Lk j Lj sp dp n = some s1) : mm_copy (hq_hp s) (.ref k) (.ref j) sp dp n = some (hq_hp s1) := by
  unfold hq_cp at hx
  rcases mm_bif hx with ⟨hc, hx⟩ | ⟨-, hx⟩
  · cases hx
    unfold mm_copy
    dsimp only
    rw [hq_at hk, hq_at hj]
    simp only [hq_cell]
    rw [List.length_map, List.length_range, List.length_map, List.length_range, hlk, hlj, hc, cond_true]
    refine congrArg some (hq_set hj ?_ ?_)
    · simp only [hq_cell]
      simp only [Bool.and_eq_true] at hc
      obtain ⟨-, -, -, c4, c5⟩ := hc
      rw [Nat.ble_eq] at c4 c5
      rw [hlj, hq_splice (f := hq_gi s k) (g := hq_gi s j) c4 c5]
      · intro i i1 i2
        exact if_pos ⟨rfl, i1, i2⟩
      · intro i hi
        exact if_neg fun q => hi q.2
    · intro l e hl
      have hg : hq_gi (hq_cpS s k j sp.toNatClampNeg dp.toNatClampNeg n.toNatClampNeg) l = hq_gi s l := funext fun i => if_neg fun q => hl q.1
      rcases e with o | o | o
      · simp only [hq_cell]
        rw [show (fun b v => hq_fld (hq_cpS s k j sp.toNatClampNeg dp.toNatClampNeg n.toNatClampNeg) l b v) = fun b v => hq_fld s l b v from funext fun b => funext fun v => by
          cases v
          case int x => exact congrArg Value.int (congrFun hg b)
          all_goals rfl]
      · simp only [hq_cell]
        rw [hg]
      · rfl
  · cases hx
section
variable {O : mm_Old} {d : Nat} {M : mm_Meth} {pc : Nat} {r : mm_Loc} {st t : List Value} {s s1 s' : hq_S} {g : Nat} {v : mm_Res}
theorem hq_copy_ {q a c k j Lk Lj : Nat} {xs ys : List Int32} {sp dp n : Int32} (hat : mm_at (mm_rows M) pc = some (.invokestatic q, 3, a, 1, c)) (hk : fb_L k = some (.inr (.inl (.int, xs)))) (hlk : xs.length = Lk) (hj : fb_L j = some (.inr (.inl (.int, ys)))) (hlj : ys.length = Lj) (hx : hq_cp s k Lk j Lj sp dp n = some s1) (hw : Nat.ble (mm_words t) 8 = true) (hd : 1 ≤ d) (H : hq_R O d M (pc + 3) r t s1 g v s') : hq_R O d M pc r (.int n :: .int dp :: .ref j :: .int sp :: .ref k :: t) s g v s' := by
  obtain ⟨m, hm⟩ := H
  refine ⟨m + 1, ?_⟩
  have e := hq_copyE hk hlk hj hlj hx
  generalize hq_hp s1 = h1 at e hm
  generalize hq_hp s = h at e ⊢
  rw [mm_run_succ]
  unfold mm_body
  rw [hat]
  simp only [show Nat.beq 1 0 = false from rfl, show Nat.beq 1 2 = false from rfl, show Nat.beq 1 3 = false from rfl, cond_false]
  rw [hw, show Nat.ble 1 d = true from Nat.ble_eq_true_of_le hd]
  simp only [Bool.and_self, cond_true]
  rw [e]
  exact hm
end
def hq_wd : List Int32 := mm_sb.getD 4 []
def hq_chr (i : Int32) : Option Int32 := bif mm_in i 112 then some (hq_wd.getD i.toNatClampNeg 0) else none
theorem hq_wd_ok : hq_wd.all (fun e => decide (((e &&& (Int16.ofInt 255).toInt32).toUInt32 % 65536).toInt32 = e) && mm_rfit (some .char) e) = true := by decide +kernel
theorem hq_wd_len : hq_wd.length = 112 := by decide +kernel
section
variable {xs : List Int32} {d : Nat} {M : mm_Meth} {pc : Nat} {r : mm_Loc} {st t : List Value} {s s1 s' : hq_S} {g : Nat} {v : mm_Res}
theorem hq_latin (hd : 0 ≤ d) : hq_R (mm_O xs) d mc_J0_isLatin1_aae02 0 [some (.retAddr 5)] [] s g (some (.int 1)) s := by
  have : ∀ h, mm_run mm_P (mm_O xs) 12 d mc_J0_isLatin1_aae02 0 [some (.retAddr 5)] [] h g = some (some (.int 1), h, g) := fun h => rfl
  exact ⟨12, this _⟩
theorem hq_coder (hd : 0 ≤ d) : hq_R (mm_O xs) d mc_J0_coder_7d493 0 [some (.retAddr 5)] [] s g (some (.int 0)) s := by
  have : ∀ h, mm_run mm_P (mm_O xs) 12 d mc_J0_coder_7d493 0 [some (.retAddr 5)] [] h g = some (some (.int 0), h, g) := fun h => rfl
  exact ⟨12, this _⟩
theorem hq_lenS (hd : 1 ≤ d) : hq_R (mm_O xs) d mc_J0_length_8abf5 0 [some (.retAddr 5)] [] s g (some (.int 112)) s := by
  refine hq_p 4 6 [some (.retAddr 5)] [.retAddr 5, .int 112] (fun n h => rfl) ?_
  refine hq_inv rfl rfl hd rfl rfl rfl (hq_coder (Nat.zero_le _)) rfl ?_
  refine hq_p 1 10 [some (.retAddr 5)] [.int 112] (fun n h => rfl) ?_
  exact ⟨1, rfl⟩
theorem hq_slen {q b c : Nat} (hat : mm_at (mm_rows M) pc = some (.invokevirtual q, 3, 350, b, c)) (hd : 2 ≤ d) (hw : Nat.ble (mm_words t) 8 = true) (H : hq_R (mm_O xs) d M (pc + 3) r (.int 112 :: t) s g v s') : hq_R (mm_O xs) d M pc r (.retAddr 5 :: t) s g v s' := by
  refine hq_inv (v0 := .retAddr 5) (t := t) hat rfl (by omega) rfl ?_ rfl (hq_lenS (by omega)) rfl H
  show (Nat.ble (mm_words t) 8 && (true && true)) = true
  rw [hw]
  rfl
theorem hq_ck3 {i : Int32} (h0 : ¬ i < 0) (h1 : i < 112) : hq_R (mm_O xs) d mc_J3_checkIndex_8e157 0 [some (.int i), some (.int 112), some (.float 0)] [] s g (some (.int i)) s := by
  refine hq_p 1 1 [some (.int i), some (.int 112), some (.float 0)] [.int i] (fun n h => rfl) ?_
  refine hq_izF rfl (hq_c_lt_F h0) ?_
  refine hq_p 2 6 [some (.int i), some (.int 112), some (.float 0)] [.int 112, .int i] (fun n h => rfl) ?_
  refine hq_icT rfl (hq_c_lt_T h1) ?_
  refine hq_p 1 17 [some (.int i), some (.int 112), some (.float 0)] [.int i] (fun n h => rfl) ?_
  exact ⟨1, rfl⟩
theorem hq_ck0 {i : Int32} (h0 : ¬ i < 0) (h1 : i < 112) (hd : 1 ≤ d) : hq_R (mm_O xs) d mc_J0_checkIndex_df160 0 [some (.int i), some (.int 112)] [] s g none s := by
  refine hq_p 3 5 [some (.int i), some (.int 112)] [.float 0, .int 112, .int i] (fun n h => rfl) ?_
  refine hq_ist rfl rfl rfl hd rfl (hq_ck3 h0 h1) rfl ?_
  refine hq_p 1 9 [some (.int i), some (.int 112)] [] (fun n h => rfl) ?_
  exact ⟨1, rfl⟩
theorem hq_bald5 {h : mm_Heap} {i : Int32} (hi : mm_in i 112 = true) : mm_bald (mm_O xs) h (.retAddr 105) i = some (hq_wd.getD i.toNatClampNeg 0) := by
  show (bif mm_in i hq_wd.length then some (hq_wd.getD i.toNatClampNeg 0) else none) = _
  rw [hq_wd_len, hi]
  rfl
theorem hq_cL {i x : Int32} (h0 : ¬ i < 0) (h1 : i < 112) (hx : hq_chr i = some x) (hd : 2 ≤ d) : hq_R (mm_O xs) d mc_J1_charAt_3b067 0 [some (.retAddr 105), some (.int i)] [] s g (some (.int x)) s := by
  unfold hq_chr at hx
  rcases mm_bif hx with ⟨hi, hx⟩ | ⟨-, hx⟩
  · have hmem : x ∈ hq_wd := by
      cases hx
      have hlt : i.toNatClampNeg < hq_wd.length := by rw [hq_wd_len]; exact mm_in_lt hi
      rw [List.getD_eq_getElem?_getD, List.getElem?_eq_getElem hlt]
      exact List.getElem_mem hlt
    have hok := List.all_eq_true.mp hq_wd_ok x hmem
    obtain ⟨k1, k2⟩ := Bool.and_eq_true_iff.mp hok
    have k1 := of_decide_eq_true k1
    refine hq_p 3 3 [some (.retAddr 105), some (.int i)] [.int 112, .int i] (fun n h => rfl) ?_
    refine hq_ist rfl rfl rfl (by omega) rfl (hq_ck0 h0 h1 (by omega)) rfl ?_
    refine hq_p 2 8 [some (.retAddr 105), some (.int i)] [.int i, .retAddr 105] (fun n h => rfl) ?_
    suffices H : hq_R (mm_O xs) d mc_J1_charAt_3b067 9 [some (.retAddr 105), some (.int i)] [.int x] s g (some (.int x)) s from by
      obtain ⟨n, hn⟩ := H
      refine ⟨n + 1, ?_⟩
      generalize hq_hp s = h at hn ⊢
      have e := hq_bald5 (xs := xs) (h := h) hi
      rw [mm_run_succ]
      show (match (mm_bald (mm_O xs) h (.retAddr 105) i).map (fun x => ([some (Value.retAddr 105), some (Value.int i)], [Value.int x], h)) with
        | some (r', st', h') => mm_run mm_P (mm_O xs) n d mc_J1_charAt_3b067 9 r' st' h' g
        | none => none) = _
      rw [e]
      cases hx
      exact hn
    refine hq_p 3 14 [some (.retAddr 105), some (.int i)] [.int (((x &&& (Int16.ofInt 255).toInt32).toUInt32 % 65536).toInt32)] (fun n h => rfl) ?_
    rw [k1]
    exact hq_iret rfl k2
  · cases hx
theorem hq_cA {i x : Int32} (hx : hq_chr i = some x) (hd : 3 ≤ d) : hq_R (mm_O xs) d mc_J0_charAt_5068e 0 [some (.retAddr 5), some (.int i)] [] s g (some (.int x)) s := by
  have hi : mm_in i 112 = true := by
    unfold hq_chr at hx
    rcases mm_bif hx with ⟨hi, -⟩ | ⟨-, hx⟩
    · exact hi
    · cases hx
  obtain ⟨h0, h1⟩ : ¬ i < 0 ∧ i < 112 := by
    unfold mm_in at hi
    obtain ⟨a1, a2⟩ := Bool.and_eq_true_iff.mp hi
    have b1 : ¬ i < 0 := by
      intro q
      rw [decide_eq_true q] at a1
      cases a1
    rw [Nat.blt_eq] at a2
    refine ⟨b1, Int32.lt_iff_toInt_lt.mpr ?_⟩
    rw [show (112 : Int32).toInt = 112 from rfl]
    unfold Int32.toNatClampNeg at a2
    omega
  refine hq_p 1 1 [some (.retAddr 5), some (.int i)] [.retAddr 5] (fun n h => rfl) ?_
  refine hq_inv rfl rfl (by omega) rfl rfl rfl (hq_latin (Nat.zero_le _)) rfl ?_
  refine hq_izF rfl (by decide) ?_
  refine hq_p 3 12 [some (.retAddr 5), some (.int i)] [.int i, .retAddr 105] (fun n h => rfl) ?_
  refine hq_ist rfl rfl rfl (by omega) rfl (hq_cL h0 h1 hx (by omega)) rfl ?_
  refine hq_iret rfl ?_
  unfold hq_chr at hx
  rcases mm_bif hx with ⟨hi, hx⟩ | ⟨-, hx⟩
  · have hmem : x ∈ hq_wd := by
      cases hx
      have hlt : i.toNatClampNeg < hq_wd.length := by rw [hq_wd_len]; exact mm_in_lt hi
      rw [List.getD_eq_getElem?_getD, List.getElem?_eq_getElem hlt]
      exact List.getElem_mem hlt
    exact (Bool.and_eq_true_iff.mp (List.all_eq_true.mp hq_wd_ok x hmem)).2
  · cases hx
theorem hq_schr {q b c : Nat} {i x : Int32} (hat : mm_at (mm_rows M) pc = some (.invokevirtual q, 3, 351, b, c)) (hd : 4 ≤ d) (hw : Nat.ble (mm_words t) 8 = true) (hx : hq_chr i = some x) (H : hq_R (mm_O xs) d M (pc + 3) r (.int x :: t) s g v s') : hq_R (mm_O xs) d M pc r (.int i :: .retAddr 5 :: t) s g v s' := by
  refine hq_inv (v0 := .retAddr 5) (t := t) hat rfl (by omega) rfl ?_ rfl (hq_cA hx (by omega)) rfl H
  show (Nat.ble (mm_words t) 8 && (true && true)) = true
  rw [hw]
  rfl
end
