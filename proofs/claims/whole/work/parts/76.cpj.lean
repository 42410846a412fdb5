/-! ROWS of System.arraycopy of longs -/
def hq_cpjS (s : hq_S) (k j sp dp n : Nat) : hq_S := (s.1, fun k' i => if k' = j ∧ (dp ≤ i ∧ i < dp + n) then s.2.1 k (sp + (i - dp)) else s.2.1 k' i, s.2.2)
def hq_cpj (s : hq_S) (k Lk j Lj : Nat) (sp dp n : Int32) : Option hq_S := bif !(decide (sp < 0)) && (!(decide (dp < 0)) && (!(decide (n < 0)) && (Nat.ble (sp.toNatClampNeg + n.toNatClampNeg) Lk && Nat.ble (dp.toNatClampNeg + n.toNatClampNeg) Lj))) then some (hq_cpjS s k j sp.toNatClampNeg dp.toNatClampNeg n.toNatClampNeg) else none
theorem hq_copyJE {s s1 : hq_S} {k j Lk Lj : Nat} {xs ys : List Int64} {sp dp n : Int32} (hk : fb_L k = some (.inr (.inr xs))) (hlk : xs.length = Lk) (hj : fb_L j = some (.inr (.inr ys))) (hlj : ys.length = Lj) (hx : hq_cpj s k Lk j Lj sp dp n = some s1) : mm_copy (hq_hp s) (.ref k) (.ref j) sp dp n = some (hq_hp s1) := by
  unfold hq_cpj at hx
  rcases mm_bif hx with ⟨hc, hx⟩ | ⟨-, hx⟩
  · cases hx
    unfold mm_copy
    dsimp only
    rw [hq_at hk, hq_at hj]
    simp only [hq_cell]
    rw [List.length_map, List.length_range, List.length_map, List.length_range, hlk, hlj, hc, cond_true]
    refine congrArg some (hq_set hj ?_ ?_)
    · simp only [hq_cell]
      simp only [Bool.and_eq_true] at hc
      obtain ⟨-, -, -, c4, c5⟩ := hc
      rw [Nat.ble_eq] at c4 c5
      rw [hlj, hq_splice (f := hq_gj s k) (g := hq_gj s j) c4 c5]
      · intro i i1 i2
        exact if_pos ⟨rfl, i1, i2⟩
      · intro i hi
        exact if_neg fun q => hi q.2
    · intro l e hl
      have hg : hq_gj (hq_cpjS s k j sp.toNatClampNeg dp.toNatClampNeg n.toNatClampNeg) l = hq_gj s l := funext fun i => if_neg fun q => hl q.1
      rcases e with o | o | o
      · simp only [hq_cell]
        rw [show (fun b v => hq_fld (hq_cpjS s k j sp.toNatClampNeg dp.toNatClampNeg n.toNatClampNeg) l b v) = fun b v => hq_fld s l b v from funext fun b => funext fun v => by
          cases v
          case long x => exact congrArg Value.long (congrFun hg b)
          all_goals rfl]
      · rfl
      · simp only [hq_cell]
        rw [hg]
  · cases hx
section
variable {O : mm_Old} {d : Nat} {M : mm_Meth} {pc : Nat} {r : mm_Loc} {st t : List Value} {s s1 s' : hq_S} {g : Nat} {v : mm_Res}
theorem hq_copyj_ {q a c k j Lk Lj : Nat} {xs ys : List Int64} {sp dp n : Int32} (hat : mm_at (mm_rows M) pc = some (.invokestatic q, 3, a, 1, c)) (hk : fb_L k = some (.inr (.inr xs))) (hlk : xs.length = Lk) (hj : fb_L j = some (.inr (.inr ys))) (hlj : ys.length = Lj) (hx : hq_cpj s k Lk j Lj sp dp n = some s1) (hw : Nat.ble (mm_words t) 8 = true) (hd : 1 ≤ d) (H : hq_R O d M (pc + 3) r t s1 g v s') : hq_R O d M pc r (.int n :: .int dp :: .ref j :: .int sp :: .ref k :: t) s g v s' := by
  obtain ⟨m, hm⟩ := H
  refine ⟨m + 1, ?_⟩
  have e := hq_copyJE hk hlk hj hlj hx
  generalize hq_hp s1 = h1 at e hm
  generalize hq_hp s = h at e ⊢
  rw [mm_run_succ]
  unfold mm_body
  rw [hat]
  simp only [show Nat.beq 1 0 = false from rfl, show Nat.beq 1 2 = false from rfl, show Nat.beq 1 3 = false from rfl, cond_false]
  rw [hw, show Nat.ble 1 d = true from Nat.ble_eq_true_of_le hd]
  simp only [Bool.and_self, cond_true]
  rw [e]
  exact hm
end
