/-! WORDS OF THE DECOMPILED FUNCTIONS, and their rows -/
abbrev hq_isT (k : Nat) : Prop := k = 2 ∨ k = 25
abbrev hq_isN (k : Nat) : Prop := k = 16 ∨ k = 39 ∨ k = 76 ∨ k = 85 ∨ k = 94
abbrev hq_isL (k : Nat) : Prop := k = 11 ∨ k = 34
abbrev hq_isS (k : Nat) : Prop := k = 103 ∨ k = 108
theorem hq_c_lt_T {x y : Int32} (h : x < y) : mm_cmp .lt x y = true := decide_eq_true h
theorem hq_c_lt_F {x y : Int32} (h : ¬ x < y) : mm_cmp .lt x y = false := decide_eq_false h
theorem hq_c_ge_T {x y : Int32} (h : ¬ x < y) : mm_cmp .ge x y = true := decide_eq_true (Int32.not_lt.mp h)
theorem hq_c_ge_F {x y : Int32} (h : x < y) : mm_cmp .ge x y = false := decide_eq_false (Int32.not_le.mpr h)
theorem hq_c_gt_T {x y : Int32} (h : y < x) : mm_cmp .gt x y = true := decide_eq_true h
theorem hq_c_gt_F {x y : Int32} (h : ¬ y < x) : mm_cmp .gt x y = false := decide_eq_false h
theorem hq_c_le_T {x y : Int32} (h : ¬ y < x) : mm_cmp .le x y = true := decide_eq_true (Int32.not_lt.mp h)
theorem hq_c_le_F {x y : Int32} (h : y < x) : mm_cmp .le x y = false := decide_eq_false (Int32.not_le.mpr h)
theorem hq_c_eq_T {x y : Int32} (h : x = y) : mm_cmp .eq x y = true := decide_eq_true h
theorem hq_c_eq_F {x y : Int32} (h : ¬ x = y) : mm_cmp .eq x y = false := decide_eq_false h
theorem hq_c_ne_T {x y : Int32} (h : ¬ x = y) : mm_cmp .ne x y = true := decide_eq_true h
theorem hq_c_ne_F {x y : Int32} (h : x = y) : mm_cmp .ne x y = false := decide_eq_false fun q => q h
def hq_max (x y : Int32) : Int32 := if x < y then y else x
def hq_min (x y : Int32) : Int32 := if y < x then y else x
def hq_maxj (x y : Int64) : Int64 := if y < x then x else y
def hq_minj (x y : Int64) : Int64 := if y < x then y else x
def hq_absj (x : Int64) : Int64 := if 0 < x then x else -x
def hq_idiv (x y : Int32) : Option Int32 := bif decide (y = 0) then none else some (x / y)
def hq_irem (x y : Int32) : Option Int32 := bif decide (y = 0) then none else some (x - x / y * y)
def hq_ldiv (x y : Int64) : Option Int64 := bif decide (y = 0) then none else some (x / y)
def hq_lrem (x y : Int64) : Option Int64 := bif decide (y = 0) then none else some (x - x / y * y)
/-- arrays that are named by a number alone: their kind and length by the shape -/
def hq_alI (k : Nat) : Option Nat := match fb_L k with
  | some (.inr (.inl (.int, xs))) => some xs.length
  | _ => none
def hq_alB (k : Nat) : Option Nat := match fb_L k with
  | some (.inr (.inl (.byte, xs))) => some xs.length
  | _ => none
def hq_alJ (k : Nat) : Option Nat := match fb_L k with
  | some (.inr (.inr xs)) => some xs.length
  | _ => none
def hq_alA (k : Nat) : Option Int32 := match fb_L k with
  | some (.inr (.inl (ty, xs))) => bif mm_tag ty then some (Int32.ofNat xs.length) else none
  | some (.inr (.inr xs)) => some (Int32.ofNat xs.length)
  | _ => none
def hq_ldiA (s : hq_S) (k : Nat) (i : Int32) : Option Int32 := (hq_alI k).bind fun L => hq_ld s k L i
def hq_ldbA (s : hq_S) (k : Nat) (i : Int32) : Option Int32 := (hq_alB k).bind fun L => hq_ld s k L i
def hq_ldjA (s : hq_S) (k : Nat) (i : Int32) : Option Int64 := (hq_alJ k).bind fun L => hq_ldj s k L i
def hq_stiA (s : hq_S) (k : Nat) (i x : Int32) : Option hq_S := (hq_alI k).bind fun L => hq_st s k L i x
def hq_stjA (s : hq_S) (k : Nat) (i : Int32) (x : Int64) : Option hq_S := (hq_alJ k).bind fun L => hq_stj s k L i x
theorem hq_alI_spec {k L : Nat} (h : hq_alI k = some L) : ∃ xs, fb_L k = some (.inr (.inl (.int, xs))) ∧ xs.length = L := by
  unfold hq_alI at h
  split at h
  · next xs hx => cases h; exact ⟨xs, hx, rfl⟩
  · cases h
theorem hq_alB_spec {k L : Nat} (h : hq_alB k = some L) : ∃ xs, fb_L k = some (.inr (.inl (.byte, xs))) ∧ xs.length = L := by
  unfold hq_alB at h
  split at h
  · next xs hx => cases h; exact ⟨xs, hx, rfl⟩
  · cases h
theorem hq_alJ_spec {k L : Nat} (h : hq_alJ k = some L) : ∃ xs, fb_L k = some (.inr (.inr xs)) ∧ xs.length = L := by
  unfold hq_alJ at h
  split at h
  · next xs hx => cases h; exact ⟨xs, hx, rfl⟩
  · cases h
section
variable {O : mm_Old} {d : Nat} {M : mm_Meth} {pc : Nat} {r : mm_Loc} {st t : List Value} {s s1 s' : hq_S} {g : Nat} {v : mm_Res}
theorem hq_ialoadA {a b c k : Nat} {i x : Int32} (hat : mm_at (mm_rows M) pc = some (.iaload, 1, a, b, c)) (hx : hq_ldiA s k i = some x) (H : hq_R O d M (pc + 1) r (.int x :: t) s g v s') : hq_R O d M pc r (.int i :: .ref k :: t) s g v s' := by
  obtain ⟨L, hL, hx⟩ := hq_bind hx
  obtain ⟨xs, h1, h2⟩ := hq_alI_spec hL
  exact hq_iaload hat h1 h2 hx H
theorem hq_baloadA {a b c k : Nat} {i x : Int32} (hat : mm_at (mm_rows M) pc = some (.baload, 1, a, b, c)) (hx : hq_ldbA s k i = some x) (H : hq_R O d M (pc + 1) r (.int x :: t) s g v s') : hq_R O d M pc r (.int i :: .ref k :: t) s g v s' := by
  obtain ⟨L, hL, hx⟩ := hq_bind hx
  obtain ⟨xs, h1, h2⟩ := hq_alB_spec hL
  exact hq_baload hat h1 (Or.inl rfl) h2 hx H
theorem hq_laloadA {a b c k : Nat} {i : Int32} {x : Int64} (hat : mm_at (mm_rows M) pc = some (.laload, 1, a, b, c)) (hx : hq_ldjA s k i = some x) (H : hq_R O d M (pc + 1) r (.long x :: t) s g v s') : hq_R O d M pc r (.int i :: .ref k :: t) s g v s' := by
  obtain ⟨L, hL, hx⟩ := hq_bind hx
  obtain ⟨xs, h1, h2⟩ := hq_alJ_spec hL
  exact hq_laload hat h1 h2 hx H
theorem hq_iastoreA {a b c k : Nat} {i x : Int32} (hat : mm_at (mm_rows M) pc = some (.iastore, 1, a, b, c)) (hx : hq_stiA s k i x = some s1) (H : hq_R O d M (pc + 1) r t s1 g v s') : hq_R O d M pc r (.int x :: .int i :: .ref k :: t) s g v s' := by
  obtain ⟨L, hL, hx⟩ := hq_bind hx
  obtain ⟨xs, h1, h2⟩ := hq_alI_spec hL
  exact hq_iastore hat h1 h2 hx H
theorem hq_lastoreA {a b c k : Nat} {i : Int32} {x : Int64} (hat : mm_at (mm_rows M) pc = some (.lastore, 1, a, b, c)) (hx : hq_stjA s k i x = some s1) (H : hq_R O d M (pc + 1) r t s1 g v s') : hq_R O d M pc r (.long x :: .int i :: .ref k :: t) s g v s' := by
  obtain ⟨L, hL, hx⟩ := hq_bind hx
  obtain ⟨xs, h1, h2⟩ := hq_alJ_spec hL
  exact hq_lastore hat h1 h2 hx H
theorem hq_alenj {a b c k : Nat} {xs : List Int64} {x : Int32} (hat : mm_at (mm_rows M) pc = some (.arraylength, 1, a, b, c)) (hk : fb_L k = some (.inr (.inr xs))) (hx : Int32.ofNat xs.length = x) (H : hq_R O d M (pc + 1) r (.int x :: t) s g v s') : hq_R O d M pc r (.ref k :: t) s g v s' := by
  obtain ⟨n, hn⟩ := H
  refine ⟨n + 1, ?_⟩
  have e : mm_len O (hq_hp s) (.ref k) = _ := hq_lenj hk rfl
  rw [hx] at e
  generalize hq_hp s = h at e hn ⊢
  rw [mm_run_succ]
  unfold mm_body
  rw [hat]
  show (match (mm_len O h (.ref k)).map (fun x => (r, Value.int x :: t, h)) with
    | some (r', st', h') => mm_run mm_P O n d M (pc + 1) r' st' h' g
    | none => none) = _
  rw [e]
  exact hn
theorem hq_alenA {a b c k : Nat} {x : Int32} (hat : mm_at (mm_rows M) pc = some (.arraylength, 1, a, b, c)) (hx : hq_alA k = some x) (H : hq_R O d M (pc + 1) r (.int x :: t) s g v s') : hq_R O d M pc r (.ref k :: t) s g v s' := by
  unfold hq_alA at hx
  split at hx
  · next ty xs hk =>
    rcases mm_bif hx with ⟨ht, hx⟩ | ⟨-, hx⟩
    · cases hx
      exact hq_alen hat hk ht rfl rfl H
    · cases hx
  · next xs hk =>
    cases hx
    exact hq_alenj hat hk rfl H
  · cases hx
theorem hq_idiv_ {a b c : Nat} {x y z : Int32} (hat : mm_at (mm_rows M) pc = some (.idiv, 1, a, b, c)) (hx : hq_idiv x y = some z) (H : hq_R O d M (pc + 1) r (.int z :: t) s g v s') : hq_R O d M pc r (.int y :: .int x :: t) s g v s' := by
  obtain ⟨n, hn⟩ := H
  refine ⟨n + 1, ?_⟩
  unfold hq_idiv at hx
  rcases mm_bif hx with ⟨-, hx⟩ | ⟨hy, hx⟩
  · cases hx
  · cases hx
    rw [mm_run_succ]
    unfold mm_body
    rw [hat]
    simp only [mm_isNew, Bool.false_and, cond_false, mm_step, mm_ii, hy]
    exact hn
theorem hq_irem_ {a b c : Nat} {x y z : Int32} (hat : mm_at (mm_rows M) pc = some (.irem, 1, a, b, c)) (hx : hq_irem x y = some z) (H : hq_R O d M (pc + 1) r (.int z :: t) s g v s') : hq_R O d M pc r (.int y :: .int x :: t) s g v s' := by
  obtain ⟨n, hn⟩ := H
  refine ⟨n + 1, ?_⟩
  unfold hq_irem at hx
  rcases mm_bif hx with ⟨-, hx⟩ | ⟨hy, hx⟩
  · cases hx
  · cases hx
    rw [mm_run_succ]
    unfold mm_body
    rw [hat]
    simp only [mm_isNew, Bool.false_and, cond_false, mm_step, mm_ii, hy]
    exact hn
theorem hq_ldiv_ {a b c : Nat} {x y z : Int64} (hat : mm_at (mm_rows M) pc = some (.ldiv, 1, a, b, c)) (hx : hq_ldiv x y = some z) (H : hq_R O d M (pc + 1) r (.long z :: t) s g v s') : hq_R O d M pc r (.long y :: .long x :: t) s g v s' := by
  obtain ⟨n, hn⟩ := H
  refine ⟨n + 1, ?_⟩
  unfold hq_ldiv at hx
  rcases mm_bif hx with ⟨-, hx⟩ | ⟨hy, hx⟩
  · cases hx
  · cases hx
    rw [mm_run_succ]
    unfold mm_body
    rw [hat]
    simp only [mm_isNew, Bool.false_and, cond_false, mm_step, mm_jj, hy]
    exact hn
theorem hq_lrem_ {a b c : Nat} {x y z : Int64} (hat : mm_at (mm_rows M) pc = some (.lrem, 1, a, b, c)) (hx : hq_lrem x y = some z) (H : hq_R O d M (pc + 1) r (.long z :: t) s g v s') : hq_R O d M pc r (.long y :: .long x :: t) s g v s' := by
  obtain ⟨n, hn⟩ := H
  refine ⟨n + 1, ?_⟩
  unfold hq_lrem at hx
  rcases mm_bif hx with ⟨-, hx⟩ | ⟨hy, hx⟩
  · cases hx
  · cases hx
    rw [mm_run_succ]
    unfold mm_body
    rw [hat]
    simp only [mm_isNew, Bool.false_and, cond_false, mm_step, mm_jj, hy]
    exact hn
theorem hq_math {q a c : Nat} {x : Value} (hat : mm_at (mm_rows M) pc = some (.invokestatic q, 3, a, 3, c)) (hm : mm_math a st = some (x :: t)) (hw : Nat.ble (mm_words (x :: t)) 10 = true) (hd : 1 ≤ d) (H : hq_R O d M (pc + 3) r (x :: t) s g v s') : hq_R O d M pc r st s g v s' := by
  obtain ⟨n, hn⟩ := H
  refine ⟨n + 1, ?_⟩
  rw [mm_run_succ]
  unfold mm_body
  rw [hat]
  simp only [show Nat.beq 3 0 = false from rfl, show Nat.beq 3 2 = false from rfl, Nat.beq_refl, cond_false, cond_true]
  rw [hm]
  dsimp only
  rw [hw, show Nat.ble 1 d = true from Nat.ble_eq_true_of_le hd]
  exact hn
theorem hq_iret {a b c : Nat} {x : Int32} (hat : mm_at (mm_rows M) pc = some (.ireturn, 1, a, b, c)) (hr : mm_rfit (mm_ret M) x = true) : hq_R O d M pc r [.int x] s g (some (.int x)) s := by
  refine ⟨1, ?_⟩
  rw [mm_run_succ]
  unfold mm_body
  rw [hat]
  dsimp only
  rw [hr]
  rfl
theorem hq_tsw {df lo hi : Int} {offs : Array Int} {l a b c q : Nat} {x : Int32} (hat : mm_at (mm_rows M) pc = some (.tableswitch df lo hi offs, l, a, b, c)) (hx : mm_tsw pc df lo hi offs x = some q) (H : hq_R O d M q r t s g v s') : hq_R O d M pc r (.int x :: t) s g v s' := by
  obtain ⟨n, hn⟩ := H
  refine ⟨n + 1, ?_⟩
  rw [mm_run_succ]
  unfold mm_body
  rw [hat]
  dsimp only
  rw [hx]
  exact hn
theorem hq_lsw {df : Int} {ps : Array (Int × Int)} {l a b c q : Nat} {x : Int32} (hat : mm_at (mm_rows M) pc = some (.lookupswitch df ps, l, a, b, c)) (hx : mm_lsw pc df ps x = some q) (H : hq_R O d M q r t s g v s') : hq_R O d M pc r (.int x :: t) s g v s' := by
  obtain ⟨n, hn⟩ := H
  refine ⟨n + 1, ?_⟩
  rw [mm_run_succ]
  unfold mm_body
  rw [hat]
  dsimp only
  rw [hx]
  exact hn
end
def hq_all (x : Int32) : List Int32 → Prop
  | [] => True
  | k :: ks => ¬ x = k ∧ hq_all x ks
theorem hq_all_spec {x : Int32} : ∀ {ks : List Int32}, hq_all x ks → ∀ k ∈ ks, ¬ x = k := by
  intro ks
  induction ks with
  | nil => intro _ k hk; cases hk
  | cons a ks ih =>
    intro h k hk
    rcases List.mem_cons.mp hk with rfl | hk
    · exact h.1
    · exact ih h.2 k hk
theorem hq_tsw_d {pc : Nat} {df lo hi : Int} {offs : Array Int} {x : Int32} {q : Nat} (ks : List Int32) (hk : ((List.range (hi + 1 - lo).toNat).all fun j => ks.contains (Int32.ofInt (lo + j))) = true) (hq : mm_tgt pc df = some q) (hx : hq_all x ks) : mm_tsw pc df lo hi offs x = some q := by
  unfold mm_tsw
  by_cases h1 : x.toInt < lo
  · rw [if_pos h1]; exact hq
  · by_cases h2 : hi < x.toInt
    · rw [if_neg h1, if_pos h2]; exact hq
    · refine absurd rfl (hq_all_spec hx x ?_)
      have := List.all_eq_true.mp hk (x.toInt - lo).toNat (List.mem_range.mpr (by omega))
      rw [show lo + ((x.toInt - lo).toNat : Int) = x.toInt by omega, Int32.ofInt_toInt] at this
      exact List.contains_iff_mem.mp this
theorem hq_loff {df k : Int} : ∀ {l : List (Int × Int)}, (∀ p ∈ l, ¬ p.1 = k) → Op.lookupswitch.offset l df k = df := by
  intro l
  induction l with
  | nil => intro _; rfl
  | cons p l ih =>
    intro h
    obtain ⟨a, o⟩ := p
    rw [Op.lookupswitch.offset_cons, if_neg (h (a, o) List.mem_cons_self)]
    exact ih fun p hp => h p (List.mem_cons_of_mem _ hp)
theorem hq_lsw_d {pc : Nat} {df : Int} {ps : Array (Int × Int)} {x : Int32} {q : Nat} (ks : List Int32) (hk : (ps.toList.all fun p => ks.contains (Int32.ofInt p.1)) = true) (hq : mm_tgt pc df = some q) (hx : hq_all x ks) : mm_lsw pc df ps x = some q := by
  unfold mm_lsw
  rw [hq_loff]
  · exact hq
  · intro p hp he
    have := List.all_eq_true.mp hk p hp
    rw [he, Int32.ofInt_toInt] at this
    exact hq_all_spec hx x (List.contains_iff_mem.mp this) rfl
theorem hq_shT {k : Nat} (h : hq_isT k) : fb_L k = some (.inl (10, [.int 0, .ref (k + 1), .ref (k + 2), .int 0, .ref (k + 3), .ref (k + 4), .int 0, .int 0, .ref (k + 5), .ref (k + 6), .ref (k + 7), .int 0, .ref (k + 8), .int 100, .int 0, .int 0, .ref (k + 9), .ref (k + 14)])) := by
  rcases h with rfl | rfl <;> rfl
theorem hq_shT_1 {k : Nat} (h : hq_isT k) : fb_L (k + 1) = some (.inr (.inl (.int, List.replicate 10 0))) := by
  rcases h with rfl | rfl <;> rfl
theorem hq_shT_2 {k : Nat} (h : hq_isT k) : fb_L (k + 2) = some (.inr (.inl (.int, List.replicate 10 0))) := by
  rcases h with rfl | rfl <;> rfl
theorem hq_shT_3 {k : Nat} (h : hq_isT k) : fb_L (k + 3) = some (.inr (.inl (.int, List.replicate 20 0))) := by
  rcases h with rfl | rfl <;> rfl
theorem hq_shT_4 {k : Nat} (h : hq_isT k) : fb_L (k + 4) = some (.inr (.inl (.int, List.replicate 20 0))) := by
  rcases h with rfl | rfl <;> rfl
theorem hq_shT_5 {k : Nat} (h : hq_isT k) : fb_L (k + 5) = some (.inr (.inl (.int, List.replicate 3 0))) := by
  rcases h with rfl | rfl <;> rfl
theorem hq_shT_6 {k : Nat} (h : hq_isT k) : fb_L (k + 6) = some (.inr (.inl (.int, List.replicate 24 0))) := by
  rcases h with rfl | rfl <;> rfl
theorem hq_shT_7 {k : Nat} (h : hq_isT k) : fb_L (k + 7) = some (.inr (.inl (.int, List.replicate 3 0))) := by
  rcases h with rfl | rfl <;> rfl
theorem hq_shT_8 {k : Nat} (h : hq_isT k) : fb_L (k + 8) = some (.inr (.inl (.int, List.replicate 4 0))) := by
  rcases h with rfl | rfl <;> rfl
theorem hq_shT_m9 {k : Nat} (h : hq_isT k) : hq_isL (k + 9) := by
  rcases h with rfl | rfl <;> decide
theorem hq_shT_m14 {k : Nat} (h : hq_isT k) : hq_isN (k + 14) := by
  rcases h with rfl | rfl <;> decide
theorem hq_shN {k : Nat} (h : hq_isN k) : fb_L k = some (.inl (5, [.int 0, .long 0, .int 0, .ref (k + 1), .ref (k + 2), .ref (k + 3), .ref (k + 4), .ref (k + 5), .ref (k + 6), .ref (k + 7), .ref (k + 8)])) := by
  rcases h with rfl | rfl | rfl | rfl | rfl <;> rfl
theorem hq_shN_1 {k : Nat} (h : hq_isN k) : fb_L (k + 1) = some (.inr (.inl (.int, List.replicate 10 0))) := by
  rcases h with rfl | rfl | rfl | rfl | rfl <;> rfl
theorem hq_shN_2 {k : Nat} (h : hq_isN k) : fb_L (k + 2) = some (.inr (.inl (.int, List.replicate 3 0))) := by
  rcases h with rfl | rfl | rfl | rfl | rfl <;> rfl
theorem hq_shN_3 {k : Nat} (h : hq_isN k) : fb_L (k + 3) = some (.inr (.inl (.int, List.replicate 3 0))) := by
  rcases h with rfl | rfl | rfl | rfl | rfl <;> rfl
theorem hq_shN_4 {k : Nat} (h : hq_isN k) : fb_L (k + 4) = some (.inr (.inl (.int, List.replicate 3 0))) := by
  rcases h with rfl | rfl | rfl | rfl | rfl <;> rfl
theorem hq_shN_5 {k : Nat} (h : hq_isN k) : fb_L (k + 5) = some (.inr (.inl (.int, List.replicate 4 0))) := by
  rcases h with rfl | rfl | rfl | rfl | rfl <;> rfl
theorem hq_shN_6 {k : Nat} (h : hq_isN k) : fb_L (k + 6) = some (.inr (.inl (.int, List.replicate 4 0))) := by
  rcases h with rfl | rfl | rfl | rfl | rfl <;> rfl
theorem hq_shN_7 {k : Nat} (h : hq_isN k) : fb_L (k + 7) = some (.inr (.inl (.int, List.replicate 4 0))) := by
  rcases h with rfl | rfl | rfl | rfl | rfl <;> rfl
theorem hq_shN_8 {k : Nat} (h : hq_isN k) : fb_L (k + 8) = some (.inr (.inl (.int, List.replicate 4 (-2)))) := by
  rcases h with rfl | rfl | rfl | rfl | rfl <;> rfl
theorem hq_shL {k : Nat} (h : hq_isL k) : fb_L k = some (.inl (4, [.int 0, .int 0, .ref (k + 1), .ref (k + 2), .ref (k + 3), .ref (k + 4)])) := by
  rcases h with rfl | rfl <;> rfl
theorem hq_shL_1 {k : Nat} (h : hq_isL k) : fb_L (k + 1) = some (.inr (.inl (.int, List.replicate 64 0))) := by
  rcases h with rfl | rfl <;> rfl
theorem hq_shL_2 {k : Nat} (h : hq_isL k) : fb_L (k + 2) = some (.inr (.inl (.int, List.replicate 3 0))) := by
  rcases h with rfl | rfl <;> rfl
theorem hq_shL_3 {k : Nat} (h : hq_isL k) : fb_L (k + 3) = some (.inr (.inl (.int, List.replicate 3 0))) := by
  rcases h with rfl | rfl <;> rfl
theorem hq_shL_4 {k : Nat} (h : hq_isL k) : fb_L (k + 4) = some (.inr (.inr (List.replicate 64 0))) := by
  rcases h with rfl | rfl <;> rfl
theorem hq_shS {k : Nat} (h : hq_isS k) : fb_L k = some (.inl (8, [.int 0, .ref (k + 1), .ref (k + 2), .ref (k + 3), .ref (k + 4)])) := by
  rcases h with rfl | rfl <;> rfl
theorem hq_shS_1 {k : Nat} (h : hq_isS k) : fb_L (k + 1) = some (.inr (.inl (.int, List.replicate 10 0))) := by
  rcases h with rfl | rfl <;> rfl
theorem hq_shS_2 {k : Nat} (h : hq_isS k) : fb_L (k + 2) = some (.inr (.inl (.int, List.replicate 100 0))) := by
  rcases h with rfl | rfl <;> rfl
theorem hq_shS_3 {k : Nat} (h : hq_isS k) : fb_L (k + 3) = some (.inr (.inr (List.replicate 10 0))) := by
  rcases h with rfl | rfl <;> rfl
theorem hq_shS_4 {k : Nat} (h : hq_isS k) : fb_L (k + 4) = some (.inr (.inr (List.replicate 10 0))) := by
  rcases h with rfl | rfl <;> rfl
