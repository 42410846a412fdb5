theorem hq_ifT {α : Type} {P : Prop} [Decidable P] {A : Option α} {y : α} (h : (if P then A else none) = some y) : P := by
  by_cases p : P
  · exact p
  · rw [if_neg p] at h
    cases h
theorem hq_fldr {s : hq_S} {k b r : Nat} (hm : hq_mut k b = false) : hq_fld s k b (.ref r) = .ref r := by
  show Value.ref (bif hq_mut k b then hq_gr s k b else r) = _
  rw [hm]
  rfl
theorem hq_shT_u {k b : Nat} (h : hq_isT k) : hq_mut k b = false := by
  rcases h with rfl | rfl <;> rfl
theorem hq_shN_u {k b : Nat} (h : hq_isN k) : hq_mut k b = false := by
  rcases h with rfl | rfl | rfl | rfl | rfl <;> rfl
theorem hq_shL_u {k b : Nat} (h : hq_isL k) : hq_mut k b = false := by
  rcases h with rfl | rfl <;> rfl
theorem hq_shS_u {k b : Nat} (h : hq_isS k) : hq_mut k b = false := by
  rcases h with rfl | rfl <;> rfl
