/-! RUNS: what grows, what a call is -/
theorem mm_putf_same {h h' : mm_Heap} {v x : Value} {a b c : Nat} (hg : mm_putf h v a b c x = some h') : h'.length = h.length ∧ mm_sz h' = mm_sz h := by
  unfold mm_putf at hg
  split at hg
  · next k0 =>
    split at hg
    · next o hk0 =>
      cases ho : Nat.beq o.1 a && (mm_fit (c % 8) x && Nat.blt b o.2.length) with
      | false => rw [ho] at hg; cases hg
      | true =>
        rw [ho] at hg
        simp only [cond_true, Option.some.injEq] at hg
        subst hg
        exact ⟨by simp, mm_sz_set hk0 (by simp [mm_sz1])⟩
    · cases hg
  · cases hg
theorem mm_iast_same {h h' : mm_Heap} {v : Value} {i x : Int32} (hg : mm_iast h v i x = some h') : h'.length = h.length ∧ mm_sz h' = mm_sz h := by
  unfold mm_iast at hg
  split at hg
  · next k0 =>
    split at hg
    · next xs hk0 =>
      cases hi : mm_in i xs.length with
      | false => rw [hi] at hg; cases hg
      | true =>
        rw [hi] at hg
        simp only [cond_true, Option.some.injEq] at hg
        subst hg
        exact ⟨by simp, mm_sz_set hk0 (by simp [mm_sz1])⟩
    · cases hg
  · cases hg
theorem mm_bast_same {h h' : mm_Heap} {v : Value} {i x : Int32} (hg : mm_bast h v i x = some h') : h'.length = h.length ∧ mm_sz h' = mm_sz h := by
  unfold mm_bast at hg
  split at hg
  · next k0 =>
    split at hg
    · next xs hk0 =>
      cases hi : mm_in i xs.length with
      | false => rw [hi] at hg; cases hg
      | true =>
        rw [hi] at hg
        simp only [cond_true, Option.some.injEq] at hg
        subst hg
        exact ⟨by simp, mm_sz_set hk0 (by simp [mm_sz1])⟩
    · next xs hk0 =>
      cases hi : mm_in i xs.length with
      | false => rw [hi] at hg; cases hg
      | true =>
        rw [hi] at hg
        simp only [cond_true, Option.some.injEq] at hg
        subst hg
        exact ⟨by simp, mm_sz_set hk0 (by simp [mm_sz1])⟩
    · cases hg
  · cases hg
theorem mm_last_same {h h' : mm_Heap} {v : Value} {i : Int32} {x : Int64} (hg : mm_last h v i x = some h') : h'.length = h.length ∧ mm_sz h' = mm_sz h := by
  unfold mm_last at hg
  split at hg
  · next k0 =>
    split at hg
    · next xs hk0 =>
      cases hi : mm_in i xs.length with
      | false => rw [hi] at hg; cases hg
      | true =>
        rw [hi] at hg
        simp only [cond_true, Option.some.injEq] at hg
        subst hg
        exact ⟨by simp, mm_sz_set hk0 (by simp [mm_sz1])⟩
    · cases hg
  · cases hg
theorem mm_splice_len {α : Type} (f g : List α) (sp dp n : Nat) (h1 : sp + n ≤ f.length) (h2 : dp + n ≤ g.length) : (mm_splice f g sp dp n).length = g.length := by
  simp [mm_splice]
  omega
theorem mm_copy_spec {h h' : mm_Heap} {v w : Value} {sp dp n : Int32} (hg : mm_copy h v w sp dp n = some h') : (∃ (k j : Nat) (f g : List Int32), v = .ref k ∧ w = .ref j ∧ h[k]? = some (.inr (.inl (.int, f))) ∧ h[j]? = some (.inr (.inl (.int, g))) ∧ ¬ sp < 0 ∧ ¬ dp < 0 ∧ ¬ n < 0 ∧ sp.toNatClampNeg + n.toNatClampNeg ≤ f.length ∧ dp.toNatClampNeg + n.toNatClampNeg ≤ g.length ∧ h' = h.set j (.inr (.inl (.int, mm_splice f g sp.toNatClampNeg dp.toNatClampNeg n.toNatClampNeg)))) ∨ ∃ (k j : Nat) (f g : List Int64), v = .ref k ∧ w = .ref j ∧ h[k]? = some (.inr (.inr f)) ∧ h[j]? = some (.inr (.inr g)) ∧ ¬ sp < 0 ∧ ¬ dp < 0 ∧ ¬ n < 0 ∧ sp.toNatClampNeg + n.toNatClampNeg ≤ f.length ∧ dp.toNatClampNeg + n.toNatClampNeg ≤ g.length ∧ h' = h.set j (.inr (.inr (mm_splice f g sp.toNatClampNeg dp.toNatClampNeg n.toNatClampNeg))) := by
  unfold mm_copy at hg
  split at hg
  · next k j =>
    split at hg
    · next f g hk hj =>
      cases hb : !(decide (sp < 0)) && (!(decide (dp < 0)) && (!(decide (n < 0)) && (Nat.ble (sp.toNatClampNeg + n.toNatClampNeg) f.length && Nat.ble (dp.toNatClampNeg + n.toNatClampNeg) g.length))) with
      | false => rw [hb] at hg; cases hg
      | true =>
        rw [hb] at hg
        simp only [cond_true, Option.some.injEq] at hg
        simp only [Bool.and_eq_true, Bool.not_eq_true', decide_eq_false_iff_not, Nat.ble_eq] at hb
        obtain ⟨b1, b2, b3, b4, b5⟩ := hb
        exact Or.inl ⟨k, j, f, g, rfl, rfl, hk, hj, b1, b2, b3, b4, b5, hg.symm⟩
    · next f g hk hj =>
      cases hb : !(decide (sp < 0)) && (!(decide (dp < 0)) && (!(decide (n < 0)) && (Nat.ble (sp.toNatClampNeg + n.toNatClampNeg) f.length && Nat.ble (dp.toNatClampNeg + n.toNatClampNeg) g.length))) with
      | false => rw [hb] at hg; cases hg
      | true =>
        rw [hb] at hg
        simp only [cond_true, Option.some.injEq] at hg
        simp only [Bool.and_eq_true, Bool.not_eq_true', decide_eq_false_iff_not, Nat.ble_eq] at hb
        obtain ⟨b1, b2, b3, b4, b5⟩ := hb
        exact Or.inr ⟨k, j, f, g, rfl, rfl, hk, hj, b1, b2, b3, b4, b5, hg.symm⟩
    · cases hg
  · cases hg
theorem mm_copy_same {h h' : mm_Heap} {v w : Value} {sp dp n : Int32} (hg : mm_copy h v w sp dp n = some h') : h'.length = h.length ∧ mm_sz h' = mm_sz h := by
  rcases mm_copy_spec hg with ⟨k, j, f, g, -, -, -, hj, -, -, -, h4, h5, rfl⟩ | ⟨k, j, f, g, -, -, -, hj, -, -, -, h4, h5, rfl⟩
  · exact ⟨by simp, mm_sz_set hj (by simp [mm_sz1, mm_splice_len _ _ _ _ _ h4 h5])⟩
  · exact ⟨by simp, mm_sz_set hj (by simp [mm_sz1, mm_splice_len _ _ _ _ _ h4 h5])⟩
theorem mm_bif {α : Type} {b : Bool} {x y z : α} (h : (bif b then x else y) = z) : (b = true ∧ x = z) ∨ (b = false ∧ y = z) := by
  cases b
  · exact Or.inr ⟨rfl, h⟩
  · exact Or.inl ⟨rfl, h⟩
set_option maxHeartbeats 4000000 in
theorem mm_step_mono {O : mm_Old} {w : mm_Row} {pc : Nat} {r r' : mm_Loc} {st st' : List Value} {h h' : mm_Heap} (hs : mm_step O w pc r st h = some (r', st', h')) : h.length ≤ h'.length ∧ mm_sz h ≤ mm_sz h' := by
  have same : ∀ {u v : mm_Heap}, v.length = u.length ∧ mm_sz v = mm_sz u → u.length ≤ v.length ∧ mm_sz u ≤ mm_sz v := fun q => ⟨by omega, by omega⟩
  have push : ∀ (u : mm_Heap) (c : mm_Cell), u.length ≤ (u ++ [c]).length ∧ mm_sz u ≤ mm_sz (u ++ [c]) := fun u c => ⟨by simp, by rw [mm_sz_push]; omega⟩
  unfold mm_step at hs
  split at hs
  all_goals first
    | (cases hs; done)
    | (simp only [Option.some.injEq, Prod.mk.injEq] at hs; obtain ⟨-, -, rfl⟩ := hs; exact ⟨Nat.le_refl _, Nat.le_refl _⟩)
    | (obtain ⟨t, hg, he⟩ := Option.map_eq_some_iff.mp hs; simp only [Prod.mk.injEq] at he; obtain ⟨-, -, rfl⟩ := he; exact ⟨Nat.le_refl _, Nat.le_refl _⟩)
    | skip
  all_goals (try split at hs)
  all_goals first
    | (cases hs; done)
    | (simp only [Option.some.injEq, Prod.mk.injEq] at hs; obtain ⟨-, -, rfl⟩ := hs; exact ⟨Nat.le_refl _, Nat.le_refl _⟩)
    | (obtain ⟨t, hg, he⟩ := Option.map_eq_some_iff.mp hs; simp only [Prod.mk.injEq] at he; obtain ⟨-, -, rfl⟩ := he; first | exact ⟨Nat.le_refl _, Nat.le_refl _⟩ | exact same (mm_putf_same hg) | exact same (mm_iast_same hg) | exact same (mm_bast_same hg) | exact same (mm_last_same hg))
    | skip
  all_goals (rcases mm_bif hs with ⟨hb, hs⟩ | ⟨hb, hs⟩)
  all_goals first
    | (cases hs; done)
    | (simp only [Option.some.injEq, Prod.mk.injEq] at hs; obtain ⟨-, -, rfl⟩ := hs; first | exact ⟨Nat.le_refl _, Nat.le_refl _⟩ | exact push _ _)
    | (obtain ⟨t, hg, he⟩ := Option.map_eq_some_iff.mp hs; simp only [Prod.mk.injEq] at he; obtain ⟨-, -, rfl⟩ := he; exact push _ _)
    | skip
  all_goals (try split at hs)
  all_goals (try (cases hs; done))
  all_goals (rcases mm_bif hs with ⟨hb, hs⟩ | ⟨hb, hs⟩)
  all_goals first
    | (cases hs; done)
    | (simp only [Option.some.injEq, Prod.mk.injEq] at hs; obtain ⟨-, -, rfl⟩ := hs; exact ⟨Nat.le_refl _, Nat.le_refl _⟩)
