/-! SOUNDNESS of runs -/
set_option maxHeartbeats 4000000 in
theorem mm_run_mono {P : Nat → Option mm_Meth} {O : mm_Old} : ∀ (n d : Nat) (M : mm_Meth) (pc : Nat) (r : mm_Loc) (st : List Value) (h : mm_Heap) (g : Nat) (v : mm_Res) (hF : mm_Heap) (gF : Nat), mm_run P O n d M pc r st h g = some (v, hF, gF) → (h.length ≤ hF.length ∧ mm_sz h ≤ mm_sz hF) ∧ g ≤ gF := by
  intro n
  induction n with
  | zero => intro d M pc r st h g v hF gF hr; cases hr
  | succ n ih =>
    intro d M pc r st h g v hF gF hr
    have tr : ∀ {x y z : mm_Heap}, x.length ≤ y.length ∧ mm_sz x ≤ mm_sz y → y.length ≤ z.length ∧ mm_sz y ≤ mm_sz z → x.length ≤ z.length ∧ mm_sz x ≤ mm_sz z := fun a b => ⟨Nat.le_trans a.1 b.1, Nat.le_trans a.2 b.2⟩
    have sm : ∀ {x y : mm_Heap}, y.length = x.length ∧ mm_sz y = mm_sz x → x.length ≤ y.length ∧ mm_sz x ≤ mm_sz y := fun q => ⟨by omega, by omega⟩
    rw [mm_run_succ] at hr
    unfold mm_body at hr
    split at hr
    · cases hr
    · next w hw =>
      split at hr
      · exact ih _ _ _ _ _ _ _ _ _ _ hr
      · split at hr
        · rcases mm_bif hr with ⟨-, hr⟩ | ⟨-, hr⟩ <;> exact ih _ _ _ _ _ _ _ _ _ _ hr
        · cases hr
      · split at hr
        · rcases mm_bif hr with ⟨-, hr⟩ | ⟨-, hr⟩ <;> exact ih _ _ _ _ _ _ _ _ _ _ hr
        · cases hr
      · split at hr
        · split at hr
          · exact ih _ _ _ _ _ _ _ _ _ _ hr
          · cases hr
        · cases hr
      · split at hr
        · split at hr
          · exact ih _ _ _ _ _ _ _ _ _ _ hr
          · cases hr
        · cases hr
      · split at hr
        · rcases mm_bif hr with ⟨-, hr⟩ | ⟨-, hr⟩
          · cases hr; exact ⟨⟨Nat.le_refl _, Nat.le_refl _⟩, Nat.le_refl _⟩
          · cases hr
        · cases hr
      · split at hr
        · cases hr; exact ⟨⟨Nat.le_refl _, Nat.le_refl _⟩, Nat.le_refl _⟩
        · cases hr
      · split at hr
        · cases hr; exact ⟨⟨Nat.le_refl _, Nat.le_refl _⟩, Nat.le_refl _⟩
        · cases hr
      · split at hr
        · split at hr
          · rcases mm_bif hr with ⟨-, hr⟩ | ⟨-, hr⟩
            · split at hr
              · next hc =>
                split at hr
                · exact ⟨tr (ih _ _ _ _ _ _ _ _ _ _ hc).1 (ih _ _ _ _ _ _ _ _ _ _ hr).1, Nat.le_trans (ih _ _ _ _ _ _ _ _ _ _ hc).2 (ih _ _ _ _ _ _ _ _ _ _ hr).2⟩
                · cases hr
              · cases hr
            · cases hr
          · cases hr
        · cases hr
      · rcases mm_bif hr with ⟨-, hr⟩ | ⟨-, hr⟩
        · split at hr
          · rcases mm_bif hr with ⟨-, hr⟩ | ⟨-, hr⟩
            · split at hr
              · next hc =>
                split at hr
                · exact ⟨tr (ih _ _ _ _ _ _ _ _ _ _ hc).1 (ih _ _ _ _ _ _ _ _ _ _ hr).1, Nat.le_trans (ih _ _ _ _ _ _ _ _ _ _ hc).2 (ih _ _ _ _ _ _ _ _ _ _ hr).2⟩
                · cases hr
              · cases hr
            · cases hr
          · cases hr
        · rcases mm_bif hr with ⟨-, hr⟩ | ⟨-, hr⟩
          · split at hr
            · split at hr
              · rcases mm_bif hr with ⟨-, hr⟩ | ⟨-, hr⟩
                · split at hr
                  · next hc =>
                    split at hr
                    · next hl => exact ⟨tr (ih _ _ _ _ _ _ _ _ _ _ hc).1 (tr (sm (mm_last_same hl)) (ih _ _ _ _ _ _ _ _ _ _ hr).1), Nat.le_trans (ih _ _ _ _ _ _ _ _ _ _ hc).2 (ih _ _ _ _ _ _ _ _ _ _ hr).2⟩
                    · cases hr
                  · next hc => exact ⟨tr (ih _ _ _ _ _ _ _ _ _ _ hc).1 (ih _ _ _ _ _ _ _ _ _ _ hr).1, Nat.le_trans (ih _ _ _ _ _ _ _ _ _ _ hc).2 (ih _ _ _ _ _ _ _ _ _ _ hr).2⟩
                  · cases hr
                · cases hr
              · cases hr
            · cases hr
          · rcases mm_bif hr with ⟨-, hr⟩ | ⟨-, hr⟩
            · split at hr
              · rcases mm_bif hr with ⟨-, hr⟩ | ⟨-, hr⟩
                · exact ih _ _ _ _ _ _ _ _ _ _ hr
                · cases hr
              · cases hr
            split at hr
            · rcases mm_bif hr with ⟨-, hr⟩ | ⟨-, hr⟩
              · split at hr
                · next hc => exact ⟨tr (sm (mm_copy_same hc)) (ih _ _ _ _ _ _ _ _ _ _ hr).1, (ih _ _ _ _ _ _ _ _ _ _ hr).2⟩
                · cases hr
              · cases hr
            · cases hr
      · rcases mm_bif hr with ⟨-, hr⟩ | ⟨-, hr⟩
        · split at hr
          · rcases mm_bif hr with ⟨-, hr⟩ | ⟨-, hr⟩
            · exact ih _ _ _ _ _ _ _ _ _ _ hr
            · cases hr
          · cases hr
        · split at hr
          · split at hr
            · rcases mm_bif hr with ⟨-, hr⟩ | ⟨-, hr⟩
              · split at hr
                · next hc =>
                  split at hr
                  · exact ⟨tr (ih _ _ _ _ _ _ _ _ _ _ hc).1 (ih _ _ _ _ _ _ _ _ _ _ hr).1, Nat.le_trans (ih _ _ _ _ _ _ _ _ _ _ hc).2 (ih _ _ _ _ _ _ _ _ _ _ hr).2⟩
                  · cases hr
                · cases hr
              · cases hr
            · cases hr
          · cases hr
      · rcases mm_bif hr with ⟨-, hr⟩ | ⟨-, hr⟩
        · split at hr
          · rcases mm_bif hr with ⟨-, hr⟩ | ⟨-, hr⟩
            · cases hr; exact ⟨⟨Nat.le_refl _, Nat.le_refl _⟩, Nat.le_succ _⟩
            · cases hr
          · cases hr
        · rcases mm_bif hr with ⟨-, hr⟩ | ⟨-, hr⟩
          · split at hr
            · next hs => exact ⟨tr (mm_step_mono hs) (ih _ _ _ _ _ _ _ _ _ _ hr).1, (ih _ _ _ _ _ _ _ _ _ _ hr).2⟩
            · cases hr
          · cases hr
      · rcases mm_bif hr with ⟨-, hr⟩ | ⟨-, hr⟩
        · cases hr
        · split at hr
          · next hs => exact ⟨tr (mm_step_mono hs) (ih _ _ _ _ _ _ _ _ _ _ hr).1, (ih _ _ _ _ _ _ _ _ _ _ hr).2⟩
          · cases hr
