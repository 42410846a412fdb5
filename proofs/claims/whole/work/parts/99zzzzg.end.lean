/-! THE CLAIM -/
theorem hz_law : mm_Lawful 3072 := fun xs hl => by
  obtain ⟨n, d, hF, gF, h1, h2, h3, h4, h5⟩ := hq_lawful (Inv := fun s => hR hC s s) (hR_0 hC_0) (ho_all (N := 20000) (by omega)) xs hl
  exact ⟨n, d, hF, gF, h1, h2, h3, by omega, h5⟩
theorem i_vc : Claimed_1_1 ∧ Claimed_1_2 := mm_ivc hz_law
