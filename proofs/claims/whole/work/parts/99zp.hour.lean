/-! AN HOUR OF A BOLDNESS TRIED -/
/-- what is known, in both, as of now -/
def bo_I (nc nt k K : Nat) (li : Nat → Option Nat) (sx sm : hq_S) : Prop := (K ≤ k ∧ k ≤ 24 ∧ hq_gi sx 163 0 = Int32.ofNat k) ∧ (∀ i, i < k → (hr_lt i (hq_gi sx 168 i) (hq_gi sm 228 i) ∨ (hq_gi sx 168 i = -1 ∧ hq_gi sm 228 i = -1 ∧ (∃ a : Nat, 1 ≤ a ∧ a ≤ 60 ∧ hq_gi sx 164 i = Int32.ofNat a ∧ hq_gi sm 224 i = Int32.ofNat a) ∧ hr_lt nt (hq_gi sx 165 i) (hq_gi sm 225 i) ∧ hr_lt nc (hq_gi sx 166 i) (hq_gi sm 226 i) ∧ hr_nat 1 (hq_gi sx 167 i) (hq_gi sm 227 i)))) ∧ sd_K K sm ∧ sd_L K li 228 sm ∧ ∀ i, i < K → hq_gi sm 229 i = if (sd li K K).1.testBit i = true then 1 else 0
section
variable {N nc nl ng nt t bar k K : Nat} {fr to on : Nat → Nat} {both : Bool} {li : Nat → Option Nat} {o sx sm sx' sm' : hq_S}
theorem bo_I_k (ex : ∀ c i, 163 ≤ c → c ≤ 168 → hq_gi sx' c i = hq_gi sx c i) (e4 : hq_gi sm' 174 74 = hq_gi sm 174 74) (e5 : hq_gi sm' 174 75 = hq_gi sm 174 75) (em : ∀ c i, 224 ≤ c → c ≤ 229 → hq_gi sm' c i = hq_gi sm c i) (I : bo_I nc nt k K li sx sm) : bo_I nc nt k K li sx' sm' := by
  unfold bo_I sd_K sd_L at I ⊢
  simp (disch := decide) only [ex, e4, e5, em]
  exact I
theorem hh_P_9 {l u q : Nat} {bn : Int32} {x : Nat} {v : Int32} (P : hh_P nc nl ng nt t u q l fr to on bar both bn o sx sm) : hh_P nc nl ng nt t u q l fr to on bar both bn o (hq_si sx 169 x v) sm := by
  have ex : ∀ c i, ¬ c = 169 → hq_gi (hq_si sx 169 x v) c i = hq_gi sx c i := fun c i h => by rw [nb_ii, if_neg (fun z => h z.1)]
  obtain ⟨T, ⟨t2, u2, k2⟩, ⟨r0, r1, r2⟩, X, F, Mm, W, Mo, O⟩ := P
  have b := T.1
  refine ⟨hr_told_f t2 (fun c i hc => ex c i (by omega)) (fun _ _ _ => rfl) (fun _ _ _ _ => rfl) T, ⟨t2, u2, k2⟩, ⟨r0, r1, r2⟩, ⟨by rw [ex _ _ (by omega)]; exact X.1, fun c hc => by rw [ex _ _ (by omega)]; exact X.2 c hc⟩, fun a b ha hb => by rw [ex _ _ (by omega)]; exact F a b ha hb, Mm, ?_, hh_M_f (fun j => ex _ _ (by omega)) rfl rfl Mo, O⟩
  exact hn_N_k (sx := sx) (sm := sm) b.1 b.2.2.1 b.2.2.2 (fun c i h1 h2 => ex c i (by omega)) rfl (fun _ _ _ => rfl) (fun _ => rfl) (fun _ _ => rfl) W
theorem bo_hour {h : Nat} (hN : 100 < N) (hh : h ≤ 60) (P : hh_P nc nl ng nt t 108 94 1 fr to on bar both 0 o sx sm) (I : bo_I nc nt k K li sx sm) : ∃ b sx' sm', (b = 0 ∨ b = 1) ∧ f_X3_pass N sx = some sx' ∧ f_X12_passes N 1 0 sm = some sm' ∧ (∀ x v, f_X2_areSo N (Int32.ofNat (sd li K K).2) (Int32.ofNat h) (hq_si sx' 169 x v) = some (b, hq_si sx' 169 x v)) ∧ f_X12_isSo N (Int32.ofNat h) sm' = some (b, sm') ∧ hh_P nc nl ng nt t 108 94 1 fr to on bar both 0 o sx' sm' ∧ bo_I nc nt k K li sx' sm' := by
  obtain ⟨sx', sm', e1, e2, P'⟩ := hh_pass (N := N) hN (by omega) P
  have e2 : f_X12_passes N 1 0 sm = some sm' := e2
  have fx := (f_X3_pass_fw (Or.inr rfl) P.2.2.1.2.2 e1).kp (D := [(163, none), (164, none), (165, none), (166, none), (167, none), (168, none)]) (by decide)
  have fm := (f_X12_passes_fw e2).kp (D := [(174, some 74), (174, some 75), (224, none), (225, none), (226, none), (227, none), (228, none), (229, none)]) (by decide)
  have ex : ∀ c i, 163 ≤ c → c ≤ 168 → hq_gi sx' c i = hq_gi sx c i := fun c i h1 h2 => (fx c i (hq_inA_spec (by
    have : c = 163 ∨ c = 164 ∨ c = 165 ∨ c = 166 ∨ c = 167 ∨ c = 168 := by omega
    rcases this with rfl | rfl | rfl | rfl | rfl | rfl <;> rfl) i)).1
  have em : ∀ c i, 224 ≤ c → c ≤ 229 → hq_gi sm' c i = hq_gi sm c i := fun c i h1 h2 => (fm c i (hq_inA_spec (by
    have : c = 224 ∨ c = 225 ∨ c = 226 ∨ c = 227 ∨ c = 228 ∨ c = 229 := by omega
    rcases this with rfl | rfl | rfl | rfl | rfl | rfl <;> rfl) i)).1
  have I' := bo_I_k ex (fm 174 74 (by decide)).1 (fm 174 75 (by decide)).1 em I
  have b := P'.1.1
  have so : ∀ x v, ∃ c : Int32, (c = 0 ∨ c = 1) ∧ f_X2_areSo N (Int32.ofNat (sd li K K).2) (Int32.ofNat h) (hq_si sx' 169 x v) = some (c, hq_si sx' 169 x v) ∧ f_X12_isSo N (Int32.ofNat h) sm' = some (c, sm') := fun x v => by
    have o9 : ∀ c i, ¬ c = 169 → hq_gi (hq_si sx' 169 x v) c i = hq_gi sx' c i := fun c i h => by rw [nb_ii, if_neg (fun z => h z.1)]
    obtain ⟨⟨i1, i2, i3⟩, i4, i5, i6, i7⟩ := bo_I_k (sx := sx') (sx' := hq_si sx' 169 x v) (fun c i h1 h2 => o9 c i (by omega)) rfl rfl (fun _ _ _ _ => rfl) I'
    exact hb_so hN i1 i2 hh b.2.2.2 P'.2.2.1.2.2 i3 i4 b.1 (fun i hi => by
      rw [o9 _ _ (by omega)]
      exact (P'.2.2.2.2.2.2.1.2.2.2.2.2.2.1 i hi).1) i5 i6 i7
  obtain ⟨c, hc, -, c2⟩ := so 0 0
  refine ⟨c, sx', sm', hc, e1, e2, fun x v => ?_, c2, P', I'⟩
  obtain ⟨d, -, d1, d2⟩ := so x v
  rw [c2] at d2
  have hv : c = d := congrArg Prod.fst (Option.some.inj d2)
  rw [hv]
  exact d1
end
