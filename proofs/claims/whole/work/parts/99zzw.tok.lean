/-! THE READER: tokens -/
/-- a byte as a signed int -/
def sb (n : Nat) : Int32 := if n < 128 then Int32.ofNat n else Int32.ofInt ((n : Int) - 256)
theorem sb_all : ∀ n, n < 256 → (Int8.ofNat n).toInt32 &&& 255 = Int32.ofNat n ∧ (Int8.ofNat n).toInt32 = sb n := by decide +kernel
theorem sb_of {x : Int32} (h : hr_isb x) : ∃ n : Nat, n < 256 ∧ x &&& 255 = Int32.ofNat n ∧ x = sb n := by
  have e : Int8.ofNat x.toInt8.toBitVec.toNat = x.toInt8 := by
    apply Int8.toBitVec_inj.mp
    simp [Int8.toBitVec_ofNat]
  obtain ⟨h1, h2⟩ := sb_all x.toInt8.toBitVec.toNat x.toInt8.toBitVec.isLt
  rw [e, show x.toInt8.toInt32 = x from h] at h1 h2
  exact ⟨_, x.toInt8.toBitVec.isLt, h1, h2⟩
theorem sb_97 : ∀ n, n < 256 → ((sb n < 97) = (n < 97 ∨ 128 ≤ n)) := by
  have h : ∀ n, n < 256 → (sb n < 97 ↔ (n < 97 ∨ 128 ≤ n)) := by decide +kernel
  exact fun n hn => propext (h n hn)
theorem sb_122 : ∀ n, n < 256 → (((122 : Int32) < sb n) = (122 < n ∧ n < 128)) := by
  have h : ∀ n, n < 256 → ((122 : Int32) < sb n ↔ (122 < n ∧ n < 128)) := by decide +kernel
  exact fun n hn => propext (h n hn)
theorem sb_48 : ∀ n, n < 256 → ((sb n < 48) = (n < 48 ∨ 128 ≤ n)) := by
  have h : ∀ n, n < 256 → (sb n < 48 ↔ (n < 48 ∨ 128 ≤ n)) := by decide +kernel
  exact fun n hn => propext (h n hn)
theorem sb_57 : ∀ n, n < 256 → (((57 : Int32) < sb n) = (57 < n ∧ n < 128)) := by
  have h : ∀ n, n < 256 → ((57 : Int32) < sb n ↔ (57 < n ∧ n < 128)) := by decide +kernel
  exact fun n hn => propext (h n hn)
theorem sb_eq {n c : Nat} (hn : n < 256) (hc : c < 128) : (sb n = Int32.ofNat c) = (n = c) := by
  have h : ∀ n, n < 256 → ∀ c, c < 128 → (sb n = Int32.ofNat c ↔ n = c) := by decide +kernel
  exact propext (h n hn c hc)
theorem sb_lo {n : Nat} (hn : n < 128) : sb n = Int32.ofNat n := if_pos hn
theorem ofNat_hi {n c : Nat} (hn : n < 2147483648) (hc : c < 2147483648) : (Int32.ofNat n = Int32.ofNat c) = (n = c) := nb_eq hn hc
theorem nb_shl {n i : Nat} (h : n * 2 ^ i < 2147483648) (hi : i < 32) : Int32.ofNat n <<< (Int32.ofNat i &&& 31) = Int32.ofNat (n * 2 ^ i) := pk_shlN _ i (nb_smod i hi) (by omega)
theorem ie {P Q : Prop} [Decidable P] [Decidable Q] {α : Type} {x y : α} (h : P = Q) : (if P then x else y) = if Q then x else y := by
  subst h
  by_cases c : P
  · rw [if_pos c, if_pos c]
  · rw [if_neg c, if_neg c]
/-- kept but for some fields of one object -/
def kz (c : Nat) (F : List Nat) (s s' : hq_S) : Prop := (∀ k i, ¬ (k = c ∧ i ∈ F) → hq_gi s' k i = hq_gi s k i) ∧ s'.2 = s.2
theorem kz_rf (c : Nat) (F : List Nat) (s : hq_S) : kz c F s s := ⟨fun _ _ _ => rfl, rfl⟩
theorem kz_tr {c : Nat} {F : List Nat} {s t u : hq_S} (h : kz c F s t) (g : kz c F t u) : kz c F s u := ⟨fun k i hk => (g.1 k i hk).trans (h.1 k i hk), g.2.trans h.2⟩
theorem kz_si {c i : Nat} {F : List Nat} {s : hq_S} {x : Int32} (h : i ∈ F) : kz c F s (hq_si s c i x) := ⟨fun k j hk => if_neg (c := k = c ∧ j = i) fun q => hk ⟨q.1, q.2 ▸ h⟩, rfl⟩
theorem kz_gr {c : Nat} {F : List Nat} {s s' : hq_S} (h : kz c F s s') (k i : Nat) : hq_gr s' k i = hq_gr s k i := by
  unfold hq_gr
  rw [h.2]
theorem kz_gj {c : Nat} {F : List Nat} {s s' : hq_S} (h : kz c F s s') (k i : Nat) : hq_gj s' k i = hq_gj s k i := by
  unfold hq_gj
  rw [h.2]
theorem kz_ne {c k i : Nat} {F : List Nat} {s s' : hq_S} (h : kz c F s s') (hk : ¬ k = c) : hq_gi s' k i = hq_gi s k i := h.1 k i fun q => hk q.1
theorem kz_no {c i : Nat} {F : List Nat} {s s' : hq_S} (h : kz c F s s') (hi : ¬ i ∈ F) : hq_gi s' c i = hq_gi s c i := h.1 c i fun q => hi q.2
theorem kz_mono {c : Nat} {F G : List Nat} {s s' : hq_S} (h : kz c F s s') (g : ∀ i ∈ F, i ∈ G) : kz c G s s' := ⟨fun k i hk => h.1 k i fun q => hk ⟨q.1, g i q.2⟩, h.2⟩
/-- the text: the class's side, the reference's side -/
def tkX (t : Nat → Nat) (L : Nat) (s : hq_S) : Prop := L ≤ 700 ∧ hq_gi s 49 2 = Int32.ofNat L ∧ hq_gr s 49 1 = 1 ∧ (∀ i, i < L → t i < 256 ∧ hq_gi s 1 i = sb (t i)) ∧ ∀ i, i < 22 → hq_gi s 50 i = hq_gi hq_s0 50 i
def tkM (t : Nat → Nat) (L : Nat) (s : hq_S) : Prop := hq_gi s 174 23 = Int32.ofNat L ∧ ∀ i, i < L → hq_gi s 175 i = Int32.ofNat (t i)
def FX : List Nat := [3, 4, 5, 6]
def FM : List Nat := [24, 25, 26, 27]
section
variable {N L : Nat} {t : Nat → Nat}
theorem tkX_k {s s' : hq_S} (h : tkX t L s) (k : kz 49 FX s s') : tkX t L s' := by
  obtain ⟨h1, h2, h3, h4, h5⟩ := h
  exact ⟨h1, (kz_no k (by decide)).trans h2, (kz_gr k _ _).trans h3, fun i hi => ⟨(h4 i hi).1, (kz_ne k (by omega)).trans (h4 i hi).2⟩, fun i hi => (kz_ne k (by omega)).trans (h5 i hi)⟩
theorem tkM_k {s s' : hq_S} (h : tkM t L s) (k : kz 174 FM s s') : tkM t L s' :=
  ⟨(kz_no k (by decide)).trans h.1, fun i hi => (kz_ne k (by omega)).trans (h.2 i hi)⟩
theorem tkX_ld {s : hq_S} (h : tkX t L s) {at' : Nat} (ha : at' < L) : hq_ldbA s (hq_gr s 49 1) (Int32.ofNat at') = some (sb (t at')) := by
  obtain ⟨h1, h2, h3, h4, h5⟩ := h
  rw [h3]
  unfold hq_ldbA
  rw [show hq_alB 1 = some 700 by decide +kernel]
  show hq_ld s 1 700 (Int32.ofNat at') = _
  rw [nn_ld (by omega) (by omega), (h4 at' ha).2]
theorem tkX_at {s : hq_S} (h : tkX t L s) {at' : Nat} (ha : at' ≤ L) : (Int32.ofNat at' < hq_gi s 49 2) = (at' < L) := by
  have := h.1
  rw [h.2.1, nb_ltp (by omega) (by omega)]
theorem tkM_here {s : hq_S} (hX : L ≤ 700) (h : tkM t L s) {at' : Nat} (ha : at' ≤ L) (e : hq_gi s 174 24 = Int32.ofNat at') : f_X12_here N s = some (if at' < L then Int32.ofNat (t at') else -1, s) := by
  unfold f_X12_here
  rw [e, h.1, ie (nb_ltp (by omega) (by omega))]
  by_cases c : at' < L
  · rw [if_pos c, if_pos c, nn_ld (by omega) (by omega), h.2 at' c]
    rfl
  · rw [if_neg c, if_neg c]
theorem isSmall_v {n : Nat} {s : hq_S} (hn : n < 256) : f_X12_isSmall N (Int32.ofNat n) s = some (if 97 ≤ n ∧ n ≤ 122 then 1 else 0, s) := by
  unfold f_X12_isSmall
  rw [show (97 : Int32) = Int32.ofNat 97 from rfl, show (122 : Int32) = Int32.ofNat 122 from rfl, ie (nb_ltp (by omega) (by omega)), ie (nb_ltp (by omega) (by omega))]
  by_cases c1 : n < 97
  · rw [if_pos c1, if_neg (by omega)]
  · rw [if_neg c1]
    by_cases c2 : 122 < n
    · rw [if_pos c2, if_neg (by omega)]
    · rw [if_neg c2, if_pos (by omega)]
theorem isSmall_e {s : hq_S} : f_X12_isSmall N (-1) s = some (0, s) := by
  unfold f_X12_isSmall
  rw [if_pos (by decide)]
theorem isDigit_v {n : Nat} {s : hq_S} (hn : n < 256) : f_X12_isDigit N (Int32.ofNat n) s = some (if 48 ≤ n ∧ n ≤ 57 then 1 else 0, s) := by
  unfold f_X12_isDigit
  rw [show (48 : Int32) = Int32.ofNat 48 from rfl, show (57 : Int32) = Int32.ofNat 57 from rfl, ie (nb_ltp (by omega) (by omega)), ie (nb_ltp (by omega) (by omega))]
  by_cases c1 : n < 48
  · rw [if_pos c1, if_neg (by omega)]
  · rw [if_neg c1]
    by_cases c2 : 57 < n
    · rw [if_pos c2, if_neg (by omega)]
    · rw [if_neg c2, if_pos (by omega)]
theorem isDigit_e {s : hq_S} : f_X12_isDigit N (-1) s = some (0, s) := by
  unfold f_X12_isDigit
  rw [if_pos (by decide)]
/-- blanks -/
theorem tx_skip : ∀ (r p m : Nat) (s : hq_S), tkX t L s → p + r = L → hq_gi s 49 3 = Int32.ofNat p → r < m → ∃ p' s', p ≤ p' ∧ p' ≤ L ∧ (p' < L → ¬ t p' = 10 ∧ ¬ t p' = 32) ∧ (∀ i, p ≤ i → i < p' → t i = 10 ∨ t i = 32) ∧ f_X9_advance_L0 N m s = f_X9_advance_J52 N s' ∧ hq_gi s' 49 3 = Int32.ofNat p' ∧ kz 49 FX s s' := by
  intro r
  induction r with
  | zero =>
    intro p m s X hp e hm
    obtain ⟨m, rfl⟩ : ∃ k, m = k + 1 := ⟨m - 1, by omega⟩
    refine ⟨p, s, Nat.le_refl _, by omega, fun h => by omega, fun i h1 h2 => by omega, ?_, e, kz_rf _ _ _⟩
    rw [f_X9_advance_L0_s]
    unfold f_X9_advance_L0_B
    rw [e, ie (tkX_at X (by omega)), if_neg (show ¬ p < L by omega)]
  | succ r ih =>
    intro p m s X hp e hm
    obtain ⟨m, rfl⟩ : ∃ k, m = k + 1 := ⟨m - 1, by omega⟩
    have b := (X.2.2.2.1 p (by omega)).1
    have step : f_X9_advance_L0 N (m + 1) s = if t p = 10 ∨ t p = 32 then f_X9_advance_L0 N m (hq_si s 49 3 (Int32.ofNat (p + 1))) else f_X9_advance_J52 N s := by
      rw [f_X9_advance_L0_s]
      unfold f_X9_advance_L0_B f_X9_advance_J39
      rw [e, ie (tkX_at X (by omega)), if_pos (show p < L by omega), tkX_ld X (by omega)]
      simp only [Option.bind_some]
      rw [show (32 : Int32) = Int32.ofNat 32 from rfl, show (10 : Int32) = Int32.ofNat 10 from rfl, ie (sb_eq b (by omega)), ie (sb_eq b (by omega)), nn_pi, nn_succ]
      simp only [Option.bind_some]
      by_cases c1 : t p = 32
      · rw [if_pos c1, if_pos (Or.inr c1)]
      · rw [if_neg c1]
        by_cases c2 : t p = 10
        · rw [if_pos c2, if_pos (Or.inl c2)]
        · rw [if_neg c2, if_neg (by omega)]
    by_cases c : t p = 10 ∨ t p = 32
    · have k1 : kz 49 FX s (hq_si s 49 3 (Int32.ofNat (p + 1))) := kz_si (by decide)
      obtain ⟨p', s', h1, h2, h3, h4, h5, h6, h7⟩ := ih (p + 1) m (hq_si s 49 3 (Int32.ofNat (p + 1))) (tkX_k X k1) (by omega) nn_g1 (by omega)
      refine ⟨p', s', by omega, h2, h3, fun i i1 i2 => ?_, by rw [step, if_pos c]; exact h5, h6, kz_tr k1 h7⟩
      by_cases q : i = p
      · rw [q]; exact c
      · exact h4 i (by omega) i2
    · exact ⟨p, s, Nat.le_refl _, by omega, fun _ => by omega, fun i h1 h2 => by omega, by rw [step, if_neg c], e, kz_rf _ _ _⟩
/-- the reference behind blanks -/
def tm_tok (N : Nat) (s : hq_S) : Option hq_S := (hq_pi s 174 25 0 (hq_gi s 174 24)).bind fun s6 => (f_X12_here N s6).bind fun y7 => if y7.1 = (-1 : Int32) then (hq_pi y7.2 174 26 0 (4 : Int32)).bind fun s36 => some s36 else (f_X12_isSmall N y7.1 y7.2).bind fun y9 => if y9.1 = 0 then (f_X12_isDigit N y7.1 y9.2).bind fun y11 => if y11.1 = 0 then (f_X12_sign N y7.1 y11.2).bind fun s13 => some s13 else (hq_pi y11.2 174 26 0 (2 : Int32)).bind fun s14 => (hq_pi s14 174 27 0 (0 : Int32)).bind fun s15 => f_X12_token_L162 N N y7.1 s15 else f_X12_token_L64 N N y7.1 y9.2
theorem tm_skip (hL : L ≤ 700) (hb : ∀ i, i < L → t i < 256) : ∀ (r p m : Nat) (s : hq_S), tkM t L s → p + r = L → hq_gi s 174 24 = Int32.ofNat p → r < m → ∃ p' s', p ≤ p' ∧ p' ≤ L ∧ (p' < L → ¬ t p' = 10 ∧ ¬ t p' = 32) ∧ (∀ i, p ≤ i → i < p' → t i = 10 ∨ t i = 32) ∧ f_X12_token_L0 N m s = tm_tok N s' ∧ hq_gi s' 174 24 = Int32.ofNat p' ∧ kz 174 FM s s' := by
  intro r
  induction r with
  | zero =>
    intro p m s X hp e hm
    obtain ⟨m, rfl⟩ : ∃ k, m = k + 1 := ⟨m - 1, by omega⟩
    refine ⟨p, s, Nat.le_refl _, by omega, fun h => by omega, fun i h1 h2 => by omega, ?_, e, kz_rf _ _ _⟩
    rw [f_X12_token_L0_s]
    unfold f_X12_token_L0_B
    rw [tkM_here hL X (by omega) e, if_neg (show ¬ p < L by omega)]
    simp only [Option.bind_some]
    rw [if_neg (by decide), tkM_here hL X (by omega) e, if_neg (show ¬ p < L by omega)]
    simp only [Option.bind_some]
    rw [if_neg (by decide)]
    rfl
  | succ r ih =>
    intro p m s X hp e hm
    obtain ⟨m, rfl⟩ : ∃ k, m = k + 1 := ⟨m - 1, by omega⟩
    have b := hb p (by omega)
    have step : f_X12_token_L0 N (m + 1) s = if t p = 10 ∨ t p = 32 then f_X12_token_L0 N m (hq_si s 174 24 (Int32.ofNat (p + 1))) else tm_tok N s := by
      rw [f_X12_token_L0_s]
      unfold f_X12_token_L0_B f_X12_token_J18
      rw [tkM_here hL X (by omega) e, if_pos (show p < L by omega)]
      simp only [Option.bind_some]
      rw [tkM_here hL X (by omega) e, if_pos (show p < L by omega)]
      simp only [Option.bind_some]
      rw [show (32 : Int32) = Int32.ofNat 32 from rfl, show (10 : Int32) = Int32.ofNat 10 from rfl, ie (nb_eq (by omega) (by omega)), ie (nb_eq (by omega) (by omega)), nn_pi, e, nn_succ]
      simp only [Option.bind_some]
      by_cases c1 : t p = 10
      · rw [if_pos c1, if_pos (Or.inl c1)]
      · rw [if_neg c1]
        by_cases c2 : t p = 32
        · rw [if_pos c2, if_pos (Or.inr c2)]
        · rw [if_neg c2, if_neg (by omega)]
          unfold tm_tok
          rw [e]
    by_cases c : t p = 10 ∨ t p = 32
    · have k1 : kz 174 FM s (hq_si s 174 24 (Int32.ofNat (p + 1))) := kz_si (by decide)
      obtain ⟨p', s', h1, h2, h3, h4, h5, h6, h7⟩ := ih (p + 1) m (hq_si s 174 24 (Int32.ofNat (p + 1))) (tkM_k X k1) (by omega) nn_g1 (by omega)
      refine ⟨p', s', by omega, h2, h3, fun i i1 i2 => ?_, by rw [step, if_pos c]; exact h5, h6, kz_tr k1 h7⟩
      by_cases q : i = p
      · rw [q]; exact c
      · exact h4 i (by omega) i2
    · exact ⟨p, s, Nat.le_refl _, by omega, fun _ => by omega, fun i h1 h2 => by omega, by rw [step, if_neg c], e, kz_rf _ _ _⟩
theorem sk_uniq {p a b : Nat} (a1 : p ≤ a) (a2 : a ≤ L) (a3 : a < L → ¬ t a = 10 ∧ ¬ t a = 32) (a4 : ∀ i, p ≤ i → i < a → t i = 10 ∨ t i = 32) (b1 : p ≤ b) (b2 : b ≤ L) (b3 : b < L → ¬ t b = 10 ∧ ¬ t b = 32) (b4 : ∀ i, p ≤ i → i < b → t i = 10 ∨ t i = 32) : a = b := by
  rcases Nat.lt_trichotomy a b with h | h | h
  · have := b4 a a1 h
    have := a3 (by omega)
    omega
  · exact h
  · have := a4 b b1 h
    have := b3 (by omega)
    omega
end
