/-! THE READER: words, the reference -/
section
variable {N L : Nat} {t : Nat → Nat}
/-- the word from p to e is word k -/
def eqw (t : Nat → Nat) (p e k : Nat) : Prop := p + wn k = e ∧ ∀ i, i < wn k → t (p + i) = wk k i
theorem tm_97 {k : Nat} (hk : k < 22) {q4 : Int32 → Int32 → hq_S → Option (Int32 × hq_S)} {a3 : Int32} {s : hq_S} : ∀ (r i m : Nat), i + r = wn k → r < m → f_X12_word_L97 N q4 m (Int32.ofNat k) (Int32.ofNat (wf k + i)) a3 s = q4 (Int32.ofNat (k + 1)) (Int32.ofNat (wf (k + 1))) s := by
  obtain ⟨⟨w1, w2, w3, w4, w5⟩, w6⟩ := wl_ok k hk
  intro r
  induction r with
  | zero =>
    intro i m hi hm
    obtain ⟨m, rfl⟩ : ∃ k, m = k + 1 := ⟨m - 1, by omega⟩
    have hi : i = wn k := by omega
    rw [f_X12_word_L97_s, hi]
    unfold f_X12_word_L97_B
    rw [w2]
    simp only [Option.bind_some]
    rw [if_pos trivial, nn_succ, nn_succ, w1]
  | succ r ih =>
    intro i m hi hm
    obtain ⟨m, rfl⟩ : ∃ k, m = k + 1 := ⟨m - 1, by omega⟩
    obtain ⟨c1, c2, c3⟩ := w6 i (by omega)
    rw [f_X12_word_L97_s]
    unfold f_X12_word_L97_B
    rw [c1]
    simp only [Option.bind_some]
    rw [show (32 : Int32) = Int32.ofNat 32 from rfl, ie (nb_eq (by omega) (by omega)), if_neg (by omega), nn_succ]
    exact ih (i + 1) m (by omega) (by omega)
theorem tm_15 (hN : 20 < N) (hL : L ≤ 700) {k p e : Nat} (hk : k < 22) (hp : p ≤ e) (he : e ≤ L) {q4 : Int32 → Int32 → hq_S → Option (Int32 × hq_S)} {s : hq_S} (hb : ∀ i, i < L → t i < 256) (M : tkM t L s) (e4 : hq_gi s 174 24 = Int32.ofNat e) (e5 : hq_gi s 174 25 = Int32.ofNat p) : ∀ (r i m : Nat), i + r = wn k → r < m → p + i ≤ e → (∀ j, j < i → t (p + j) = wk k j) → (eqw t p e k → f_X12_word_L15 N q4 m (Int32.ofNat k) (Int32.ofNat (wf k)) (Int32.ofNat i) s = some (Int32.ofNat k, s)) ∧ (¬ eqw t p e k → f_X12_word_L15 N q4 m (Int32.ofNat k) (Int32.ofNat (wf k)) (Int32.ofNat i) s = q4 (Int32.ofNat (k + 1)) (Int32.ofNat (wf (k + 1))) s) := by
  obtain ⟨⟨w1, w2, w3, w4, w5⟩, w6⟩ := wl_ok k hk
  have sk : ∀ {a3 : Int32}, f_X12_word_L97 N q4 N (Int32.ofNat k) (Int32.ofNat (wf k)) a3 s = q4 (Int32.ofNat (k + 1)) (Int32.ofNat (wf (k + 1))) s := fun {a3} => tm_97 hk (wn k) 0 N (by omega) (by omega)
  intro r
  induction r with
  | zero =>
    intro i m hi hm hpi hmt
    obtain ⟨m, rfl⟩ : ∃ k, m = k + 1 := ⟨m - 1, by omega⟩
    have hi : i = wn k := by omega
    subst hi
    have st : f_X12_word_L15 N q4 (m + 1) (Int32.ofNat k) (Int32.ofNat (wf k)) (Int32.ofNat (wn k)) s = if p + wn k = e then some (Int32.ofNat k, s) else q4 (Int32.ofNat (k + 1)) (Int32.ofNat (wf (k + 1))) s := by
      rw [f_X12_word_L15_s]
      unfold f_X12_word_L15_B f_X12_word_J69
      rw [nb_add, w2]
      simp only [Option.bind_some]
      rw [if_pos trivial, if_pos trivial, e4, e5, nb_add, ie (nb_eq (by omega) (by omega)), sk]
    refine ⟨fun h => by rw [st, if_pos h.1], fun h => ?_⟩
    rw [st, if_neg fun q => h ⟨q, hmt⟩]
  | succ r ih =>
    intro i m hi hm hpi hmt
    obtain ⟨m, rfl⟩ : ∃ k, m = k + 1 := ⟨m - 1, by omega⟩
    obtain ⟨c1, c2, c3⟩ := w6 i (by omega)
    have st : f_X12_word_L15 N q4 (m + 1) (Int32.ofNat k) (Int32.ofNat (wf k)) (Int32.ofNat i) s = if p + i < e ∧ t (p + i) = wk k i then f_X12_word_L15 N q4 m (Int32.ofNat k) (Int32.ofNat (wf k)) (Int32.ofNat (i + 1)) s else q4 (Int32.ofNat (k + 1)) (Int32.ofNat (wf (k + 1))) s := by
      rw [f_X12_word_L15_s]
      unfold f_X12_word_L15_B f_X12_word_J69
      rw [nb_add, c1]
      simp only [Option.bind_some]
      have n32 : ¬ Int32.ofNat (wk k i) = 32 := by
        rw [show (32 : Int32) = Int32.ofNat 32 from rfl, nb_eq (by omega) (by omega)]
        omega
      rw [if_neg n32, if_neg n32, e4, e5, nb_add, ie (nb_ltp (by omega) (by omega)), sk]
      by_cases c : p + i < e
      · have := hb (p + i) (by omega)
        rw [if_pos c, nn_ld (by omega) (by omega), M.2 (p + i) (by omega)]
        simp only [Option.bind_some]
        rw [ie (nb_eq (by omega) (by omega)), nn_succ]
        by_cases c' : t (p + i) = wk k i
        · rw [if_pos c', if_pos ⟨c, c'⟩]
        · rw [if_neg c', if_neg fun q => c' q.2]
      · rw [if_neg c, if_neg fun q => c q.1]
    by_cases c : p + i < e ∧ t (p + i) = wk k i
    · rw [st, if_pos c]
      refine ih (i + 1) m (by omega) (by omega) (by omega) fun j hj => ?_
      by_cases q : j = i
      · rw [q]; exact c.2
      · exact hmt j (by omega)
    · refine ⟨fun h => absurd ⟨?_, h.2 i (by omega)⟩ c, fun _ => by rw [st, if_neg c]⟩
      have := h.1
      omega
theorem tm_word (hN : 40 < N) (hL : L ≤ 700) {p e : Nat} (hp : p ≤ e) (he : e ≤ L) {s : hq_S} (hb : ∀ i, i < L → t i < 256) (M : tkM t L s) (e4 : hq_gi s 174 24 = Int32.ofNat e) (e5 : hq_gi s 174 25 = Int32.ofNat p) : (∃ k, k < 22 ∧ eqw t p e k ∧ f_X12_word N s = some (Int32.ofNat k, s)) ∨ ((∀ k, k < 22 → ¬ eqw t p e k) ∧ f_X12_word N s = some (-1, s)) := by
  have go : ∀ (r k m : Nat), k + r = 22 → r < m → (∀ j, j < k → ¬ eqw t p e j) → (∃ k, k < 22 ∧ eqw t p e k ∧ f_X12_word_L4 N m (Int32.ofNat (22 - r)) (Int32.ofNat (wf (22 - r))) s = some (Int32.ofNat k, s)) ∨ ((∀ k, k < 22 → ¬ eqw t p e k) ∧ f_X12_word_L4 N m (Int32.ofNat (22 - r)) (Int32.ofNat (wf (22 - r))) s = some (-1, s)) := by
    intro r
    induction r with
    | zero =>
      intro k m hk hm hq
      obtain ⟨m, rfl⟩ : ∃ k, m = k + 1 := ⟨m - 1, by omega⟩
      refine Or.inr ⟨fun j hj => hq j (by omega), ?_⟩
      rw [f_X12_word_L4_s]
      unfold f_X12_word_L4_B
      rw [if_neg (by decide)]
    | succ r ih =>
      intro k m hk hm hq
      obtain ⟨m, rfl⟩ : ∃ k, m = k + 1 := ⟨m - 1, by omega⟩
      have w5 := (wl_ok k (by omega)).1.2.2.2.2
      rw [show 22 - (r + 1) = k by omega, f_X12_word_L4_s]
      unfold f_X12_word_L4_B
      rw [show (112 : Int32) = Int32.ofNat 112 from rfl, ie (nb_ltp (by omega) (by omega)), if_pos w5]
      obtain ⟨a1, a2⟩ := tm_15 (N := N) (q4 := f_X12_word_L4 N m) (by omega) hL (show k < 22 by omega) hp he hb M e4 e5 (wn k) 0 N (by omega) (by have := (wl_ok k (by omega)).1.2.2.1; omega) (by omega) (fun j hj => by omega)
      by_cases c : eqw t p e k
      · exact Or.inl ⟨k, by omega, c, a1 c⟩
      · have a2 := a2 c
        have := ih (k + 1) m (by omega) (by omega) (fun j hj => by
          by_cases q : j = k
          · rw [q]; exact c
          · exact hq j (by omega))
        rw [show 22 - r = k + 1 by omega] at this
        rw [show (0 : Int32) = Int32.ofNat 0 from rfl, a2]
        exact this
  have := go 22 0 N (by omega) (by omega) (fun j hj => by omega)
  exact this
/-- name: the letters packed -/
def nm (d : Nat → Nat) : Nat → Nat → Nat → Nat
  | 0, _, v => v
  | r + 1, j, v => nm d r (j + 1) (v * 32 + d j)
theorem nm_pw (d : Nat → Nat) : nm d 6 0 0 = pw d := by
  simp only [nm, pw, Nat.zero_add, Nat.zero_mul, Nat.reduceAdd]
  omega
theorem tm_name7 (hL : L ≤ 700) {p e : Nat} (hp : p ≤ e) (he : e ≤ L) (hl : ∀ i, p ≤ i → i < e → isL (t i)) : ∀ (r j m v : Nat) (s : hq_S), j + r = 6 → r < m → v < 32 ^ j → tkM t L s → hq_gi s 174 24 = Int32.ofNat e → hq_gi s 174 25 = Int32.ofNat p → hq_gi s 174 27 = Int32.ofNat v → ∃ s', f_X12_name_L7 N m (Int32.ofNat j) s = some s' ∧ hq_gi s' 174 27 = Int32.ofNat (nm (cut (dl t p) (e - p)) r j v) ∧ kz 174 [27] s s' := by
  intro r
  induction r with
  | zero =>
    intro j m v s hj hm hv M e4 e5 e7
    obtain ⟨m, rfl⟩ : ∃ k, m = k + 1 := ⟨m - 1, by omega⟩
    refine ⟨s, ?_, e7, kz_rf _ _ _⟩
    rw [f_X12_name_L7_s]
    unfold f_X12_name_L7_B
    rw [show (6 : Int32) = Int32.ofNat 6 from rfl, ie (nb_ltp (by omega) (by omega)), if_neg (by omega)]
  | succ r ih =>
    intro j m v s hj hm hv M e4 e5 e7
    obtain ⟨m, rfl⟩ : ∃ k, m = k + 1 := ⟨m - 1, by omega⟩
    have dlt := cut_lt (fun i => dl_lt (t := t) p i) (e - p) j
    have hv5 : v < 33554432 := Nat.lt_of_lt_of_le hv (by
      have : 32 ^ j ≤ 32 ^ 5 := Nat.pow_le_pow_right (by omega) (by omega)
      omega)
    have z : (if Int32.ofNat p + Int32.ofNat j < Int32.ofNat e then (hq_ld s 175 700 (Int32.ofNat p + Int32.ofNat j)).bind fun x5 => some ((x5 - (97 : Int32)) + (1 : Int32)) else some (0 : Int32)) = some (Int32.ofNat (cut (dl t p) (e - p) j)) := by
      rw [nb_add, ie (nb_ltp (by omega) (by omega))]
      by_cases c : p + j < e
      · have l := hl (p + j) (by omega) c
        unfold isL at l
        rw [if_pos c, nn_ld (by omega) (by omega), M.2 _ (by omega)]
        simp only [Option.bind_some]
        rw [show (97 : Int32) = Int32.ofNat 97 from rfl, nb_sub l.1, nn_succ]
        unfold cut dl
        rw [if_pos (by omega), Nat.mod_eq_of_lt (by omega)]
        congr 2
        omega
      · rw [if_neg c]
        unfold cut
        rw [if_neg (by omega)]
        rfl
    have k1 : kz 174 [27] s (hq_si s 174 27 (Int32.ofNat (v * 32 + cut (dl t p) (e - p) j))) := kz_si (by decide)
    obtain ⟨s', h1, h2, h3⟩ := ih (j + 1) m (v * 32 + cut (dl t p) (e - p) j) _ (by omega) (by omega) (by
      rw [Nat.pow_succ]
      omega) (tkM_k M (kz_mono k1 (by decide))) ((kz_no k1 (by decide)).trans e4) ((kz_no k1 (by decide)).trans e5) nn_g1
    refine ⟨s', ?_, h2, kz_tr k1 h3⟩
    rw [f_X12_name_L7_s]
    unfold f_X12_name_L7_B
    rw [show (6 : Int32) = Int32.ofNat 6 from rfl, ie (nb_ltp (by omega) (by omega)), if_pos (by omega), e4, e5, z]
    simp only [Option.bind_some]
    rw [e7, show (5 : Int32) = Int32.ofNat 5 from rfl, nb_shl (by omega) (by omega), nb_or, nn_pi]
    simp only [Option.bind_some]
    rw [nn_succ, show v * 2 ^ 5 ||| cut (dl t p) (e - p) j = v * 32 + cut (dl t p) (e - p) j from by
      have := Nat.two_pow_add_eq_or_of_lt (i := 5) (b := cut (dl t p) (e - p) j) dlt v
      rw [Nat.mul_comm v, ← this]]
    exact h1
theorem tm_name (hN : 20 < N) (hL : L ≤ 700) {p e : Nat} (hp : p ≤ e) (he : e ≤ L) (hl : ∀ i, p ≤ i → i < e → isL (t i)) {s : hq_S} (M : tkM t L s) (e4 : hq_gi s 174 24 = Int32.ofNat e) (e5 : hq_gi s 174 25 = Int32.ofNat p) : ∃ s', f_X12_name N s = some s' ∧ hq_gi s' 174 27 = Int32.ofNat (pw (cut (dl t p) (e - p))) ∧ kz 174 [27] s s' := by
  have k1 : kz 174 [27] s (hq_si s 174 27 0) := kz_si (by decide)
  obtain ⟨s', h1, h2, h3⟩ := tm_name7 (N := N) hL hp he hl 6 0 N 0 _ (by omega) (by omega) (by omega) (tkM_k M (kz_mono k1 (by decide))) ((kz_no k1 (by decide)).trans e4) ((kz_no k1 (by decide)).trans e5) nn_g1
  refine ⟨s', ?_, by rw [h2, nm_pw], kz_tr k1 h3⟩
  unfold f_X12_name
  rw [nn_pi]
  exact h1
/-- the reference goes through a word's letters -/
def tm_wrd (N : Nat) (s : hq_S) : Option hq_S := (f_X12_word N s).bind fun y27 => (hq_pi y27.2 174 27 0 y27.1).bind fun s28 => (if (hq_gi s28 174 27) = (-1 : Int32) then if (6 : Int32) < ((hq_gi s28 174 24) - (hq_gi s28 174 25)) then some (5 : Int32) else some (1 : Int32) else some (0 : Int32)).bind fun z29 => (hq_pi s28 174 26 0 z29).bind fun s32 => if (hq_gi s32 174 26) = (1 : Int32) then (f_X12_name N s32).bind fun s34 => some s34 else some s32
theorem tm_wl (hL : L ≤ 700) (hb : ∀ i, i < L → t i < 256) {a1 : Int32} : ∀ (r p m : Nat) (s : hq_S), tkM t L s → p + r = L → hq_gi s 174 24 = Int32.ofNat p → r < m → ∃ e s', p ≤ e ∧ e ≤ L ∧ (∀ i, p ≤ i → i < e → isL (t i)) ∧ (e < L → ¬ isL (t e)) ∧ f_X12_token_L64 N m a1 s = tm_wrd N s' ∧ hq_gi s' 174 24 = Int32.ofNat e ∧ kz 174 [24] s s' := by
  intro r
  induction r with
  | zero =>
    intro p m s M hp e hm
    obtain ⟨m, rfl⟩ : ∃ k, m = k + 1 := ⟨m - 1, by omega⟩
    refine ⟨p, s, Nat.le_refl _, by omega, fun i h1 h2 => by omega, fun h => by omega, ?_, e, kz_rf _ _ _⟩
    rw [f_X12_token_L64_s]
    unfold f_X12_token_L64_B
    rw [tkM_here hL M (by omega) e, if_neg (show ¬ p < L by omega)]
    simp only [Option.bind_some]
    rw [isSmall_e]
    simp only [Option.bind_some]
    rw [if_pos trivial]
    rfl
  | succ r ih =>
    intro p m s M hp e hm
    obtain ⟨m, rfl⟩ : ∃ k, m = k + 1 := ⟨m - 1, by omega⟩
    have b := hb p (by omega)
    have step : f_X12_token_L64 N (m + 1) a1 s = if isL (t p) then f_X12_token_L64 N m a1 (hq_si s 174 24 (Int32.ofNat (p + 1))) else tm_wrd N s := by
      rw [f_X12_token_L64_s]
      unfold f_X12_token_L64_B
      rw [tkM_here hL M (by omega) e, if_pos (show p < L by omega)]
      simp only [Option.bind_some]
      rw [isSmall_v b]
      simp only [Option.bind_some]
      by_cases c : isL (t p)
      · rw [if_pos c, if_pos (show 97 ≤ t p ∧ t p ≤ 122 from c), if_neg (by decide), nn_pi, e, nn_succ]
        rfl
      · rw [if_neg c, if_neg (show ¬ (97 ≤ t p ∧ t p ≤ 122) from c), if_pos rfl]
        rfl
    by_cases c : isL (t p)
    · have k1 : kz 174 [24] s (hq_si s 174 24 (Int32.ofNat (p + 1))) := kz_si (by decide)
      obtain ⟨e', s', h1, h2, h3, h4, h5, h6, h7⟩ := ih (p + 1) m _ (tkM_k M (kz_mono k1 (by decide))) (by omega) nn_g1 (by omega)
      refine ⟨e', s', by omega, h2, fun i i1 i2 => ?_, h4, by rw [step, if_pos c]; exact h5, h6, kz_tr k1 h7⟩
      by_cases q : i = p
      · rw [q]; exact c
      · exact h3 i (by omega) i2
    · exact ⟨p, s, Nat.le_refl _, by omega, fun i h1 h2 => by omega, fun _ => c, by rw [step, if_neg c], e, kz_rf _ _ _⟩
theorem wl_uniq {p a b : Nat} (a1 : p ≤ a) (a2 : a ≤ L) (a3 : a < L → ¬ isL (t a)) (a4 : ∀ i, p ≤ i → i < a → isL (t i)) (b1 : p ≤ b) (b2 : b ≤ L) (b3 : b < L → ¬ isL (t b)) (b4 : ∀ i, p ≤ i → i < b → isL (t i)) : a = b := by
  rcases Nat.lt_trichotomy a b with h | h | h
  · exact absurd (b4 a a1 h) (a3 (by omega))
  · exact h
  · exact absurd (a4 b b1 h) (b3 (by omega))
/-- the class's key and the reference's word -/
theorem kk_eqw {p e j : Nat} (hj : j < 22) (hp : p ≤ e) (hle : e - p ≤ 6) (hl : ∀ i, p ≤ i → i < e → isL (t i)) : kk j = pw (cut (dl t p) (e - p)) ↔ eqw t p e (tk_c j) := by
  have hc := (kk_ok j hj).2
  obtain ⟨⟨w1, w2, w3, w4, w5⟩, w6⟩ := wl_ok (tk_c j) hc
  have dv : ∀ i, p + i < e → dl t p i = t (p + i) - 96 ∧ 97 ≤ t (p + i) ∧ t (p + i) ≤ 122 := fun i hi => by
    have := hl (p + i) (by omega) hi
    unfold isL at this
    exact ⟨Nat.mod_eq_of_lt (by omega), this⟩
  constructor
  · intro h
    have lt1 : ∀ i, cut (fun i => wk (tk_c j) i - 96) (wn (tk_c j)) i < 32 := fun i => by
      unfold cut
      split
      · next q =>
        have := w6 i q
        show wk (tk_c j) i - 96 < 32
        omega
      · omega
    have q : ∀ i, i < 6 → (if i < wn (tk_c j) then wk (tk_c j) i - 96 else 0) = (if i < e - p then dl t p i else 0) := pw_inj lt1 (cut_lt (fun i => dl_lt p i) (e - p)) h
    have hlen : wn (tk_c j) = e - p := by
      rcases Nat.lt_trichotomy (wn (tk_c j)) (e - p) with g | g | g
      · have z := q (wn (tk_c j)) (by omega)
        rw [if_neg (by omega), if_pos g, (dv _ (by omega)).1] at z
        have := dv (wn (tk_c j)) (by omega)
        omega
      · exact g
      · have z := q (e - p) (by omega)
        rw [if_pos g, if_neg (by omega)] at z
        have := w6 (e - p) g
        omega
    refine ⟨by omega, fun i hi => ?_⟩
    have z := q i (by omega)
    rw [if_pos hi, if_pos (by omega), (dv i (by omega)).1] at z
    have := dv i (by omega)
    have := w6 i hi
    omega
  · intro h
    unfold kk
    refine pw_congr fun i hi => ?_
    have h1 := h.1
    unfold cut
    by_cases c : i < wn (tk_c j)
    · rw [if_pos c, if_pos (by omega), (dv i (by omega)).1, h.2 i c]
    · rw [if_neg c, if_neg (by omega)]
theorem tk_c_inv : ∀ k, k < 22 → ∃ j, j < 22 ∧ tk_c j = k := by decide +kernel
theorem getD_ext {A B : List Nat} {i : Nat} (l1 : i < A.length) (l2 : i < B.length) (h : A.getD i 0 = B.getD i 0) : A[i]? = B[i]? := by
  rw [List.getD_eq_getElem?_getD, List.getD_eq_getElem?_getD, List.getElem?_eq_getElem l1, List.getElem?_eq_getElem l2] at h
  rw [List.getElem?_eq_getElem l1, List.getElem?_eq_getElem l2]
  exact congrArg some h
theorem eqw_u {p e k k' : Nat} (hk : k < 22) (hk' : k' < 22) (h : eqw t p e k) (h' : eqw t p e k') : k = k' := by
  have d : ∀ k, k < 22 → ∀ k', k' < 22 → wl.getD k [] = wl.getD k' [] → k = k' := by decide +kernel
  refine d k hk k' hk' (List.ext_getElem? fun i => ?_)
  have e1 : wn k = wn k' := by have := h.1; have := h'.1; omega
  by_cases c : i < wn k
  · have q1 := h.2 i c
    have q2 := h'.2 i (by omega)
    have q3 : (wl.getD k []).getD i 0 = (wl.getD k' []).getD i 0 := by
      show wk k i = wk k' i
      omega
    have l1 : i < (wl.getD k []).length := c
    have l2 : i < (wl.getD k' []).length := by rw [show (wl.getD k' []).length = wn k' from rfl]; omega
    exact getD_ext l1 l2 q3
  · rw [List.getElem?_eq_none (by show wn k ≤ i; omega), List.getElem?_eq_none (by show wn k' ≤ i; omega)]
end
