/-! THE READER: a law under way -/
def vir (sm : hq_S) : Nat → List Nat → Prop
  | _, [] => True
  | pc, x :: Q => hr_knot (Int32.ofNat (20000 + x)) (hq_gi sm 192 (64 + pc)) (hq_gi sm 193 (64 + pc)) ∧ vir sm (pc + 1) Q
theorem vir_k {sm sm' : hq_S} : ∀ (Q : List Nat) (pc n : Nat), pc + Q.length ≤ n → (∀ j, j < n → hq_gi sm' 192 (64 + j) = hq_gi sm 192 (64 + j) ∧ hq_gi sm' 193 (64 + j) = hq_gi sm 193 (64 + j)) → vir sm pc Q → vir sm' pc Q := by
  intro Q
  induction Q with
  | nil => intro _ _ _ _ _; trivial
  | cons x Q ih =>
    intro pc n hn e h
    simp only [List.length_cons] at hn
    refine ⟨?_, ih (pc + 1) n (by omega) e h.2⟩
    rw [(e pc (by omega)).1, (e pc (by omega)).2]
    exact h.1
theorem vir_app {sm : hq_S} {x : Nat} : ∀ (Q : List Nat) (pc : Nat), vir sm pc Q → hr_knot (Int32.ofNat (20000 + x)) (hq_gi sm 192 (64 + (pc + Q.length))) (hq_gi sm 193 (64 + (pc + Q.length))) → vir sm pc (Q ++ [x]) := by
  intro Q
  induction Q with
  | nil => exact fun pc _ g => ⟨g, trivial⟩
  | cons y Q ih =>
    intro pc h g
    refine ⟨h.1, ih (pc + 1) h.2 ?_⟩
    rw [show pc + 1 + Q.length = pc + (y :: Q).length by rw [List.length_cons]; omega]
    exact g
theorem vir_get {sm : hq_S} : ∀ (Q : List Nat) (pc i : Nat), vir sm pc Q → i < Q.length → hr_knot (Int32.ofNat (20000 + Q.getD i 0)) (hq_gi sm 192 (64 + (pc + i))) (hq_gi sm 193 (64 + (pc + i))) := by
  intro Q
  induction Q with
  | nil => intro _ i _ hi; exact absurd hi (by simp)
  | cons x Q ih =>
    intro pc i h hi
    cases i with
    | zero => exact h.1
    | succ i =>
      have := ih (pc + 1) i h.2 (by simp at hi; omega)
      rw [show pc + (i + 1) = pc + 1 + i by omega]
      exact this
def dpt (k0 kn d : Nat) (sm : hq_S) : Prop := ∃ D : Nat → Nat, D k0 = 0 ∧ D kn = d ∧ ∀ j, k0 ≤ j → j < kn → hr_dep (hq_gi sm 192 (64 + j)) (hq_gi sm 193 (64 + j)) (D j) (D (j + 1))
theorem dpt_k {k0 kn d : Nat} {sm sm' : hq_S} (h : dpt k0 kn d sm) (e : ∀ j, j < kn → hq_gi sm' 192 (64 + j) = hq_gi sm 192 (64 + j) ∧ hq_gi sm' 193 (64 + j) = hq_gi sm 193 (64 + j)) : dpt k0 kn d sm' := by
  obtain ⟨D, h1, h2, h3⟩ := h
  refine ⟨D, h1, h2, fun j j1 j2 => ?_⟩
  rw [(e j j2).1, (e j j2).2]
  exact h3 j j1 j2
theorem dpt_e {k0 kn d d' : Nat} {sm : hq_S} (hk : k0 ≤ kn) (h : dpt k0 kn d sm) (g : hr_dep (hq_gi sm 192 (64 + kn)) (hq_gi sm 193 (64 + kn)) d d') : dpt k0 (kn + 1) d' sm := by
  obtain ⟨D, h1, h2, h3⟩ := h
  refine ⟨fun j => if j ≤ kn then D j else d', ?_, ?_, fun j j1 j2 => ?_⟩
  · show (if k0 ≤ kn then D k0 else d') = 0
    rw [if_pos hk]; exact h1
  · show (if kn + 1 ≤ kn then D (kn + 1) else d') = d'
    rw [if_neg (by omega)]
  · show hr_dep _ _ (if j ≤ kn then D j else d') (if j + 1 ≤ kn then D (j + 1) else d')
    by_cases q : j = kn
    · rw [q, if_pos (Nat.le_refl _), if_neg (by omega), h2]; exact g
    · rw [if_pos (by omega), if_pos (by omega)]; exact h3 j j1 (by omega)
def KX (v k0 : Nat) (s s' : hq_S) : Prop := (∀ k i, ¬ (k = 49 ∧ 3 ≤ i ∧ i ≤ 6) → ¬ (k = 48 ∧ 3 ≤ i ∧ i ≤ 6) → ¬ k = 75 → ¬ (k = v + 9 ∧ i < 2) → ¬ (k = v + 10 ∧ k0 ≤ i) → hq_gi s' k i = hq_gi s k i) ∧ s'.2 = s.2
def KM (k0 : Nat) (s s' : hq_S) : Prop := (∀ k i, ¬ (k = 174 ∧ (24 ≤ i ∧ i ≤ 27 ∨ i = 32 ∨ i = 33)) → ¬ (k = 176 ∧ i = 13) → ¬ ((k = 192 ∨ k = 193) ∧ 64 + k0 ≤ i) → hq_gi s' k i = hq_gi s k i) ∧ s'.2 = s.2
theorem kzx {s s' : hq_S} (h : kz 49 FX s s') : ∀ k i, ¬ (k = 49 ∧ 3 ≤ i ∧ i ≤ 6) → hq_gi s' k i = hq_gi s k i := fun k i n => h.1 k i fun q => n ⟨q.1, by have := q.2; simp [FX] at this; omega⟩
theorem kzm {s s' : hq_S} (h : kz 174 FM s s') : ∀ k i, ¬ (k = 174 ∧ 24 ≤ i ∧ i ≤ 27) → hq_gi s' k i = hq_gi s k i := fun k i n => h.1 k i fun q => n ⟨q.1, by have := q.2; simp [FM] at this; omega⟩
def EX (t : Nat → Nat) (L v k0 : Nat) (sx0 sm0 : hq_S) (P Q : List Nat) (p pl q a b due nf op kt pc kn d : Nat) (sx sm : hq_S) : Prop :=
  tk_R t L p pl q a b sx sm ∧
  ((v = 2 ∨ v = 25) ∧ hq_gr sx 48 1 = v) ∧
  (hq_gi sx 48 3 = Int32.ofNat (Q.length + P.length) ∧ stk sx (Q ++ P)) ∧
  (op ≤ 8 ∧ br P = op ∧ ge 1 Q ∧ hq_gi sx 48 4 = Int32.ofNat op ∧ hq_gi sm 174 32 = Int32.ofNat op) ∧
  (hq_gi sx 48 5 = Int32.ofNat due ∧ hq_gi sx 48 6 = Int32.ofNat nf) ∧
  (kt ≤ 64 ∧ hq_gi sx (v + 9) 0 = Int32.ofNat kt ∧ hq_gi sm 174 33 = Int32.ofNat kt) ∧
  (k0 ≤ pc ∧ kn = pc + Q.length ∧ kn + sg P = kt ∧ hq_gi sx (v + 9) 1 = Int32.ofNat pc ∧ hq_gi sm 176 13 = Int32.ofNat kn) ∧
  ((∀ j, k0 ≤ j → j < pc → hr_knot (hq_gi sx (v + 10) j) (hq_gi sm 192 (64 + j)) (hq_gi sm 193 (64 + j))) ∧ vir sm pc Q) ∧
  dpt k0 kn d sm ∧ (KX v k0 sx0 sx ∧ KM k0 sm0 sm ∧ hq_gi sm0 174 28 = 0)
section
variable {N L v k0 p pl q a b due nf op kt pc kn d : Nat} {t : Nat → Nat} {sx0 sm0 sx sm sx' sm' : hq_S} {P Q : List Nat}
theorem EX_f (h : EX t L v k0 sx0 sm0 P Q p pl q a b due nf op kt pc kn d sx sm) : hq_gi sm 174 28 = 0 := by
  obtain ⟨-, -, -, -, -, -, -, -, -, -, km, z⟩ := h
  rw [km.1 _ _ (by omega) (by omega) (by omega)]
  exact z
theorem EX_mk {P' Q' : List Nat} {due' nf' op' kt' pc' kn' d' : Nat} (h : EX t L v k0 sx0 sm0 P Q p pl q a b due nf op kt pc kn d sx sm)
    (X : ∀ k i, ¬ (k = 48 ∧ 3 ≤ i ∧ i ≤ 6) → ¬ k = 75 → ¬ (k = v + 9 ∧ i < 2) → ¬ (k = v + 10 ∧ pc ≤ i) → hq_gi sx' k i = hq_gi sx k i) (X2 : sx'.2 = sx.2)
    (M : ∀ k i, ¬ (k = 174 ∧ (i = 32 ∨ i = 33)) → ¬ (k = 176 ∧ i = 13) → ¬ ((k = 192 ∨ k = 193) ∧ 64 + kn ≤ i) → hq_gi sm' k i = hq_gi sm k i) (M2 : sm'.2 = sm.2)
    (s1 : hq_gi sx' 48 3 = Int32.ofNat (Q'.length + P'.length)) (s2 : stk sx' (Q' ++ P'))
    (o1 : op' ≤ 8) (o2 : br P' = op') (o3 : ge 1 Q') (o4 : hq_gi sx' 48 4 = Int32.ofNat op') (o5 : hq_gi sm' 174 32 = Int32.ofNat op')
    (u1 : hq_gi sx' 48 5 = Int32.ofNat due') (u2 : hq_gi sx' 48 6 = Int32.ofNat nf')
    (c1 : kt' ≤ 64) (c2 : hq_gi sx' (v + 9) 0 = Int32.ofNat kt') (c3 : hq_gi sm' 174 33 = Int32.ofNat kt')
    (n1 : pc ≤ pc') (n2 : kn' = pc' + Q'.length) (n3 : kn' + sg P' = kt') (n4 : hq_gi sx' (v + 9) 1 = Int32.ofNat pc') (n5 : hq_gi sm' 176 13 = Int32.ofNat kn')
    (y1 : ∀ j, pc ≤ j → j < pc' → hr_knot (hq_gi sx' (v + 10) j) (hq_gi sm' 192 (64 + j)) (hq_gi sm' 193 (64 + j))) (y2 : vir sm' pc' Q') (w : dpt k0 kn' d' sm') :
    EX t L v k0 sx0 sm0 P' Q' p pl q a b due' nf' op' kt' pc' kn' d' sx' sm' := by
  obtain ⟨R, ⟨hv, gv⟩, -, -, -, -, ⟨m1, m2, m3, m4, m5⟩, ⟨m6, -⟩, -, kx, km, z⟩ := h
  refine ⟨tk_R_X (tk_R_M R (fun i _ _ => M _ _ (by omega) (by omega) (by omega)) (fun i => M _ _ (by omega) (by omega) (by omega))) (fun i _ _ => X _ _ (by omega) (by omega) (by omega) (by omega)) (fun i => X _ _ (by omega) (by omega) (by omega) (by omega)) (fun i => X _ _ (by omega) (by omega) (by omega) (by omega)) (by unfold hq_gr; rw [X2]), ⟨hv, by unfold hq_gr at gv ⊢; rw [X2]; exact gv⟩, ⟨s1, s2⟩, ⟨o1, o2, o3, o4, o5⟩, ⟨u1, u2⟩, ⟨c1, c2, c3⟩, ⟨by omega, n2, n3, n4, n5⟩, ⟨fun j j1 j2 => ?_, y2⟩, w, ⟨fun k i g1 g2 g3 g4 g5 => ?_, X2.trans kx.2⟩, ⟨fun k i g1 g2 g3 => ?_, M2.trans km.2⟩, z⟩
  · by_cases c : pc ≤ j
    · exact y1 j c j2
    · rw [X _ _ (by omega) (by omega) (by omega) (by omega), M _ _ (by omega) (by omega) (by omega), M _ _ (by omega) (by omega) (by omega)]
      exact m6 j j1 (by omega)
  · rw [X k i g2 g3 g4 (by omega)]; exact kx.1 k i g1 g2 g3 g4 g5
  · rw [M k i (by omega) g2 (by omega)]; exact km.1 k i g1 g2 g3
theorem EX_adv (hN : 1000 < N) (h : EX t L v k0 sx0 sm0 P Q p pl q a b due nf op kt pc kn d sx sm) : ∃ p' pl' q' a' b' sx' sm', f_X9_advance N sx = some sx' ∧ f_X12_token N sm = some sm' ∧ EX t L v k0 sx0 sm0 P Q p' pl' q' a' b' due nf op kt pc kn d sx' sm' ∧ p ≤ pl' := by
  obtain ⟨R, ⟨hv, gv⟩, ⟨s1, s2⟩, ⟨o1, o2, o3, o4, o5⟩, ⟨u1, u2⟩, ⟨c1, c2, c3⟩, ⟨m1, m2, m3, m4, m5⟩, ⟨m6, m7⟩, w, kx, km, z⟩ := h
  obtain ⟨p', pl', q', a', b', sx', sm', r1, r2, r3, r4, r5, r6⟩ := tk_nx hN R
  have X := kzx r5
  have M := kzm r6
  have hm : ∀ j, hq_gi sm' 192 (64 + j) = hq_gi sm 192 (64 + j) ∧ hq_gi sm' 193 (64 + j) = hq_gi sm 193 (64 + j) := fun j => ⟨M _ _ (by omega), M _ _ (by omega)⟩
  refine ⟨p', pl', q', a', b', sx', sm', r1, r2, ⟨r3, ⟨hv, (kz_gr r5 _ _).trans gv⟩, ⟨(X _ _ (by omega)).trans s1, stk_k _ _ (Nat.le_refl _) (fun i _ => X _ _ (by omega)) s2⟩, ⟨o1, o2, o3, (X _ _ (by omega)).trans o4, (M _ _ (by omega)).trans o5⟩, ⟨(X _ _ (by omega)).trans u1, (X _ _ (by omega)).trans u2⟩, ⟨c1, (X _ _ (by omega)).trans c2, (M _ _ (by omega)).trans c3⟩, ⟨m1, m2, m3, (X _ _ (by omega)).trans m4, (M _ _ (by omega)).trans m5⟩, ⟨fun j j1 j2 => ?_, vir_k _ _ _ (Nat.le_refl _) (fun j _ => hm j) m7⟩, dpt_k w (fun j _ => hm j), ⟨fun k i g1 g2 g3 g4 g5 => (X k i g1).trans (kx.1 k i g1 g2 g3 g4 g5), r5.2.trans kx.2⟩, ⟨fun k i g1 g2 g3 => (M k i (by omega)).trans (km.1 k i g1 g2 g3), r6.2.trans km.2⟩, z⟩, r4⟩
  rw [X _ _ (by omega), (hm j).1, (hm j).2]
  exact m6 j j1 j2
theorem sg_ge1 : ∀ Q : List Nat, ge 1 Q → sg Q = Q.length := by
  intro Q
  induction Q with
  | nil => exact fun _ => rfl
  | cons x Q ih =>
    intro h
    have hx : 1 ≤ lv x := h x List.mem_cons_self
    have hne : ¬ x = 40 := fun e => by rw [e] at hx; exact absurd hx (by decide)
    unfold sg
    rw [if_neg hne, ih (fun y hy => h y (List.mem_cons_of_mem _ hy)), List.length_cons]
    omega
theorem sg_app : ∀ Q P : List Nat, sg (Q ++ P) = sg Q + sg P := by
  intro Q P
  induction Q with
  | nil => show sg P = 0 + sg P; omega
  | cons x Q ih =>
    show (if x = 40 then 0 else 1) + sg (Q ++ P) = (if x = 40 then 0 else 1) + sg Q + sg P
    rw [ih]; omega
theorem EX_len (h : EX t L v k0 sx0 sm0 P Q p pl q a b due nf op kt pc kn d sx sm) : Q.length + P.length ≤ kt + op ∧ pc + Q.length ≤ 64 ∧ kn ≤ 64 := by
  obtain ⟨-, -, -, ⟨o1, o2, -⟩, -, ⟨c1, -⟩, ⟨m1, m2, m3, -⟩, -⟩ := h
  have := sg_br P
  omega
/-- all complete signs are put -/
theorem EX_settle (hN : 1000 < N) {l : Nat} (hl0 : 1 ≤ l) (hl : l < 7) (h : EX t L v k0 sx0 sm0 P Q p pl q a b due nf op kt pc kn d sx sm) (hQ : ge l Q) (hP : top l P) : ∃ sx', f_X6_settle N (lvI l) sx = some sx' ∧ EX t L v k0 sx0 sm0 P [] p pl q a b due nf op kt kn kn d sx' sm := by
  have hlen := EX_len h
  obtain ⟨R, ⟨hv, gv⟩, ⟨s1, s2⟩, ⟨o1, o2, o3, o4, o5⟩, ⟨u1, u2⟩, ⟨c1, c2, c3⟩, ⟨m1, m2, m3, m4, m5⟩, ⟨m6, m7⟩, w, kx, km, z⟩ := id h
  obtain ⟨sx', e1, e2, e3, e4, e5, e6⟩ := settle_v (N := N) hv hl0 hl hP Q N pc sx gv (by omega) (by omega) (by omega) s1 s2 hQ m4
  refine ⟨sx', e1, EX_mk h (fun k i n1 n2 n3 n4 => e5 k i (by omega) (by omega) n4) e6 (fun _ _ _ _ _ => rfl) rfl (by simpa using e2) (stk_k P _ (Nat.le_refl _) (fun i _ => e5 _ _ (by omega) (by omega) (by omega)) (stk_app Q s2)) o1 o2 ge_nil ((e5 _ _ (by omega) (by omega) (by omega)).trans o4) o5 ((e5 _ _ (by omega) (by omega) (by omega)).trans u1) ((e5 _ _ (by omega) (by omega) (by omega)).trans u2) c1 ((e5 _ _ (by omega) (by omega) (by omega)).trans c2) c3 (by omega) (by simp) m3 (by rw [e3, m2]) m5 (fun j j1 j2 => ?_) trivial w⟩
  obtain ⟨i, rfl⟩ : ∃ i, j = pc + i := ⟨j - pc, by omega⟩
  rw [e4 i (by omega)]
  exact vir_get Q pc i m7 (by omega)
end
