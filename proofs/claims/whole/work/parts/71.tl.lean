/-! RUNS BY PIECES: from here the run ends so -/
def hq_R (O : mm_Old) (d : Nat) (M : mm_Meth) (pc : Nat) (r : mm_Loc) (st : List Value) (s : hq_S) (g : Nat) (v : mm_Res) (s' : hq_S) : Prop := ∃ n, mm_run mm_P O n d M pc r st (hq_hp s) g = some (v, hq_hp s', g)
theorem hq_bind {α β : Type} {o : Option α} {f : α → Option β} {y : β} (h : o.bind f = some y) : ∃ x, o = some x ∧ f x = some y := Option.bind_eq_some_iff.mp h
/-- k steps, and then so on -/
def hq_bk (O : mm_Old) (k : Nat) (go : Nat → mm_Meth → Nat → mm_Loc → List Value → mm_Heap → Nat → Option (mm_Res × mm_Heap × Nat)) : Nat → mm_Meth → Nat → mm_Loc → List Value → mm_Heap → Nat → Option (mm_Res × mm_Heap × Nat) := Nat.rec go (fun _ f => mm_body mm_P O f) k
theorem hq_bk_run (O : mm_Old) (n : Nat) : ∀ k, mm_run mm_P O (n + k) = hq_bk O k (mm_run mm_P O n) := by
  intro k
  induction k with
  | zero => rfl
  | succ k ih =>
    show mm_body mm_P O (mm_run mm_P O (n + k)) = mm_body mm_P O (hq_bk O k (mm_run mm_P O n))
    rw [ih]
section
variable {O : mm_Old} {d : Nat} {M : mm_Meth} {pc : Nat} {r : mm_Loc} {st t : List Value} {s s1 s' : hq_S} {g : Nat} {v : mm_Res}
theorem hq_p (k : Nat) (pc' : Nat) (r' : mm_Loc) (st' : List Value) (h : ∀ go h, hq_bk O k go d M pc r st h g = go d M pc' r' st' h g) (H : hq_R O d M pc' r' st' s g v s') : hq_R O d M pc r st s g v s' := by
  obtain ⟨n, hn⟩ := H
  refine ⟨n + k, ?_⟩
  rw [hq_bk_run, h]
  exact hn
theorem hq_R.ge {e : Nat} (hd : d ≤ e) (H : hq_R O d M pc r st s g v s') : hq_R O e M pc r st s g v s' := by
  obtain ⟨n, hn⟩ := H
  exact ⟨n, mm_run_ge (Nat.le_refl _) hd hn⟩
theorem hq_iaload {a b c k L : Nat} {xs : List Int32} {i x : Int32} (hat : mm_at (mm_rows M) pc = some (.iaload, 1, a, b, c)) (hk : fb_L k = some (.inr (.inl (.int, xs)))) (hl : xs.length = L) (hx : hq_ld s k L i = some x) (H : hq_R O d M (pc + 1) r (.int x :: t) s g v s') : hq_R O d M pc r (.int i :: .ref k :: t) s g v s' := by
  obtain ⟨n, hn⟩ := H
  refine ⟨n + 1, ?_⟩
  have e : mm_iald O (hq_hp s) (.ref k) i = _ := hq_iald hk hl
  rw [hx] at e
  generalize hq_hp s = h at e hn ⊢
  rw [mm_run_succ]
  unfold mm_body
  rw [hat]
  show (match (mm_iald O h (.ref k) i).map (fun x => (r, Value.int x :: t, h)) with
    | some (r', st', h') => mm_run mm_P O n d M (pc + 1) r' st' h' g
    | none => none) = _
  rw [e]
  exact hn
theorem hq_baload {a b c k L : Nat} {ty : ArrayType} {xs : List Int32} {i x : Int32} (hat : mm_at (mm_rows M) pc = some (.baload, 1, a, b, c)) (hk : fb_L k = some (.inr (.inl (ty, xs)))) (ht : ty = .byte ∨ ty = .boolean) (hl : xs.length = L) (hx : hq_ld s k L i = some x) (H : hq_R O d M (pc + 1) r (.int x :: t) s g v s') : hq_R O d M pc r (.int i :: .ref k :: t) s g v s' := by
  obtain ⟨n, hn⟩ := H
  refine ⟨n + 1, ?_⟩
  have e : mm_bald O (hq_hp s) (.ref k) i = _ := hq_bald hk ht hl
  rw [hx] at e
  generalize hq_hp s = h at e hn ⊢
  rw [mm_run_succ]
  unfold mm_body
  rw [hat]
  show (match (mm_bald O h (.ref k) i).map (fun x => (r, Value.int x :: t, h)) with
    | some (r', st', h') => mm_run mm_P O n d M (pc + 1) r' st' h' g
    | none => none) = _
  rw [e]
  exact hn
theorem hq_laload {a b c k L : Nat} {xs : List Int64} {i : Int32} {x : Int64} (hat : mm_at (mm_rows M) pc = some (.laload, 1, a, b, c)) (hk : fb_L k = some (.inr (.inr xs))) (hl : xs.length = L) (hx : hq_ldj s k L i = some x) (H : hq_R O d M (pc + 1) r (.long x :: t) s g v s') : hq_R O d M pc r (.int i :: .ref k :: t) s g v s' := by
  obtain ⟨n, hn⟩ := H
  refine ⟨n + 1, ?_⟩
  have e : mm_lald (hq_hp s) (.ref k) i = _ := hq_lald hk hl
  rw [hx] at e
  generalize hq_hp s = h at e hn ⊢
  rw [mm_run_succ]
  unfold mm_body
  rw [hat]
  show (match (mm_lald h (.ref k) i).map (fun x => (r, Value.long x :: t, h)) with
    | some (r', st', h') => mm_run mm_P O n d M (pc + 1) r' st' h' g
    | none => none) = _
  rw [e]
  exact hn
theorem hq_iastore {a b c k L : Nat} {xs : List Int32} {i x : Int32} (hat : mm_at (mm_rows M) pc = some (.iastore, 1, a, b, c)) (hk : fb_L k = some (.inr (.inl (.int, xs)))) (hl : xs.length = L) (hx : hq_st s k L i x = some s1) (H : hq_R O d M (pc + 1) r t s1 g v s') : hq_R O d M pc r (.int x :: .int i :: .ref k :: t) s g v s' := by
  obtain ⟨n, hn⟩ := H
  refine ⟨n + 1, ?_⟩
  have e : mm_iast (hq_hp s) (.ref k) i x = _ := hq_iast hk hl
  rw [hx] at e
  rw [Option.map_some] at e
  generalize hq_hp s1 = h1 at e hn
  generalize hq_hp s = h at e ⊢
  rw [mm_run_succ]
  unfold mm_body
  rw [hat]
  show (match (mm_iast h (.ref k) i x).map (fun h' => (r, t, h')) with
    | some (r', st', h') => mm_run mm_P O n d M (pc + 1) r' st' h' g
    | none => none) = _
  rw [e]
  exact hn
theorem hq_bastore {a b c k L : Nat} {ty : ArrayType} {xs : List Int32} {i x : Int32} (hat : mm_at (mm_rows M) pc = some (.bastore, 1, a, b, c)) (hk : fb_L k = some (.inr (.inl (ty, xs)))) (ht : ty = .byte ∨ ty = .boolean) (hl : xs.length = L) (hx : hq_st s k L i (hq_nar ty x) = some s1) (H : hq_R O d M (pc + 1) r t s1 g v s') : hq_R O d M pc r (.int x :: .int i :: .ref k :: t) s g v s' := by
  obtain ⟨n, hn⟩ := H
  refine ⟨n + 1, ?_⟩
  have e : mm_bast (hq_hp s) (.ref k) i x = _ := hq_bast hk ht hl
  rw [hx] at e
  rw [Option.map_some] at e
  generalize hq_hp s1 = h1 at e hn
  generalize hq_hp s = h at e ⊢
  rw [mm_run_succ]
  unfold mm_body
  rw [hat]
  show (match (mm_bast h (.ref k) i x).map (fun h' => (r, t, h')) with
    | some (r', st', h') => mm_run mm_P O n d M (pc + 1) r' st' h' g
    | none => none) = _
  rw [e]
  exact hn
theorem hq_lastore {a b c k L : Nat} {xs : List Int64} {i : Int32} {x : Int64} (hat : mm_at (mm_rows M) pc = some (.lastore, 1, a, b, c)) (hk : fb_L k = some (.inr (.inr xs))) (hl : xs.length = L) (hx : hq_stj s k L i x = some s1) (H : hq_R O d M (pc + 1) r t s1 g v s') : hq_R O d M pc r (.long x :: .int i :: .ref k :: t) s g v s' := by
  obtain ⟨n, hn⟩ := H
  refine ⟨n + 1, ?_⟩
  have e : mm_last (hq_hp s) (.ref k) i x = _ := hq_last hk hl
  rw [hx] at e
  rw [Option.map_some] at e
  generalize hq_hp s1 = h1 at e hn
  generalize hq_hp s = h at e ⊢
  rw [mm_run_succ]
  unfold mm_body
  rw [hat]
  show (match (mm_last h (.ref k) i x).map (fun h' => (r, t, h')) with
    | some (r', st', h') => mm_run mm_P O n d M (pc + 1) r' st' h' g
    | none => none) = _
  rw [e]
  exact hn
theorem hq_gf {q a b c k : Nat} {o : Nat × List Value} {w x : Value} (hat : mm_at (mm_rows M) pc = some (.getfield q, 3, a, b, c)) (hk : fb_L k = some (.inl o)) (ha : o.1 = a) (hb : o.2[b]? = some w) (hx : hq_fld s k b w = x) (H : hq_R O d M (pc + 3) r (x :: t) s g v s') : hq_R O d M pc r (.ref k :: t) s g v s' := by
  obtain ⟨n, hn⟩ := H
  refine ⟨n + 1, ?_⟩
  have e : mm_getf O (hq_hp s) (.ref k) a b = _ := hq_getf hk ha hb
  rw [hx] at e
  generalize hq_hp s = h at e hn ⊢
  rw [mm_run_succ]
  unfold mm_body
  rw [hat]
  show (match (mm_getf O h (.ref k) a b).map (fun x => (r, x :: t, h)) with
    | some (r', st', h') => mm_run mm_P O n d M (pc + 3) r' st' h' g
    | none => none) = _
  rw [e]
  exact hn
end
def hq_pi (s : hq_S) (k b c : Nat) (x : Int32) : Option hq_S := bif mm_fit (c % 8) (.int x) then some (hq_si s k b x) else none
def hq_pj (s : hq_S) (k b : Nat) (x : Int64) : Option hq_S := some (hq_sj s k b x)
def hq_pr (s : hq_S) (k b x : Nat) : Option hq_S := some (hq_sr s k b x)
section
variable {O : mm_Old} {d : Nat} {M : mm_Meth} {pc : Nat} {r : mm_Loc} {st t : List Value} {s s1 s' : hq_S} {g : Nat} {v : mm_Res}
theorem hq_pfi {q a b c k e : Nat} {o : Nat × List Value} {y x : Int32} (hat : mm_at (mm_rows M) pc = some (.putfield q, 3, a, b, c)) (hk : fb_L k = some (.inl o)) (ha : o.1 = a) (hb : o.2[b]? = some (.int y)) (he : c % 8 = e % 8) (hx : hq_pi s k b e x = some s1) (H : hq_R O d M (pc + 3) r t s1 g v s') : hq_R O d M pc r (.int x :: .ref k :: t) s g v s' := by
  obtain ⟨n, hn⟩ := H
  refine ⟨n + 1, ?_⟩
  unfold hq_pi at hx
  rcases mm_bif hx with ⟨hf, hx⟩ | ⟨-, hx⟩
  · cases hx
    have e : mm_putf (hq_hp s) (.ref k) a b c (.int x) = _ := hq_putf_i hk ha hb (by rw [he]; exact hf)
    generalize hq_hp (hq_si s k b x) = h1 at e hn
    generalize hq_hp s = h at e ⊢
    rw [mm_run_succ]
    unfold mm_body
    rw [hat]
    show (match (mm_putf h (.ref k) a b c (.int x)).map (fun h' => (r, t, h')) with
      | some (r', st', h') => mm_run mm_P O n d M (pc + 3) r' st' h' g
      | none => none) = _
    rw [e]
    exact hn
  · cases hx
theorem hq_pfj {q a b c k : Nat} {o : Nat × List Value} {y x : Int64} (hat : mm_at (mm_rows M) pc = some (.putfield q, 3, a, b, c)) (hk : fb_L k = some (.inl o)) (ha : o.1 = a) (hb : o.2[b]? = some (.long y)) (he : c % 8 = 3) (hx : hq_pj s k b x = some s1) (H : hq_R O d M (pc + 3) r t s1 g v s') : hq_R O d M pc r (.long x :: .ref k :: t) s g v s' := by
  obtain ⟨n, hn⟩ := H
  refine ⟨n + 1, ?_⟩
  cases hx
  have e : mm_putf (hq_hp s) (.ref k) a b c (.long x) = _ := hq_putf_j hk ha hb (by rw [he]; rfl)
  generalize hq_hp (hq_sj s k b x) = h1 at e hn
  generalize hq_hp s = h at e ⊢
  rw [mm_run_succ]
  unfold mm_body
  rw [hat]
  show (match (mm_putf h (.ref k) a b c (.long x)).map (fun h' => (r, t, h')) with
    | some (r', st', h') => mm_run mm_P O n d M (pc + 3) r' st' h' g
    | none => none) = _
  rw [e]
  exact hn
theorem hq_pfr {q a b c k : Nat} {o : Nat × List Value} {y x : Nat} (hat : mm_at (mm_rows M) pc = some (.putfield q, 3, a, b, c)) (hk : fb_L k = some (.inl o)) (ha : o.1 = a) (hb : o.2[b]? = some (.ref y)) (hm : hq_mut k b = true) (he : c % 8 = 4) (hx : hq_pr s k b x = some s1) (H : hq_R O d M (pc + 3) r t s1 g v s') : hq_R O d M pc r (.ref x :: .ref k :: t) s g v s' := by
  obtain ⟨n, hn⟩ := H
  refine ⟨n + 1, ?_⟩
  cases hx
  have e : mm_putf (hq_hp s) (.ref k) a b c (.ref x) = _ := hq_putf_r hk ha hb hm (by rw [he]; rfl)
  generalize hq_hp (hq_sr s k b x) = h1 at e hn
  generalize hq_hp s = h at e ⊢
  rw [mm_run_succ]
  unfold mm_body
  rw [hat]
  show (match (mm_putf h (.ref k) a b c (.ref x)).map (fun h' => (r, t, h')) with
    | some (r', st', h') => mm_run mm_P O n d M (pc + 3) r' st' h' g
    | none => none) = _
  rw [e]
  exact hn
theorem hq_alen {a b c k L : Nat} {ty : ArrayType} {xs : List Int32} {x : Int32} (hat : mm_at (mm_rows M) pc = some (.arraylength, 1, a, b, c)) (hk : fb_L k = some (.inr (.inl (ty, xs)))) (ht : mm_tag ty = true) (hl : xs.length = L) (hx : Int32.ofNat L = x) (H : hq_R O d M (pc + 1) r (.int x :: t) s g v s') : hq_R O d M pc r (.ref k :: t) s g v s' := by
  obtain ⟨n, hn⟩ := H
  refine ⟨n + 1, ?_⟩
  have e : mm_len O (hq_hp s) (.ref k) = _ := hq_len hk ht hl
  rw [hx] at e
  generalize hq_hp s = h at e hn ⊢
  rw [mm_run_succ]
  unfold mm_body
  rw [hat]
  show (match (mm_len O h (.ref k)).map (fun x => (r, Value.int x :: t, h)) with
    | some (r', st', h') => mm_run mm_P O n d M (pc + 1) r' st' h' g
    | none => none) = _
  rw [e]
  exact hn
/-- branches -/
theorem hq_icT {c : Jvm.ClassFile.Cond} {z : Int} {l a b e : Nat} {x y : Int32} (hat : mm_at (mm_rows M) pc = some (.if_icmp c z, l, a, b, e)) (hc : mm_cmp c x y = true) (H : hq_R O d M a r t s g v s') : hq_R O d M pc r (.int y :: .int x :: t) s g v s' := by
  obtain ⟨n, hn⟩ := H
  refine ⟨n + 1, ?_⟩
  rw [mm_run_succ]
  unfold mm_body
  rw [hat]
  dsimp only
  rw [hc]
  exact hn
theorem hq_icF {c : Jvm.ClassFile.Cond} {z : Int} {l a b e : Nat} {x y : Int32} (hat : mm_at (mm_rows M) pc = some (.if_icmp c z, l, a, b, e)) (hc : mm_cmp c x y = false) (H : hq_R O d M (pc + 3) r t s g v s') : hq_R O d M pc r (.int y :: .int x :: t) s g v s' := by
  obtain ⟨n, hn⟩ := H
  refine ⟨n + 1, ?_⟩
  rw [mm_run_succ]
  unfold mm_body
  rw [hat]
  dsimp only
  rw [hc]
  exact hn
theorem hq_izT {c : Jvm.ClassFile.Cond} {z : Int} {l a b e : Nat} {x : Int32} (hat : mm_at (mm_rows M) pc = some (.ifCond c z, l, a, b, e)) (hc : mm_cmp c x 0 = true) (H : hq_R O d M a r t s g v s') : hq_R O d M pc r (.int x :: t) s g v s' := by
  obtain ⟨n, hn⟩ := H
  refine ⟨n + 1, ?_⟩
  rw [mm_run_succ]
  unfold mm_body
  rw [hat]
  dsimp only
  rw [hc]
  exact hn
theorem hq_izF {c : Jvm.ClassFile.Cond} {z : Int} {l a b e : Nat} {x : Int32} (hat : mm_at (mm_rows M) pc = some (.ifCond c z, l, a, b, e)) (hc : mm_cmp c x 0 = false) (H : hq_R O d M (pc + 3) r t s g v s') : hq_R O d M pc r (.int x :: t) s g v s' := by
  obtain ⟨n, hn⟩ := H
  refine ⟨n + 1, ?_⟩
  rw [mm_run_succ]
  unfold mm_body
  rw [hat]
  dsimp only
  rw [hc]
  exact hn
/-- calls -/
theorem hq_inv {q a b c : Nat} {N : mm_Meth} {v0 : Value} {w : mm_Res} {vs : List Value} (hat : mm_at (mm_rows M) pc = some (.invokevirtual q, 3, a, b, c)) (hP : mm_P a = some N) (hd : 1 ≤ d) (hst : st.drop (mm_par N) = v0 :: t) (h1 : (Nat.ble (mm_words t) 8 && (Nat.beq (st.take (mm_par N)).length (mm_par N) && Nat.ble (mm_sl (v0 :: (st.take (mm_par N)).reverse)).length (mm_maxL N))) = true) (h2 : mm_rcv O (hq_hp s) v0 (mm_own N) = true) (hN : hq_R O (d - 1) N 0 (mm_entry (mm_maxL N) (v0 :: (st.take (mm_par N)).reverse)) [] s g w s1) (hw : mm_val w = some vs) (H : hq_R O d M (pc + 3) r (vs ++ t) s1 g v s') : hq_R O d M pc r st s g v s' := by
  obtain ⟨n, hn⟩ := H
  obtain ⟨m, hm⟩ := hN
  refine ⟨max n m + 1, ?_⟩
  cases d with
  | zero => omega
  | succ d =>
    rw [mm_run_succ]
    unfold mm_body
    rw [hat]
    dsimp only
    rw [hP]
    dsimp only
    rw [hst]
    dsimp only
    simp only [Bool.and_eq_true] at h1
    obtain ⟨e1, e2, e3⟩ := h1
    rw [e1, e2, e3, h2]
    simp only [Bool.and_self, cond_true]
    rw [mm_run_ge (Nat.le_max_right n m) (Nat.le_refl _) (show mm_run mm_P O m d N 0 _ [] (hq_hp s) g = _ from hm)]
    dsimp only
    rw [hw]
    exact mm_run_ge (Nat.le_max_left n m) (Nat.le_refl _) hn
theorem hq_ist {q a b c : Nat} {N : mm_Meth} {w : mm_Res} {vs : List Value} (hat : mm_at (mm_rows M) pc = some (.invokestatic q, 3, a, b, c)) (hb : b = 0) (hP : mm_P a = some N) (hd : 1 ≤ d) (h1 : (Nat.ble (mm_words (st.drop (mm_par N))) 8 && (Nat.beq (st.take (mm_par N)).length (mm_par N) && Nat.ble (mm_sl (st.take (mm_par N)).reverse).length (mm_maxL N))) = true) (hN : hq_R O (d - 1) N 0 (mm_entry (mm_maxL N) (st.take (mm_par N)).reverse) [] s g w s1) (hw : mm_val w = some vs) (H : hq_R O d M (pc + 3) r (vs ++ st.drop (mm_par N)) s1 g v s') : hq_R O d M pc r st s g v s' := by
  obtain ⟨n, hn⟩ := H
  obtain ⟨m, hm⟩ := hN
  refine ⟨max n m + 1, ?_⟩
  cases d with
  | zero => omega
  | succ d =>
    subst hb
    rw [mm_run_succ]
    unfold mm_body
    rw [hat]
    simp only [Nat.beq_refl, cond_true]
    rw [hP]
    dsimp only
    rw [h1, cond_true, mm_run_ge (Nat.le_max_right n m) (Nat.le_refl _) (show mm_run mm_P O m d N 0 _ [] (hq_hp s) g = _ from hm)]
    dsimp only
    rw [hw]
    exact mm_run_ge (Nat.le_max_left n m) (Nat.le_refl _) hn
end
