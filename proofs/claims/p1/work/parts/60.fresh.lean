/-! THE FRESH HEAP: the class's object and the reference's, as their constructors leave them (by program) -/
def fb_0 : List mm_Cell := [.inl (11, [.ref 1, .int 0, .ref 2, .ref 25, .ref 48, .ref 76, .ref 85, .int 0, .ref 94, .ref 103, .ref 108, .ref 113, .ref 152, .ref 159, .ref 163, .ref 170]),
  .inr (.inl (.byte, List.replicate 700 0)),
  .inl (10, [.int 0, .ref 3, .ref 4, .int 0, .ref 5, .ref 6, .int 0, .int 0, .ref 7, .ref 8, .ref 9, .int 0, .ref 10, .int 100, .int 0, .int 0, .ref 11, .ref 16]),
  .inr (.inl (.int, List.replicate 10 0)),
  .inr (.inl (.int, List.replicate 10 0)),
  .inr (.inl (.int, List.replicate 20 0)),
  .inr (.inl (.int, List.replicate 20 0)),
  .inr (.inl (.int, List.replicate 3 0))]
def fb_1 : List mm_Cell := [.inr (.inl (.int, List.replicate 24 0)),
  .inr (.inl (.int, List.replicate 3 0)),
  .inr (.inl (.int, List.replicate 4 0)),
  .inl (4, [.int 0, .int 0, .ref 12, .ref 13, .ref 14, .ref 15]),
  .inr (.inl (.int, List.replicate 64 0)),
  .inr (.inl (.int, List.replicate 3 0)),
  .inr (.inl (.int, List.replicate 3 0)),
  .inr (.inr (List.replicate 64 0))]
def fb_2 : List mm_Cell := [.inl (5, [.int 0, .long 0, .int 0, .ref 17, .ref 18, .ref 19, .ref 20, .ref 21, .ref 22, .ref 23, .ref 24]),
  .inr (.inl (.int, List.replicate 10 0)),
  .inr (.inl (.int, List.replicate 3 0)),
  .inr (.inl (.int, List.replicate 3 0)),
  .inr (.inl (.int, List.replicate 3 0)),
  .inr (.inl (.int, List.replicate 4 0)),
  .inr (.inl (.int, List.replicate 4 0)),
  .inr (.inl (.int, List.replicate 4 0))]
def fb_3 : List mm_Cell := [.inr (.inl (.int, List.replicate 4 (-2))),
  .inl (10, [.int 0, .ref 26, .ref 27, .int 0, .ref 28, .ref 29, .int 0, .int 0, .ref 30, .ref 31, .ref 32, .int 0, .ref 33, .int 100, .int 0, .int 0, .ref 34, .ref 39]),
  .inr (.inl (.int, List.replicate 10 0)),
  .inr (.inl (.int, List.replicate 10 0)),
  .inr (.inl (.int, List.replicate 20 0)),
  .inr (.inl (.int, List.replicate 20 0)),
  .inr (.inl (.int, List.replicate 3 0)),
  .inr (.inl (.int, List.replicate 24 0))]
def fb_4 : List mm_Cell := [.inr (.inl (.int, List.replicate 3 0)),
  .inr (.inl (.int, List.replicate 4 0)),
  .inl (4, [.int 0, .int 0, .ref 35, .ref 36, .ref 37, .ref 38]),
  .inr (.inl (.int, List.replicate 64 0)),
  .inr (.inl (.int, List.replicate 3 0)),
  .inr (.inl (.int, List.replicate 3 0)),
  .inr (.inr (List.replicate 64 0)),
  .inl (5, [.int 0, .long 0, .int 0, .ref 40, .ref 41, .ref 42, .ref 43, .ref 44, .ref 45, .ref 46, .ref 47])]
def fb_5 : List mm_Cell := [.inr (.inl (.int, List.replicate 10 0)),
  .inr (.inl (.int, List.replicate 3 0)),
  .inr (.inl (.int, List.replicate 3 0)),
  .inr (.inl (.int, List.replicate 3 0)),
  .inr (.inl (.int, List.replicate 4 0)),
  .inr (.inl (.int, List.replicate 4 0)),
  .inr (.inl (.int, List.replicate 4 0)),
  .inr (.inl (.int, List.replicate 4 (-2)))]
def fb_6 : List mm_Cell := [.inl (6, [.ref 49, .ref 52, .ref 75, .int 0, .int 0, .int 1, .int 1, .int 0, .int (-1), .int 0]),
  .inl (9, [.ref 50, .ref 51, .int 0, .int 0, .int 0, .int 0, .int 0]),
  .inr (.inl (.int, [116996274, 404165632, 658686560, 256952448, 72404992, 679777472, 254066688, 642945024, 404455424, 153257088, 672502784, 658819072, 412328576, 202964992, 418893824, 83234816, 269615104, 256952467, 284870656, 48365568, 522190848, 486146048])),
  .inr (.inl (.byte, [])),
  .inl (10, [.int 0, .ref 53, .ref 54, .int 0, .ref 55, .ref 56, .int 0, .int 0, .ref 57, .ref 58, .ref 59, .int 0, .ref 60, .int 100, .int 0, .int 0, .ref 61, .ref 66]),
  .inr (.inl (.int, List.replicate 10 0)),
  .inr (.inl (.int, List.replicate 10 0)),
  .inr (.inl (.int, List.replicate 20 0))]
def fb_7 : List mm_Cell := [.inr (.inl (.int, List.replicate 20 0)),
  .inr (.inl (.int, List.replicate 3 0)),
  .inr (.inl (.int, List.replicate 24 0)),
  .inr (.inl (.int, List.replicate 3 0)),
  .inr (.inl (.int, List.replicate 4 0)),
  .inl (4, [.int 0, .int 0, .ref 62, .ref 63, .ref 64, .ref 65]),
  .inr (.inl (.int, List.replicate 64 0)),
  .inr (.inl (.int, List.replicate 3 0))]
def fb_8 : List mm_Cell := [.inr (.inl (.int, List.replicate 3 0)),
  .inr (.inr (List.replicate 64 0)),
  .inl (5, [.int 0, .long 0, .int 0, .ref 67, .ref 68, .ref 69, .ref 70, .ref 71, .ref 72, .ref 73, .ref 74]),
  .inr (.inl (.int, List.replicate 10 0)),
  .inr (.inl (.int, List.replicate 3 0)),
  .inr (.inl (.int, List.replicate 3 0)),
  .inr (.inl (.int, List.replicate 3 0)),
  .inr (.inl (.int, List.replicate 4 0))]
def fb_9 : List mm_Cell := [.inr (.inl (.int, List.replicate 4 0)),
  .inr (.inl (.int, List.replicate 4 0)),
  .inr (.inl (.int, List.replicate 4 (-2))),
  .inr (.inl (.int, List.replicate 72 0)),
  .inl (5, [.int 0, .long 0, .int 0, .ref 77, .ref 78, .ref 79, .ref 80, .ref 81, .ref 82, .ref 83, .ref 84]),
  .inr (.inl (.int, List.replicate 10 0)),
  .inr (.inl (.int, List.replicate 3 0)),
  .inr (.inl (.int, List.replicate 3 0))]
def fb_10 : List mm_Cell := [.inr (.inl (.int, List.replicate 3 0)),
  .inr (.inl (.int, List.replicate 4 0)),
  .inr (.inl (.int, List.replicate 4 0)),
  .inr (.inl (.int, List.replicate 4 0)),
  .inr (.inl (.int, List.replicate 4 (-2))),
  .inl (5, [.int 0, .long 0, .int 0, .ref 86, .ref 87, .ref 88, .ref 89, .ref 90, .ref 91, .ref 92, .ref 93]),
  .inr (.inl (.int, List.replicate 10 0)),
  .inr (.inl (.int, List.replicate 3 0))]
def fb_11 : List mm_Cell := [.inr (.inl (.int, List.replicate 3 0)),
  .inr (.inl (.int, List.replicate 3 0)),
  .inr (.inl (.int, List.replicate 4 0)),
  .inr (.inl (.int, List.replicate 4 0)),
  .inr (.inl (.int, List.replicate 4 0)),
  .inr (.inl (.int, List.replicate 4 (-2))),
  .inl (5, [.int 0, .long 0, .int 0, .ref 95, .ref 96, .ref 97, .ref 98, .ref 99, .ref 100, .ref 101, .ref 102]),
  .inr (.inl (.int, List.replicate 10 0))]
def fb_12 : List mm_Cell := [.inr (.inl (.int, List.replicate 3 0)),
  .inr (.inl (.int, List.replicate 3 0)),
  .inr (.inl (.int, List.replicate 3 0)),
  .inr (.inl (.int, List.replicate 4 0)),
  .inr (.inl (.int, List.replicate 4 0)),
  .inr (.inl (.int, List.replicate 4 0)),
  .inr (.inl (.int, List.replicate 4 (-2))),
  .inl (8, [.int 0, .ref 104, .ref 105, .ref 106, .ref 107])]
def fb_13 : List mm_Cell := [.inr (.inl (.int, List.replicate 10 0)),
  .inr (.inl (.int, List.replicate 100 0)),
  .inr (.inr (List.replicate 10 0)),
  .inr (.inr (List.replicate 10 0)),
  .inl (8, [.int 0, .ref 109, .ref 110, .ref 111, .ref 112]),
  .inr (.inl (.int, List.replicate 10 0)),
  .inr (.inl (.int, List.replicate 100 0)),
  .inr (.inr (List.replicate 10 0))]
def fb_14 : List mm_Cell := [.inr (.inr (List.replicate 10 0)),
  .inl (3, [.ref 114, .ref 137, .ref 142, .int 1, .int (-1), .int 1, .ref 151]),
  .inl (10, [.int 0, .ref 115, .ref 116, .int 0, .ref 117, .ref 118, .int 0, .int 0, .ref 119, .ref 120, .ref 121, .int 0, .ref 122, .int 100, .int 0, .int 0, .ref 123, .ref 128]),
  .inr (.inl (.int, List.replicate 10 0)),
  .inr (.inl (.int, List.replicate 10 0)),
  .inr (.inl (.int, List.replicate 20 0)),
  .inr (.inl (.int, List.replicate 20 0)),
  .inr (.inl (.int, List.replicate 3 0))]
def fb_15 : List mm_Cell := [.inr (.inl (.int, List.replicate 24 0)),
  .inr (.inl (.int, List.replicate 3 0)),
  .inr (.inl (.int, List.replicate 4 0)),
  .inl (4, [.int 0, .int 0, .ref 124, .ref 125, .ref 126, .ref 127]),
  .inr (.inl (.int, List.replicate 64 0)),
  .inr (.inl (.int, List.replicate 3 0)),
  .inr (.inl (.int, List.replicate 3 0)),
  .inr (.inr (List.replicate 64 0))]
def fb_16 : List mm_Cell := [.inl (5, [.int 0, .long 0, .int 0, .ref 129, .ref 130, .ref 131, .ref 132, .ref 133, .ref 134, .ref 135, .ref 136]),
  .inr (.inl (.int, List.replicate 10 0)),
  .inr (.inl (.int, List.replicate 3 0)),
  .inr (.inl (.int, List.replicate 3 0)),
  .inr (.inl (.int, List.replicate 3 0)),
  .inr (.inl (.int, List.replicate 4 0)),
  .inr (.inl (.int, List.replicate 4 0)),
  .inr (.inl (.int, List.replicate 4 0))]
def fb_17 : List mm_Cell := [.inr (.inl (.int, List.replicate 4 (-2))),
  .inl (8, [.int 0, .ref 138, .ref 139, .ref 140, .ref 141]),
  .inr (.inl (.int, List.replicate 10 0)),
  .inr (.inl (.int, List.replicate 100 0)),
  .inr (.inr (List.replicate 10 0)),
  .inr (.inr (List.replicate 10 0)),
  .inl (5, [.int 0, .long 0, .int 0, .ref 143, .ref 144, .ref 145, .ref 146, .ref 147, .ref 148, .ref 149, .ref 150]),
  .inr (.inl (.int, List.replicate 10 0))]
def fb_18 : List mm_Cell := [.inr (.inl (.int, List.replicate 3 0)),
  .inr (.inl (.int, List.replicate 3 0)),
  .inr (.inl (.int, List.replicate 3 0)),
  .inr (.inl (.int, List.replicate 4 0)),
  .inr (.inl (.int, List.replicate 4 0)),
  .inr (.inl (.int, List.replicate 4 0)),
  .inr (.inl (.int, List.replicate 4 (-2))),
  .inr (.inr (List.replicate 7 0))]
def fb_19 : List mm_Cell := [.inl (0, [.int 0, .ref 153, .int 0, .int 0, .ref 154, .ref 155, .ref 156, .ref 157, .ref 158, .int 0, .int 0, .int 0]),
  .inr (.inl (.int, List.replicate 10 0)),
  .inr (.inl (.int, List.replicate 1000 0)),
  .inr (.inl (.int, List.replicate 1000 0)),
  .inr (.inl (.int, List.replicate 1000 0)),
  .inr (.inl (.int, List.replicate 1000 0)),
  .inr (.inl (.int, List.replicate 10000 0)),
  .inl (7, [.ref 160, .ref 161, .ref 162])]
def fb_20 : List mm_Cell := [.inr (.inl (.int, List.replicate 1024 0)),
  .inr (.inl (.int, List.replicate 1024 0)),
  .inr (.inl (.int, List.replicate 1024 0)),
  .inl (2, [.int 0, .int (-1), .ref 164, .ref 165, .ref 166, .ref 167, .ref 168, .ref 169, .int 1, .int 0]),
  .inr (.inl (.int, List.replicate 24 0)),
  .inr (.inl (.int, List.replicate 24 0)),
  .inr (.inl (.int, List.replicate 24 0)),
  .inr (.inl (.boolean, List.replicate 24 0))]
def fb_21 : List mm_Cell := [.inr (.inl (.int, List.replicate 24 0)),
  .inr (.inl (.int, List.replicate 610 0)),
  .inl (1, [.int 0, .ref 171, .ref 172, .ref 173, .int 0, .int 0, .int 0]),
  .inr (.inl (.int, List.replicate 20 0)),
  .inr (.inl (.int, List.replicate 20 0)),
  .inr (.inl (.int, List.replicate 20 0)),
  .inl (12, [.int 0, .ref 175, .int 0, .ref 176, .ref 177, .ref 178, .ref 179, .ref 180, .ref 181, .ref 182, .ref 183, .ref 184, .ref 185, .ref 186, .ref 187, .ref 188, .ref 189, .ref 190, .ref 191, .ref 192, .ref 193, .int 0, .int 0, .int 0, .int 0, .int 0, .int 0, .int 0, .int 0, .int 0, .int 0, .int (-1), .int 0, .int 0, .ref 194, .ref 195, .int 0, .ref 196, .ref 197, .ref 198, .ref 199, .ref 200, .ref 201, .ref 202, .ref 203, .ref 204, .ref 205, .int 0, .int 0, .int 0, .int (-1), .ref 206, .ref 207, .int (-1), .int 0, .ref 208, .ref 209, .ref 210, .ref 211, .ref 212, .int 0, .ref 213, .ref 214, .ref 215, .ref 216, .ref 217, .ref 218, .ref 219, .ref 220, .ref 221, .ref 222, .ref 223, .int 0, .int 0, .int 0, .int (-1), .ref 224, .ref 225, .ref 226, .ref 227, .ref 228, .ref 229, .ref 230]),
  .inr (.inl (.int, List.replicate 700 0))]
def fb_22 : List mm_Cell := [.inr (.inl (.int, [0, 0, 0, 0, 100, 0, 0, 0, 0, 0, 0, 100, 0, 0])),
  .inr (.inl (.int, List.replicate 20 0)),
  .inr (.inl (.int, List.replicate 20 0)),
  .inr (.inl (.int, List.replicate 20 0)),
  .inr (.inl (.int, List.replicate 40 0)),
  .inr (.inl (.int, List.replicate 40 0)),
  .inr (.inl (.int, List.replicate 40 0)),
  .inr (.inl (.int, List.replicate 6 0))]
def fb_23 : List mm_Cell := [.inr (.inl (.int, List.replicate 6 0)),
  .inr (.inl (.int, List.replicate 6 0)),
  .inr (.inl (.int, List.replicate 48 0)),
  .inr (.inl (.int, List.replicate 8 0)),
  .inr (.inl (.int, List.replicate 8 0)),
  .inr (.inl (.int, List.replicate 8 0)),
  .inr (.inl (.int, List.replicate 6 0)),
  .inr (.inl (.int, List.replicate 6 0))]
def fb_24 : List mm_Cell := [.inr (.inl (.int, List.replicate 128 0)),
  .inr (.inl (.int, List.replicate 128 0)),
  .inr (.inr (List.replicate 7 0)),
  .inr (.inr (List.replicate 64 0)),
  .inr (.inl (.int, List.replicate 23 0)),
  .inr (.inl (.int, List.replicate 23 0)),
  .inr (.inl (.int, List.replicate 23 0)),
  .inr (.inl (.int, List.replicate 230 0))]
def fb_25 : List mm_Cell := [.inr (.inl (.int, List.replicate 69 0)),
  .inr (.inl (.int, List.replicate 69 0)),
  .inr (.inl (.int, List.replicate 69 0)),
  .inr (.inl (.int, List.replicate 92 0)),
  .inr (.inl (.int, List.replicate 92 0)),
  .inr (.inl (.int, [(-1), (-1), (-1), (-1), 0, 0, 0, 0, 0, 0, 0, 0, 0, 0, 0, 0, 0, 0, 0, 0, 0, 0, 0, 0, 0, 0, 0, 0, 0, 0, 0, 0, 0, 0, 0, 0, 0, 0, 0, 0, 0, 0, 0, 0, 0, 0, 0, 0, 0, 0, 0, 0, 0, 0, 0, 0, 0, 0, 0, 0, 0, 0, 0, 0, 0, 0, 0, 0, 0, 0, 0, 0, 0, 0, 0, 0, 0, 0, 0, 0, 0, 0, 0, 0, 0, 0, 0, 0, 0, 0, 0, 0])),
  .inr (.inl (.int, List.replicate 10 0)),
  .inr (.inl (.int, List.replicate 100 0))]
def fb_26 : List mm_Cell := [.inr (.inl (.int, List.replicate 10000 0)),
  .inr (.inl (.boolean, List.replicate 10000 0)),
  .inr (.inl (.boolean, List.replicate 10000 0)),
  .inr (.inl (.int, List.replicate 4 0)),
  .inr (.inl (.int, [1, 10, 100, 1000, 10000])),
  .inr (.inl (.int, List.replicate 3 0)),
  .inr (.inl (.int, List.replicate 3 0)),
  .inr (.inl (.int, List.replicate 3 0))]
def fb_27 : List mm_Cell := [.inr (.inl (.int, List.replicate 1024 0)),
  .inr (.inl (.int, List.replicate 1024 0)),
  .inr (.inl (.int, List.replicate 10240 0)),
  .inr (.inl (.int, List.replicate 20 0)),
  .inr (.inl (.int, List.replicate 10 0)),
  .inr (.inr (List.replicate 20 0)),
  .inr (.inl (.int, List.replicate 3 0)),
  .inr (.inl (.int, List.replicate 3 0))]
def fb_28 : List mm_Cell := [.inr (.inl (.int, List.replicate 24 0)),
  .inr (.inl (.int, List.replicate 24 0)),
  .inr (.inl (.int, List.replicate 24 0)),
  .inr (.inl (.boolean, List.replicate 24 0)),
  .inr (.inl (.int, List.replicate 24 0)),
  .inr (.inl (.boolean, List.replicate 24 0)),
  .inr (.inl (.int, List.replicate 610 0)),
  .inr (.inr (List.replicate 1 0))]
def fb_C : List (List mm_Cell) := [fb_0, fb_1, fb_2, fb_3, fb_4, fb_5, fb_6, fb_7, fb_8, fb_9, fb_10, fb_11, fb_12, fb_13, fb_14, fb_15, fb_16, fb_17, fb_18, fb_19, fb_20, fb_21, fb_22, fb_23, fb_24, fb_25, fb_26, fb_27, fb_28]
def fb_B : mm_Heap := fb_C.flatten
def fb_L (k : Nat) : Option mm_Cell := match fb_C[k / 8]? with
  | some ch => ch[k % 8]?
  | none => none
theorem fb_chunk : ∀ (cs : List (List mm_Cell)), (∀ c ∈ cs, c.length = 8) → ∀ (k : Nat) (x : mm_Cell), (match cs[k / 8]? with
  | some ch => ch[k % 8]?
  | none => none) = some x → cs.flatten[k]? = some x := by
  intro cs
  induction cs with
  | nil => intro _ k x h; cases h
  | cons c cs ih =>
    intro hl k x h
    have h8 := hl c List.mem_cons_self
    rw [List.flatten_cons]
    by_cases hk : k < 8
    · rw [List.getElem?_append_left (by omega)]
      rw [show k / 8 = 0 by omega, show k % 8 = k by omega] at h
      exact h
    · rw [List.getElem?_append_right (by omega), h8]
      refine ih (fun c hc => hl c (List.mem_cons_of_mem _ hc)) (k - 8) x ?_
      rw [show k / 8 = (k - 8) / 8 + 1 by omega, show k % 8 = (k - 8) % 8 by omega] at h
      exact h
theorem fb_okL : fx_okL fb_L fb_B := fun k c h => fb_chunk fb_C (by
  have : fb_C.all (fun c => Nat.beq c.length 8) = true := by decide +kernel
  intro c hc
  exact Nat.eq_of_beq_eq_true (List.all_eq_true.mp this c hc)) k c h
def fx_veq (v w : Value) : Bool := match v, w with
  | .int a, .int b => decide (a = b)
  | .long a, .long b => decide (a = b)
  | .ref a, .ref b => Nat.beq a b
  | .retAddr a, .retAddr b => Nat.beq a b
  | .null, .null => true
  | _, _ => false
theorem fx_veq_spec {v w : Value} (h : fx_veq v w = true) : v = w := by
  unfold fx_veq at h
  split at h
  · rw [of_decide_eq_true h]
  · rw [of_decide_eq_true h]
  · rw [Nat.eq_of_beq_eq_true h]
  · rw [Nat.eq_of_beq_eq_true h]
  · rfl
  · cases h
def fx_leq {α : Type} (f : α → α → Bool) : List α → List α → Bool
  | [], [] => true
  | a :: s, b :: t => f a b && fx_leq f s t
  | _, _ => false
theorem fx_leq_spec {α : Type} {f : α → α → Bool} (hf : ∀ a b, f a b = true → a = b) : ∀ s t : List α, fx_leq f s t = true → s = t := by
  intro s
  induction s with
  | nil =>
    intro t h
    cases t with
    | nil => rfl
    | cons b t => cases h
  | cons a s ih =>
    intro t h
    cases t with
    | nil => cases h
    | cons b t =>
      obtain ⟨h1, h2⟩ := Bool.and_eq_true_iff.mp (show (f a b && fx_leq f s t) = true from h)
      rw [hf a b h1, ih t h2]
def fx_teq (a b : ArrayType) : Bool := match a, b with
  | .int, .int => true
  | .byte, .byte => true
  | .boolean, .boolean => true
  | _, _ => false
theorem fx_teq_spec {a b : ArrayType} (h : fx_teq a b = true) : a = b := by
  unfold fx_teq at h
  split at h
  · rfl
  · rfl
  · rfl
  · cases h
def fx_ceq (c e : mm_Cell) : Bool := match c, e with
  | .inl o, .inl q => Nat.beq o.1 q.1 && fx_leq fx_veq o.2 q.2
  | .inr (.inl o), .inr (.inl q) => fx_teq o.1 q.1 && fx_leq (fun a b => decide (a = b)) o.2 q.2
  | .inr (.inr o), .inr (.inr q) => fx_leq (fun a b => decide (a = b)) o q
  | _, _ => false
theorem fx_ceq_spec {c e : mm_Cell} (h : fx_ceq c e = true) : c = e := by
  unfold fx_ceq at h
  split at h
  · next o q =>
    obtain ⟨h1, h2⟩ := Bool.and_eq_true_iff.mp h
    exact congrArg Sum.inl (Prod.ext (Nat.eq_of_beq_eq_true h1) (fx_leq_spec (fun _ _ => fx_veq_spec) _ _ h2))
  · next o q =>
    obtain ⟨h1, h2⟩ := Bool.and_eq_true_iff.mp h
    exact congrArg (fun z => Sum.inr (Sum.inl z)) (Prod.ext (fx_teq_spec h1) (fx_leq_spec (fun _ _ h => of_decide_eq_true h) _ _ h2))
  · next o q => rw [fx_leq_spec (fun _ _ h => of_decide_eq_true h) _ _ h]
  · cases h
/-- a run's end: nothing returned, this heap, no exception made -/
def fx_end (x : Option (mm_Res × mm_Heap × Nat)) (h : mm_Heap) : Bool := match x with
  | some y => (match y.1 with
    | none => true
    | some _ => false) && (fx_leq fx_ceq y.2.1 h && Nat.beq y.2.2 0)
  | none => false
theorem fx_end_spec {x : Option (mm_Res × mm_Heap × Nat)} {h : mm_Heap} (he : fx_end x h = true) : x = some (none, h, 0) := by
  unfold fx_end at he
  split at he
  · next y =>
    obtain ⟨h1, h2⟩ := Bool.and_eq_true_iff.mp he
    obtain ⟨h3, h4⟩ := Bool.and_eq_true_iff.mp h2
    obtain ⟨y1, y2, y3⟩ := y
    have e1 : y1 = none := by
      cases y1 with
      | none => rfl
      | some z => cases h1
    have e2 := fx_leq_spec (fun _ _ => fx_ceq_spec) _ _ h3
    have e3 := Nat.eq_of_beq_eq_true h4
    dsimp only at e1 e2 e3
    subst e1; subst e2; subst e3
    rfl
  · cases he
