/-! THE THROWING METHOD, and the law's own method that catches -/
theorem mm_inG {w : Cond} (p : Nat) (h1 : lw_tbl[p]? = some w) (h2 : goodWord w = true) : w ∈ lw_g := List.mem_filter.mpr ⟨List.mem_of_getElem? h1, h2⟩
theorem mm_x1 : Cond.classLink "ThiefTakers" 155 "java/lang/IndexOutOfBoundsException" ∈ lw_g := mm_inG 1599 (by decide +kernel) (by decide +kernel)
theorem mm_x2 : Cond.initialized "java/lang/IndexOutOfBoundsException" ∈ lw_g := mm_inG 187 (by decide +kernel) (by decide +kernel)
theorem mm_x5 : Cond.classLink "ThiefTakersLaw" 13 "java/lang/IndexOutOfBoundsException" ∈ lw_g := mm_inG 1593 (by decide +kernel) (by decide +kernel)
theorem mm_x6 : Cond.classLink "ThiefTakersLaw" 15 "java/util/NoSuchElementException" ∈ lw_g := mm_inG 1594 (by decide +kernel) (by decide +kernel)
theorem mm_x7 : Cond.static yL_corner ∈ lw_g := mm_inG 1591 (by decide +kernel) (by decide +kernel)
theorem mm_x8 : Cond.initialized "ThiefTakersLaw" ∈ lw_g := mm_inG 163 (by decide +kernel) (by decide +kernel)
theorem mm_x9 : Cond.codeWith yL_corner cL_corner 5 (some .int) [(0, 10, 13, 13), (0, 10, 17, 15)] ∈ lw_g := mm_inG 1592 (by decide +kernel) (by decide +kernel)
def mm_xn : List String := ["java/lang/RuntimeException", "java/lang/Exception"]
/-- a word that is kept by a law of its own -/
def mm_xk (w : Cond) : Bool := match w with
  | .castable _ _ => true
  | .declares _ => true
  | _ => goodWord w
theorem mm_xa1 : ∀ w ∈ vx_atS "ThiefTakers" 159 "java/lang/IndexOutOfBoundsException" mm_xn, w ∈ lw_tbl ∧ mm_xk w = true := by decide +kernel
theorem mm_xg1 : ∀ w ∈ Cond.classLink "ThiefTakers" 155 "java/lang/IndexOutOfBoundsException" :: Cond.initialized "java/lang/IndexOutOfBoundsException" :: vx_atS "ThiefTakers" 159 "java/lang/IndexOutOfBoundsException" mm_xn, vx_ot w = true := by decide +kernel
theorem mm_x3 : Cond.classLink "ThiefTakers" 178 "java/util/NoSuchElementException" ∈ lw_g := mm_inG 1673 (by decide +kernel) (by decide +kernel)
theorem mm_x4 : Cond.initialized "java/util/NoSuchElementException" ∈ lw_g := mm_inG 188 (by decide +kernel) (by decide +kernel)
theorem mm_xa2 : ∀ w ∈ nx_at, w ∈ lw_tbl ∧ mm_xk w = true := by decide +kernel
theorem mm_xg2 : ∀ w ∈ Cond.classLink "ThiefTakers" 178 "java/util/NoSuchElementException" :: Cond.initialized "java/util/NoSuchElementException" :: nx_at, vx_ot w = true := by decide +kernel
theorem mm_xat {N0 : Nat} {B0 : Heap} {s : State} {args : Array Value} {L : List Cond} (hL : ∀ w ∈ L, w ∈ lw_tbl ∧ mm_xk w = true) (hts : ∀ w ∈ lw_g, w.before args s = true) (hK : mm_KX N0 B0 s) : ∀ w ∈ L, w.before args s = true := by
  intro w hw
  obtain ⟨h1, h2⟩ := hL w hw
  unfold mm_xk at h2
  split at h2
  · exact va_Nw.use rfl (hK.1 _ _ h1)
  · exact va_Nw.use rfl (hK.2.1 _ h1)
  · exact hts w (List.mem_filter.mpr ⟨h1, h2⟩)
theorem dL_c0 : decode cL_corner 0 = .ok (.aload_n 3, 1) := by decide +kernel
theorem dL_c1 : decode cL_corner 1 = .ok (.iconst 0, 1) := by decide +kernel
theorem dL_c2 : decode cL_corner 2 = .ok (.aload_n 0, 1) := by decide +kernel
theorem dL_c3 : decode cL_corner 3 = .ok (.iload_n 1, 1) := by decide +kernel
theorem dL_c4 : decode cL_corner 4 = .ok (.iload_n 2, 1) := by decide +kernel
theorem dL_c5 : decode cL_corner 5 = .ok (.invokevirtual 7, 3) := by decide +kernel
theorem dL_c8 : decode cL_corner 8 = .ok (.i2l, 1) := by decide +kernel
theorem dL_c9 : decode cL_corner 9 = .ok (.lastore, 1) := by decide +kernel
theorem dL_c10 : decode cL_corner 10 = .ok (.goto 11, 3) := by decide +kernel
theorem dL_c13 : decode cL_corner 13 = .ok (.astore 4, 2) := by decide +kernel
theorem dL_c15 : decode cL_corner 15 = .ok (.iconst 1, 1) := by decide +kernel
theorem dL_c16 : decode cL_corner 16 = .ok (.ireturn, 1) := by decide +kernel
theorem dL_c17 : decode cL_corner 17 = .ok (.astore 4, 2) := by decide +kernel
theorem dL_c19 : decode cL_corner 19 = .ok (.iconst 2, 1) := by decide +kernel
theorem dL_c20 : decode cL_corner 20 = .ok (.ireturn, 1) := by decide +kernel
theorem dL_c21 : decode cL_corner 21 = .ok (.iconst 0, 1) := by decide +kernel
theorem dL_c22 : decode cL_corner 22 = .ok (.ireturn, 1) := by decide +kernel
