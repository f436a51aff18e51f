/-! THE START: the world that the constructors leave is the memory z0 -/
def fz : Nat → Int32 := fun j => if j = 6 then 3 else if j = 7 then 5 else 0
def z0 : Mem := fun i => if i = 335 then upd (upd z_ 6 3) 7 5 else if (lay i).1 = 2 then fz else z_
abbrev xo (D : va_G) (cs : CS) (ad : Nat → Nat) : XT := (D, ad, cs)
def ceB (X : XT) (i : Nat) : va_E := if (lay i).1 = 12 then fiA X.2.2 (fiF X.2.1 (i + 1) 4) else if (lay i).1 = 13 then shA X.2.2 (shF X.2.1 (i + 5) 10) else ce X i (z0 i)
def seg (X : XT) (o n : Nat) : va_W := (List.range n).map (fun i => (xad X (o + i), ceB X (o + i)))
theorem ext_le {α : Type} {a b : List α} (h : ∀ i : Nat, a[i]? = b[i]?) : a = b := List.ext_getElem? h
theorem seg_add {X : XT} {o : Nat} (m n : Nat) : seg X o (m + n) = seg X o m ++ seg X (o + m) n := by
  apply ext_le
  intro i
  unfold seg
  by_cases c : i < m
  · rw [List.getElem?_append_left (by rw [List.length_map, List.length_range]; exact c), List.getElem?_map, List.getElem?_map, List.getElem?_range (by omega), List.getElem?_range c]
  · rw [List.getElem?_append_right (by rw [List.length_map, List.length_range]; omega), List.length_map, List.length_range, List.getElem?_map, List.getElem?_map]
    by_cases c2 : i < m + n
    · rw [List.getElem?_range c2, List.getElem?_range (by omega)]
      simp only [Option.map_some]
      rw [show o + m + (i - m) = o + i by omega]
    · rw [List.getElem?_eq_none (by rw [List.length_range]; omega), List.getElem?_eq_none (by rw [List.length_range]; omega)]
      rfl
theorem ceB_k {X : XT} {i k n : Nat} (h : lay i = (k, n)) (h1 : k ≠ 12) (h2 : k ≠ 13) (h3 : k ≠ 2) (hi : i < 335) : ceB X i = ceK X i z_ n k := by
  unfold ceB
  rw [h, if_neg h1, if_neg h2, ce_of h]
  unfold z0
  rw [if_neg (by omega), h, if_neg h3]
theorem ceB_2 {X : XT} {i n : Nat} (h : lay i = (2, n)) (hi : i < 335) : ceB X i = ceK X i fz n 2 := by
  unfold ceB
  rw [h, if_neg (show ¬ (2 : Nat) = 12 by decide), if_neg (show ¬ (2 : Nat) = 13 by decide), ce_of h]
  unfold z0
  rw [if_neg (by omega), h, if_pos rfl]
section
variable {D : va_G} {cs : CS} {ad : Nat → Nat} {o : Nat}
theorem s4 (h : L4 o) (ho : o + 5 ≤ 335) : w4 cs ad o = seg (xo D cs ad) o 5 := by
  have e : seg (xo D cs ad) o 5 = [(ad (o + 0), ceB (xo D cs ad) (o + 0)), (ad (o + 1), ceB (xo D cs ad) (o + 1)), (ad (o + 2), ceB (xo D cs ad) (o + 2)), (ad (o + 3), ceB (xo D cs ad) (o + 3)), (ad (o + 4), ceB (xo D cs ad) (o + 4))] := rfl
  rw [e, ceB_k (show lay (o + 0) = _ from h.1) (by decide) (by decide) (by decide) (by omega), ceB_k h.2.1 (by decide) (by decide) (by decide) (by omega), ceB_k h.2.2.1 (by decide) (by decide) (by decide) (by omega), ceB_k h.2.2.2.1 (by decide) (by decide) (by decide) (by omega), ceB_k h.2.2.2.2 (by decide) (by decide) (by decide) (by omega)]
  rfl
theorem s6 (h : L6 o) (ho : o + 5 ≤ 335) : w6 cs ad o = seg (xo D cs ad) o 5 := by
  have e : seg (xo D cs ad) o 5 = [(ad (o + 0), ceB (xo D cs ad) (o + 0)), (ad (o + 1), ceB (xo D cs ad) (o + 1)), (ad (o + 2), ceB (xo D cs ad) (o + 2)), (ad (o + 3), ceB (xo D cs ad) (o + 3)), (ad (o + 4), ceB (xo D cs ad) (o + 4))] := rfl
  rw [e, ceB_k (show lay (o + 0) = _ from h.1) (by decide) (by decide) (by decide) (by omega), ceB_k h.2.1 (by decide) (by decide) (by decide) (by omega), ceB_k h.2.2.1 (by decide) (by decide) (by decide) (by omega), ceB_k h.2.2.2.1 (by decide) (by decide) (by decide) (by omega), ceB_k h.2.2.2.2 (by decide) (by decide) (by decide) (by omega)]
  rfl
theorem s7 (h : L7 o) (ho : o + 4 ≤ 335) : w7 cs ad o = seg (xo D cs ad) o 4 := by
  have e : seg (xo D cs ad) o 4 = [(ad (o + 0), ceB (xo D cs ad) (o + 0)), (ad (o + 1), ceB (xo D cs ad) (o + 1)), (ad (o + 2), ceB (xo D cs ad) (o + 2)), (ad (o + 3), ceB (xo D cs ad) (o + 3))] := rfl
  rw [e, ceB_k (show lay (o + 0) = _ from h.1) (by decide) (by decide) (by decide) (by omega), ceB_k h.2.1 (by decide) (by decide) (by decide) (by omega), ceB_k h.2.2.1 (by decide) (by decide) (by decide) (by omega), ceB_k h.2.2.2 (by decide) (by decide) (by decide) (by omega)]
  rfl
theorem s5 (h : L5 o) (ho : o + 3 ≤ 335) : w5 cs ad o = seg (xo D cs ad) o 3 := by
  have e : seg (xo D cs ad) o 3 = [(ad (o + 0), ceB (xo D cs ad) (o + 0)), (ad (o + 1), ceB (xo D cs ad) (o + 1)), (ad (o + 2), ceB (xo D cs ad) (o + 2))] := rfl
  rw [e, ceB_k (show lay (o + 0) = _ from h.1) (by decide) (by decide) (by decide) (by omega), ceB_k h.2.1 (by decide) (by decide) (by decide) (by omega), ceB_k h.2.2 (by decide) (by decide) (by decide) (by omega)]
  rfl
theorem s1 (h : L1 o) (ho : o + 5 ≤ 335) : w1 cs ad o = seg (xo D cs ad) o 5 := by
  have e : seg (xo D cs ad) o 5 = [(ad (o + 0), ceB (xo D cs ad) (o + 0)), (ad (o + 1), ceB (xo D cs ad) (o + 1)), (ad (o + 2), ceB (xo D cs ad) (o + 2)), (ad (o + 3), ceB (xo D cs ad) (o + 3)), (ad (o + 4), ceB (xo D cs ad) (o + 4))] := rfl
  rw [e, ceB_k (show lay (o + 0) = _ from h.1) (by decide) (by decide) (by decide) (by omega), ceB_k h.2.1 (by decide) (by decide) (by decide) (by omega), ceB_k h.2.2.1 (by decide) (by decide) (by decide) (by omega), ceB_k h.2.2.2.1 (by decide) (by decide) (by decide) (by omega), ceB_k h.2.2.2.2 (by decide) (by decide) (by decide) (by omega)]
  rfl
theorem s0 (h : L0 o) (ho : o + 11 ≤ 335) : w0 cs ad o = seg (xo D cs ad) o 11 := by
  unfold w0
  rw [s4 (D := D) h.2.1 (by omega), s4 (D := D) (o := o + 6) h.2.2 (by omega), show (11 : Nat) = 1 + (5 + 5) from rfl, seg_add, seg_add]
  have e : seg (xo D cs ad) o 1 = [(ad (o + 0), ceB (xo D cs ad) (o + 0))] := rfl
  rw [e, ceB_k (show lay (o + 0) = _ from h.1) (by decide) (by decide) (by decide) (by omega)]
  rfl
theorem ssh (ho : o + 30 ≤ 335) : ∀ n, n ≤ 10 → (∀ j, j < n → L5 (o + 3 * j)) → wsh cs ad o n = seg (xo D cs ad) o (3 * n) := by
  intro n
  induction n with
  | zero => intro _ _; rfl
  | succ n ih =>
    intro hn h
    rw [wsh, ih (by omega) (fun j hj => h j (by omega)), s5 (D := D) (h n (by omega)) (by omega), show 3 * (n + 1) = 3 * n + 3 by omega, seg_add]
theorem s2 (h : L2 o) (ho : o + 52 ≤ 335) : w2 cs ad o = seg (xo D cs ad) o 52 := by
  obtain ⟨h1, h2, h3, h4, h5, h6⟩ := h
  have e1 : seg (xo D cs ad) o 1 = [(ad (o + 0), ceB (xo D cs ad) (o + 0))] := rfl
  have e2 : seg (xo D cs ad) (o + 17) 1 = [(ad (o + 17), shA cs (shF ad (o + 22) 10))] := by
    have : seg (xo D cs ad) (o + 17) 1 = [(ad (o + 17 + 0), ceB (xo D cs ad) (o + 17 + 0))] := rfl
    rw [this]
    unfold ceB
    rw [show lay (o + 17 + 0) = (13, 10) from h4, if_neg (by decide), if_pos rfl]
  have e3 : seg (xo D cs ad) o 52 = seg (xo D cs ad) o 1 ++ (seg (xo D cs ad) (o + 1) 5 ++ (seg (xo D cs ad) (o + 6) 11 ++ (seg (xo D cs ad) (o + 17) 1 ++ (seg (xo D cs ad) (o + 18) 4 ++ seg (xo D cs ad) (o + 22) 30)))) := by
    rw [show (52 : Nat) = 1 + (5 + (11 + (1 + (4 + 30)))) from rfl, seg_add, seg_add, seg_add, seg_add, seg_add]
  rw [e3, e1, e2, ceB_2 (show lay (o + 0) = _ from h1) (by omega), ← s6 (D := D) h2 (by omega), ← s0 (D := D) h3 (by omega), ← s7 (D := D) h5 (by omega), ← ssh (D := D) (o := o + 22) (by omega) 10 (by omega) h6]
  unfold w2
  simp only [List.append_assoc, List.cons_append, List.nil_append]
  rfl
theorem sfi (ho : o + 208 ≤ 335) : ∀ n, n ≤ 4 → (∀ j, j < n → L2 (o + 52 * j)) → wfi cs ad o n = seg (xo D cs ad) o (52 * n) := by
  intro n
  induction n with
  | zero => intro _ _; rfl
  | succ n ih =>
    intro hn h
    rw [wfi, ih (by omega) (fun j hj => h j (by omega)), s2 (D := D) (h n (by omega)) (by omega), show 52 * (n + 1) = 52 * n + 52 by omega, seg_add]
theorem s3 (h : L3 o) (ho : o + 210 ≤ 335) : w3 cs ad o = seg (xo D cs ad) o 210 := by
  obtain ⟨h1, h2, h3⟩ := h
  have e1 : seg (xo D cs ad) o 1 = [(ad (o + 0), ceB (xo D cs ad) (o + 0))] := rfl
  have e2 : seg (xo D cs ad) (o + 1) 1 = [(ad (o + 1), fiA cs (fiF ad (o + 2) 4))] := by
    have : seg (xo D cs ad) (o + 1) 1 = [(ad (o + 1 + 0), ceB (xo D cs ad) (o + 1 + 0))] := rfl
    rw [this]
    unfold ceB
    rw [show lay (o + 1 + 0) = (12, 4) from h2, if_pos rfl]
  have e3 : seg (xo D cs ad) o 210 = seg (xo D cs ad) o 1 ++ (seg (xo D cs ad) (o + 1) 1 ++ seg (xo D cs ad) (o + 2) 208) := by
    rw [show (210 : Nat) = 1 + (1 + 208) from rfl, seg_add, seg_add]
  rw [e3, e1, e2, ceB_k (show lay (o + 0) = _ from h1) (by decide) (by decide) (by decide) (by omega), ← sfi (D := D) (o := o + 2) (by omega) 4 (by omega) h3]
  rfl
theorem s8 : w8 cs ad 0 = seg (xo D cs ad) 0 334 := by
  obtain ⟨h1, h2, h3, h4, h5, h6, h7⟩ := L8_0
  have e1 : seg (xo D cs ad) 0 1 = [(ad (0 + 0), ceB (xo D cs ad) (0 + 0))] := rfl
  have e3 : seg (xo D cs ad) 0 334 = seg (xo D cs ad) 0 1 ++ (seg (xo D cs ad) (0 + 1) 52 ++ (seg (xo D cs ad) (0 + 53) 52 ++ (seg (xo D cs ad) (0 + 105) 210 ++ (seg (xo D cs ad) (0 + 315) 5 ++ (seg (xo D cs ad) (0 + 320) 11 ++ seg (xo D cs ad) (0 + 331) 3))))) := by
    rw [show (334 : Nat) = 1 + (52 + (52 + (210 + (5 + (11 + 3))))) from rfl, seg_add, seg_add, seg_add, seg_add, seg_add, seg_add]
  rw [e3, e1, ceB_k (show lay (0 + 0) = _ from h1) (by decide) (by decide) (by decide) (by omega), ← s2 (D := D) h2 (by omega), ← s2 (D := D) h3 (by omega), ← s3 (D := D) h4 (by omega), ← s1 (D := D) h5 (by omega), ← s0 (D := D) h6 (by omega), ← s5 (D := D) h7 (by omega)]
  unfold w8
  simp only [List.append_assoc]
  rfl
theorem s9 : w9 cs ad 334 = seg (xo D cs ad) 334 5 := by
  obtain ⟨h1, h2, h3, h4, h5⟩ := L9_334
  have e : seg (xo D cs ad) 334 5 = [(ad (334 + 0), ceB (xo D cs ad) (334 + 0)), (ad (334 + 1), ceB (xo D cs ad) (334 + 1)), (ad (334 + 2), ceB (xo D cs ad) (334 + 2)), (ad (334 + 3), ceB (xo D cs ad) (334 + 3)), (ad (334 + 4), ceB (xo D cs ad) (334 + 4))] := rfl
  have k1 : ∀ {i k n : Nat}, lay i = (k, n) → k ≠ 12 → k ≠ 13 → k ≠ 2 → i ≠ 335 → ceB (xo D cs ad) i = ceK (xo D cs ad) i z_ n k := fun h a b c d => by
    unfold ceB
    rw [h, if_neg a, if_neg b, ce_of h]
    unfold z0
    rw [if_neg d, h, if_neg c]
  have k2 : ceB (xo D cs ad) (334 + 1) = ceK (xo D cs ad) (334 + 1) (upd (upd z_ 6 3) 7 5) 6036 11 := by
    unfold ceB
    rw [h2, if_neg (by decide), if_neg (by decide), ce_of h2]
    rfl
  rw [e, k1 (show lay (334 + 0) = _ from h1) (by decide) (by decide) (by decide) (by decide), k2, k1 h3 (by decide) (by decide) (by decide) (by decide), k1 h4 (by decide) (by decide) (by decide) (by decide), k1 h5 (by decide) (by decide) (by decide) (by decide)]
  rfl
end
theorem w8_c {cs : CS} {ad ad' : Nat → Nat} (h : ∀ i, i < 334 → ad i = ad' i) : w8 cs ad 0 = w8 cs ad' 0 := by
  unfold w8
  rw [h 0 (by omega), h (0 + 1) (by omega), h (0 + 53) (by omega), h (0 + 105) (by omega), h (0 + 315) (by omega), h (0 + 320) (by omega), h (0 + 331) (by omega), w2_c (o := 0 + 1) (fun i a b => h i (by omega)), w2_c (o := 0 + 53) (fun i a b => h i (by omega)), w3_c (fun i a b => h i (by omega)), w1_c (fun i a b => h i (by omega)), w0_c (fun i a b => h i (by omega)), w5_c (fun i a b => h i (by omega))]
theorem w9_c {cs : CS} {ad ad' : Nat → Nat} (h : ∀ i, 334 ≤ i → ad i = ad' i) : w9 cs ad 334 = w9 cs ad' 334 := by
  unfold w9
  rw [h 334 (by omega), h (334 + 1) (by omega), h (334 + 2) (by omega), h (334 + 3) (by omega), h (334 + 4) (by omega)]
theorem arrV_c {cI : ClassId} {N : Nat} {f h : Nat → Value} (e : ∀ j, j < N → f j = h j) : arrV cI N f = arrV cI N h := by
  unfold arrV
  congr 1
  apply Array.ext
  · simp
  · intro i h1 h2
    simp
    exact e i (by simpa using h1)
theorem lay12 : ∀ i, i < 339 → (lay i).1 = 12 → (lay i).2 = 4 := by decide +kernel
theorem lay13 : ∀ i, i < 339 → (lay i).1 = 13 → (lay i).2 = 10 := by decide +kernel
theorem at_ce {D : va_G} {cs : CS} {ad : Nat → Nat} {i : Nat} {H : Heap} (hi : i < 339) (h : va_at D vwCl (ad i, ceB (xo D cs ad) i) H) : va_at D vwCl (ad i, ce (xo D cs ad) i (z0 i)) H := by
  unfold ceB at h
  by_cases c : (lay i).1 = 12
  · rw [if_pos c] at h
    have hl : lay i = (12, 4) := by
      have := lay12 i hi c
      rw [← c, ← this]
    rw [ce_of hl]
    have h : H[ad i]? = some (vp_cell cs.2.2.1 (4, .inr (.inr (.inr (.inr (fiF ad (i + 1) 4)))))) := h
    show H[ad i]? = some (vp_cell cs.2.2.1 (4, .inr (.inr (.inr (.inr (fun j => some (ad (i + 1 + 52 * j))))))))
    rw [h]
    refine congrArg some (show arrV cs.2.2.1 4 (fun j => va_rf (fiF ad (i + 1) 4 j)) = arrV cs.2.2.1 4 (fun j => va_rf (some (ad (i + 1 + 52 * j)))) from arrV_c (fun j hj => ?_))
    show va_rf (fiF ad (i + 1) 4 j) = _
    unfold fiF
    rw [if_pos hj]
  · rw [if_neg c] at h
    by_cases c2 : (lay i).1 = 13
    · rw [if_pos c2] at h
      have hl : lay i = (13, 10) := by
        have := lay13 i hi c2
        rw [← c2, ← this]
      rw [ce_of hl]
      have h : H[ad i]? = some (vp_cell cs.2.2.2 (10, .inr (.inr (.inr (.inr (shF ad (i + 5) 10)))))) := h
      show H[ad i]? = some (vp_cell cs.2.2.2 (10, .inr (.inr (.inr (.inr (fun j => some (ad (i + 5 + 3 * j))))))))
      rw [h]
      refine congrArg some (show arrV cs.2.2.2 10 (fun j => va_rf (shF ad (i + 5) 10 j)) = arrV cs.2.2.2 10 (fun j => va_rf (some (ad (i + 5 + 3 * j)))) from arrV_c (fun j hj => ?_))
      show va_rf (shF ad (i + 5) 10 j) = _
      unfold shF
      rw [if_pos hj]
    · rw [if_neg c2] at h
      exact h
theorem seg_P {D : va_G} {cs : CS} {ad : Nat → Nat} {H : Heap} (h : va_P D vwCl (seg (xo D cs ad) 0 339) H) : va_P D vwCl (wd (xo D cs ad) z0) H := by
  intro k q hq
  obtain ⟨h1, rfl⟩ := wd_get hq
  refine at_ce h1 (h k (ad k, ceB (xo D cs ad) k) ?_)
  unfold seg
  rw [List.getElem?_map, List.getElem?_range h1]
  show some (ad (0 + k), ceB _ (0 + k)) = _
  rw [Nat.zero_add]
theorem seg_D {D : va_G} {cs : CS} {ad : Nat → Nat} {A : Nat → Prop} (h : va_D A (seg (xo D cs ad) 0 339)) : XD (xo D cs ad) ∧ ∀ i, i < 339 → A (ad i) := by
  have key : ∀ i, i < 339 → (seg (xo D cs ad) 0 339)[i]? = some (ad i, ceB (xo D cs ad) i) := fun i hi => by
    unfold seg
    rw [List.getElem?_map, List.getElem?_range hi]
    show some (ad (0 + i), ceB _ (0 + i)) = _
    rw [Nat.zero_add]
  exact ⟨fun i j hi hj e => h.1 i j _ _ (key i hi) (key j hj) e, fun i hi => h.2 i _ (key i hi)⟩
