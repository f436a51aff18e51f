/-! THE CONSTRUCTORS: of objects that hold objects (laid by wip/whole/gen_init2.py) -/
theorem w4_c {cs : CS} {ad ad' : Nat → Nat} {o : Nat} (h : ∀ i, o ≤ i → i < o + 5 → ad i = ad' i) : w4 cs ad o = w4 cs ad' o := by
  unfold w4
  rw [h o (by omega) (by omega), h (o + 1) (by omega) (by omega), h (o + 2) (by omega) (by omega), h (o + 3) (by omega) (by omega), h (o + 4) (by omega) (by omega)]
theorem w6_c {cs : CS} {ad ad' : Nat → Nat} {o : Nat} (h : ∀ i, o ≤ i → i < o + 5 → ad i = ad' i) : w6 cs ad o = w6 cs ad' o := by
  unfold w6
  rw [h o (by omega) (by omega), h (o + 1) (by omega) (by omega), h (o + 2) (by omega) (by omega), h (o + 3) (by omega) (by omega), h (o + 4) (by omega) (by omega)]
theorem w7_c {cs : CS} {ad ad' : Nat → Nat} {o : Nat} (h : ∀ i, o ≤ i → i < o + 4 → ad i = ad' i) : w7 cs ad o = w7 cs ad' o := by
  unfold w7
  rw [h o (by omega) (by omega), h (o + 1) (by omega) (by omega), h (o + 2) (by omega) (by omega), h (o + 3) (by omega) (by omega)]
theorem w5_c {cs : CS} {ad ad' : Nat → Nat} {o : Nat} (h : ∀ i, o ≤ i → i < o + 3 → ad i = ad' i) : w5 cs ad o = w5 cs ad' o := by
  unfold w5
  rw [h o (by omega) (by omega), h (o + 1) (by omega) (by omega), h (o + 2) (by omega) (by omega)]
theorem w1_c {cs : CS} {ad ad' : Nat → Nat} {o : Nat} (h : ∀ i, o ≤ i → i < o + 5 → ad i = ad' i) : w1 cs ad o = w1 cs ad' o := by
  unfold w1
  rw [h o (by omega) (by omega), h (o + 1) (by omega) (by omega), h (o + 2) (by omega) (by omega), h (o + 3) (by omega) (by omega), h (o + 4) (by omega) (by omega)]
def w0 (cs : CS) (ad : Nat → Nat) (o : Nat) : va_W := (ad o, .inr (0, [.ref (ad (o + 1)), .ref (ad (o + 6))])) :: (w4 cs ad (o + 1) ++ w4 cs ad (o + 6))
theorem w0_c {cs : CS} {ad ad' : Nat → Nat} {o : Nat} (h : ∀ i, o ≤ i → i < o + 11 → ad i = ad' i) : w0 cs ad o = w0 cs ad' o := by
  unfold w0
  rw [h o (by omega) (by omega), h (o + 1) (by omega) (by omega), h (o + 6) (by omega) (by omega), w4_c (fun i a b => h i (by omega) (by omega)), w4_c (o := o + 6) (fun i a b => h i (by omega) (by omega))]
theorem inX0_init_4 : ∀ w ∈ wsX40, w ∈ wsX0_init := fun w h => List.mem_cons_of_mem _ (List.mem_append_left _ (List.mem_append_right _ h))
theorem inX0_init_0 : ∀ w ∈ wsX00, w ∈ wsX0_init := fun w h => List.mem_cons_of_mem _ (List.mem_append_right _ h)
abbrev rmX0_init : Room := { frames := 3, cells := 10, slots := 170, locals := 80 }
set_option maxHeartbeats 4000000 in
set_option maxRecDepth 100000 in
theorem ci_X0 (l : Launch) (D : va_G) (cs : CS) (o h0 sz : Nat) : Met l yX0_init wsX0_init rmX0_init (va_Pc [.ref h0] (fun U => U.heap.size = sz ∧ va_P D vwCl [(h0, .inr (0, [.null, .null]))] U.heap ∧ va_K D vwCl (cty cs) U ∧ va_D (fun _ => True) [(h0, .inr (0, [.null, .null]))] ∧ NI U)) (va_Qv (fun ad : Nat → Nat => ad o = h0) (fun ad t => va_P D vwCl (w0 cs ad o) t.heap ∧ va_K D vwCl (cty cs) t ∧ va_D (va_A [(h0, .inr (0, [.null, .null]))] sz) (w0 cs ad o)) (va_A [(h0, .inr (0, [.null, .null]))] sz)) 10 170 (va_A [(h0, .inr (0, [.null, .null]))] sz) := by
  refine Met.ofW (cc := cX0_init) (maxL := 1) (ret := none) (by decide) rfl ?_
  intro p e s m args below meth c s₁ B hml hv
  obtain ⟨rfl, hsz, hP, hK, hD0, hN⟩ := hv
  have hx := B.exec
  have hb := B.bytes
  have hr := B.returns
  have hts := atoms_spec (ws := wsX0_init) B.pre
  have hown : s.vm.findClass RX0 = some m.cls := findClass_of_methodNamed B.named
  have hin : meth.name = "<init>" := (name_of_methodNamed B.named B.method).1
  have CF : CallFix p m c cX0_init 1 s _ wsX0_init RX0 := ⟨hx, hb, hml, hown, hts⟩
  subst hsz
  have hD := hD0.self (sz := s.heap.size)
  generalize hAe : va_A [(h0, .inr (0, [.null, .null]))] s.heap.size = A at hD ⊢
  have hA : ∀ q : Nat, s.heap.size ≤ q → A q := fun q h => by rw [← hAe]; exact Or.inr h
  have hS : va_S A s.heap s.heap [] := va_S.rf
  have hP : va_P D vwCl [(h0, .inr (0, [.null, .null]))] s.heap := hP
  have hl := lv_entry ([.ref h0]) (n := 1) (Nat.le_of_ble_eq_true rfl)
  rw [lg_entry_eq]
  generalize (lg_sl ([.ref h0]) ++ List.replicate (1 - (lg_sl ([.ref h0])).length) Slot.unset).toArray = ls at hl ⊢
  have hl : lv_has ls 1 [(0, .ref h0)] := hl
  refine lv_aload_n hx hb dX0_init_0 rfl (lv_at hl 0 rfl) ?_
  refine W.objInit hx hb hown (hts _ (List.mem_of_getElem? (i := 1) rfl)) (hts _ (List.mem_of_getElem? (i := 2) rfl)) (hts _ (List.mem_of_getElem? (i := 3) rfl)) rfl (by rw [hml]; exact hl.1) rfl dX0_init_1 (Nat.le_of_ble_eq_true rfl) (Nat.le_of_ble_eq_true rfl) ?_
  refine W.eq (g2 := F0 m 4 ls []) rfl ?_
  refine lv_aload_n hx hb dX0_init_4 rfl (lv_at hl 0 rfl) ?_
  refine ncN (o := o + 1) (N := 5) (T := TX4) (ci := 4) (fs := [.int 0, .null, .null, .null, .null]) (wk := fun ad => w4 cs ad (o + 1)) tyX4 CF hK hN hP hD hS hA (ci_X4 l D cs (o + 1)) rfl (fun j hj => by rcases (by omega : j = 0 ∨ j = 1 ∨ j = 2 ∨ j = 3 ∨ j = 4) with rfl | rfl | rfl | rfl | rfl <;> rfl) inX0_init_4 tyX4_ok (List.mem_of_getElem? (i := 4) rfl) (List.mem_of_getElem? (i := 5) rfl) (List.mem_of_getElem? (i := 6) rfl) (List.mem_of_getElem? (i := 9) rfl) (host := "HoleReel") (fun U z => z.1) gX0_init_X4_init_n11 rfl rfl rfl rfl rfl ⟨by decide, by decide, by decide +kernel⟩ ⟨Nat.le_of_ble_eq_true rfl, Nat.le_of_ble_eq_true rfl⟩ (Nat.le_of_ble_eq_true rfl) (Nat.le_of_ble_eq_true rfl) dX0_init_5 dX0_init_8 dX0_init_9 hl.1 (Nat.le_of_ble_eq_true rfl) (fun a1 H locs hP hD hS => ?_)
  have hP : va_P D vwCl ((h0, .inr (0, [.null, .null])) :: w4 cs a1 (o + 1)) H := hP
  have hD : va_D A ((h0, .inr (0, [.null, .null])) :: w4 cs a1 (o + 1)) := hD
  refine va_putF (D := D) (ci := 0) (v := .ref (a1 (o + 1))) (ty := .object "HoleReel$PieceRow") (C := RX0) (T := TX0) (N := 2) hx hb hts inX0_init_0 tyX0 tyX0_ok nmX0 hown hK hP hD hS 0 rfl rfl 0 (by decide) (hts _ (List.mem_of_getElem? (i := 7) rfl)) (fun _ h9 => h9) rfl hin rfl (by decide +kernel) rfl rfl (Nat.le_of_ble_eq_true rfl) dX0_init_12 (fun H locs hP hD hS => ?_)
  have hP : va_P D vwCl ((h0, .inr (0, [.ref (a1 (o + 1)), .null])) :: w4 cs a1 (o + 1)) H := hP
  have hD : va_D A ((h0, .inr (0, [.ref (a1 (o + 1)), .null])) :: w4 cs a1 (o + 1)) := hD
  refine lv_aload_n hx hb dX0_init_15 rfl (lv_at hl 0 rfl) ?_
  refine ncN (o := o + 6) (N := 5) (T := TX4) (ci := 4) (fs := [.int 0, .null, .null, .null, .null]) (wk := fun ad => w4 cs ad (o + 6)) tyX4 CF hK hN hP hD hS hA (ci_X4 l D cs (o + 6)) rfl (fun j hj => by rcases (by omega : j = 0 ∨ j = 1 ∨ j = 2 ∨ j = 3 ∨ j = 4) with rfl | rfl | rfl | rfl | rfl <;> rfl) inX0_init_4 tyX4_ok (List.mem_of_getElem? (i := 4) rfl) (List.mem_of_getElem? (i := 5) rfl) (List.mem_of_getElem? (i := 6) rfl) (List.mem_of_getElem? (i := 9) rfl) (host := "HoleReel") (fun U z => z.1) gX0_init_X4_init_n11 rfl rfl rfl rfl rfl ⟨by decide, by decide, by decide +kernel⟩ ⟨Nat.le_of_ble_eq_true rfl, Nat.le_of_ble_eq_true rfl⟩ (Nat.le_of_ble_eq_true rfl) (Nat.le_of_ble_eq_true rfl) dX0_init_16 dX0_init_19 dX0_init_20 hl.1 (Nat.le_of_ble_eq_true rfl) (fun a2 H locs hP hD hS => ?_)
  have hP : va_P D vwCl ((h0, .inr (0, [.ref (a1 (o + 1)), .null])) :: (w4 cs a1 (o + 1) ++ w4 cs a2 (o + 6))) H := hP
  have hD : va_D A ((h0, .inr (0, [.ref (a1 (o + 1)), .null])) :: (w4 cs a1 (o + 1) ++ w4 cs a2 (o + 6))) := hD
  refine va_putF (D := D) (ci := 0) (v := .ref (a2 (o + 6))) (ty := .object "HoleReel$PieceRow") (C := RX0) (T := TX0) (N := 2) hx hb hts inX0_init_0 tyX0 tyX0_ok nmX0 hown hK hP hD hS 0 rfl rfl 1 (by decide) (hts _ (List.mem_of_getElem? (i := 8) rfl)) (fun _ h9 => h9) rfl hin rfl (by decide +kernel) rfl rfl (Nat.le_of_ble_eq_true rfl) dX0_init_23 (fun H locs hP hD hS => ?_)
  have hP : va_P D vwCl ((h0, .inr (0, [.ref (a1 (o + 1)), .ref (a2 (o + 6))])) :: (w4 cs a1 (o + 1) ++ w4 cs a2 (o + 6))) H := hP
  have hD : va_D A ((h0, .inr (0, [.ref (a1 (o + 1)), .ref (a2 (o + 6))])) :: (w4 cs a1 (o + 1) ++ w4 cs a2 (o + 6))) := hD
  obtain ⟨ad, e0, e1, e2⟩ : ∃ ad : Nat → Nat, ad o = h0 ∧ (∀ i, o + 1 ≤ i → i < o + 6 → ad i = a1 i) ∧ ∀ i, o + 6 ≤ i → ad i = a2 i := ⟨fun i => if i < o + 1 then h0 else if i < o + 6 then a1 i else a2 i, if_pos (by omega), fun i a b => by show (if _ then _ else _) = _; rw [if_neg (by omega), if_pos b], fun i a => by show (if _ then _ else _) = _; rw [if_neg (by omega), if_neg (by omega)]⟩
  have ew : w0 cs ad o = (h0, .inr (0, [.ref (a1 (o + 1)), .ref (a2 (o + 6))])) :: (w4 cs a1 (o + 1) ++ w4 cs a2 (o + 6)) := by
    unfold w0
    rw [e0, e1 (o + 1) (by omega) (by omega), e2 (o + 6) (by omega), w4_c (o := o + 1) (ad' := a1) (fun i a b => e1 i a (by omega)), w4_c (o := o + 6) (ad' := a2) (fun i a b => e2 i a)]
  rw [← ew] at hP hD
  refine W.widen (k := 10) (n := 170) (Nat.le_of_ble_eq_true rfl) (Nat.le_of_ble_eq_true rfl) ?_
  exact W.vret hx hb hr (fun t ht hW => ⟨⟨ad, rfl, e0, by rw [ht]; exact hP, va_K.moved hW.alike hK, hD⟩, hS.F ht⟩) hS.2.2 dX0_init_26
