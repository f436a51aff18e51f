/-! THE CONSTRUCTORS: of objects that hold objects (laid by wip/whole/gen_init2.py) -/
theorem w4_c {cs : CS} {ad ad' : Nat → Nat} {o : Nat} (h : ∀ i, o ≤ i → i < o + 5 → ad i = ad' i) : w4 cs ad o = w4 cs ad' o := by
  unfold w4
  rw [h o (by omega) (by omega), h (o + 1) (by omega) (by omega), h (o + 2) (by omega) (by omega), h (o + 3) (by omega) (by omega), h (o + 4) (by omega) (by omega)]
theorem w6_c {cs : CS} {ad ad' : Nat → Nat} {o : Nat} (h : ∀ i, o ≤ i → i < o + 5 → ad i = ad' i) : w6 cs ad o = w6 cs ad' o := by
  unfold w6
  rw [h o (by omega) (by omega), h (o + 1) (by omega) (by omega), h (o + 2) (by omega) (by omega), h (o + 3) (by omega) (by omega), h (o + 4) (by omega) (by omega)]
theorem w7_c {cs : CS} {ad ad' : Nat → Nat} {o : Nat} (h : ∀ i, o ≤ i → i < o + 4 → ad i = ad' i) : w7 cs ad o = w7 cs ad' o := by
  unfold w7
  rw [h o (by omega) (by omega), h (o + 1) (by omega) (by omega), h (o + 2) (by omega) (by omega), h (o + 3) (by omega) (by omega)]
theorem w5_c {cs : CS} {ad ad' : Nat → Nat} {o : Nat} (h : ∀ i, o ≤ i → i < o + 3 → ad i = ad' i) : w5 cs ad o = w5 cs ad' o := by
  unfold w5
  rw [h o (by omega) (by omega), h (o + 1) (by omega) (by omega), h (o + 2) (by omega) (by omega)]
theorem w1_c {cs : CS} {ad ad' : Nat → Nat} {o : Nat} (h : ∀ i, o ≤ i → i < o + 5 → ad i = ad' i) : w1 cs ad o = w1 cs ad' o := by
  unfold w1
  rw [h o (by omega) (by omega), h (o + 1) (by omega) (by omega), h (o + 2) (by omega) (by omega), h (o + 3) (by omega) (by omega), h (o + 4) (by omega) (by omega)]
def w0 (cs : CS) (ad : Nat → Nat) (o : Nat) : va_W := (ad o, .inr (0, [.ref (ad (o + 1)), .ref (ad (o + 6))])) :: (w4 cs ad (o + 1) ++ w4 cs ad (o + 6))
theorem w0_c {cs : CS} {ad ad' : Nat → Nat} {o : Nat} (h : ∀ i, o ≤ i → i < o + 11 → ad i = ad' i) : w0 cs ad o = w0 cs ad' o := by
  unfold w0
  rw [h o (by omega) (by omega), h (o + 1) (by omega) (by omega), h (o + 6) (by omega) (by omega), w4_c (fun i a b => h i (by omega) (by omega)), w4_c (o := o + 6) (fun i a b => h i (by omega) (by omega))]
theorem inX0_init_4 : ∀ w ∈ wsX40, w ∈ wsX0_init := fun w h => List.mem_cons_of_mem _ (List.mem_append_left _ (List.mem_append_right _ h))
theorem inX0_init_0 : ∀ w ∈ wsX00, w ∈ wsX0_init := fun w h => List.mem_cons_of_mem _ (List.mem_append_right _ h)
abbrev rmX0_init : Room := { frames := 3, cells := 10, slots := 170, locals := 80 }
set_option maxHeartbeats 4000000 in
set_option maxRecDepth 100000 in
theorem ci_X0 (l : Launch) (D : va_G) (cs : CS) (o h0 sz : Nat) : Met l yX0_init wsX0_init rmX0_init (va_Pc [.ref h0] (fun U => U.heap.size = sz ∧ va_P D vwCl [(h0, .inr (0, [.null, .null]))] U.heap ∧ va_K D vwCl (cty cs) U ∧ va_D (fun _ => True) [(h0, .inr (0, [.null, .null]))] ∧ NI U)) (va_Qv (fun ad : Nat → Nat => ad o = h0) (fun ad t => va_P D vwCl (w0 cs ad o) t.heap ∧ va_K D vwCl (cty cs) t ∧ va_D (va_A [(h0, .inr (0, [.null, .null]))] sz) (w0 cs ad o)) (va_A [(h0, .inr (0, [.null, .null]))] sz)) 10 170 (va_A [(h0, .inr (0, [.null, .null]))] sz) := by
  refine Met.ofW (cc := cX0_init) (maxL := 1) (ret := none) (by decide) rfl ?_
  intro p e s m args below meth c s₁ B hml hv
  obtain ⟨rfl, hsz, hP, hK, hD0, hN⟩ := hv
  have hx := B.exec
  have hb := B.bytes
  have hr := B.returns
  have hts := atoms_spec (ws := wsX0_init) B.pre
  have hown : s.vm.findClass RX0 = some m.cls := findClass_of_methodNamed B.named
  have hin : meth.name = "<init>" := (name_of_methodNamed B.named B.method).1
  have CF : CallFix p m c cX0_init 1 s _ wsX0_init RX0 := ⟨hx, hb, hml, hown, hts⟩
  subst hsz
  have hD := hD0.self (sz := s.heap.size)
  generalize hAe : va_A [(h0, .inr (0, [.null, .null]))] s.heap.size = A at hD ⊢
  have hA : ∀ q : Nat, s.heap.size ≤ q → A q := fun q h => by rw [← hAe]; exact Or.inr h
  have hS : va_S A s.heap s.heap [] := va_S.rf
  have hP : va_P D vwCl [(h0, .inr (0, [.null, .null]))] s.heap := hP
  have hl := lv_entry ([.ref h0]) (n := 1) (Nat.le_of_ble_eq_true rfl)
  rw [lg_entry_eq]
  generalize (lg_sl ([.ref h0]) ++ List.replicate (1 - (lg_sl ([.ref h0])).length) Slot.unset).toArray = ls at hl ⊢
  have hl : lv_has ls 1 [(0, .ref h0)] := hl
  refine lv_aload_n hx hb dX0_init_0 rfl (lv_at hl 0 rfl) ?_
  refine W.objInit hx hb hown (hts _ (List.mem_of_getElem? (i := 1) rfl)) (hts _ (List.mem_of_getElem? (i := 2) rfl)) (hts _ (List.mem_of_getElem? (i := 3) rfl)) rfl (by rw [hml]; exact hl.1) rfl dX0_init_1 (Nat.le_of_ble_eq_true rfl) (Nat.le_of_ble_eq_true rfl) ?_
  refine W.eq (g2 := F0 m 4 ls []) rfl ?_
  refine lv_aload_n hx hb dX0_init_4 rfl (lv_at hl 0 rfl) ?_
  refine ncN (o := o + 1) (N := 5) (T := TX4) (ci := 4) (fs := [.int 0, .null, .null, .null, .null]) (wk := fun ad => w4 cs ad (o + 1)) tyX4 CF hK hN hP hD hS hA (ci_X4 l D cs (o + 1)) rfl (fun j hj => by rcases (by omega : j = 0 ∨ j = 1 ∨ j = 2 ∨ j = 3 ∨ j = 4) with rfl | rfl | rfl | rfl | rfl <;> rfl) inX0_init_4 tyX4_ok (List.mem_of_getElem? (i := 4) rfl) (List.mem_of_getElem? (i := 5) rfl) (List.mem_of_getElem? (i := 6) rfl) (List.mem_of_getElem? (i := 9) rfl) (host := "HoleReel") (fun U z => z.1) gX0_init_X4_init_n11 rfl rfl rfl rfl rfl ⟨by decide, by decide, by decide +kernel⟩ ⟨Nat.le_of_ble_eq_true rfl, Nat.le_of_ble_eq_true rfl⟩ (Nat.le_of_ble_eq_true rfl) (Nat.le_of_ble_eq_true rfl) dX0_init_5 dX0_init_8 dX0_init_9 hl.1 (Nat.le_of_ble_eq_true rfl) (fun a1 H locs hP hD hS => ?_)
  have hP : va_P D vwCl ((h0, .inr (0, [.null, .null])) :: w4 cs a1 (o + 1)) H := hP
  have hD : va_D A ((h0, .inr (0, [.null, .null])) :: w4 cs a1 (o + 1)) := hD
  refine va_putF (D := D) (ci := 0) (v := .ref (a1 (o + 1))) (ty := .object "HoleReel$PieceRow") (C := RX0) (T := TX0) (N := 2) hx hb hts inX0_init_0 tyX0 tyX0_ok nmX0 hown hK hP hD hS 0 rfl rfl 0 (by decide) (hts _ (List.mem_of_getElem? (i := 7) rfl)) (fun _ h9 => h9) rfl hin rfl (by decide +kernel) rfl rfl (Nat.le_of_ble_eq_true rfl) dX0_init_12 (fun H locs hP hD hS => ?_)
  have hP : va_P D vwCl ((h0, .inr (0, [.ref (a1 (o + 1)), .null])) :: w4 cs a1 (o + 1)) H := hP
  have hD : va_D A ((h0, .inr (0, [.ref (a1 (o + 1)), .null])) :: w4 cs a1 (o + 1)) := hD
  refine lv_aload_n hx hb dX0_init_15 rfl (lv_at hl 0 rfl) ?_
  refine ncN (o := o + 6) (N := 5) (T := TX4) (ci := 4) (fs := [.int 0, .null, .null, .null, .null]) (wk := fun ad => w4 cs ad (o + 6)) tyX4 CF hK hN hP hD hS hA (ci_X4 l D cs (o + 6)) rfl (fun j hj => by rcases (by omega : j = 0 ∨ j = 1 ∨ j = 2 ∨ j = 3 ∨ j = 4) with rfl | rfl | rfl | rfl | rfl <;> rfl) inX0_init_4 tyX4_ok (List.mem_of_getElem? (i := 4) rfl) (List.mem_of_getElem? (i := 5) rfl) (List.mem_of_getElem? (i := 6) rfl) (List.mem_of_getElem? (i := 9) rfl) (host := "HoleReel") (fun U z => z.1) gX0_init_X4_init_n11 rfl rfl rfl rfl rfl ⟨by decide, by decide, by decide +kernel⟩ ⟨Nat.le_of_ble_eq_true rfl, Nat.le_of_ble_eq_true rfl⟩ (Nat.le_of_ble_eq_true rfl) (Nat.le_of_ble_eq_true rfl) dX0_init_16 dX0_init_19 dX0_init_20 hl.1 (Nat.le_of_ble_eq_true rfl) (fun a2 H locs hP hD hS => ?_)
  have hP : va_P D vwCl ((h0, .inr (0, [.ref (a1 (o + 1)), .null])) :: (w4 cs a1 (o + 1) ++ w4 cs a2 (o + 6))) H := hP
  have hD : va_D A ((h0, .inr (0, [.ref (a1 (o + 1)), .null])) :: (w4 cs a1 (o + 1) ++ w4 cs a2 (o + 6))) := hD
  refine va_putF (D := D) (ci := 0) (v := .ref (a2 (o + 6))) (ty := .object "HoleReel$PieceRow") (C := RX0) (T := TX0) (N := 2) hx hb hts inX0_init_0 tyX0 tyX0_ok nmX0 hown hK hP hD hS 0 rfl rfl 1 (by decide) (hts _ (List.mem_of_getElem? (i := 8) rfl)) (fun _ h9 => h9) rfl hin rfl (by decide +kernel) rfl rfl (Nat.le_of_ble_eq_true rfl) dX0_init_23 (fun H locs hP hD hS => ?_)
  have hP : va_P D vwCl ((h0, .inr (0, [.ref (a1 (o + 1)), .ref (a2 (o + 6))])) :: (w4 cs a1 (o + 1) ++ w4 cs a2 (o + 6))) H := hP
  have hD : va_D A ((h0, .inr (0, [.ref (a1 (o + 1)), .ref (a2 (o + 6))])) :: (w4 cs a1 (o + 1) ++ w4 cs a2 (o + 6))) := hD
  obtain ⟨ad, e0, e1, e2⟩ : ∃ ad : Nat → Nat, ad o = h0 ∧ (∀ i, o + 1 ≤ i → i < o + 6 → ad i = a1 i) ∧ ∀ i, o + 6 ≤ i → ad i = a2 i := ⟨fun i => if i < o + 1 then h0 else if i < o + 6 then a1 i else a2 i, if_pos (by omega), fun i a b => by show (if _ then _ else _) = _; rw [if_neg (by omega), if_pos b], fun i a => by show (if _ then _ else _) = _; rw [if_neg (by omega), if_neg (by omega)]⟩
  have ew : w0 cs ad o = (h0, .inr (0, [.ref (a1 (o + 1)), .ref (a2 (o + 6))])) :: (w4 cs a1 (o + 1) ++ w4 cs a2 (o + 6)) := by
    unfold w0
    rw [e0, e1 (o + 1) (by omega) (by omega), e2 (o + 6) (by omega), w4_c (o := o + 1) (ad' := a1) (fun i a b => e1 i a (by omega)), w4_c (o := o + 6) (ad' := a2) (fun i a b => e2 i a)]
  rw [← ew] at hP hD
  refine W.widen (k := 10) (n := 170) (Nat.le_of_ble_eq_true rfl) (Nat.le_of_ble_eq_true rfl) ?_
  exact W.vret hx hb hr (fun t ht hW => ⟨⟨ad, rfl, e0, by rw [ht]; exact hP, va_K.moved hW.alike hK, hD⟩, hS.F ht⟩) hS.2.2 dX0_init_26
/-- n shows from o on -/
def wsh (cs : CS) (ad : Nat → Nat) (o : Nat) : Nat → va_W
  | 0 => []
  | n + 1 => wsh cs ad o n ++ w5 cs ad (o + 3 * n)
theorem wsh_c {cs : CS} {ad ad' : Nat → Nat} {o : Nat} : ∀ n, (∀ i, o ≤ i → i < o + 3 * n → ad i = ad' i) → wsh cs ad o n = wsh cs ad' o n := by
  intro n
  induction n with
  | zero => intro _; rfl
  | succ n ih => intro h; rw [wsh, wsh, ih (fun i a b => h i a (by omega)), w5_c (fun i a b => h i (by omega) (by omega))]
theorem wsh_len {cs : CS} {ad : Nat → Nat} {o : Nat} : ∀ n, (wsh cs ad o n).length = 3 * n := by
  intro n
  induction n with
  | zero => rfl
  | succ n ih => rw [wsh, List.length_append, ih]; show 3 * n + 3 = _; omega
abbrev shA (cs : CS) (f : Nat → Option Nat) : va_E := .inl (cs.2.2.2, 10, .inr (.inr (.inr (.inr f))))
abbrev fiA (cs : CS) (f : Nat → Option Nat) : va_E := .inl (cs.2.2.1, 4, .inr (.inr (.inr (.inr f))))
def shF (ad : Nat → Nat) (o j : Nat) : Nat → Option Nat := fun i => if i < j then some (ad (o + 3 * i)) else none
def w2 (cs : CS) (ad : Nat → Nat) (o : Nat) : va_W := (ad o, .inr (2, [.ref (ad (o + 1)), .ref (ad (o + 6)), .ref (ad (o + 17)), .ref (ad (o + 18)), .int 0, .int 0, .int 3, .int 5])) :: (w6 cs ad (o + 1) ++ w0 cs ad (o + 6) ++ [(ad (o + 17), shA cs (shF ad (o + 22) 10))] ++ w7 cs ad (o + 18) ++ wsh cs ad (o + 22) 10)
theorem shF_c {ad ad' : Nat → Nat} {o j : Nat} (h : ∀ i, o ≤ i → i < o + 3 * j → ad i = ad' i) : shF ad o j = shF ad' o j := by
  funext i
  unfold shF
  by_cases c : i < j
  · rw [if_pos c, if_pos c, h _ (by omega) (by omega)]
  · rw [if_neg c, if_neg c]
theorem w2_c {cs : CS} {ad ad' : Nat → Nat} {o : Nat} (h : ∀ i, o ≤ i → i < o + 52 → ad i = ad' i) : w2 cs ad o = w2 cs ad' o := by
  unfold w2
  rw [h o (by omega) (by omega), h (o + 1) (by omega) (by omega), h (o + 6) (by omega) (by omega), h (o + 17) (by omega) (by omega), h (o + 18) (by omega) (by omega), w6_c (fun i a b => h i (by omega) (by omega)), w0_c (fun i a b => h i (by omega) (by omega)), w7_c (fun i a b => h i (by omega) (by omega)), wsh_c 10 (fun i a b => h i (by omega) (by omega)), shF_c (fun i a b => h i (by omega) (by omega))]
theorem inX2_init_6 : ∀ w ∈ wsX60, w ∈ wsX2_init := fun w h => List.mem_cons_of_mem _ (List.mem_append_left _ (List.mem_append_left _ (List.mem_append_left _ (List.mem_append_left _ (List.mem_append_left _ (List.mem_append_right _ h))))))
theorem inX2_init_2 : ∀ w ∈ wsX20, w ∈ wsX2_init := fun w h => List.mem_cons_of_mem _ (List.mem_append_left _ (List.mem_append_left _ (List.mem_append_left _ (List.mem_append_left _ (List.mem_append_right _ h)))))
theorem inX2_init_0 : ∀ w ∈ wsX00, w ∈ wsX2_init := fun w h => List.mem_cons_of_mem _ (List.mem_append_left _ (List.mem_append_left _ (List.mem_append_left _ (List.mem_append_right _ h))))
theorem inX2_init_7 : ∀ w ∈ wsX70, w ∈ wsX2_init := fun w h => List.mem_cons_of_mem _ (List.mem_append_left _ (List.mem_append_left _ (List.mem_append_right _ h)))
theorem inX2_init_5 : ∀ w ∈ wsX50, w ∈ wsX2_init := fun w h => List.mem_cons_of_mem _ (List.mem_append_left _ (List.mem_append_right _ h))
theorem inX2_init_4 : ∀ w ∈ wsX40, w ∈ wsX2_init := fun w h => List.mem_cons_of_mem _ (List.mem_append_right _ h)
abbrev rmX2_init : Room := { frames := 4, cells := 51, slots := 6099, locals := 120 }
set_option maxHeartbeats 4000000 in
set_option maxRecDepth 100000 in
theorem lp_X2 {l : Launch} {p : Program} {e : Env} {R : Room} {s : State} {m : MethodId} {args : Array Value} {below : List Frame} {meth : Method} {c : Code} {Q : State → Prop} {A : Nat → Prop} {D : va_G} {cs : CS} {o h0 q3 : Nat} {a1 a2 a4 : Nat → Nat} (CF : CallFix p m c cX2_init 2 s args wsX2_init RX2) (hK : va_K D vwCl (cty cs) s) (hN : NI s) (hA : ∀ q, s.heap.size ≤ q → A q) (hR : R = rmX2_init)
    (hk : ∀ (aS : Nat → Nat) (H : Heap) (locs : List Loc) (ls : Array Slot), va_P D vwCl ((h0, .inr (2, [.ref (a1 (o + 1)), .ref (a2 (o + 6)), .ref q3, .ref (a4 (o + 18)), .int 0, .int 0, .int 3, .int 5])) :: (w6 cs a1 (o + 1) ++ w0 cs a2 (o + 6) ++ [(q3, shA cs (shF aS (o + 22) (10)))] ++ w7 cs a4 (o + 18) ++ wsh cs aS (o + 22) (10))) H → va_D A ((h0, .inr (2, [.ref (a1 (o + 1)), .ref (a2 (o + 6)), .ref q3, .ref (a4 (o + 18)), .int 0, .int 0, .int 3, .int 5])) :: (w6 cs a1 (o + 1) ++ w0 cs a2 (o + 6) ++ [(q3, shA cs (shF aS (o + 22) (10)))] ++ w7 cs a4 (o + 18) ++ wsh cs aS (o + 22) (10))) → va_S A s.heap H locs → W p l e R s m args below meth c H locs 51 6099 Q (F0 m 83 ls [])) :
    ∀ n j (aS : Nat → Nat) (H : Heap) (locs : List Loc) (ls : Array Slot), j + n = 10 → lv_has ls 2 [(1, .int (nI j)), (0, .ref h0)] → va_P D vwCl ((h0, .inr (2, [.ref (a1 (o + 1)), .ref (a2 (o + 6)), .ref q3, .ref (a4 (o + 18)), .int 0, .int 0, .int 3, .int 5])) :: (w6 cs a1 (o + 1) ++ w0 cs a2 (o + 6) ++ [(q3, shA cs (shF aS (o + 22) (j)))] ++ w7 cs a4 (o + 18) ++ wsh cs aS (o + 22) (j))) H → va_D A ((h0, .inr (2, [.ref (a1 (o + 1)), .ref (a2 (o + 6)), .ref q3, .ref (a4 (o + 18)), .int 0, .int 0, .int 3, .int 5])) :: (w6 cs a1 (o + 1) ++ w0 cs a2 (o + 6) ++ [(q3, shA cs (shF aS (o + 22) (j)))] ++ w7 cs a4 (o + 18) ++ wsh cs aS (o + 22) (j))) → va_S A s.heap H locs → W p l e R s m args below meth c H locs (21 + 3 * j) (1199 + 490 * j) Q (F0 m 58 ls []) := by
  have hx := CF.1
  have hb := CF.2.1
  have hown := CF.2.2.2.1
  have hts := CF.2.2.2.2
  subst hR
  intro n
  induction n with
  | zero =>
    intro j aS H locs ls hj hl hP hD hS
    have hj : j = 10 := by omega
    subst hj
    refine lv_iload_n hx hb dX2_init_58 rfl (lv_at hl 0 rfl) ?_
    refine lv_bipush (v := nI 10) hx hb dX2_init_59 (by decide) ?_
    refine lv_icmp_ge (tgt := 83) hx hb dX2_init_61 (by decide) (fun _ => ?_) (fun q => absurd ((nI_LE (by omega) (by omega)).2 (Nat.le_refl _)) q)
    exact hk aS H locs ls hP hD hS
  | succ n ih =>
    intro j aS H locs ls hj hl hP hD hS
    refine lv_iload_n hx hb dX2_init_58 rfl (lv_at hl 0 rfl) ?_
    refine lv_bipush (v := nI 10) hx hb dX2_init_59 (by decide) ?_
    refine lv_icmp_ge (tgt := 83) hx hb dX2_init_61 (by decide) (fun q => absurd ((nI_LE (by omega) (by omega)).1 q) (by omega)) (fun _ => ?_)
    refine lv_aload_n hx hb dX2_init_64 rfl (lv_at hl 1 rfl) ?_
    refine va_get (D := D) (ci := 2) (v := .ref q3) (C := RX2) (T := TX2) (N := 8) hx hb hts inX2_init_2 hown hK hP 0 rfl rfl 2 (by decide) (hts _ (List.mem_of_getElem? (i := 13) rfl)) (fun _ h9 => h9) rfl dX2_init_65 ?_
    refine lv_iload_n hx hb dX2_init_68 rfl (lv_at hl 0 rfl) ?_
    refine ncN (o := o + 22 + 3 * j) (N := 2) (T := TX5) (ci := 5) (fs := [.null, .null]) (wk := fun ad => w5 cs ad (o + 22 + 3 * j)) tyX5 CF hK hN hP hD hS hA (ci_X5 l D cs (o + 22 + 3 * j)) rfl (fun j hj => by rcases (by omega : j = 0 ∨ j = 1) with rfl | rfl <;> rfl) inX2_init_5 tyX5_ok (List.mem_of_getElem? (i := 12) rfl) (List.mem_of_getElem? (i := 20) rfl) (List.mem_of_getElem? (i := 21) rfl) (List.mem_of_getElem? (i := 51) rfl) (host := "HoleReel") (fun U z => z.2.2.2.2.1) gX2_init_X5_init_n45 rfl rfl rfl rfl rfl ⟨by decide, by decide, by decide +kernel⟩ ⟨Nat.le_of_ble_eq_true rfl, Nat.le_of_ble_eq_true rfl⟩ (show 21 + 3 * j + 1 + 2 ≤ 51 by omega) (show 1199 + 490 * j + 2 + 488 ≤ 6099 by omega) dX2_init_69 dX2_init_72 dX2_init_73 hl.1 (Nat.le_of_ble_eq_true rfl) (fun a5 H locs hP hD hS => ?_)
    have hv : (((h0, .inr (2, [.ref (a1 (o + 1)), .ref (a2 (o + 6)), .ref q3, .ref (a4 (o + 18)), .int 0, .int 0, .int 3, .int 5])) :: (w6 cs a1 (o + 1) ++ w0 cs a2 (o + 6) ++ [(q3, shA cs (shF aS (o + 22) (j)))] ++ w7 cs a4 (o + 18) ++ wsh cs aS (o + 22) (j))) ++ w5 cs a5 (o + 22 + 3 * j))[22 + 3 * j]? = (w5 cs a5 (o + 22 + 3 * j))[0]? := by
      have hlen : ((h0, .inr (2, [.ref (a1 (o + 1)), .ref (a2 (o + 6)), .ref q3, .ref (a4 (o + 18)), .int 0, .int 0, .int 3, .int 5])) :: (w6 cs a1 (o + 1) ++ w0 cs a2 (o + 6) ++ [(q3, shA cs (shF aS (o + 22) (j)))] ++ w7 cs a4 (o + 18) ++ wsh cs aS (o + 22) (j))).length = 22 + 3 * j := by
        rw [List.length_cons, List.length_append, wsh_len]
        show 21 + 3 * j + 1 = _
        omega
      rw [List.getElem?_append_right (by omega), hlen, Nat.sub_self]
    refine va_astq hx hb hK hP hD hS 17 3 (22 + 3 * j) 5 (cA := cs.2.2.2) (r := (RX5, TX5, 2)) (n := 10) (f := shF aS (o + 22) j) rfl rfl (hv.trans rfl) rfl (fun q => q.elim (nI_pos (by omega)) (fun q2 => by rw [nI_c (by omega)] at q2; omega)) dX2_init_76 (fun H locs hP hD hS => ?_)
    obtain ⟨aT, t1, t2⟩ : ∃ aT : Nat → Nat, (∀ i, i < o + 22 + 3 * j → aT i = aS i) ∧ ∀ i, o + 22 + 3 * j ≤ i → aT i = a5 i := ⟨fun i => if i < o + 22 + 3 * j then aS i else a5 i, fun i a => if_pos a, fun i a => if_neg (by omega)⟩
    have ef : va_up (shF aS (o + 22) j) (nI j).toNatClampNeg (some (a5 (o + 22 + 3 * j))) = shF aT (o + 22) (j + 1) := by
      rw [nI_c (by omega)]
      funext i
      show (if i = j then _ else _) = _
      unfold shF
      by_cases c1 : i = j
      · rw [if_pos c1, if_pos (by omega), t2 _ (by omega), c1]
      · rw [if_neg c1]
        by_cases c2 : i < j
        · rw [if_pos c2, if_pos (by omega), t1 _ (by omega)]
        · rw [if_neg c2, if_neg (by omega)]
    have e1 : wsh cs aT (o + 22) (j + 1) = wsh cs aS (o + 22) j ++ w5 cs a5 (o + 22 + 3 * j) := by
      rw [wsh, wsh_c j (ad := aT) (ad' := aS) (fun i a b => t1 i (by omega)), w5_c (ad := aT) (ad' := a5) (fun i a b => t2 i (by omega))]
    have ew : (h0, .inr (2, [.ref (a1 (o + 1)), .ref (a2 (o + 6)), .ref q3, .ref (a4 (o + 18)), .int 0, .int 0, .int 3, .int 5])) :: (w6 cs a1 (o + 1) ++ w0 cs a2 (o + 6) ++ [(q3, shA cs (shF aT (o + 22) (j + 1)))] ++ w7 cs a4 (o + 18) ++ wsh cs aT (o + 22) (j + 1)) = ((h0, .inr (2, [.ref (a1 (o + 1)), .ref (a2 (o + 6)), .ref q3, .ref (a4 (o + 18)), .int 0, .int 0, .int 3, .int 5])) :: (w6 cs a1 (o + 1) ++ w0 cs a2 (o + 6) ++ [(q3, shA cs (va_up (shF aS (o + 22) j) (nI j).toNatClampNeg (some (a5 (o + 22 + 3 * j)))))] ++ w7 cs a4 (o + 18) ++ wsh cs aS (o + 22) j)) ++ w5 cs a5 (o + 22 + 3 * j) := by
      rw [e1, ef, List.cons_append, List.append_assoc _ (wsh cs aS (o + 22) j) _]
    have hP : va_P D vwCl (((h0, .inr (2, [.ref (a1 (o + 1)), .ref (a2 (o + 6)), .ref q3, .ref (a4 (o + 18)), .int 0, .int 0, .int 3, .int 5])) :: (w6 cs a1 (o + 1) ++ w0 cs a2 (o + 6) ++ [(q3, shA cs (va_up (shF aS (o + 22) j) (nI j).toNatClampNeg (some (a5 (o + 22 + 3 * j)))))] ++ w7 cs a4 (o + 18) ++ wsh cs aS (o + 22) j)) ++ w5 cs a5 (o + 22 + 3 * j)) H := hP
    have hD : va_D A (((h0, .inr (2, [.ref (a1 (o + 1)), .ref (a2 (o + 6)), .ref q3, .ref (a4 (o + 18)), .int 0, .int 0, .int 3, .int 5])) :: (w6 cs a1 (o + 1) ++ w0 cs a2 (o + 6) ++ [(q3, shA cs (va_up (shF aS (o + 22) j) (nI j).toNatClampNeg (some (a5 (o + 22 + 3 * j)))))] ++ w7 cs a4 (o + 18) ++ wsh cs aS (o + 22) j)) ++ w5 cs a5 (o + 22 + 3 * j)) := hD
    rw [← ew] at hP hD
    refine lv_iinc (v := nI (j + 1)) hx hb dX2_init_77 hl (show [(1, Value.int (nI j)), (0, Value.ref h0)][0]? = some (1, Value.int (nI j)) from rfl) nI_A (by decide) rfl (fun ls2 hl2 => ?_)
    refine lv_goto (tgt := 58) hx hb dX2_init_80 (by decide) ?_
    refine W.cs (cells' := 21 + 3 * (j + 1)) (slots' := 1199 + 490 * (j + 1)) (by omega) (by omega) ?_
    exact ih (j + 1) aT H locs ls2 (by omega) hl2 hP hD hS
set_option maxHeartbeats 4000000 in
set_option maxRecDepth 100000 in
theorem ci_X2 (l : Launch) (D : va_G) (cs : CS) (o h0 sz : Nat) : Met l yX2_init wsX2_init rmX2_init (va_Pc [.ref h0] (fun U => U.heap.size = sz ∧ va_P D vwCl [(h0, .inr (2, [.null, .null, .null, .null, .int 0, .int 0, .int 0, .int 0]))] U.heap ∧ va_K D vwCl (cty cs) U ∧ va_D (fun _ => True) [(h0, .inr (2, [.null, .null, .null, .null, .int 0, .int 0, .int 0, .int 0]))] ∧ NI U)) (va_Qv (fun ad : Nat → Nat => ad o = h0) (fun ad t => va_P D vwCl (w2 cs ad o) t.heap ∧ va_K D vwCl (cty cs) t ∧ va_D (va_A [(h0, .inr (2, [.null, .null, .null, .null, .int 0, .int 0, .int 0, .int 0]))] sz) (w2 cs ad o)) (va_A [(h0, .inr (2, [.null, .null, .null, .null, .int 0, .int 0, .int 0, .int 0]))] sz)) 51 6099 (va_A [(h0, .inr (2, [.null, .null, .null, .null, .int 0, .int 0, .int 0, .int 0]))] sz) := by
  refine Met.ofW (cc := cX2_init) (maxL := 2) (ret := none) (by decide) rfl ?_
  intro p e s m args below meth c s₁ B hml hv
  obtain ⟨rfl, hsz, hP, hK, hD0, hN⟩ := hv
  have hx := B.exec
  have hb := B.bytes
  have hr := B.returns
  have hts := atoms_spec (ws := wsX2_init) B.pre
  have hown : s.vm.findClass RX2 = some m.cls := findClass_of_methodNamed B.named
  have hin : meth.name = "<init>" := (name_of_methodNamed B.named B.method).1
  have CF : CallFix p m c cX2_init 2 s _ wsX2_init RX2 := ⟨hx, hb, hml, hown, hts⟩
  subst hsz
  have hD := hD0.self (sz := s.heap.size)
  generalize hAe : va_A [(h0, .inr (2, [.null, .null, .null, .null, .int 0, .int 0, .int 0, .int 0]))] s.heap.size = A at hD ⊢
  have hA : ∀ q : Nat, s.heap.size ≤ q → A q := fun q h => by rw [← hAe]; exact Or.inr h
  have hS : va_S A s.heap s.heap [] := va_S.rf
  have hP : va_P D vwCl [(h0, .inr (2, [.null, .null, .null, .null, .int 0, .int 0, .int 0, .int 0]))] s.heap := hP
  have hl := lv_entry ([.ref h0]) (n := 2) (Nat.le_of_ble_eq_true rfl)
  rw [lg_entry_eq]
  generalize (lg_sl ([.ref h0]) ++ List.replicate (2 - (lg_sl ([.ref h0])).length) Slot.unset).toArray = ls at hl ⊢
  have hl : lv_has ls 2 [(0, .ref h0)] := hl
  refine lv_aload_n hx hb dX2_init_0 rfl (lv_at hl 0 rfl) ?_
  refine W.objInit hx hb hown (hts _ (List.mem_of_getElem? (i := 1) rfl)) (hts _ (List.mem_of_getElem? (i := 2) rfl)) (hts _ (List.mem_of_getElem? (i := 3) rfl)) rfl (by rw [hml]; exact hl.1) rfl dX2_init_1 (Nat.le_of_ble_eq_true rfl) (Nat.le_of_ble_eq_true rfl) ?_
  refine W.eq (g2 := F0 m 4 ls []) rfl ?_
  refine lv_aload_n hx hb dX2_init_4 rfl (lv_at hl 0 rfl) ?_
  refine ncN (o := o + 1) (N := 5) (T := TX6) (ci := 6) (fs := [.int 0, .null, .null, .null, .null]) (wk := fun ad => w6 cs ad (o + 1)) tyX6 CF hK hN hP hD hS hA (ci_X6 l D cs (o + 1)) rfl (fun j hj => by rcases (by omega : j = 0 ∨ j = 1 ∨ j = 2 ∨ j = 3 ∨ j = 4) with rfl | rfl | rfl | rfl | rfl <;> rfl) inX2_init_6 tyX6_ok (List.mem_of_getElem? (i := 4) rfl) (List.mem_of_getElem? (i := 5) rfl) (List.mem_of_getElem? (i := 6) rfl) (List.mem_of_getElem? (i := 22) rfl) (host := "HoleReel") (fun U z => z.2.1) gX2_init_X6_init_n11 rfl rfl rfl rfl rfl ⟨by decide, by decide, by decide +kernel⟩ ⟨Nat.le_of_ble_eq_true rfl, Nat.le_of_ble_eq_true rfl⟩ (Nat.le_of_ble_eq_true rfl) (Nat.le_of_ble_eq_true rfl) dX2_init_5 dX2_init_8 dX2_init_9 hl.1 (Nat.le_of_ble_eq_true rfl) (fun a1 H locs hP hD hS => ?_)
  have hP : va_P D vwCl ((h0, .inr (2, [.null, .null, .null, .null, .int 0, .int 0, .int 0, .int 0])) :: w6 cs a1 (o + 1)) H := hP
  have hD : va_D A ((h0, .inr (2, [.null, .null, .null, .null, .int 0, .int 0, .int 0, .int 0])) :: w6 cs a1 (o + 1)) := hD
  refine va_putF (D := D) (ci := 2) (v := .ref (a1 (o + 1))) (ty := .object "HoleReel$Stock") (C := RX2) (T := TX2) (N := 8) hx hb hts inX2_init_2 tyX2 tyX2_ok nmX2 hown hK hP hD hS 0 rfl rfl 0 (by decide) (hts _ (List.mem_of_getElem? (i := 7) rfl)) (fun _ h9 => h9) rfl hin rfl (by decide +kernel) rfl rfl (Nat.le_of_ble_eq_true rfl) dX2_init_12 (fun H locs hP hD hS => ?_)
  have hP : va_P D vwCl ((h0, .inr (2, [.ref (a1 (o + 1)), .null, .null, .null, .int 0, .int 0, .int 0, .int 0])) :: w6 cs a1 (o + 1)) H := hP
  have hD : va_D A ((h0, .inr (2, [.ref (a1 (o + 1)), .null, .null, .null, .int 0, .int 0, .int 0, .int 0])) :: w6 cs a1 (o + 1)) := hD
  refine lv_aload_n hx hb dX2_init_15 rfl (lv_at hl 0 rfl) ?_
  refine ncN (o := o + 6) (N := 2) (T := TX0) (ci := 0) (fs := [.null, .null]) (wk := fun ad => w0 cs ad (o + 6)) tyX0 CF hK hN hP hD hS hA (ci_X0 l D cs (o + 6)) rfl (fun j hj => by rcases (by omega : j = 0 ∨ j = 1) with rfl | rfl <;> rfl) inX2_init_0 tyX0_ok (List.mem_of_getElem? (i := 8) rfl) (List.mem_of_getElem? (i := 9) rfl) (List.mem_of_getElem? (i := 10) rfl) (List.mem_of_getElem? (i := 30) rfl) (host := "HoleReel") (fun U z => z.2.2.1) gX2_init_X0_init_n20 rfl rfl rfl rfl rfl ⟨by decide, by decide, by decide +kernel⟩ ⟨Nat.le_of_ble_eq_true rfl, Nat.le_of_ble_eq_true rfl⟩ (Nat.le_of_ble_eq_true rfl) (Nat.le_of_ble_eq_true rfl) dX2_init_16 dX2_init_19 dX2_init_20 hl.1 (Nat.le_of_ble_eq_true rfl) (fun a2 H locs hP hD hS => ?_)
  have hP : va_P D vwCl ((h0, .inr (2, [.ref (a1 (o + 1)), .null, .null, .null, .int 0, .int 0, .int 0, .int 0])) :: (w6 cs a1 (o + 1) ++ w0 cs a2 (o + 6))) H := hP
  have hD : va_D A ((h0, .inr (2, [.ref (a1 (o + 1)), .null, .null, .null, .int 0, .int 0, .int 0, .int 0])) :: (w6 cs a1 (o + 1) ++ w0 cs a2 (o + 6))) := hD
  refine va_putF (D := D) (ci := 2) (v := .ref (a2 (o + 6))) (ty := .object "HoleReel$Bench") (C := RX2) (T := TX2) (N := 8) hx hb hts inX2_init_2 tyX2 tyX2_ok nmX2 hown hK hP hD hS 0 rfl rfl 1 (by decide) (hts _ (List.mem_of_getElem? (i := 11) rfl)) (fun _ h9 => h9) rfl hin rfl (by decide +kernel) rfl rfl (Nat.le_of_ble_eq_true rfl) dX2_init_23 (fun H locs hP hD hS => ?_)
  have hP : va_P D vwCl ((h0, .inr (2, [.ref (a1 (o + 1)), .ref (a2 (o + 6)), .null, .null, .int 0, .int 0, .int 0, .int 0])) :: (w6 cs a1 (o + 1) ++ w0 cs a2 (o + 6))) H := hP
  have hD : va_D A ((h0, .inr (2, [.ref (a1 (o + 1)), .ref (a2 (o + 6)), .null, .null, .int 0, .int 0, .int 0, .int 0])) :: (w6 cs a1 (o + 1) ++ w0 cs a2 (o + 6))) := hD
  refine lv_aload_n hx hb dX2_init_26 rfl (lv_at hl 0 rfl) ?_
  refine lv_bipush (v := nI 10) hx hb dX2_init_27 (by decide) ?_
  refine va_newq (N' := 10) (C := "HoleReel$Show") hx hb hown (hts _ (List.mem_of_getElem? (i := 12) rfl)) hN.2.2.2.2.2.2.2.2.2 hK hP hD hS hA (by decide) (by decide) (by decide) (Nat.le_of_ble_eq_true rfl) (Nat.le_of_ble_eq_true rfl) dX2_init_29 (fun q3 cA H hK1 hP hD hS => ?_)
  have hcA := cls_s hK1
  subst hcA
  clear hK1
  have hP : va_P D vwCl ((h0, .inr (2, [.ref (a1 (o + 1)), .ref (a2 (o + 6)), .null, .null, .int 0, .int 0, .int 0, .int 0])) :: (w6 cs a1 (o + 1) ++ w0 cs a2 (o + 6) ++ [(q3, shA cs (fun _ => none))])) H := hP
  have hD : va_D A ((h0, .inr (2, [.ref (a1 (o + 1)), .ref (a2 (o + 6)), .null, .null, .int 0, .int 0, .int 0, .int 0])) :: (w6 cs a1 (o + 1) ++ w0 cs a2 (o + 6) ++ [(q3, shA cs (fun _ => none))])) := hD
  refine va_putF (D := D) (ci := 2) (v := .ref q3) (ty := .array (.object "HoleReel$Show")) (C := RX2) (T := TX2) (N := 8) hx hb hts inX2_init_2 tyX2 tyX2_ok nmX2 hown hK hP hD hS 0 rfl rfl 2 (by decide) (hts _ (List.mem_of_getElem? (i := 13) rfl)) (fun _ h9 => h9) rfl hin rfl (by decide +kernel) rfl rfl (Nat.le_of_ble_eq_true rfl) dX2_init_32 (fun H locs hP hD hS => ?_)
  have hP : va_P D vwCl ((h0, .inr (2, [.ref (a1 (o + 1)), .ref (a2 (o + 6)), .ref q3, .null, .int 0, .int 0, .int 0, .int 0])) :: (w6 cs a1 (o + 1) ++ w0 cs a2 (o + 6) ++ [(q3, shA cs (fun _ => none))])) H := hP
  have hD : va_D A ((h0, .inr (2, [.ref (a1 (o + 1)), .ref (a2 (o + 6)), .ref q3, .null, .int 0, .int 0, .int 0, .int 0])) :: (w6 cs a1 (o + 1) ++ w0 cs a2 (o + 6) ++ [(q3, shA cs (fun _ => none))])) := hD
  refine lv_aload_n hx hb dX2_init_35 rfl (lv_at hl 0 rfl) ?_
  refine ncN (o := o + 18) (N := 4) (T := TX7) (ci := 7) (fs := [.int 0, .null, .null, .null]) (wk := fun ad => w7 cs ad (o + 18)) tyX7 CF hK hN hP hD hS hA (ci_X7 l D cs (o + 18)) rfl (fun j hj => by rcases (by omega : j = 0 ∨ j = 1 ∨ j = 2 ∨ j = 3) with rfl | rfl | rfl | rfl <;> rfl) inX2_init_7 tyX7_ok (List.mem_of_getElem? (i := 14) rfl) (List.mem_of_getElem? (i := 15) rfl) (List.mem_of_getElem? (i := 16) rfl) (List.mem_of_getElem? (i := 45) rfl) (host := "HoleReel") (fun U z => z.2.2.2.1) gX2_init_X7_init_n33 rfl rfl rfl rfl rfl ⟨by decide, by decide, by decide +kernel⟩ ⟨Nat.le_of_ble_eq_true rfl, Nat.le_of_ble_eq_true rfl⟩ (Nat.le_of_ble_eq_true rfl) (Nat.le_of_ble_eq_true rfl) dX2_init_36 dX2_init_39 dX2_init_40 hl.1 (Nat.le_of_ble_eq_true rfl) (fun a4 H locs hP hD hS => ?_)
  have hP : va_P D vwCl ((h0, .inr (2, [.ref (a1 (o + 1)), .ref (a2 (o + 6)), .ref q3, .null, .int 0, .int 0, .int 0, .int 0])) :: (w6 cs a1 (o + 1) ++ w0 cs a2 (o + 6) ++ [(q3, shA cs (fun _ => none))] ++ w7 cs a4 (o + 18))) H := hP
  have hD : va_D A ((h0, .inr (2, [.ref (a1 (o + 1)), .ref (a2 (o + 6)), .ref q3, .null, .int 0, .int 0, .int 0, .int 0])) :: (w6 cs a1 (o + 1) ++ w0 cs a2 (o + 6) ++ [(q3, shA cs (fun _ => none))] ++ w7 cs a4 (o + 18))) := hD
  refine va_putF (D := D) (ci := 2) (v := .ref (a4 (o + 18))) (ty := .object "HoleReel$Witnesses") (C := RX2) (T := TX2) (N := 8) hx hb hts inX2_init_2 tyX2 tyX2_ok nmX2 hown hK hP hD hS 0 rfl rfl 3 (by decide) (hts _ (List.mem_of_getElem? (i := 17) rfl)) (fun _ h9 => h9) rfl hin rfl (by decide +kernel) rfl rfl (Nat.le_of_ble_eq_true rfl) dX2_init_43 (fun H locs hP hD hS => ?_)
  have hP : va_P D vwCl ((h0, .inr (2, [.ref (a1 (o + 1)), .ref (a2 (o + 6)), .ref q3, .ref (a4 (o + 18)), .int 0, .int 0, .int 0, .int 0])) :: (w6 cs a1 (o + 1) ++ w0 cs a2 (o + 6) ++ [(q3, shA cs (fun _ => none))] ++ w7 cs a4 (o + 18))) H := hP
  have hD : va_D A ((h0, .inr (2, [.ref (a1 (o + 1)), .ref (a2 (o + 6)), .ref q3, .ref (a4 (o + 18)), .int 0, .int 0, .int 0, .int 0])) :: (w6 cs a1 (o + 1) ++ w0 cs a2 (o + 6) ++ [(q3, shA cs (fun _ => none))] ++ w7 cs a4 (o + 18))) := hD
  refine lv_aload_n hx hb dX2_init_46 rfl (lv_at hl 0 rfl) ?_
  refine lv_iconst (v := 3) hx hb dX2_init_47 (by decide) ?_
  refine va_put (D := D) (ci := 2) (v := .int 3) (ty := .int) (C := RX2) (T := TX2) (N := 8) hx hb hts inX2_init_2 tyX2 tyX2_ok nmX2 hown hK hP hD hS 0 rfl rfl 6 (by decide) (hts _ (List.mem_of_getElem? (i := 18) rfl)) (fun _ h9 => h9) rfl (by decide +kernel) rfl rfl (Nat.le_of_ble_eq_true rfl) dX2_init_48 (fun H locs hP hD hS => ?_)
  have hP : va_P D vwCl ((h0, .inr (2, [.ref (a1 (o + 1)), .ref (a2 (o + 6)), .ref q3, .ref (a4 (o + 18)), .int 0, .int 0, .int 3, .int 0])) :: (w6 cs a1 (o + 1) ++ w0 cs a2 (o + 6) ++ [(q3, shA cs (fun _ => none))] ++ w7 cs a4 (o + 18))) H := hP
  have hD : va_D A ((h0, .inr (2, [.ref (a1 (o + 1)), .ref (a2 (o + 6)), .ref q3, .ref (a4 (o + 18)), .int 0, .int 0, .int 3, .int 0])) :: (w6 cs a1 (o + 1) ++ w0 cs a2 (o + 6) ++ [(q3, shA cs (fun _ => none))] ++ w7 cs a4 (o + 18))) := hD
  refine lv_aload_n hx hb dX2_init_51 rfl (lv_at hl 0 rfl) ?_
  refine lv_iconst (v := 5) hx hb dX2_init_52 (by decide) ?_
  refine va_put (D := D) (ci := 2) (v := .int 5) (ty := .int) (C := RX2) (T := TX2) (N := 8) hx hb hts inX2_init_2 tyX2 tyX2_ok nmX2 hown hK hP hD hS 0 rfl rfl 7 (by decide) (hts _ (List.mem_of_getElem? (i := 19) rfl)) (fun _ h9 => h9) rfl (by decide +kernel) rfl rfl (Nat.le_of_ble_eq_true rfl) dX2_init_53 (fun H locs hP hD hS => ?_)
  have hP : va_P D vwCl ((h0, .inr (2, [.ref (a1 (o + 1)), .ref (a2 (o + 6)), .ref q3, .ref (a4 (o + 18)), .int 0, .int 0, .int 3, .int 5])) :: (w6 cs a1 (o + 1) ++ w0 cs a2 (o + 6) ++ [(q3, shA cs (fun _ => none))] ++ w7 cs a4 (o + 18))) H := hP
  have hD : va_D A ((h0, .inr (2, [.ref (a1 (o + 1)), .ref (a2 (o + 6)), .ref q3, .ref (a4 (o + 18)), .int 0, .int 0, .int 3, .int 5])) :: (w6 cs a1 (o + 1) ++ w0 cs a2 (o + 6) ++ [(q3, shA cs (fun _ => none))] ++ w7 cs a4 (o + 18))) := hD
  refine lv_iconst (v := nI 0) hx hb dX2_init_56 (by decide) ?_
  refine lv_istore_n hx hb dX2_init_57 rfl hl (by decide) rfl (fun ls2 hl2 => ?_)
  have e0 : (h0, .inr (2, [.ref (a1 (o + 1)), .ref (a2 (o + 6)), .ref q3, .ref (a4 (o + 18)), .int 0, .int 0, .int 3, .int 5])) :: (w6 cs a1 (o + 1) ++ w0 cs a2 (o + 6) ++ [(q3, shA cs (shF a4 (o + 22) (0)))] ++ w7 cs a4 (o + 18) ++ wsh cs a4 (o + 22) (0)) = (h0, .inr (2, [.ref (a1 (o + 1)), .ref (a2 (o + 6)), .ref q3, .ref (a4 (o + 18)), .int 0, .int 0, .int 3, .int 5])) :: (w6 cs a1 (o + 1) ++ w0 cs a2 (o + 6) ++ [(q3, shA cs (fun _ => none))] ++ w7 cs a4 (o + 18)) := by
    show _ :: (_ ++ []) = _
    rw [List.append_nil]
    rfl
  rw [← e0] at hP hD
  refine lp_X2 CF hK hN hA rfl (fun aS H locs ls3 hP hD hS => ?_) 10 0 a4 H locs ls2 rfl hl2 hP hD hS
  obtain ⟨ad, f0, f1, f2, f3, f4, f5⟩ : ∃ ad : Nat → Nat, ad o = h0 ∧ (∀ i, o + 1 ≤ i → i < o + 6 → ad i = a1 i) ∧ (∀ i, o + 6 ≤ i → i < o + 17 → ad i = a2 i) ∧ ad (o + 17) = q3 ∧ (∀ i, o + 18 ≤ i → i < o + 22 → ad i = a4 i) ∧ ∀ i, o + 22 ≤ i → ad i = aS i := by
    refine ⟨fun i => if i < o + 1 then h0 else if i < o + 6 then a1 i else if i < o + 17 then a2 i else if i < o + 18 then q3 else if i < o + 22 then a4 i else aS i, ?_, fun i a b => ?_, fun i a b => ?_, ?_, fun i a b => ?_, fun i a => ?_⟩
    all_goals dsimp only
    · rw [if_pos (by omega)]
    · rw [if_neg (by omega), if_pos (by omega)]
    · rw [if_neg (by omega), if_neg (by omega), if_pos (by omega)]
    · rw [if_neg (by omega), if_neg (by omega), if_neg (by omega), if_pos (by omega)]
    · rw [if_neg (by omega), if_neg (by omega), if_neg (by omega), if_neg (by omega), if_pos (by omega)]
    · rw [if_neg (by omega), if_neg (by omega), if_neg (by omega), if_neg (by omega), if_neg (by omega)]
  have ew : w2 cs ad o = (h0, .inr (2, [.ref (a1 (o + 1)), .ref (a2 (o + 6)), .ref q3, .ref (a4 (o + 18)), .int 0, .int 0, .int 3, .int 5])) :: (w6 cs a1 (o + 1) ++ w0 cs a2 (o + 6) ++ [(q3, shA cs (shF aS (o + 22) (10)))] ++ w7 cs a4 (o + 18) ++ wsh cs aS (o + 22) (10)) := by
    unfold w2
    rw [f0, f1 (o + 1) (by omega) (by omega), f2 (o + 6) (by omega) (by omega), f3, f4 (o + 18) (by omega) (by omega), w6_c (ad := ad) (ad' := a1) (fun i a b => f1 i a (by omega)), w0_c (ad := ad) (ad' := a2) (fun i a b => f2 i a (by omega)), w7_c (ad := ad) (ad' := a4) (fun i a b => f4 i a (by omega)), wsh_c 10 (ad := ad) (ad' := aS) (fun i a b => f5 i a), shF_c (ad := ad) (ad' := aS) (fun i a b => f5 i a)]
  rw [← ew] at hP hD
  exact W.vret hx hb hr (fun t ht hW => ⟨⟨ad, rfl, f0, by rw [ht]; exact hP, va_K.moved hW.alike hK, hD⟩, hS.F ht⟩) hS.2.2 dX2_init_83
theorem w2_len {cs : CS} {ad : Nat → Nat} {o : Nat} : (w2 cs ad o).length = 52 := rfl
/-- n films from o on -/
def wfi (cs : CS) (ad : Nat → Nat) (o : Nat) : Nat → va_W
  | 0 => []
  | n + 1 => wfi cs ad o n ++ w2 cs ad (o + 52 * n)
theorem wfi_c {cs : CS} {ad ad' : Nat → Nat} {o : Nat} : ∀ n, (∀ i, o ≤ i → i < o + 52 * n → ad i = ad' i) → wfi cs ad o n = wfi cs ad' o n := by
  intro n
  induction n with
  | zero => intro _; rfl
  | succ n ih => intro h; rw [wfi, wfi, ih (fun i a b => h i a (by omega)), w2_c (fun i a b => h i (by omega) (by omega))]
theorem wfi_len {cs : CS} {ad : Nat → Nat} {o : Nat} : ∀ n, (wfi cs ad o n).length = 52 * n := by
  intro n
  induction n with
  | zero => rfl
  | succ n ih => rw [wfi, List.length_append, ih, w2_len]; omega
def fiF (ad : Nat → Nat) (o j : Nat) : Nat → Option Nat := fun i => if i < j then some (ad (o + 52 * i)) else none
def w3 (cs : CS) (ad : Nat → Nat) (o : Nat) : va_W := (ad o, .inr (3, [.int 0, .int 0, .ref (ad (o + 1))])) :: ([(ad (o + 1), fiA cs (fiF ad (o + 2) 4))] ++ wfi cs ad (o + 2) 4)
theorem fiF_c {ad ad' : Nat → Nat} {o j : Nat} (h : ∀ i, o ≤ i → i < o + 52 * j → ad i = ad' i) : fiF ad o j = fiF ad' o j := by
  funext i
  unfold fiF
  by_cases c : i < j
  · rw [if_pos c, if_pos c, h _ (by omega) (by omega)]
  · rw [if_neg c, if_neg c]
theorem w3_c {cs : CS} {ad ad' : Nat → Nat} {o : Nat} (h : ∀ i, o ≤ i → i < o + 210 → ad i = ad' i) : w3 cs ad o = w3 cs ad' o := by
  unfold w3
  rw [h o (by omega) (by omega), h (o + 1) (by omega) (by omega), wfi_c 4 (fun i a b => h i (by omega) (by omega)), fiF_c (fun i a b => h i (by omega) (by omega))]
theorem inX3_init_3 : ∀ w ∈ wsX30, w ∈ wsX3_init := fun w h => List.mem_cons_of_mem _ (List.mem_append_left _ (List.mem_append_left _ (List.mem_append_left _ (List.mem_append_left _ (List.mem_append_left _ (List.mem_append_left _ (List.mem_append_right _ h)))))))
theorem inX3_init_2 : ∀ w ∈ wsX20, w ∈ wsX3_init := fun w h => List.mem_cons_of_mem _ (List.mem_append_left _ (List.mem_append_left _ (List.mem_append_left _ (List.mem_append_left _ (List.mem_append_left _ (List.mem_append_right _ h))))))
theorem inX3_init_6 : ∀ w ∈ wsX60, w ∈ wsX3_init := fun w h => List.mem_cons_of_mem _ (List.mem_append_left _ (List.mem_append_left _ (List.mem_append_left _ (List.mem_append_left _ (List.mem_append_right _ h)))))
theorem inX3_init_0 : ∀ w ∈ wsX00, w ∈ wsX3_init := fun w h => List.mem_cons_of_mem _ (List.mem_append_left _ (List.mem_append_left _ (List.mem_append_left _ (List.mem_append_right _ h))))
theorem inX3_init_7 : ∀ w ∈ wsX70, w ∈ wsX3_init := fun w h => List.mem_cons_of_mem _ (List.mem_append_left _ (List.mem_append_left _ (List.mem_append_right _ h)))
theorem inX3_init_5 : ∀ w ∈ wsX50, w ∈ wsX3_init := fun w h => List.mem_cons_of_mem _ (List.mem_append_left _ (List.mem_append_right _ h))
theorem inX3_init_4 : ∀ w ∈ wsX40, w ∈ wsX3_init := fun w h => List.mem_cons_of_mem _ (List.mem_append_right _ h)
abbrev rmX3_init : Room := { frames := 5, cells := 209, slots := 24432, locals := 150 }
set_option maxHeartbeats 4000000 in
set_option maxRecDepth 100000 in
theorem lp_X3 {l : Launch} {p : Program} {e : Env} {R : Room} {s : State} {m : MethodId} {args : Array Value} {below : List Frame} {meth : Method} {c : Code} {Q : State → Prop} {A : Nat → Prop} {D : va_G} {cs : CS} {o h0 q1 : Nat} (CF : CallFix p m c cX3_init 2 s args wsX3_init RX3) (hK : va_K D vwCl (cty cs) s) (hN : NI s) (hA : ∀ q, s.heap.size ≤ q → A q) (hR : R = rmX3_init)
    (hk : ∀ (aS : Nat → Nat) (H : Heap) (locs : List Loc) (ls : Array Slot), va_P D vwCl ((h0, .inr (3, [.int 0, .int 0, .ref q1])) :: ([(q1, fiA cs (fiF aS (o + 2) (4)))] ++ wfi cs aS (o + 2) (4))) H → va_D A ((h0, .inr (3, [.int 0, .int 0, .ref q1])) :: ([(q1, fiA cs (fiF aS (o + 2) (4)))] ++ wfi cs aS (o + 2) (4))) → va_S A s.heap H locs → W p l e R s m args below meth c H locs 209 24432 Q (F0 m 38 ls [])) :
    ∀ n j (aS : Nat → Nat) (H : Heap) (locs : List Loc) (ls : Array Slot), j + n = 4 → lv_has ls 2 [(1, .int (nI j)), (0, .ref h0)] → va_P D vwCl ((h0, .inr (3, [.int 0, .int 0, .ref q1])) :: ([(q1, fiA cs (fiF aS (o + 2) (j)))] ++ wfi cs aS (o + 2) (j))) H → va_D A ((h0, .inr (3, [.int 0, .int 0, .ref q1])) :: ([(q1, fiA cs (fiF aS (o + 2) (j)))] ++ wfi cs aS (o + 2) (j))) → va_S A s.heap H locs → W p l e R s m args below meth c H locs (1 + 52 * j) (4 + 6107 * j) Q (F0 m 14 ls []) := by
  have hx := CF.1
  have hb := CF.2.1
  have hown := CF.2.2.2.1
  have hts := CF.2.2.2.2
  subst hR
  intro n
  induction n with
  | zero =>
    intro j aS H locs ls hj hl hP hD hS
    have hj : j = 4 := by omega
    subst hj
    refine lv_iload_n hx hb dX3_init_14 rfl (lv_at hl 0 rfl) ?_
    refine lv_iconst (v := nI 4) hx hb dX3_init_15 (by decide) ?_
    refine lv_icmp_ge (tgt := 38) hx hb dX3_init_16 (by decide) (fun _ => ?_) (fun q => absurd ((nI_LE (by omega) (by omega)).2 (Nat.le_refl _)) q)
    exact hk aS H locs ls hP hD hS
  | succ n ih =>
    intro j aS H locs ls hj hl hP hD hS
    refine lv_iload_n hx hb dX3_init_14 rfl (lv_at hl 0 rfl) ?_
    refine lv_iconst (v := nI 4) hx hb dX3_init_15 (by decide) ?_
    refine lv_icmp_ge (tgt := 38) hx hb dX3_init_16 (by decide) (fun q => absurd ((nI_LE (by omega) (by omega)).1 q) (by omega)) (fun _ => ?_)
    refine lv_aload_n hx hb dX3_init_19 rfl (lv_at hl 1 rfl) ?_
    refine va_get (D := D) (ci := 3) (v := .ref q1) (C := RX3) (T := TX3) (N := 3) hx hb hts inX3_init_3 hown hK hP 0 rfl rfl 2 (by decide) (hts _ (List.mem_of_getElem? (i := 5) rfl)) (fun _ h9 => h9) rfl dX3_init_20 ?_
    refine lv_iload_n hx hb dX3_init_23 rfl (lv_at hl 0 rfl) ?_
    refine ncI (o := o + 2 + 52 * j) (N := 8) (T := TX2) (ci := 2) (fs := [.null, .null, .null, .null, .int 0, .int 0, .int 0, .int 0]) (wk := fun ad => w2 cs ad (o + 2 + 52 * j)) tyX2 CF hK hN hP hD hS hA (ci_X2 l D cs (o + 2 + 52 * j)) rfl (fun j hj => by rcases (by omega : j = 0 ∨ j = 1 ∨ j = 2 ∨ j = 3 ∨ j = 4 ∨ j = 5 ∨ j = 6 ∨ j = 7) with rfl | rfl | rfl | rfl | rfl | rfl | rfl | rfl <;> rfl) inX3_init_2 tyX2_ok (List.mem_of_getElem? (i := 4) rfl) (List.mem_of_getElem? (i := 6) rfl) (List.mem_of_getElem? (i := 7) rfl) (List.mem_of_getElem? (i := 9) rfl) (List.mem_of_getElem? (i := 8) rfl) gX3_init_X2_init rfl rfl rfl rfl rfl ⟨by decide, by decide, by decide +kernel⟩ ⟨Nat.le_of_ble_eq_true rfl, Nat.le_of_ble_eq_true rfl⟩ (show 1 + 52 * j + 1 + 51 ≤ 209 by omega) (show 4 + 6107 * j + 8 + 6099 ≤ 24432 by omega) dX3_init_24 dX3_init_27 dX3_init_28 hl.1 (Nat.le_of_ble_eq_true rfl) (fun a5 H locs hP hD hS => ?_)
    have hv : (((h0, .inr (3, [.int 0, .int 0, .ref q1])) :: ([(q1, fiA cs (fiF aS (o + 2) (j)))] ++ wfi cs aS (o + 2) (j))) ++ w2 cs a5 (o + 2 + 52 * j))[2 + 52 * j]? = (w2 cs a5 (o + 2 + 52 * j))[0]? := by
      have hlen : ((h0, .inr (3, [.int 0, .int 0, .ref q1])) :: ([(q1, fiA cs (fiF aS (o + 2) (j)))] ++ wfi cs aS (o + 2) (j))).length = 2 + 52 * j := by
        rw [List.length_cons, List.length_append, wfi_len]
        show 1 + 52 * j + 1 = _
        omega
      rw [List.getElem?_append_right (by omega), hlen, Nat.sub_self]
    refine va_astq hx hb hK hP hD hS 1 2 (2 + 52 * j) 2 (cA := cs.2.2.1) (r := (RX2, TX2, 8)) (n := 4) (f := fiF aS (o + 2) j) rfl rfl (hv.trans rfl) rfl (fun q => q.elim (nI_pos (by omega)) (fun q2 => by rw [nI_c (by omega)] at q2; omega)) dX3_init_31 (fun H locs hP hD hS => ?_)
    obtain ⟨aT, t1, t2⟩ : ∃ aT : Nat → Nat, (∀ i, i < o + 2 + 52 * j → aT i = aS i) ∧ ∀ i, o + 2 + 52 * j ≤ i → aT i = a5 i := ⟨fun i => if i < o + 2 + 52 * j then aS i else a5 i, fun i a => if_pos a, fun i a => if_neg (by omega)⟩
    have ef : va_up (fiF aS (o + 2) j) (nI j).toNatClampNeg (some (a5 (o + 2 + 52 * j))) = fiF aT (o + 2) (j + 1) := by
      rw [nI_c (by omega)]
      funext i
      show (if i = j then _ else _) = _
      unfold fiF
      by_cases c1 : i = j
      · rw [if_pos c1, if_pos (by omega), t2 _ (by omega), c1]
      · rw [if_neg c1]
        by_cases c2 : i < j
        · rw [if_pos c2, if_pos (by omega), t1 _ (by omega)]
        · rw [if_neg c2, if_neg (by omega)]
    have e1 : wfi cs aT (o + 2) (j + 1) = wfi cs aS (o + 2) j ++ w2 cs a5 (o + 2 + 52 * j) := by
      rw [wfi, wfi_c j (ad := aT) (ad' := aS) (fun i a b => t1 i (by omega)), w2_c (ad := aT) (ad' := a5) (fun i a b => t2 i (by omega))]
    have ew : (h0, .inr (3, [.int 0, .int 0, .ref q1])) :: ([(q1, fiA cs (fiF aT (o + 2) (j + 1)))] ++ wfi cs aT (o + 2) (j + 1)) = ((h0, .inr (3, [.int 0, .int 0, .ref q1])) :: ([(q1, fiA cs (va_up (fiF aS (o + 2) j) (nI j).toNatClampNeg (some (a5 (o + 2 + 52 * j)))))] ++ wfi cs aS (o + 2) j)) ++ w2 cs a5 (o + 2 + 52 * j) := by
      rw [e1, ef]
      simp only [List.cons_append, List.nil_append, List.append_assoc]
    have hP : va_P D vwCl (((h0, .inr (3, [.int 0, .int 0, .ref q1])) :: ([(q1, fiA cs (va_up (fiF aS (o + 2) j) (nI j).toNatClampNeg (some (a5 (o + 2 + 52 * j)))))] ++ wfi cs aS (o + 2) j)) ++ w2 cs a5 (o + 2 + 52 * j)) H := hP
    have hD : va_D A (((h0, .inr (3, [.int 0, .int 0, .ref q1])) :: ([(q1, fiA cs (va_up (fiF aS (o + 2) j) (nI j).toNatClampNeg (some (a5 (o + 2 + 52 * j)))))] ++ wfi cs aS (o + 2) j)) ++ w2 cs a5 (o + 2 + 52 * j)) := hD
    rw [← ew] at hP hD
    refine lv_iinc (v := nI (j + 1)) hx hb dX3_init_32 hl (show [(1, Value.int (nI j)), (0, Value.ref h0)][0]? = some (1, Value.int (nI j)) from rfl) nI_A (by decide) rfl (fun ls2 hl2 => ?_)
    refine lv_goto (tgt := 14) hx hb dX3_init_35 (by decide) ?_
    refine W.cs (cells' := 1 + 52 * (j + 1)) (slots' := 4 + 6107 * (j + 1)) (by omega) (by omega) ?_
    exact ih (j + 1) aT H locs ls2 (by omega) hl2 hP hD hS
set_option maxHeartbeats 4000000 in
set_option maxRecDepth 100000 in
theorem ci_X3 (l : Launch) (D : va_G) (cs : CS) (o h0 sz : Nat) : Met l yX3_init wsX3_init rmX3_init (va_Pc [.ref h0] (fun U => U.heap.size = sz ∧ va_P D vwCl [(h0, .inr (3, [.int 0, .int 0, .null]))] U.heap ∧ va_K D vwCl (cty cs) U ∧ va_D (fun _ => True) [(h0, .inr (3, [.int 0, .int 0, .null]))] ∧ NI U)) (va_Qv (fun ad : Nat → Nat => ad o = h0) (fun ad t => va_P D vwCl (w3 cs ad o) t.heap ∧ va_K D vwCl (cty cs) t ∧ va_D (va_A [(h0, .inr (3, [.int 0, .int 0, .null]))] sz) (w3 cs ad o)) (va_A [(h0, .inr (3, [.int 0, .int 0, .null]))] sz)) 209 24432 (va_A [(h0, .inr (3, [.int 0, .int 0, .null]))] sz) := by
  refine Met.ofW (cc := cX3_init) (maxL := 2) (ret := none) (by decide) rfl ?_
  intro p e s m args below meth c s₁ B hml hv
  obtain ⟨rfl, hsz, hP, hK, hD0, hN⟩ := hv
  have hx := B.exec
  have hb := B.bytes
  have hr := B.returns
  have hts := atoms_spec (ws := wsX3_init) B.pre
  have hown : s.vm.findClass RX3 = some m.cls := findClass_of_methodNamed B.named
  have hin : meth.name = "<init>" := (name_of_methodNamed B.named B.method).1
  have CF : CallFix p m c cX3_init 2 s _ wsX3_init RX3 := ⟨hx, hb, hml, hown, hts⟩
  subst hsz
  have hD := hD0.self (sz := s.heap.size)
  generalize hAe : va_A [(h0, .inr (3, [.int 0, .int 0, .null]))] s.heap.size = A at hD ⊢
  have hA : ∀ q : Nat, s.heap.size ≤ q → A q := fun q h => by rw [← hAe]; exact Or.inr h
  have hS : va_S A s.heap s.heap [] := va_S.rf
  have hP : va_P D vwCl [(h0, .inr (3, [.int 0, .int 0, .null]))] s.heap := hP
  have hl := lv_entry ([.ref h0]) (n := 2) (Nat.le_of_ble_eq_true rfl)
  rw [lg_entry_eq]
  generalize (lg_sl ([.ref h0]) ++ List.replicate (2 - (lg_sl ([.ref h0])).length) Slot.unset).toArray = ls at hl ⊢
  have hl : lv_has ls 2 [(0, .ref h0)] := hl
  refine lv_aload_n hx hb dX3_init_0 rfl (lv_at hl 0 rfl) ?_
  refine W.objInit hx hb hown (hts _ (List.mem_of_getElem? (i := 1) rfl)) (hts _ (List.mem_of_getElem? (i := 2) rfl)) (hts _ (List.mem_of_getElem? (i := 3) rfl)) rfl (by rw [hml]; exact hl.1) rfl dX3_init_1 (Nat.le_of_ble_eq_true rfl) (Nat.le_of_ble_eq_true rfl) ?_
  refine W.eq (g2 := F0 m 4 ls []) rfl ?_
  refine lv_aload_n hx hb dX3_init_4 rfl (lv_at hl 0 rfl) ?_
  refine lv_iconst (v := nI 4) hx hb dX3_init_5 (by decide) ?_
  refine va_newq (N' := 4) (C := "HoleReel$Film") hx hb hown (hts _ (List.mem_of_getElem? (i := 4) rfl)) hN.2.2.2.2.2.2.2.2.1 hK hP hD hS hA (by decide) (by decide) (by decide) (Nat.le_of_ble_eq_true rfl) (Nat.le_of_ble_eq_true rfl) dX3_init_6 (fun q1 cA H hK1 hP hD hS => ?_)
  have hcA := cls_f hK1
  subst hcA
  clear hK1
  have hP : va_P D vwCl ((h0, .inr (3, [.int 0, .int 0, .null])) :: [(q1, fiA cs (fun _ => none))]) H := hP
  have hD : va_D A ((h0, .inr (3, [.int 0, .int 0, .null])) :: [(q1, fiA cs (fun _ => none))]) := hD
  refine va_putF (D := D) (ci := 3) (v := .ref q1) (ty := .array (.object "HoleReel$Film")) (C := RX3) (T := TX3) (N := 3) hx hb hts inX3_init_3 tyX3 tyX3_ok nmX3 hown hK hP hD hS 0 rfl rfl 2 (by decide) (hts _ (List.mem_of_getElem? (i := 5) rfl)) (fun _ h9 => h9) rfl hin rfl (by decide +kernel) rfl rfl (Nat.le_of_ble_eq_true rfl) dX3_init_9 (fun H locs hP hD hS => ?_)
  have hP : va_P D vwCl ((h0, .inr (3, [.int 0, .int 0, .ref q1])) :: [(q1, fiA cs (fun _ => none))]) H := hP
  have hD : va_D A ((h0, .inr (3, [.int 0, .int 0, .ref q1])) :: [(q1, fiA cs (fun _ => none))]) := hD
  refine lv_iconst (v := nI 0) hx hb dX3_init_12 (by decide) ?_
  refine lv_istore_n hx hb dX3_init_13 rfl hl (by decide) rfl (fun ls2 hl2 => ?_)
  have e0 : (h0, .inr (3, [.int 0, .int 0, .ref q1])) :: ([(q1, fiA cs (fiF (fun _ => 0) (o + 2) (0)))] ++ wfi cs (fun _ => 0) (o + 2) (0)) = (h0, .inr (3, [.int 0, .int 0, .ref q1])) :: [(q1, fiA cs (fun _ => none))] := rfl
  rw [← e0] at hP hD
  refine lp_X3 CF hK hN hA rfl (fun aS H locs ls3 hP hD hS => ?_) 4 0 (fun _ => 0) H locs ls2 rfl hl2 hP hD hS
  obtain ⟨ad, f0, f1, f2⟩ : ∃ ad : Nat → Nat, ad o = h0 ∧ ad (o + 1) = q1 ∧ ∀ i, o + 2 ≤ i → ad i = aS i := ⟨fun i => if i < o + 1 then h0 else if i < o + 2 then q1 else aS i, if_pos (by omega), by show (if _ then _ else _) = _; rw [if_neg (by omega), if_pos (by omega)], fun i a => by show (if _ then _ else _) = _; rw [if_neg (by omega), if_neg (by omega)]⟩
  have ew : w3 cs ad o = (h0, .inr (3, [.int 0, .int 0, .ref q1])) :: ([(q1, fiA cs (fiF aS (o + 2) (4)))] ++ wfi cs aS (o + 2) (4)) := by
    unfold w3
    rw [f0, f1, wfi_c 4 (ad := ad) (ad' := aS) (fun i a b => f2 i a), fiF_c (ad := ad) (ad' := aS) (fun i a b => f2 i a)]
  rw [← ew] at hP hD
  exact W.vret hx hb hr (fun t ht hW => ⟨⟨ad, rfl, f0, by rw [ht]; exact hP, va_K.moved hW.alike hK, hD⟩, hS.F ht⟩) hS.2.2 dX3_init_38
def w8 (cs : CS) (ad : Nat → Nat) (o : Nat) : va_W := (ad o, .inr (8, [.ref (ad (o + 1)), .ref (ad (o + 53)), .ref (ad (o + 105)), .ref (ad (o + 315)), .ref (ad (o + 320)), .ref (ad (o + 331)), .int 0])) :: (w2 cs ad (o + 1) ++ w2 cs ad (o + 53) ++ w3 cs ad (o + 105) ++ w1 cs ad (o + 315) ++ w0 cs ad (o + 320) ++ w5 cs ad (o + 331))
theorem inX8_init_2 : ∀ w ∈ wsX20, w ∈ wsX8_init := fun w h => List.mem_cons_of_mem _ (List.mem_append_left _ (List.mem_append_left _ (List.mem_append_left _ (List.mem_append_left _ (List.mem_append_left _ (List.mem_append_left _ (List.mem_append_left _ (List.mem_append_left _ (List.mem_append_right _ h)))))))))
theorem inX8_init_8 : ∀ w ∈ wsX80, w ∈ wsX8_init := fun w h => List.mem_cons_of_mem _ (List.mem_append_left _ (List.mem_append_left _ (List.mem_append_left _ (List.mem_append_left _ (List.mem_append_left _ (List.mem_append_left _ (List.mem_append_left _ (List.mem_append_right _ h))))))))
theorem inX8_init_3 : ∀ w ∈ wsX30, w ∈ wsX8_init := fun w h => List.mem_cons_of_mem _ (List.mem_append_left _ (List.mem_append_left _ (List.mem_append_left _ (List.mem_append_left _ (List.mem_append_left _ (List.mem_append_left _ (List.mem_append_right _ h)))))))
theorem inX8_init_1 : ∀ w ∈ wsX10, w ∈ wsX8_init := fun w h => List.mem_cons_of_mem _ (List.mem_append_left _ (List.mem_append_left _ (List.mem_append_left _ (List.mem_append_left _ (List.mem_append_left _ (List.mem_append_right _ h))))))
theorem inX8_init_0 : ∀ w ∈ wsX00, w ∈ wsX8_init := fun w h => List.mem_cons_of_mem _ (List.mem_append_left _ (List.mem_append_left _ (List.mem_append_left _ (List.mem_append_left _ (List.mem_append_right _ h)))))
theorem inX8_init_5 : ∀ w ∈ wsX50, w ∈ wsX8_init := fun w h => List.mem_cons_of_mem _ (List.mem_append_left _ (List.mem_append_left _ (List.mem_append_left _ (List.mem_append_right _ h))))
theorem inX8_init_6 : ∀ w ∈ wsX60, w ∈ wsX8_init := fun w h => List.mem_cons_of_mem _ (List.mem_append_left _ (List.mem_append_left _ (List.mem_append_right _ h)))
theorem inX8_init_7 : ∀ w ∈ wsX70, w ∈ wsX8_init := fun w h => List.mem_cons_of_mem _ (List.mem_append_left _ (List.mem_append_right _ h))
theorem inX8_init_4 : ∀ w ∈ wsX40, w ∈ wsX8_init := fun w h => List.mem_cons_of_mem _ (List.mem_append_right _ h)
abbrev rmX8_init : Room := { frames := 6, cells := 333, slots := 37439, locals := 180 }
set_option maxHeartbeats 4000000 in
set_option maxRecDepth 100000 in
theorem ci_X8 (l : Launch) (D : va_G) (cs : CS) (o h0 sz : Nat) : Met l yX8_init wsX8_init rmX8_init (va_Pc [.ref h0] (fun U => U.heap.size = sz ∧ va_P D vwCl [(h0, .inr (8, [.null, .null, .null, .null, .null, .null, .int 0]))] U.heap ∧ va_K D vwCl (cty cs) U ∧ va_D (fun _ => True) [(h0, .inr (8, [.null, .null, .null, .null, .null, .null, .int 0]))] ∧ NI U)) (va_Qv (fun ad : Nat → Nat => ad o = h0) (fun ad t => va_P D vwCl (w8 cs ad o) t.heap ∧ va_K D vwCl (cty cs) t ∧ va_D (va_A [(h0, .inr (8, [.null, .null, .null, .null, .null, .null, .int 0]))] sz) (w8 cs ad o)) (va_A [(h0, .inr (8, [.null, .null, .null, .null, .null, .null, .int 0]))] sz)) 333 37439 (va_A [(h0, .inr (8, [.null, .null, .null, .null, .null, .null, .int 0]))] sz) := by
  refine Met.ofW (cc := cX8_init) (maxL := 1) (ret := none) (by decide) rfl ?_
  intro p e s m args below meth c s₁ B hml hv
  obtain ⟨rfl, hsz, hP, hK, hD0, hN⟩ := hv
  have hx := B.exec
  have hb := B.bytes
  have hr := B.returns
  have hts := atoms_spec (ws := wsX8_init) B.pre
  have hown : s.vm.findClass RX8 = some m.cls := findClass_of_methodNamed B.named
  have hin : meth.name = "<init>" := (name_of_methodNamed B.named B.method).1
  have CF : CallFix p m c cX8_init 1 s _ wsX8_init RX8 := ⟨hx, hb, hml, hown, hts⟩
  subst hsz
  have hD := hD0.self (sz := s.heap.size)
  generalize hAe : va_A [(h0, .inr (8, [.null, .null, .null, .null, .null, .null, .int 0]))] s.heap.size = A at hD ⊢
  have hA : ∀ q : Nat, s.heap.size ≤ q → A q := fun q h => by rw [← hAe]; exact Or.inr h
  have hS : va_S A s.heap s.heap [] := va_S.rf
  have hP : va_P D vwCl [(h0, .inr (8, [.null, .null, .null, .null, .null, .null, .int 0]))] s.heap := hP
  have hl := lv_entry ([.ref h0]) (n := 1) (Nat.le_of_ble_eq_true rfl)
  rw [lg_entry_eq]
  generalize (lg_sl ([.ref h0]) ++ List.replicate (1 - (lg_sl ([.ref h0])).length) Slot.unset).toArray = ls at hl ⊢
  have hl : lv_has ls 1 [(0, .ref h0)] := hl
  refine lv_aload_n hx hb dX8_init_0 rfl (lv_at hl 0 rfl) ?_
  refine W.objInit hx hb hown (hts _ (List.mem_of_getElem? (i := 1) rfl)) (hts _ (List.mem_of_getElem? (i := 2) rfl)) (hts _ (List.mem_of_getElem? (i := 3) rfl)) rfl (by rw [hml]; exact hl.1) rfl dX8_init_1 (Nat.le_of_ble_eq_true rfl) (Nat.le_of_ble_eq_true rfl) ?_
  refine W.eq (g2 := F0 m 4 ls []) rfl ?_
  refine lv_aload_n hx hb dX8_init_4 rfl (lv_at hl 0 rfl) ?_
  refine ncI (o := o + 1) (N := 8) (T := TX2) (ci := 2) (fs := [.null, .null, .null, .null, .int 0, .int 0, .int 0, .int 0]) (wk := fun ad => w2 cs ad (o + 1)) tyX2 CF hK hN hP hD hS hA (ci_X2 l D cs (o + 1)) rfl (fun j hj => by rcases (by omega : j = 0 ∨ j = 1 ∨ j = 2 ∨ j = 3 ∨ j = 4 ∨ j = 5 ∨ j = 6 ∨ j = 7) with rfl | rfl | rfl | rfl | rfl | rfl | rfl | rfl <;> rfl) inX8_init_2 tyX2_ok (List.mem_of_getElem? (i := 4) rfl) (List.mem_of_getElem? (i := 5) rfl) (List.mem_of_getElem? (i := 6) rfl) (List.mem_of_getElem? (i := 26) rfl) (List.mem_of_getElem? (i := 25) rfl) gX8_init_X2_init rfl rfl rfl rfl rfl ⟨by decide, by decide, by decide +kernel⟩ ⟨Nat.le_of_ble_eq_true rfl, Nat.le_of_ble_eq_true rfl⟩ (Nat.le_of_ble_eq_true rfl) (Nat.le_of_ble_eq_true rfl) dX8_init_5 dX8_init_8 dX8_init_9 hl.1 (Nat.le_of_ble_eq_true rfl) (fun b0 H locs hP hD hS => ?_)
  have hP : va_P D vwCl ((h0, .inr (8, [.null, .null, .null, .null, .null, .null, .int 0])) :: (w2 cs b0 (o + 1))) H := hP
  have hD : va_D A ((h0, .inr (8, [.null, .null, .null, .null, .null, .null, .int 0])) :: (w2 cs b0 (o + 1))) := hD
  refine va_putF (D := D) (ci := 8) (v := .ref (b0 (o + 1))) (ty := .object "HoleReel$Film") (C := RX8) (T := TX8) (N := 7) hx hb hts inX8_init_8 tyX8 tyX8_ok nmX8 hown hK hP hD hS 0 rfl rfl 0 (by decide) (hts _ (List.mem_of_getElem? (i := 7) rfl)) (fun _ h9 => h9) rfl hin rfl (by decide +kernel) rfl rfl (Nat.le_of_ble_eq_true rfl) dX8_init_12 (fun H locs hP hD hS => ?_)
  have hP : va_P D vwCl ((h0, .inr (8, [.ref (b0 (o + 1)), .null, .null, .null, .null, .null, .int 0])) :: (w2 cs b0 (o + 1))) H := hP
  have hD : va_D A ((h0, .inr (8, [.ref (b0 (o + 1)), .null, .null, .null, .null, .null, .int 0])) :: (w2 cs b0 (o + 1))) := hD
  refine lv_aload_n hx hb dX8_init_15 rfl (lv_at hl 0 rfl) ?_
  refine ncI (o := o + 53) (N := 8) (T := TX2) (ci := 2) (fs := [.null, .null, .null, .null, .int 0, .int 0, .int 0, .int 0]) (wk := fun ad => w2 cs ad (o + 53)) tyX2 CF hK hN hP hD hS hA (ci_X2 l D cs (o + 53)) rfl (fun j hj => by rcases (by omega : j = 0 ∨ j = 1 ∨ j = 2 ∨ j = 3 ∨ j = 4 ∨ j = 5 ∨ j = 6 ∨ j = 7) with rfl | rfl | rfl | rfl | rfl | rfl | rfl | rfl <;> rfl) inX8_init_2 tyX2_ok (List.mem_of_getElem? (i := 4) rfl) (List.mem_of_getElem? (i := 5) rfl) (List.mem_of_getElem? (i := 6) rfl) (List.mem_of_getElem? (i := 26) rfl) (List.mem_of_getElem? (i := 25) rfl) gX8_init_X2_init rfl rfl rfl rfl rfl ⟨by decide, by decide, by decide +kernel⟩ ⟨Nat.le_of_ble_eq_true rfl, Nat.le_of_ble_eq_true rfl⟩ (Nat.le_of_ble_eq_true rfl) (Nat.le_of_ble_eq_true rfl) dX8_init_16 dX8_init_19 dX8_init_20 hl.1 (Nat.le_of_ble_eq_true rfl) (fun b1 H locs hP hD hS => ?_)
  have hP : va_P D vwCl ((h0, .inr (8, [.ref (b0 (o + 1)), .null, .null, .null, .null, .null, .int 0])) :: (w2 cs b0 (o + 1) ++ w2 cs b1 (o + 53))) H := hP
  have hD : va_D A ((h0, .inr (8, [.ref (b0 (o + 1)), .null, .null, .null, .null, .null, .int 0])) :: (w2 cs b0 (o + 1) ++ w2 cs b1 (o + 53))) := hD
  refine va_putF (D := D) (ci := 8) (v := .ref (b1 (o + 53))) (ty := .object "HoleReel$Film") (C := RX8) (T := TX8) (N := 7) hx hb hts inX8_init_8 tyX8 tyX8_ok nmX8 hown hK hP hD hS 0 rfl rfl 1 (by decide) (hts _ (List.mem_of_getElem? (i := 8) rfl)) (fun _ h9 => h9) rfl hin rfl (by decide +kernel) rfl rfl (Nat.le_of_ble_eq_true rfl) dX8_init_23 (fun H locs hP hD hS => ?_)
  have hP : va_P D vwCl ((h0, .inr (8, [.ref (b0 (o + 1)), .ref (b1 (o + 53)), .null, .null, .null, .null, .int 0])) :: (w2 cs b0 (o + 1) ++ w2 cs b1 (o + 53))) H := hP
  have hD : va_D A ((h0, .inr (8, [.ref (b0 (o + 1)), .ref (b1 (o + 53)), .null, .null, .null, .null, .int 0])) :: (w2 cs b0 (o + 1) ++ w2 cs b1 (o + 53))) := hD
  refine lv_aload_n hx hb dX8_init_26 rfl (lv_at hl 0 rfl) ?_
  refine ncI (o := o + 105) (N := 3) (T := TX3) (ci := 3) (fs := [.int 0, .int 0, .null]) (wk := fun ad => w3 cs ad (o + 105)) tyX3 CF hK hN hP hD hS hA (ci_X3 l D cs (o + 105)) rfl (fun j hj => by rcases (by omega : j = 0 ∨ j = 1 ∨ j = 2) with rfl | rfl | rfl <;> rfl) inX8_init_3 tyX3_ok (List.mem_of_getElem? (i := 9) rfl) (List.mem_of_getElem? (i := 10) rfl) (List.mem_of_getElem? (i := 11) rfl) (List.mem_of_getElem? (i := 78) rfl) (List.mem_of_getElem? (i := 77) rfl) gX8_init_X3_init rfl rfl rfl rfl rfl ⟨by decide, by decide, by decide +kernel⟩ ⟨Nat.le_of_ble_eq_true rfl, Nat.le_of_ble_eq_true rfl⟩ (Nat.le_of_ble_eq_true rfl) (Nat.le_of_ble_eq_true rfl) dX8_init_27 dX8_init_30 dX8_init_31 hl.1 (Nat.le_of_ble_eq_true rfl) (fun b2 H locs hP hD hS => ?_)
  have hP : va_P D vwCl ((h0, .inr (8, [.ref (b0 (o + 1)), .ref (b1 (o + 53)), .null, .null, .null, .null, .int 0])) :: (w2 cs b0 (o + 1) ++ w2 cs b1 (o + 53) ++ w3 cs b2 (o + 105))) H := hP
  have hD : va_D A ((h0, .inr (8, [.ref (b0 (o + 1)), .ref (b1 (o + 53)), .null, .null, .null, .null, .int 0])) :: (w2 cs b0 (o + 1) ++ w2 cs b1 (o + 53) ++ w3 cs b2 (o + 105))) := hD
  refine va_putF (D := D) (ci := 8) (v := .ref (b2 (o + 105))) (ty := .object "HoleReel$History") (C := RX8) (T := TX8) (N := 7) hx hb hts inX8_init_8 tyX8 tyX8_ok nmX8 hown hK hP hD hS 0 rfl rfl 2 (by decide) (hts _ (List.mem_of_getElem? (i := 12) rfl)) (fun _ h9 => h9) rfl hin rfl (by decide +kernel) rfl rfl (Nat.le_of_ble_eq_true rfl) dX8_init_34 (fun H locs hP hD hS => ?_)
  have hP : va_P D vwCl ((h0, .inr (8, [.ref (b0 (o + 1)), .ref (b1 (o + 53)), .ref (b2 (o + 105)), .null, .null, .null, .int 0])) :: (w2 cs b0 (o + 1) ++ w2 cs b1 (o + 53) ++ w3 cs b2 (o + 105))) H := hP
  have hD : va_D A ((h0, .inr (8, [.ref (b0 (o + 1)), .ref (b1 (o + 53)), .ref (b2 (o + 105)), .null, .null, .null, .int 0])) :: (w2 cs b0 (o + 1) ++ w2 cs b1 (o + 53) ++ w3 cs b2 (o + 105))) := hD
  refine lv_aload_n hx hb dX8_init_37 rfl (lv_at hl 0 rfl) ?_
  refine ncN (o := o + 315) (N := 8) (T := TX1) (ci := 1) (fs := [.int 0, .int 0, .null, .null, .null, .null, .int 0, .int 0]) (wk := fun ad => w1 cs ad (o + 315)) tyX1 CF hK hN hP hD hS hA (ci_X1 l D cs (o + 315)) rfl (fun j hj => by rcases (by omega : j = 0 ∨ j = 1 ∨ j = 2 ∨ j = 3 ∨ j = 4 ∨ j = 5 ∨ j = 6 ∨ j = 7) with rfl | rfl | rfl | rfl | rfl | rfl | rfl | rfl <;> rfl) inX8_init_1 tyX1_ok (List.mem_of_getElem? (i := 13) rfl) (List.mem_of_getElem? (i := 14) rfl) (List.mem_of_getElem? (i := 15) rfl) (List.mem_of_getElem? (i := 84) rfl) (host := "HoleReel") (fun U z => z.2.2.2.2.2.1) gX8_init_X1_init_n28 rfl rfl rfl rfl rfl ⟨by decide, by decide, by decide +kernel⟩ ⟨Nat.le_of_ble_eq_true rfl, Nat.le_of_ble_eq_true rfl⟩ (Nat.le_of_ble_eq_true rfl) (Nat.le_of_ble_eq_true rfl) dX8_init_38 dX8_init_41 dX8_init_42 hl.1 (Nat.le_of_ble_eq_true rfl) (fun b3 H locs hP hD hS => ?_)
  have hP : va_P D vwCl ((h0, .inr (8, [.ref (b0 (o + 1)), .ref (b1 (o + 53)), .ref (b2 (o + 105)), .null, .null, .null, .int 0])) :: (w2 cs b0 (o + 1) ++ w2 cs b1 (o + 53) ++ w3 cs b2 (o + 105) ++ w1 cs b3 (o + 315))) H := hP
  have hD : va_D A ((h0, .inr (8, [.ref (b0 (o + 1)), .ref (b1 (o + 53)), .ref (b2 (o + 105)), .null, .null, .null, .int 0])) :: (w2 cs b0 (o + 1) ++ w2 cs b1 (o + 53) ++ w3 cs b2 (o + 105) ++ w1 cs b3 (o + 315))) := hD
  refine va_putF (D := D) (ci := 8) (v := .ref (b3 (o + 315))) (ty := .object "HoleReel$EditText") (C := RX8) (T := TX8) (N := 7) hx hb hts inX8_init_8 tyX8 tyX8_ok nmX8 hown hK hP hD hS 0 rfl rfl 3 (by decide) (hts _ (List.mem_of_getElem? (i := 16) rfl)) (fun _ h9 => h9) rfl hin rfl (by decide +kernel) rfl rfl (Nat.le_of_ble_eq_true rfl) dX8_init_45 (fun H locs hP hD hS => ?_)
  have hP : va_P D vwCl ((h0, .inr (8, [.ref (b0 (o + 1)), .ref (b1 (o + 53)), .ref (b2 (o + 105)), .ref (b3 (o + 315)), .null, .null, .int 0])) :: (w2 cs b0 (o + 1) ++ w2 cs b1 (o + 53) ++ w3 cs b2 (o + 105) ++ w1 cs b3 (o + 315))) H := hP
  have hD : va_D A ((h0, .inr (8, [.ref (b0 (o + 1)), .ref (b1 (o + 53)), .ref (b2 (o + 105)), .ref (b3 (o + 315)), .null, .null, .int 0])) :: (w2 cs b0 (o + 1) ++ w2 cs b1 (o + 53) ++ w3 cs b2 (o + 105) ++ w1 cs b3 (o + 315))) := hD
  refine lv_aload_n hx hb dX8_init_48 rfl (lv_at hl 0 rfl) ?_
  refine ncN (o := o + 320) (N := 2) (T := TX0) (ci := 0) (fs := [.null, .null]) (wk := fun ad => w0 cs ad (o + 320)) tyX0 CF hK hN hP hD hS hA (ci_X0 l D cs (o + 320)) rfl (fun j hj => by rcases (by omega : j = 0 ∨ j = 1) with rfl | rfl <;> rfl) inX8_init_0 tyX0_ok (List.mem_of_getElem? (i := 17) rfl) (List.mem_of_getElem? (i := 18) rfl) (List.mem_of_getElem? (i := 19) rfl) (List.mem_of_getElem? (i := 51) rfl) (host := "HoleReel") (fun U z => z.2.2.2.2.2.2.1) gX8_init_X0_init_n35 rfl rfl rfl rfl rfl ⟨by decide, by decide, by decide +kernel⟩ ⟨Nat.le_of_ble_eq_true rfl, Nat.le_of_ble_eq_true rfl⟩ (Nat.le_of_ble_eq_true rfl) (Nat.le_of_ble_eq_true rfl) dX8_init_49 dX8_init_52 dX8_init_53 hl.1 (Nat.le_of_ble_eq_true rfl) (fun b4 H locs hP hD hS => ?_)
  have hP : va_P D vwCl ((h0, .inr (8, [.ref (b0 (o + 1)), .ref (b1 (o + 53)), .ref (b2 (o + 105)), .ref (b3 (o + 315)), .null, .null, .int 0])) :: (w2 cs b0 (o + 1) ++ w2 cs b1 (o + 53) ++ w3 cs b2 (o + 105) ++ w1 cs b3 (o + 315) ++ w0 cs b4 (o + 320))) H := hP
  have hD : va_D A ((h0, .inr (8, [.ref (b0 (o + 1)), .ref (b1 (o + 53)), .ref (b2 (o + 105)), .ref (b3 (o + 315)), .null, .null, .int 0])) :: (w2 cs b0 (o + 1) ++ w2 cs b1 (o + 53) ++ w3 cs b2 (o + 105) ++ w1 cs b3 (o + 315) ++ w0 cs b4 (o + 320))) := hD
  refine va_putF (D := D) (ci := 8) (v := .ref (b4 (o + 320))) (ty := .object "HoleReel$Bench") (C := RX8) (T := TX8) (N := 7) hx hb hts inX8_init_8 tyX8 tyX8_ok nmX8 hown hK hP hD hS 0 rfl rfl 4 (by decide) (hts _ (List.mem_of_getElem? (i := 20) rfl)) (fun _ h9 => h9) rfl hin rfl (by decide +kernel) rfl rfl (Nat.le_of_ble_eq_true rfl) dX8_init_56 (fun H locs hP hD hS => ?_)
  have hP : va_P D vwCl ((h0, .inr (8, [.ref (b0 (o + 1)), .ref (b1 (o + 53)), .ref (b2 (o + 105)), .ref (b3 (o + 315)), .ref (b4 (o + 320)), .null, .int 0])) :: (w2 cs b0 (o + 1) ++ w2 cs b1 (o + 53) ++ w3 cs b2 (o + 105) ++ w1 cs b3 (o + 315) ++ w0 cs b4 (o + 320))) H := hP
  have hD : va_D A ((h0, .inr (8, [.ref (b0 (o + 1)), .ref (b1 (o + 53)), .ref (b2 (o + 105)), .ref (b3 (o + 315)), .ref (b4 (o + 320)), .null, .int 0])) :: (w2 cs b0 (o + 1) ++ w2 cs b1 (o + 53) ++ w3 cs b2 (o + 105) ++ w1 cs b3 (o + 315) ++ w0 cs b4 (o + 320))) := hD
  refine lv_aload_n hx hb dX8_init_59 rfl (lv_at hl 0 rfl) ?_
  refine ncN (o := o + 331) (N := 2) (T := TX5) (ci := 5) (fs := [.null, .null]) (wk := fun ad => w5 cs ad (o + 331)) tyX5 CF hK hN hP hD hS hA (ci_X5 l D cs (o + 331)) rfl (fun j hj => by rcases (by omega : j = 0 ∨ j = 1) with rfl | rfl <;> rfl) inX8_init_5 tyX5_ok (List.mem_of_getElem? (i := 21) rfl) (List.mem_of_getElem? (i := 22) rfl) (List.mem_of_getElem? (i := 23) rfl) (List.mem_of_getElem? (i := 72) rfl) (host := "HoleReel") (fun U z => z.2.2.2.2.2.2.2.1) gX8_init_X5_init_n42 rfl rfl rfl rfl rfl ⟨by decide, by decide, by decide +kernel⟩ ⟨Nat.le_of_ble_eq_true rfl, Nat.le_of_ble_eq_true rfl⟩ (Nat.le_of_ble_eq_true rfl) (Nat.le_of_ble_eq_true rfl) dX8_init_60 dX8_init_63 dX8_init_64 hl.1 (Nat.le_of_ble_eq_true rfl) (fun b5 H locs hP hD hS => ?_)
  have hP : va_P D vwCl ((h0, .inr (8, [.ref (b0 (o + 1)), .ref (b1 (o + 53)), .ref (b2 (o + 105)), .ref (b3 (o + 315)), .ref (b4 (o + 320)), .null, .int 0])) :: (w2 cs b0 (o + 1) ++ w2 cs b1 (o + 53) ++ w3 cs b2 (o + 105) ++ w1 cs b3 (o + 315) ++ w0 cs b4 (o + 320) ++ w5 cs b5 (o + 331))) H := hP
  have hD : va_D A ((h0, .inr (8, [.ref (b0 (o + 1)), .ref (b1 (o + 53)), .ref (b2 (o + 105)), .ref (b3 (o + 315)), .ref (b4 (o + 320)), .null, .int 0])) :: (w2 cs b0 (o + 1) ++ w2 cs b1 (o + 53) ++ w3 cs b2 (o + 105) ++ w1 cs b3 (o + 315) ++ w0 cs b4 (o + 320) ++ w5 cs b5 (o + 331))) := hD
  refine va_putF (D := D) (ci := 8) (v := .ref (b5 (o + 331))) (ty := .object "HoleReel$Show") (C := RX8) (T := TX8) (N := 7) hx hb hts inX8_init_8 tyX8 tyX8_ok nmX8 hown hK hP hD hS 0 rfl rfl 5 (by decide) (hts _ (List.mem_of_getElem? (i := 24) rfl)) (fun _ h9 => h9) rfl hin rfl (by decide +kernel) rfl rfl (Nat.le_of_ble_eq_true rfl) dX8_init_67 (fun H locs hP hD hS => ?_)
  have hP : va_P D vwCl ((h0, .inr (8, [.ref (b0 (o + 1)), .ref (b1 (o + 53)), .ref (b2 (o + 105)), .ref (b3 (o + 315)), .ref (b4 (o + 320)), .ref (b5 (o + 331)), .int 0])) :: (w2 cs b0 (o + 1) ++ w2 cs b1 (o + 53) ++ w3 cs b2 (o + 105) ++ w1 cs b3 (o + 315) ++ w0 cs b4 (o + 320) ++ w5 cs b5 (o + 331))) H := hP
  have hD : va_D A ((h0, .inr (8, [.ref (b0 (o + 1)), .ref (b1 (o + 53)), .ref (b2 (o + 105)), .ref (b3 (o + 315)), .ref (b4 (o + 320)), .ref (b5 (o + 331)), .int 0])) :: (w2 cs b0 (o + 1) ++ w2 cs b1 (o + 53) ++ w3 cs b2 (o + 105) ++ w1 cs b3 (o + 315) ++ w0 cs b4 (o + 320) ++ w5 cs b5 (o + 331))) := hD
  obtain ⟨ad, f0, f1, f2, f3, f4, f5, f6⟩ : ∃ ad : Nat → Nat, ad o = h0 ∧ (∀ i, o + 1 ≤ i → i < o + 53 → ad i = b0 i) ∧ (∀ i, o + 53 ≤ i → i < o + 105 → ad i = b1 i) ∧ (∀ i, o + 105 ≤ i → i < o + 315 → ad i = b2 i) ∧ (∀ i, o + 315 ≤ i → i < o + 320 → ad i = b3 i) ∧ (∀ i, o + 320 ≤ i → i < o + 331 → ad i = b4 i) ∧ (∀ i, o + 331 ≤ i → i < o + 334 → ad i = b5 i) := by
    refine ⟨fun i => if i < o + 1 then h0 else if i < o + 53 then b0 i else if i < o + 105 then b1 i else if i < o + 315 then b2 i else if i < o + 320 then b3 i else if i < o + 331 then b4 i else b5 i, ?_, fun i a b => ?_, fun i a b => ?_, fun i a b => ?_, fun i a b => ?_, fun i a b => ?_, fun i a b => ?_⟩
    all_goals dsimp only
    · rw [if_pos (by omega)]
    · rw [if_neg (by omega), if_pos (by omega)]
    · rw [if_neg (by omega), if_neg (by omega), if_pos (by omega)]
    · rw [if_neg (by omega), if_neg (by omega), if_neg (by omega), if_pos (by omega)]
    · rw [if_neg (by omega), if_neg (by omega), if_neg (by omega), if_neg (by omega), if_pos (by omega)]
    · rw [if_neg (by omega), if_neg (by omega), if_neg (by omega), if_neg (by omega), if_neg (by omega), if_pos (by omega)]
    · rw [if_neg (by omega), if_neg (by omega), if_neg (by omega), if_neg (by omega), if_neg (by omega), if_neg (by omega)]
  have ew : w8 cs ad o = (h0, .inr (8, [.ref (b0 (o + 1)), .ref (b1 (o + 53)), .ref (b2 (o + 105)), .ref (b3 (o + 315)), .ref (b4 (o + 320)), .ref (b5 (o + 331)), .int 0])) :: (w2 cs b0 (o + 1) ++ w2 cs b1 (o + 53) ++ w3 cs b2 (o + 105) ++ w1 cs b3 (o + 315) ++ w0 cs b4 (o + 320) ++ w5 cs b5 (o + 331)) := by
    unfold w8
    rw [f0, f1 (o + 1) (by omega) (by omega), f2 (o + 53) (by omega) (by omega), f3 (o + 105) (by omega) (by omega), f4 (o + 315) (by omega) (by omega), f5 (o + 320) (by omega) (by omega), f6 (o + 331) (by omega) (by omega), w2_c (o := o + 1) (ad := ad) (ad' := b0) (fun i a b => f1 i (by omega) (by omega)), w2_c (o := o + 53) (ad := ad) (ad' := b1) (fun i a b => f2 i (by omega) (by omega)), w3_c (o := o + 105) (ad := ad) (ad' := b2) (fun i a b => f3 i (by omega) (by omega)), w1_c (o := o + 315) (ad := ad) (ad' := b3) (fun i a b => f4 i (by omega) (by omega)), w0_c (o := o + 320) (ad := ad) (ad' := b4) (fun i a b => f5 i (by omega) (by omega)), w5_c (o := o + 331) (ad := ad) (ad' := b5) (fun i a b => f6 i (by omega) (by omega))]
  rw [← ew] at hP hD
  exact W.vret hx hb hr (fun t ht hW => ⟨⟨ad, rfl, f0, by rw [ht]; exact hP, va_K.moved hW.alike hK, hD⟩, hS.F ht⟩) hS.2.2 dX8_init_70
