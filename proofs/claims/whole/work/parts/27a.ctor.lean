/-! THE CONSTRUCTORS: of the leaves (laid by wip/whole/gen_init.py) -/
/-- the arrays' classes: of chars, of ints, of films, of shows -/
abbrev CS : Type := ClassId × ClassId × ClassId × ClassId
abbrev cty (cs : CS) : List (ClassId × FieldType) := [(cs.1, .char), (cs.2.1, .int), (cs.2.2.1, .object "HoleReel$Film"), (cs.2.2.2, .object "HoleReel$Show")]
section
variable {D : va_G} {cs : CS} {s : State} {cA : ClassId} {t : FieldType}
theorem cls_old (h : va_K D vwCl (cty cs ++ [(cA, t)]) s) : va_K D vwCl (cty cs) s := ⟨h.1, fun k q hq => h.2 k q (by rw [List.getElem?_append_left (lt_of_get hq)]; exact hq)⟩
theorem cls_i (h : va_K D vwCl (cty cs ++ [(cA, .int)]) s) : cA = cs.2.1 := by
  have h1 : s.vm.findClass _ = some cs.2.1 := (h.2 1 (cs.2.1, .int) rfl).2
  have h2 : s.vm.findClass _ = some cA := (h.2 4 (cA, .int) rfl).2
  exact Option.some.inj (h2.symm.trans h1)
theorem cls_s (h : va_K D vwCl (cty cs ++ [(cA, .object "HoleReel$Show")]) s) : cA = cs.2.2.2 := by
  obtain ⟨_, _, -, -, -, h1⟩ := (h.2 3 (cs.2.2.2, .object "HoleReel$Show") rfl).2
  obtain ⟨_, _, -, -, -, h2⟩ := (h.2 4 (cA, .object "HoleReel$Show") rfl).2
  exact Option.some.inj (h2.symm.trans h1)
theorem cls_f (h : va_K D vwCl (cty cs ++ [(cA, .object "HoleReel$Film")]) s) : cA = cs.2.2.1 := by
  obtain ⟨_, _, -, -, -, h1⟩ := (h.2 2 (cs.2.2.1, .object "HoleReel$Film") rfl).2
  obtain ⟨_, _, -, -, -, h2⟩ := (h.2 4 (cA, .object "HoleReel$Film") rfl).2
  exact Option.some.inj (h2.symm.trans h1)
theorem cls_c (h : va_K D vwCl (cty cs ++ [(cA, .char)]) s) : cA = cs.1 := by
  have h1 : s.vm.findClass _ = some cs.1 := (h.2 0 (cs.1, .char) rfl).2
  have h2 : s.vm.findClass _ = some cA := (h.2 4 (cA, .char) rfl).2
  exact Option.some.inj (h2.symm.trans h1)
end
theorem ad_of (o : Nat) (as : List Nat) : ∃ ad : Nat → Nat, ∀ k a, as[k]? = some a → ad (o + k) = a := ⟨fun i => as.getD (i - o) 0, fun k a h => by
  show as.getD (o + k - o) 0 = a
  rw [Nat.add_sub_cancel_left, List.getD_eq_getElem?_getD, h]
  rfl⟩
abbrev iA (cs : CS) (n : Nat) (f : Nat → Int32) : va_E := .inl (cs.2.1, n, .inl f)
abbrev cA0 (cs : CS) (n : Nat) (f : Nat → Int32) : va_E := .inl (cs.1, n, .inl f)
abbrev z_ : Nat → Int32 := fun _ => 0
/-- the links of nested constructors -/
def NI (U : State) : Prop := va_Nw (.methodLinkNest RX0 11 yX4_init "HoleReel") U ∧ va_Nw (.methodLinkNest RX2 11 yX6_init "HoleReel") U ∧ va_Nw (.methodLinkNest RX2 20 yX0_init "HoleReel") U ∧ va_Nw (.methodLinkNest RX2 33 yX7_init "HoleReel") U ∧ va_Nw (.methodLinkNest RX2 45 yX5_init "HoleReel") U ∧ va_Nw (.methodLinkNest RX8 28 yX1_init "HoleReel") U ∧ va_Nw (.methodLinkNest RX8 35 yX0_init "HoleReel") U ∧ va_Nw (.methodLinkNest RX8 42 yX5_init "HoleReel") U ∧ va_AO "HoleReel$Film" U ∧ va_AO "HoleReel$Show" U
theorem NI.warm {s U : State} (hW : s.WarmedH U.vm) (h : NI s) : NI U := ⟨va_Nw.warmM hW h.1, va_Nw.warmM hW h.2.1, va_Nw.warmM hW h.2.2.1, va_Nw.warmM hW h.2.2.2.1, va_Nw.warmM hW h.2.2.2.2.1, va_Nw.warmM hW h.2.2.2.2.2.1, va_Nw.warmM hW h.2.2.2.2.2.2.1, va_Nw.warmM hW h.2.2.2.2.2.2.2.1, va_AO.moved hW.alike h.2.2.2.2.2.2.2.2.1, va_AO.moved hW.alike h.2.2.2.2.2.2.2.2.2⟩
theorem NI.same {u U : State} (e : u.vm = U.vm) (h : NI u) : NI U := ⟨va_Nw.same rfl e h.1, va_Nw.same rfl e h.2.1, va_Nw.same rfl e h.2.2.1, va_Nw.same rfl e h.2.2.2.1, va_Nw.same rfl e h.2.2.2.2.1, va_Nw.same rfl e h.2.2.2.2.2.1, va_Nw.same rfl e h.2.2.2.2.2.2.1, va_Nw.same rfl e h.2.2.2.2.2.2.2.1, va_AO.moved (by rw [e]; exact Vm.Alike.refl _) h.2.2.2.2.2.2.2.2.1, va_AO.moved (by rw [e]; exact Vm.Alike.refl _) h.2.2.2.2.2.2.2.2.2⟩
def w4 (cs : CS) (ad : Nat → Nat) (o : Nat) : va_W := [(ad o, .inr (4, [.int 0, .ref (ad (o + 1)), .ref (ad (o + 2)), .ref (ad (o + 3)), .ref (ad (o + 4))])), (ad (o + 1), iA cs 20 z_), (ad (o + 2), iA cs 20 z_), (ad (o + 3), iA cs 20 z_), (ad (o + 4), iA cs 20 z_)]
theorem inX4_own : ∀ w ∈ wsX40, w ∈ wsX4_init := fun w h => List.mem_cons_of_mem _ (List.mem_append_right _ h)
abbrev rmX4_init : Room := { frames := 1, cells := 4, slots := 80, locals := 40 }
set_option maxHeartbeats 4000000 in
set_option maxRecDepth 100000 in
theorem ci_X4 (l : Launch) (D : va_G) (cs : CS) (o h0 sz : Nat) : Met l yX4_init wsX4_init rmX4_init (va_Pc [.ref h0] (fun U => U.heap.size = sz ∧ va_P D vwCl [(h0, .inr (4, [.int 0, .null, .null, .null, .null]))] U.heap ∧ va_K D vwCl (cty cs) U ∧ va_D (fun _ => True) [(h0, .inr (4, [.int 0, .null, .null, .null, .null]))] ∧ NI U)) (va_Qv (fun ad : Nat → Nat => ad o = h0) (fun ad t => va_P D vwCl (w4 cs ad o) t.heap ∧ va_K D vwCl (cty cs) t ∧ va_D (va_A [(h0, .inr (4, [.int 0, .null, .null, .null, .null]))] sz) (w4 cs ad o)) (va_A [(h0, .inr (4, [.int 0, .null, .null, .null, .null]))] sz)) 4 80 (va_A [(h0, .inr (4, [.int 0, .null, .null, .null, .null]))] sz) := by
  refine Met.ofW (cc := cX4_init) (maxL := 1) (ret := none) (by decide) rfl ?_
  intro p e s m args below meth c s₁ B hml hv
  obtain ⟨rfl, hsz, hP, hK, hD0, hN⟩ := hv
  have hx := B.exec
  have hb := B.bytes
  have hr := B.returns
  have hts := atoms_spec (ws := wsX4_init) B.pre
  have hown : s.vm.findClass RX4 = some m.cls := findClass_of_methodNamed B.named
  have hin : meth.name = "<init>" := (name_of_methodNamed B.named B.method).1
  subst hsz
  have hD := hD0.self (sz := s.heap.size)
  generalize hAe : va_A [(h0, .inr (4, [.int 0, .null, .null, .null, .null]))] s.heap.size = A at hD ⊢
  have hA : ∀ q : Nat, s.heap.size ≤ q → A q := fun q h => by rw [← hAe]; exact Or.inr h
  have hS : va_S A s.heap s.heap [] := va_S.rf
  have hP : va_P D vwCl [(h0, .inr (4, [.int 0, .null, .null, .null, .null]))] s.heap := hP
  have hl := lv_entry ([.ref h0]) (n := 1) (Nat.le_of_ble_eq_true rfl)
  rw [lg_entry_eq]
  generalize (lg_sl ([.ref h0]) ++ List.replicate (1 - (lg_sl ([.ref h0])).length) Slot.unset).toArray = ls at hl ⊢
  have hl : lv_has ls 1 [(0, .ref h0)] := hl
  refine lv_aload_n hx hb dX4_init_0 rfl (lv_at hl 0 rfl) ?_
  refine W.objInit hx hb hown (hts _ (List.mem_of_getElem? (i := 1) rfl)) (hts _ (List.mem_of_getElem? (i := 2) rfl)) (hts _ (List.mem_of_getElem? (i := 3) rfl)) rfl (by rw [hml]; exact hl.1) rfl dX4_init_1 (Nat.le_of_ble_eq_true rfl) (Nat.le_of_ble_eq_true rfl) ?_
  refine W.eq (g2 := F0 m 4 ls []) rfl ?_
  refine lv_aload_n hx hb dX4_init_4 rfl (lv_at hl 0 rfl) ?_
  refine lv_bipush (v := nI 20) hx hb dX4_init_5 (by decide) ?_
  refine va_newa (ty := .int) (N' := 20) (a0 := (20, .inl z_)) hx hb (hts _ (List.mem_of_getElem? (i := 4) rfl)) rfl hK hP hD hS hA (fun cA => rfl) (by decide) (by decide) (by decide) (Nat.le_of_ble_eq_true rfl) (Nat.le_of_ble_eq_true rfl) dX4_init_7 (fun q1 cA H hK1 hP hD hS => ?_)
  have hcA := cls_i hK1
  subst hcA
  clear hK1
  have hP : va_P D vwCl [(h0, .inr (4, [.int 0, .null, .null, .null, .null])), (q1, iA cs 20 z_)] H := hP
  have hD : va_D A [(h0, .inr (4, [.int 0, .null, .null, .null, .null])), (q1, iA cs 20 z_)] := hD
  refine va_putF (D := D) (ci := 4) (v := .ref q1) (ty := .array .int) (C := RX4) (T := TX4) (N := 5) hx hb hts inX4_own tyX4 tyX4_ok nmX4 hown hK hP hD hS 0 rfl rfl 1 (by decide) (hts _ (List.mem_of_getElem? (i := 5) rfl)) (fun _ h9 => h9) rfl hin rfl (by decide +kernel) rfl rfl (Nat.le_of_ble_eq_true rfl) dX4_init_9 (fun H locs hP hD hS => ?_)
  have hP : va_P D vwCl [(h0, .inr (4, [.int 0, .ref q1, .null, .null, .null])), (q1, iA cs 20 z_)] H := hP
  have hD : va_D A [(h0, .inr (4, [.int 0, .ref q1, .null, .null, .null])), (q1, iA cs 20 z_)] := hD
  refine lv_aload_n hx hb dX4_init_12 rfl (lv_at hl 0 rfl) ?_
  refine lv_bipush (v := nI 20) hx hb dX4_init_13 (by decide) ?_
  refine va_newa (ty := .int) (N' := 20) (a0 := (20, .inl z_)) hx hb (hts _ (List.mem_of_getElem? (i := 4) rfl)) rfl hK hP hD hS hA (fun cA => rfl) (by decide) (by decide) (by decide) (Nat.le_of_ble_eq_true rfl) (Nat.le_of_ble_eq_true rfl) dX4_init_15 (fun q2 cA H hK1 hP hD hS => ?_)
  have hcA := cls_i hK1
  subst hcA
  clear hK1
  have hP : va_P D vwCl [(h0, .inr (4, [.int 0, .ref q1, .null, .null, .null])), (q1, iA cs 20 z_), (q2, iA cs 20 z_)] H := hP
  have hD : va_D A [(h0, .inr (4, [.int 0, .ref q1, .null, .null, .null])), (q1, iA cs 20 z_), (q2, iA cs 20 z_)] := hD
  refine va_putF (D := D) (ci := 4) (v := .ref q2) (ty := .array .int) (C := RX4) (T := TX4) (N := 5) hx hb hts inX4_own tyX4 tyX4_ok nmX4 hown hK hP hD hS 0 rfl rfl 2 (by decide) (hts _ (List.mem_of_getElem? (i := 6) rfl)) (fun _ h9 => h9) rfl hin rfl (by decide +kernel) rfl rfl (Nat.le_of_ble_eq_true rfl) dX4_init_17 (fun H locs hP hD hS => ?_)
  have hP : va_P D vwCl [(h0, .inr (4, [.int 0, .ref q1, .ref q2, .null, .null])), (q1, iA cs 20 z_), (q2, iA cs 20 z_)] H := hP
  have hD : va_D A [(h0, .inr (4, [.int 0, .ref q1, .ref q2, .null, .null])), (q1, iA cs 20 z_), (q2, iA cs 20 z_)] := hD
  refine lv_aload_n hx hb dX4_init_20 rfl (lv_at hl 0 rfl) ?_
  refine lv_bipush (v := nI 20) hx hb dX4_init_21 (by decide) ?_
  refine va_newa (ty := .int) (N' := 20) (a0 := (20, .inl z_)) hx hb (hts _ (List.mem_of_getElem? (i := 4) rfl)) rfl hK hP hD hS hA (fun cA => rfl) (by decide) (by decide) (by decide) (Nat.le_of_ble_eq_true rfl) (Nat.le_of_ble_eq_true rfl) dX4_init_23 (fun q3 cA H hK1 hP hD hS => ?_)
  have hcA := cls_i hK1
  subst hcA
  clear hK1
  have hP : va_P D vwCl [(h0, .inr (4, [.int 0, .ref q1, .ref q2, .null, .null])), (q1, iA cs 20 z_), (q2, iA cs 20 z_), (q3, iA cs 20 z_)] H := hP
  have hD : va_D A [(h0, .inr (4, [.int 0, .ref q1, .ref q2, .null, .null])), (q1, iA cs 20 z_), (q2, iA cs 20 z_), (q3, iA cs 20 z_)] := hD
  refine va_putF (D := D) (ci := 4) (v := .ref q3) (ty := .array .int) (C := RX4) (T := TX4) (N := 5) hx hb hts inX4_own tyX4 tyX4_ok nmX4 hown hK hP hD hS 0 rfl rfl 3 (by decide) (hts _ (List.mem_of_getElem? (i := 7) rfl)) (fun _ h9 => h9) rfl hin rfl (by decide +kernel) rfl rfl (Nat.le_of_ble_eq_true rfl) dX4_init_25 (fun H locs hP hD hS => ?_)
  have hP : va_P D vwCl [(h0, .inr (4, [.int 0, .ref q1, .ref q2, .ref q3, .null])), (q1, iA cs 20 z_), (q2, iA cs 20 z_), (q3, iA cs 20 z_)] H := hP
  have hD : va_D A [(h0, .inr (4, [.int 0, .ref q1, .ref q2, .ref q3, .null])), (q1, iA cs 20 z_), (q2, iA cs 20 z_), (q3, iA cs 20 z_)] := hD
  refine lv_aload_n hx hb dX4_init_28 rfl (lv_at hl 0 rfl) ?_
  refine lv_bipush (v := nI 20) hx hb dX4_init_29 (by decide) ?_
  refine va_newa (ty := .int) (N' := 20) (a0 := (20, .inl z_)) hx hb (hts _ (List.mem_of_getElem? (i := 4) rfl)) rfl hK hP hD hS hA (fun cA => rfl) (by decide) (by decide) (by decide) (Nat.le_of_ble_eq_true rfl) (Nat.le_of_ble_eq_true rfl) dX4_init_31 (fun q4 cA H hK1 hP hD hS => ?_)
  have hcA := cls_i hK1
  subst hcA
  clear hK1
  have hP : va_P D vwCl [(h0, .inr (4, [.int 0, .ref q1, .ref q2, .ref q3, .null])), (q1, iA cs 20 z_), (q2, iA cs 20 z_), (q3, iA cs 20 z_), (q4, iA cs 20 z_)] H := hP
  have hD : va_D A [(h0, .inr (4, [.int 0, .ref q1, .ref q2, .ref q3, .null])), (q1, iA cs 20 z_), (q2, iA cs 20 z_), (q3, iA cs 20 z_), (q4, iA cs 20 z_)] := hD
  refine va_putF (D := D) (ci := 4) (v := .ref q4) (ty := .array .int) (C := RX4) (T := TX4) (N := 5) hx hb hts inX4_own tyX4 tyX4_ok nmX4 hown hK hP hD hS 0 rfl rfl 4 (by decide) (hts _ (List.mem_of_getElem? (i := 8) rfl)) (fun _ h9 => h9) rfl hin rfl (by decide +kernel) rfl rfl (Nat.le_of_ble_eq_true rfl) dX4_init_33 (fun H locs hP hD hS => ?_)
  have hP : va_P D vwCl [(h0, .inr (4, [.int 0, .ref q1, .ref q2, .ref q3, .ref q4])), (q1, iA cs 20 z_), (q2, iA cs 20 z_), (q3, iA cs 20 z_), (q4, iA cs 20 z_)] H := hP
  have hD : va_D A [(h0, .inr (4, [.int 0, .ref q1, .ref q2, .ref q3, .ref q4])), (q1, iA cs 20 z_), (q2, iA cs 20 z_), (q3, iA cs 20 z_), (q4, iA cs 20 z_)] := hD
  obtain ⟨ad, had⟩ := ad_of o [h0, q1, q2, q3, q4]
  have e0 : ad o = h0 := had 0 h0 rfl
  have e1 : ad (o + 1) = q1 := had 1 q1 rfl
  have e2 : ad (o + 2) = q2 := had 2 q2 rfl
  have e3 : ad (o + 3) = q3 := had 3 q3 rfl
  have e4 : ad (o + 4) = q4 := had 4 q4 rfl
  have ew : w4 cs ad o = [(h0, .inr (4, [.int 0, .ref q1, .ref q2, .ref q3, .ref q4])), (q1, iA cs 20 z_), (q2, iA cs 20 z_), (q3, iA cs 20 z_), (q4, iA cs 20 z_)] := by unfold w4; rw [e0, e1, e2, e3, e4]
  rw [← ew] at hP hD
  refine W.widen (k := 4) (n := 80) (Nat.le_of_ble_eq_true rfl) (Nat.le_of_ble_eq_true rfl) ?_
  exact W.vret hx hb hr (fun t ht hW => ⟨⟨ad, rfl, e0, by rw [ht]; exact hP, va_K.moved hW.alike hK, hD⟩, hS.F ht⟩) hS.2.2 dX4_init_36
def w6 (cs : CS) (ad : Nat → Nat) (o : Nat) : va_W := [(ad o, .inr (6, [.int 0, .ref (ad (o + 1)), .ref (ad (o + 2)), .ref (ad (o + 3)), .ref (ad (o + 4))])), (ad (o + 1), iA cs 12 z_), (ad (o + 2), iA cs 12 z_), (ad (o + 3), iA cs 480 z_), (ad (o + 4), iA cs 480 z_)]
theorem inX6_own : ∀ w ∈ wsX60, w ∈ wsX6_init := fun w h => List.mem_cons_of_mem _ (List.mem_append_right _ h)
abbrev rmX6_init : Room := { frames := 1, cells := 4, slots := 984, locals := 40 }
set_option maxHeartbeats 4000000 in
set_option maxRecDepth 100000 in
theorem ci_X6 (l : Launch) (D : va_G) (cs : CS) (o h0 sz : Nat) : Met l yX6_init wsX6_init rmX6_init (va_Pc [.ref h0] (fun U => U.heap.size = sz ∧ va_P D vwCl [(h0, .inr (6, [.int 0, .null, .null, .null, .null]))] U.heap ∧ va_K D vwCl (cty cs) U ∧ va_D (fun _ => True) [(h0, .inr (6, [.int 0, .null, .null, .null, .null]))] ∧ NI U)) (va_Qv (fun ad : Nat → Nat => ad o = h0) (fun ad t => va_P D vwCl (w6 cs ad o) t.heap ∧ va_K D vwCl (cty cs) t ∧ va_D (va_A [(h0, .inr (6, [.int 0, .null, .null, .null, .null]))] sz) (w6 cs ad o)) (va_A [(h0, .inr (6, [.int 0, .null, .null, .null, .null]))] sz)) 4 984 (va_A [(h0, .inr (6, [.int 0, .null, .null, .null, .null]))] sz) := by
  refine Met.ofW (cc := cX6_init) (maxL := 1) (ret := none) (by decide) rfl ?_
  intro p e s m args below meth c s₁ B hml hv
  obtain ⟨rfl, hsz, hP, hK, hD0, hN⟩ := hv
  have hx := B.exec
  have hb := B.bytes
  have hr := B.returns
  have hts := atoms_spec (ws := wsX6_init) B.pre
  have hown : s.vm.findClass RX6 = some m.cls := findClass_of_methodNamed B.named
  have hin : meth.name = "<init>" := (name_of_methodNamed B.named B.method).1
  subst hsz
  have hD := hD0.self (sz := s.heap.size)
  generalize hAe : va_A [(h0, .inr (6, [.int 0, .null, .null, .null, .null]))] s.heap.size = A at hD ⊢
  have hA : ∀ q : Nat, s.heap.size ≤ q → A q := fun q h => by rw [← hAe]; exact Or.inr h
  have hS : va_S A s.heap s.heap [] := va_S.rf
  have hP : va_P D vwCl [(h0, .inr (6, [.int 0, .null, .null, .null, .null]))] s.heap := hP
  have hl := lv_entry ([.ref h0]) (n := 1) (Nat.le_of_ble_eq_true rfl)
  rw [lg_entry_eq]
  generalize (lg_sl ([.ref h0]) ++ List.replicate (1 - (lg_sl ([.ref h0])).length) Slot.unset).toArray = ls at hl ⊢
  have hl : lv_has ls 1 [(0, .ref h0)] := hl
  refine lv_aload_n hx hb dX6_init_0 rfl (lv_at hl 0 rfl) ?_
  refine W.objInit hx hb hown (hts _ (List.mem_of_getElem? (i := 1) rfl)) (hts _ (List.mem_of_getElem? (i := 2) rfl)) (hts _ (List.mem_of_getElem? (i := 3) rfl)) rfl (by rw [hml]; exact hl.1) rfl dX6_init_1 (Nat.le_of_ble_eq_true rfl) (Nat.le_of_ble_eq_true rfl) ?_
  refine W.eq (g2 := F0 m 4 ls []) rfl ?_
  refine lv_aload_n hx hb dX6_init_4 rfl (lv_at hl 0 rfl) ?_
  refine lv_bipush (v := nI 12) hx hb dX6_init_5 (by decide) ?_
  refine va_newa (ty := .int) (N' := 12) (a0 := (12, .inl z_)) hx hb (hts _ (List.mem_of_getElem? (i := 4) rfl)) rfl hK hP hD hS hA (fun cA => rfl) (by decide) (by decide) (by decide) (Nat.le_of_ble_eq_true rfl) (Nat.le_of_ble_eq_true rfl) dX6_init_7 (fun q1 cA H hK1 hP hD hS => ?_)
  have hcA := cls_i hK1
  subst hcA
  clear hK1
  have hP : va_P D vwCl [(h0, .inr (6, [.int 0, .null, .null, .null, .null])), (q1, iA cs 12 z_)] H := hP
  have hD : va_D A [(h0, .inr (6, [.int 0, .null, .null, .null, .null])), (q1, iA cs 12 z_)] := hD
  refine va_putF (D := D) (ci := 6) (v := .ref q1) (ty := .array .int) (C := RX6) (T := TX6) (N := 5) hx hb hts inX6_own tyX6 tyX6_ok nmX6 hown hK hP hD hS 0 rfl rfl 1 (by decide) (hts _ (List.mem_of_getElem? (i := 5) rfl)) (fun _ h9 => h9) rfl hin rfl (by decide +kernel) rfl rfl (Nat.le_of_ble_eq_true rfl) dX6_init_9 (fun H locs hP hD hS => ?_)
  have hP : va_P D vwCl [(h0, .inr (6, [.int 0, .ref q1, .null, .null, .null])), (q1, iA cs 12 z_)] H := hP
  have hD : va_D A [(h0, .inr (6, [.int 0, .ref q1, .null, .null, .null])), (q1, iA cs 12 z_)] := hD
  refine lv_aload_n hx hb dX6_init_12 rfl (lv_at hl 0 rfl) ?_
  refine lv_bipush (v := nI 12) hx hb dX6_init_13 (by decide) ?_
  refine va_newa (ty := .int) (N' := 12) (a0 := (12, .inl z_)) hx hb (hts _ (List.mem_of_getElem? (i := 4) rfl)) rfl hK hP hD hS hA (fun cA => rfl) (by decide) (by decide) (by decide) (Nat.le_of_ble_eq_true rfl) (Nat.le_of_ble_eq_true rfl) dX6_init_15 (fun q2 cA H hK1 hP hD hS => ?_)
  have hcA := cls_i hK1
  subst hcA
  clear hK1
  have hP : va_P D vwCl [(h0, .inr (6, [.int 0, .ref q1, .null, .null, .null])), (q1, iA cs 12 z_), (q2, iA cs 12 z_)] H := hP
  have hD : va_D A [(h0, .inr (6, [.int 0, .ref q1, .null, .null, .null])), (q1, iA cs 12 z_), (q2, iA cs 12 z_)] := hD
  refine va_putF (D := D) (ci := 6) (v := .ref q2) (ty := .array .int) (C := RX6) (T := TX6) (N := 5) hx hb hts inX6_own tyX6 tyX6_ok nmX6 hown hK hP hD hS 0 rfl rfl 2 (by decide) (hts _ (List.mem_of_getElem? (i := 6) rfl)) (fun _ h9 => h9) rfl hin rfl (by decide +kernel) rfl rfl (Nat.le_of_ble_eq_true rfl) dX6_init_17 (fun H locs hP hD hS => ?_)
  have hP : va_P D vwCl [(h0, .inr (6, [.int 0, .ref q1, .ref q2, .null, .null])), (q1, iA cs 12 z_), (q2, iA cs 12 z_)] H := hP
  have hD : va_D A [(h0, .inr (6, [.int 0, .ref q1, .ref q2, .null, .null])), (q1, iA cs 12 z_), (q2, iA cs 12 z_)] := hD
  refine lv_aload_n hx hb dX6_init_20 rfl (lv_at hl 0 rfl) ?_
  refine lv_sipush (v := nI 480) hx hb dX6_init_21 (by decide) ?_
  refine va_newa (ty := .int) (N' := 480) (a0 := (480, .inl z_)) hx hb (hts _ (List.mem_of_getElem? (i := 4) rfl)) rfl hK hP hD hS hA (fun cA => rfl) (by decide) (by decide) (by decide) (Nat.le_of_ble_eq_true rfl) (Nat.le_of_ble_eq_true rfl) dX6_init_24 (fun q3 cA H hK1 hP hD hS => ?_)
  have hcA := cls_i hK1
  subst hcA
  clear hK1
  have hP : va_P D vwCl [(h0, .inr (6, [.int 0, .ref q1, .ref q2, .null, .null])), (q1, iA cs 12 z_), (q2, iA cs 12 z_), (q3, iA cs 480 z_)] H := hP
  have hD : va_D A [(h0, .inr (6, [.int 0, .ref q1, .ref q2, .null, .null])), (q1, iA cs 12 z_), (q2, iA cs 12 z_), (q3, iA cs 480 z_)] := hD
  refine va_putF (D := D) (ci := 6) (v := .ref q3) (ty := .array .int) (C := RX6) (T := TX6) (N := 5) hx hb hts inX6_own tyX6 tyX6_ok nmX6 hown hK hP hD hS 0 rfl rfl 3 (by decide) (hts _ (List.mem_of_getElem? (i := 7) rfl)) (fun _ h9 => h9) rfl hin rfl (by decide +kernel) rfl rfl (Nat.le_of_ble_eq_true rfl) dX6_init_26 (fun H locs hP hD hS => ?_)
  have hP : va_P D vwCl [(h0, .inr (6, [.int 0, .ref q1, .ref q2, .ref q3, .null])), (q1, iA cs 12 z_), (q2, iA cs 12 z_), (q3, iA cs 480 z_)] H := hP
  have hD : va_D A [(h0, .inr (6, [.int 0, .ref q1, .ref q2, .ref q3, .null])), (q1, iA cs 12 z_), (q2, iA cs 12 z_), (q3, iA cs 480 z_)] := hD
  refine lv_aload_n hx hb dX6_init_29 rfl (lv_at hl 0 rfl) ?_
  refine lv_sipush (v := nI 480) hx hb dX6_init_30 (by decide) ?_
  refine va_newa (ty := .int) (N' := 480) (a0 := (480, .inl z_)) hx hb (hts _ (List.mem_of_getElem? (i := 4) rfl)) rfl hK hP hD hS hA (fun cA => rfl) (by decide) (by decide) (by decide) (Nat.le_of_ble_eq_true rfl) (Nat.le_of_ble_eq_true rfl) dX6_init_33 (fun q4 cA H hK1 hP hD hS => ?_)
  have hcA := cls_i hK1
  subst hcA
  clear hK1
  have hP : va_P D vwCl [(h0, .inr (6, [.int 0, .ref q1, .ref q2, .ref q3, .null])), (q1, iA cs 12 z_), (q2, iA cs 12 z_), (q3, iA cs 480 z_), (q4, iA cs 480 z_)] H := hP
  have hD : va_D A [(h0, .inr (6, [.int 0, .ref q1, .ref q2, .ref q3, .null])), (q1, iA cs 12 z_), (q2, iA cs 12 z_), (q3, iA cs 480 z_), (q4, iA cs 480 z_)] := hD
  refine va_putF (D := D) (ci := 6) (v := .ref q4) (ty := .array .int) (C := RX6) (T := TX6) (N := 5) hx hb hts inX6_own tyX6 tyX6_ok nmX6 hown hK hP hD hS 0 rfl rfl 4 (by decide) (hts _ (List.mem_of_getElem? (i := 8) rfl)) (fun _ h9 => h9) rfl hin rfl (by decide +kernel) rfl rfl (Nat.le_of_ble_eq_true rfl) dX6_init_35 (fun H locs hP hD hS => ?_)
  have hP : va_P D vwCl [(h0, .inr (6, [.int 0, .ref q1, .ref q2, .ref q3, .ref q4])), (q1, iA cs 12 z_), (q2, iA cs 12 z_), (q3, iA cs 480 z_), (q4, iA cs 480 z_)] H := hP
  have hD : va_D A [(h0, .inr (6, [.int 0, .ref q1, .ref q2, .ref q3, .ref q4])), (q1, iA cs 12 z_), (q2, iA cs 12 z_), (q3, iA cs 480 z_), (q4, iA cs 480 z_)] := hD
  obtain ⟨ad, had⟩ := ad_of o [h0, q1, q2, q3, q4]
  have e0 : ad o = h0 := had 0 h0 rfl
  have e1 : ad (o + 1) = q1 := had 1 q1 rfl
  have e2 : ad (o + 2) = q2 := had 2 q2 rfl
  have e3 : ad (o + 3) = q3 := had 3 q3 rfl
  have e4 : ad (o + 4) = q4 := had 4 q4 rfl
  have ew : w6 cs ad o = [(h0, .inr (6, [.int 0, .ref q1, .ref q2, .ref q3, .ref q4])), (q1, iA cs 12 z_), (q2, iA cs 12 z_), (q3, iA cs 480 z_), (q4, iA cs 480 z_)] := by unfold w6; rw [e0, e1, e2, e3, e4]
  rw [← ew] at hP hD
  refine W.widen (k := 4) (n := 984) (Nat.le_of_ble_eq_true rfl) (Nat.le_of_ble_eq_true rfl) ?_
  exact W.vret hx hb hr (fun t ht hW => ⟨⟨ad, rfl, e0, by rw [ht]; exact hP, va_K.moved hW.alike hK, hD⟩, hS.F ht⟩) hS.2.2 dX6_init_38
def w7 (cs : CS) (ad : Nat → Nat) (o : Nat) : va_W := [(ad o, .inr (7, [.int 0, .ref (ad (o + 1)), .ref (ad (o + 2)), .ref (ad (o + 3))])), (ad (o + 1), iA cs 8 z_), (ad (o + 2), iA cs 8 z_), (ad (o + 3), iA cs 8 z_)]
theorem inX7_own : ∀ w ∈ wsX70, w ∈ wsX7_init := fun w h => List.mem_cons_of_mem _ (List.mem_append_right _ h)
abbrev rmX7_init : Room := { frames := 1, cells := 3, slots := 24, locals := 40 }
set_option maxHeartbeats 4000000 in
set_option maxRecDepth 100000 in
theorem ci_X7 (l : Launch) (D : va_G) (cs : CS) (o h0 sz : Nat) : Met l yX7_init wsX7_init rmX7_init (va_Pc [.ref h0] (fun U => U.heap.size = sz ∧ va_P D vwCl [(h0, .inr (7, [.int 0, .null, .null, .null]))] U.heap ∧ va_K D vwCl (cty cs) U ∧ va_D (fun _ => True) [(h0, .inr (7, [.int 0, .null, .null, .null]))] ∧ NI U)) (va_Qv (fun ad : Nat → Nat => ad o = h0) (fun ad t => va_P D vwCl (w7 cs ad o) t.heap ∧ va_K D vwCl (cty cs) t ∧ va_D (va_A [(h0, .inr (7, [.int 0, .null, .null, .null]))] sz) (w7 cs ad o)) (va_A [(h0, .inr (7, [.int 0, .null, .null, .null]))] sz)) 3 24 (va_A [(h0, .inr (7, [.int 0, .null, .null, .null]))] sz) := by
  refine Met.ofW (cc := cX7_init) (maxL := 1) (ret := none) (by decide) rfl ?_
  intro p e s m args below meth c s₁ B hml hv
  obtain ⟨rfl, hsz, hP, hK, hD0, hN⟩ := hv
  have hx := B.exec
  have hb := B.bytes
  have hr := B.returns
  have hts := atoms_spec (ws := wsX7_init) B.pre
  have hown : s.vm.findClass RX7 = some m.cls := findClass_of_methodNamed B.named
  have hin : meth.name = "<init>" := (name_of_methodNamed B.named B.method).1
  subst hsz
  have hD := hD0.self (sz := s.heap.size)
  generalize hAe : va_A [(h0, .inr (7, [.int 0, .null, .null, .null]))] s.heap.size = A at hD ⊢
  have hA : ∀ q : Nat, s.heap.size ≤ q → A q := fun q h => by rw [← hAe]; exact Or.inr h
  have hS : va_S A s.heap s.heap [] := va_S.rf
  have hP : va_P D vwCl [(h0, .inr (7, [.int 0, .null, .null, .null]))] s.heap := hP
  have hl := lv_entry ([.ref h0]) (n := 1) (Nat.le_of_ble_eq_true rfl)
  rw [lg_entry_eq]
  generalize (lg_sl ([.ref h0]) ++ List.replicate (1 - (lg_sl ([.ref h0])).length) Slot.unset).toArray = ls at hl ⊢
  have hl : lv_has ls 1 [(0, .ref h0)] := hl
  refine lv_aload_n hx hb dX7_init_0 rfl (lv_at hl 0 rfl) ?_
  refine W.objInit hx hb hown (hts _ (List.mem_of_getElem? (i := 1) rfl)) (hts _ (List.mem_of_getElem? (i := 2) rfl)) (hts _ (List.mem_of_getElem? (i := 3) rfl)) rfl (by rw [hml]; exact hl.1) rfl dX7_init_1 (Nat.le_of_ble_eq_true rfl) (Nat.le_of_ble_eq_true rfl) ?_
  refine W.eq (g2 := F0 m 4 ls []) rfl ?_
  refine lv_aload_n hx hb dX7_init_4 rfl (lv_at hl 0 rfl) ?_
  refine lv_bipush (v := nI 8) hx hb dX7_init_5 (by decide) ?_
  refine va_newa (ty := .int) (N' := 8) (a0 := (8, .inl z_)) hx hb (hts _ (List.mem_of_getElem? (i := 4) rfl)) rfl hK hP hD hS hA (fun cA => rfl) (by decide) (by decide) (by decide) (Nat.le_of_ble_eq_true rfl) (Nat.le_of_ble_eq_true rfl) dX7_init_7 (fun q1 cA H hK1 hP hD hS => ?_)
  have hcA := cls_i hK1
  subst hcA
  clear hK1
  have hP : va_P D vwCl [(h0, .inr (7, [.int 0, .null, .null, .null])), (q1, iA cs 8 z_)] H := hP
  have hD : va_D A [(h0, .inr (7, [.int 0, .null, .null, .null])), (q1, iA cs 8 z_)] := hD
  refine va_putF (D := D) (ci := 7) (v := .ref q1) (ty := .array .int) (C := RX7) (T := TX7) (N := 4) hx hb hts inX7_own tyX7 tyX7_ok nmX7 hown hK hP hD hS 0 rfl rfl 1 (by decide) (hts _ (List.mem_of_getElem? (i := 5) rfl)) (fun _ h9 => h9) rfl hin rfl (by decide +kernel) rfl rfl (Nat.le_of_ble_eq_true rfl) dX7_init_9 (fun H locs hP hD hS => ?_)
  have hP : va_P D vwCl [(h0, .inr (7, [.int 0, .ref q1, .null, .null])), (q1, iA cs 8 z_)] H := hP
  have hD : va_D A [(h0, .inr (7, [.int 0, .ref q1, .null, .null])), (q1, iA cs 8 z_)] := hD
  refine lv_aload_n hx hb dX7_init_12 rfl (lv_at hl 0 rfl) ?_
  refine lv_bipush (v := nI 8) hx hb dX7_init_13 (by decide) ?_
  refine va_newa (ty := .int) (N' := 8) (a0 := (8, .inl z_)) hx hb (hts _ (List.mem_of_getElem? (i := 4) rfl)) rfl hK hP hD hS hA (fun cA => rfl) (by decide) (by decide) (by decide) (Nat.le_of_ble_eq_true rfl) (Nat.le_of_ble_eq_true rfl) dX7_init_15 (fun q2 cA H hK1 hP hD hS => ?_)
  have hcA := cls_i hK1
  subst hcA
  clear hK1
  have hP : va_P D vwCl [(h0, .inr (7, [.int 0, .ref q1, .null, .null])), (q1, iA cs 8 z_), (q2, iA cs 8 z_)] H := hP
  have hD : va_D A [(h0, .inr (7, [.int 0, .ref q1, .null, .null])), (q1, iA cs 8 z_), (q2, iA cs 8 z_)] := hD
  refine va_putF (D := D) (ci := 7) (v := .ref q2) (ty := .array .int) (C := RX7) (T := TX7) (N := 4) hx hb hts inX7_own tyX7 tyX7_ok nmX7 hown hK hP hD hS 0 rfl rfl 2 (by decide) (hts _ (List.mem_of_getElem? (i := 6) rfl)) (fun _ h9 => h9) rfl hin rfl (by decide +kernel) rfl rfl (Nat.le_of_ble_eq_true rfl) dX7_init_17 (fun H locs hP hD hS => ?_)
  have hP : va_P D vwCl [(h0, .inr (7, [.int 0, .ref q1, .ref q2, .null])), (q1, iA cs 8 z_), (q2, iA cs 8 z_)] H := hP
  have hD : va_D A [(h0, .inr (7, [.int 0, .ref q1, .ref q2, .null])), (q1, iA cs 8 z_), (q2, iA cs 8 z_)] := hD
  refine lv_aload_n hx hb dX7_init_20 rfl (lv_at hl 0 rfl) ?_
  refine lv_bipush (v := nI 8) hx hb dX7_init_21 (by decide) ?_
  refine va_newa (ty := .int) (N' := 8) (a0 := (8, .inl z_)) hx hb (hts _ (List.mem_of_getElem? (i := 4) rfl)) rfl hK hP hD hS hA (fun cA => rfl) (by decide) (by decide) (by decide) (Nat.le_of_ble_eq_true rfl) (Nat.le_of_ble_eq_true rfl) dX7_init_23 (fun q3 cA H hK1 hP hD hS => ?_)
  have hcA := cls_i hK1
  subst hcA
  clear hK1
  have hP : va_P D vwCl [(h0, .inr (7, [.int 0, .ref q1, .ref q2, .null])), (q1, iA cs 8 z_), (q2, iA cs 8 z_), (q3, iA cs 8 z_)] H := hP
  have hD : va_D A [(h0, .inr (7, [.int 0, .ref q1, .ref q2, .null])), (q1, iA cs 8 z_), (q2, iA cs 8 z_), (q3, iA cs 8 z_)] := hD
  refine va_putF (D := D) (ci := 7) (v := .ref q3) (ty := .array .int) (C := RX7) (T := TX7) (N := 4) hx hb hts inX7_own tyX7 tyX7_ok nmX7 hown hK hP hD hS 0 rfl rfl 3 (by decide) (hts _ (List.mem_of_getElem? (i := 7) rfl)) (fun _ h9 => h9) rfl hin rfl (by decide +kernel) rfl rfl (Nat.le_of_ble_eq_true rfl) dX7_init_25 (fun H locs hP hD hS => ?_)
  have hP : va_P D vwCl [(h0, .inr (7, [.int 0, .ref q1, .ref q2, .ref q3])), (q1, iA cs 8 z_), (q2, iA cs 8 z_), (q3, iA cs 8 z_)] H := hP
  have hD : va_D A [(h0, .inr (7, [.int 0, .ref q1, .ref q2, .ref q3])), (q1, iA cs 8 z_), (q2, iA cs 8 z_), (q3, iA cs 8 z_)] := hD
  obtain ⟨ad, had⟩ := ad_of o [h0, q1, q2, q3]
  have e0 : ad o = h0 := had 0 h0 rfl
  have e1 : ad (o + 1) = q1 := had 1 q1 rfl
  have e2 : ad (o + 2) = q2 := had 2 q2 rfl
  have e3 : ad (o + 3) = q3 := had 3 q3 rfl
  have ew : w7 cs ad o = [(h0, .inr (7, [.int 0, .ref q1, .ref q2, .ref q3])), (q1, iA cs 8 z_), (q2, iA cs 8 z_), (q3, iA cs 8 z_)] := by unfold w7; rw [e0, e1, e2, e3]
  rw [← ew] at hP hD
  refine W.widen (k := 3) (n := 24) (Nat.le_of_ble_eq_true rfl) (Nat.le_of_ble_eq_true rfl) ?_
  exact W.vret hx hb hr (fun t ht hW => ⟨⟨ad, rfl, e0, by rw [ht]; exact hP, va_K.moved hW.alike hK, hD⟩, hS.F ht⟩) hS.2.2 dX7_init_28
def w5 (cs : CS) (ad : Nat → Nat) (o : Nat) : va_W := [(ad o, .inr (5, [.ref (ad (o + 1)), .ref (ad (o + 2))])), (ad (o + 1), iA cs 8 z_), (ad (o + 2), iA cs 480 z_)]
theorem inX5_own : ∀ w ∈ wsX50, w ∈ wsX5_init := fun w h => List.mem_cons_of_mem _ (List.mem_append_right _ h)
abbrev rmX5_init : Room := { frames := 1, cells := 2, slots := 488, locals := 40 }
set_option maxHeartbeats 4000000 in
set_option maxRecDepth 100000 in
theorem ci_X5 (l : Launch) (D : va_G) (cs : CS) (o h0 sz : Nat) : Met l yX5_init wsX5_init rmX5_init (va_Pc [.ref h0] (fun U => U.heap.size = sz ∧ va_P D vwCl [(h0, .inr (5, [.null, .null]))] U.heap ∧ va_K D vwCl (cty cs) U ∧ va_D (fun _ => True) [(h0, .inr (5, [.null, .null]))] ∧ NI U)) (va_Qv (fun ad : Nat → Nat => ad o = h0) (fun ad t => va_P D vwCl (w5 cs ad o) t.heap ∧ va_K D vwCl (cty cs) t ∧ va_D (va_A [(h0, .inr (5, [.null, .null]))] sz) (w5 cs ad o)) (va_A [(h0, .inr (5, [.null, .null]))] sz)) 2 488 (va_A [(h0, .inr (5, [.null, .null]))] sz) := by
  refine Met.ofW (cc := cX5_init) (maxL := 1) (ret := none) (by decide) rfl ?_
  intro p e s m args below meth c s₁ B hml hv
  obtain ⟨rfl, hsz, hP, hK, hD0, hN⟩ := hv
  have hx := B.exec
  have hb := B.bytes
  have hr := B.returns
  have hts := atoms_spec (ws := wsX5_init) B.pre
  have hown : s.vm.findClass RX5 = some m.cls := findClass_of_methodNamed B.named
  have hin : meth.name = "<init>" := (name_of_methodNamed B.named B.method).1
  subst hsz
  have hD := hD0.self (sz := s.heap.size)
  generalize hAe : va_A [(h0, .inr (5, [.null, .null]))] s.heap.size = A at hD ⊢
  have hA : ∀ q : Nat, s.heap.size ≤ q → A q := fun q h => by rw [← hAe]; exact Or.inr h
  have hS : va_S A s.heap s.heap [] := va_S.rf
  have hP : va_P D vwCl [(h0, .inr (5, [.null, .null]))] s.heap := hP
  have hl := lv_entry ([.ref h0]) (n := 1) (Nat.le_of_ble_eq_true rfl)
  rw [lg_entry_eq]
  generalize (lg_sl ([.ref h0]) ++ List.replicate (1 - (lg_sl ([.ref h0])).length) Slot.unset).toArray = ls at hl ⊢
  have hl : lv_has ls 1 [(0, .ref h0)] := hl
  refine lv_aload_n hx hb dX5_init_0 rfl (lv_at hl 0 rfl) ?_
  refine W.objInit hx hb hown (hts _ (List.mem_of_getElem? (i := 1) rfl)) (hts _ (List.mem_of_getElem? (i := 2) rfl)) (hts _ (List.mem_of_getElem? (i := 3) rfl)) rfl (by rw [hml]; exact hl.1) rfl dX5_init_1 (Nat.le_of_ble_eq_true rfl) (Nat.le_of_ble_eq_true rfl) ?_
  refine W.eq (g2 := F0 m 4 ls []) rfl ?_
  refine lv_aload_n hx hb dX5_init_4 rfl (lv_at hl 0 rfl) ?_
  refine lv_bipush (v := nI 8) hx hb dX5_init_5 (by decide) ?_
  refine va_newa (ty := .int) (N' := 8) (a0 := (8, .inl z_)) hx hb (hts _ (List.mem_of_getElem? (i := 4) rfl)) rfl hK hP hD hS hA (fun cA => rfl) (by decide) (by decide) (by decide) (Nat.le_of_ble_eq_true rfl) (Nat.le_of_ble_eq_true rfl) dX5_init_7 (fun q1 cA H hK1 hP hD hS => ?_)
  have hcA := cls_i hK1
  subst hcA
  clear hK1
  have hP : va_P D vwCl [(h0, .inr (5, [.null, .null])), (q1, iA cs 8 z_)] H := hP
  have hD : va_D A [(h0, .inr (5, [.null, .null])), (q1, iA cs 8 z_)] := hD
  refine va_putF (D := D) (ci := 5) (v := .ref q1) (ty := .array .int) (C := RX5) (T := TX5) (N := 2) hx hb hts inX5_own tyX5 tyX5_ok nmX5 hown hK hP hD hS 0 rfl rfl 0 (by decide) (hts _ (List.mem_of_getElem? (i := 5) rfl)) (fun _ h9 => h9) rfl hin rfl (by decide +kernel) rfl rfl (Nat.le_of_ble_eq_true rfl) dX5_init_9 (fun H locs hP hD hS => ?_)
  have hP : va_P D vwCl [(h0, .inr (5, [.ref q1, .null])), (q1, iA cs 8 z_)] H := hP
  have hD : va_D A [(h0, .inr (5, [.ref q1, .null])), (q1, iA cs 8 z_)] := hD
  refine lv_aload_n hx hb dX5_init_12 rfl (lv_at hl 0 rfl) ?_
  refine lv_sipush (v := nI 480) hx hb dX5_init_13 (by decide) ?_
  refine va_newa (ty := .int) (N' := 480) (a0 := (480, .inl z_)) hx hb (hts _ (List.mem_of_getElem? (i := 4) rfl)) rfl hK hP hD hS hA (fun cA => rfl) (by decide) (by decide) (by decide) (Nat.le_of_ble_eq_true rfl) (Nat.le_of_ble_eq_true rfl) dX5_init_16 (fun q2 cA H hK1 hP hD hS => ?_)
  have hcA := cls_i hK1
  subst hcA
  clear hK1
  have hP : va_P D vwCl [(h0, .inr (5, [.ref q1, .null])), (q1, iA cs 8 z_), (q2, iA cs 480 z_)] H := hP
  have hD : va_D A [(h0, .inr (5, [.ref q1, .null])), (q1, iA cs 8 z_), (q2, iA cs 480 z_)] := hD
  refine va_putF (D := D) (ci := 5) (v := .ref q2) (ty := .array .int) (C := RX5) (T := TX5) (N := 2) hx hb hts inX5_own tyX5 tyX5_ok nmX5 hown hK hP hD hS 0 rfl rfl 1 (by decide) (hts _ (List.mem_of_getElem? (i := 6) rfl)) (fun _ h9 => h9) rfl hin rfl (by decide +kernel) rfl rfl (Nat.le_of_ble_eq_true rfl) dX5_init_18 (fun H locs hP hD hS => ?_)
  have hP : va_P D vwCl [(h0, .inr (5, [.ref q1, .ref q2])), (q1, iA cs 8 z_), (q2, iA cs 480 z_)] H := hP
  have hD : va_D A [(h0, .inr (5, [.ref q1, .ref q2])), (q1, iA cs 8 z_), (q2, iA cs 480 z_)] := hD
  obtain ⟨ad, had⟩ := ad_of o [h0, q1, q2]
  have e0 : ad o = h0 := had 0 h0 rfl
  have e1 : ad (o + 1) = q1 := had 1 q1 rfl
  have e2 : ad (o + 2) = q2 := had 2 q2 rfl
  have ew : w5 cs ad o = [(h0, .inr (5, [.ref q1, .ref q2])), (q1, iA cs 8 z_), (q2, iA cs 480 z_)] := by unfold w5; rw [e0, e1, e2]
  rw [← ew] at hP hD
  refine W.widen (k := 2) (n := 488) (Nat.le_of_ble_eq_true rfl) (Nat.le_of_ble_eq_true rfl) ?_
  exact W.vret hx hb hr (fun t ht hW => ⟨⟨ad, rfl, e0, by rw [ht]; exact hP, va_K.moved hW.alike hK, hD⟩, hS.F ht⟩) hS.2.2 dX5_init_21
def w1 (cs : CS) (ad : Nat → Nat) (o : Nat) : va_W := [(ad o, .inr (1, [.int 0, .int 0, .ref (ad (o + 1)), .ref (ad (o + 2)), .ref (ad (o + 3)), .ref (ad (o + 4)), .int 0, .int 0])), (ad (o + 1), iA cs 20 z_), (ad (o + 2), iA cs 20 z_), (ad (o + 3), iA cs 20 z_), (ad (o + 4), cA0 cs 60 z_)]
theorem inX1_own : ∀ w ∈ wsX10, w ∈ wsX1_init := fun w h => List.mem_cons_of_mem _ (List.mem_append_right _ h)
abbrev rmX1_init : Room := { frames := 1, cells := 4, slots := 120, locals := 40 }
set_option maxHeartbeats 4000000 in
set_option maxRecDepth 100000 in
theorem ci_X1 (l : Launch) (D : va_G) (cs : CS) (o h0 sz : Nat) : Met l yX1_init wsX1_init rmX1_init (va_Pc [.ref h0] (fun U => U.heap.size = sz ∧ va_P D vwCl [(h0, .inr (1, [.int 0, .int 0, .null, .null, .null, .null, .int 0, .int 0]))] U.heap ∧ va_K D vwCl (cty cs) U ∧ va_D (fun _ => True) [(h0, .inr (1, [.int 0, .int 0, .null, .null, .null, .null, .int 0, .int 0]))] ∧ NI U)) (va_Qv (fun ad : Nat → Nat => ad o = h0) (fun ad t => va_P D vwCl (w1 cs ad o) t.heap ∧ va_K D vwCl (cty cs) t ∧ va_D (va_A [(h0, .inr (1, [.int 0, .int 0, .null, .null, .null, .null, .int 0, .int 0]))] sz) (w1 cs ad o)) (va_A [(h0, .inr (1, [.int 0, .int 0, .null, .null, .null, .null, .int 0, .int 0]))] sz)) 4 120 (va_A [(h0, .inr (1, [.int 0, .int 0, .null, .null, .null, .null, .int 0, .int 0]))] sz) := by
  refine Met.ofW (cc := cX1_init) (maxL := 1) (ret := none) (by decide) rfl ?_
  intro p e s m args below meth c s₁ B hml hv
  obtain ⟨rfl, hsz, hP, hK, hD0, hN⟩ := hv
  have hx := B.exec
  have hb := B.bytes
  have hr := B.returns
  have hts := atoms_spec (ws := wsX1_init) B.pre
  have hown : s.vm.findClass RX1 = some m.cls := findClass_of_methodNamed B.named
  have hin : meth.name = "<init>" := (name_of_methodNamed B.named B.method).1
  subst hsz
  have hD := hD0.self (sz := s.heap.size)
  generalize hAe : va_A [(h0, .inr (1, [.int 0, .int 0, .null, .null, .null, .null, .int 0, .int 0]))] s.heap.size = A at hD ⊢
  have hA : ∀ q : Nat, s.heap.size ≤ q → A q := fun q h => by rw [← hAe]; exact Or.inr h
  have hS : va_S A s.heap s.heap [] := va_S.rf
  have hP : va_P D vwCl [(h0, .inr (1, [.int 0, .int 0, .null, .null, .null, .null, .int 0, .int 0]))] s.heap := hP
  have hl := lv_entry ([.ref h0]) (n := 1) (Nat.le_of_ble_eq_true rfl)
  rw [lg_entry_eq]
  generalize (lg_sl ([.ref h0]) ++ List.replicate (1 - (lg_sl ([.ref h0])).length) Slot.unset).toArray = ls at hl ⊢
  have hl : lv_has ls 1 [(0, .ref h0)] := hl
  refine lv_aload_n hx hb dX1_init_0 rfl (lv_at hl 0 rfl) ?_
  refine W.objInit hx hb hown (hts _ (List.mem_of_getElem? (i := 1) rfl)) (hts _ (List.mem_of_getElem? (i := 2) rfl)) (hts _ (List.mem_of_getElem? (i := 3) rfl)) rfl (by rw [hml]; exact hl.1) rfl dX1_init_1 (Nat.le_of_ble_eq_true rfl) (Nat.le_of_ble_eq_true rfl) ?_
  refine W.eq (g2 := F0 m 4 ls []) rfl ?_
  refine lv_aload_n hx hb dX1_init_4 rfl (lv_at hl 0 rfl) ?_
  refine lv_bipush (v := nI 20) hx hb dX1_init_5 (by decide) ?_
  refine va_newa (ty := .int) (N' := 20) (a0 := (20, .inl z_)) hx hb (hts _ (List.mem_of_getElem? (i := 4) rfl)) rfl hK hP hD hS hA (fun cA => rfl) (by decide) (by decide) (by decide) (Nat.le_of_ble_eq_true rfl) (Nat.le_of_ble_eq_true rfl) dX1_init_7 (fun q1 cA H hK1 hP hD hS => ?_)
  have hcA := cls_i hK1
  subst hcA
  clear hK1
  have hP : va_P D vwCl [(h0, .inr (1, [.int 0, .int 0, .null, .null, .null, .null, .int 0, .int 0])), (q1, iA cs 20 z_)] H := hP
  have hD : va_D A [(h0, .inr (1, [.int 0, .int 0, .null, .null, .null, .null, .int 0, .int 0])), (q1, iA cs 20 z_)] := hD
  refine va_putF (D := D) (ci := 1) (v := .ref q1) (ty := .array .int) (C := RX1) (T := TX1) (N := 8) hx hb hts inX1_own tyX1 tyX1_ok nmX1 hown hK hP hD hS 0 rfl rfl 2 (by decide) (hts _ (List.mem_of_getElem? (i := 5) rfl)) (fun _ h9 => h9) rfl hin rfl (by decide +kernel) rfl rfl (Nat.le_of_ble_eq_true rfl) dX1_init_9 (fun H locs hP hD hS => ?_)
  have hP : va_P D vwCl [(h0, .inr (1, [.int 0, .int 0, .ref q1, .null, .null, .null, .int 0, .int 0])), (q1, iA cs 20 z_)] H := hP
  have hD : va_D A [(h0, .inr (1, [.int 0, .int 0, .ref q1, .null, .null, .null, .int 0, .int 0])), (q1, iA cs 20 z_)] := hD
  refine lv_aload_n hx hb dX1_init_12 rfl (lv_at hl 0 rfl) ?_
  refine lv_bipush (v := nI 20) hx hb dX1_init_13 (by decide) ?_
  refine va_newa (ty := .int) (N' := 20) (a0 := (20, .inl z_)) hx hb (hts _ (List.mem_of_getElem? (i := 4) rfl)) rfl hK hP hD hS hA (fun cA => rfl) (by decide) (by decide) (by decide) (Nat.le_of_ble_eq_true rfl) (Nat.le_of_ble_eq_true rfl) dX1_init_15 (fun q2 cA H hK1 hP hD hS => ?_)
  have hcA := cls_i hK1
  subst hcA
  clear hK1
  have hP : va_P D vwCl [(h0, .inr (1, [.int 0, .int 0, .ref q1, .null, .null, .null, .int 0, .int 0])), (q1, iA cs 20 z_), (q2, iA cs 20 z_)] H := hP
  have hD : va_D A [(h0, .inr (1, [.int 0, .int 0, .ref q1, .null, .null, .null, .int 0, .int 0])), (q1, iA cs 20 z_), (q2, iA cs 20 z_)] := hD
  refine va_putF (D := D) (ci := 1) (v := .ref q2) (ty := .array .int) (C := RX1) (T := TX1) (N := 8) hx hb hts inX1_own tyX1 tyX1_ok nmX1 hown hK hP hD hS 0 rfl rfl 3 (by decide) (hts _ (List.mem_of_getElem? (i := 6) rfl)) (fun _ h9 => h9) rfl hin rfl (by decide +kernel) rfl rfl (Nat.le_of_ble_eq_true rfl) dX1_init_17 (fun H locs hP hD hS => ?_)
  have hP : va_P D vwCl [(h0, .inr (1, [.int 0, .int 0, .ref q1, .ref q2, .null, .null, .int 0, .int 0])), (q1, iA cs 20 z_), (q2, iA cs 20 z_)] H := hP
  have hD : va_D A [(h0, .inr (1, [.int 0, .int 0, .ref q1, .ref q2, .null, .null, .int 0, .int 0])), (q1, iA cs 20 z_), (q2, iA cs 20 z_)] := hD
  refine lv_aload_n hx hb dX1_init_20 rfl (lv_at hl 0 rfl) ?_
  refine lv_bipush (v := nI 20) hx hb dX1_init_21 (by decide) ?_
  refine va_newa (ty := .int) (N' := 20) (a0 := (20, .inl z_)) hx hb (hts _ (List.mem_of_getElem? (i := 4) rfl)) rfl hK hP hD hS hA (fun cA => rfl) (by decide) (by decide) (by decide) (Nat.le_of_ble_eq_true rfl) (Nat.le_of_ble_eq_true rfl) dX1_init_23 (fun q3 cA H hK1 hP hD hS => ?_)
  have hcA := cls_i hK1
  subst hcA
  clear hK1
  have hP : va_P D vwCl [(h0, .inr (1, [.int 0, .int 0, .ref q1, .ref q2, .null, .null, .int 0, .int 0])), (q1, iA cs 20 z_), (q2, iA cs 20 z_), (q3, iA cs 20 z_)] H := hP
  have hD : va_D A [(h0, .inr (1, [.int 0, .int 0, .ref q1, .ref q2, .null, .null, .int 0, .int 0])), (q1, iA cs 20 z_), (q2, iA cs 20 z_), (q3, iA cs 20 z_)] := hD
  refine va_putF (D := D) (ci := 1) (v := .ref q3) (ty := .array .int) (C := RX1) (T := TX1) (N := 8) hx hb hts inX1_own tyX1 tyX1_ok nmX1 hown hK hP hD hS 0 rfl rfl 4 (by decide) (hts _ (List.mem_of_getElem? (i := 7) rfl)) (fun _ h9 => h9) rfl hin rfl (by decide +kernel) rfl rfl (Nat.le_of_ble_eq_true rfl) dX1_init_25 (fun H locs hP hD hS => ?_)
  have hP : va_P D vwCl [(h0, .inr (1, [.int 0, .int 0, .ref q1, .ref q2, .ref q3, .null, .int 0, .int 0])), (q1, iA cs 20 z_), (q2, iA cs 20 z_), (q3, iA cs 20 z_)] H := hP
  have hD : va_D A [(h0, .inr (1, [.int 0, .int 0, .ref q1, .ref q2, .ref q3, .null, .int 0, .int 0])), (q1, iA cs 20 z_), (q2, iA cs 20 z_), (q3, iA cs 20 z_)] := hD
  refine lv_aload_n hx hb dX1_init_28 rfl (lv_at hl 0 rfl) ?_
  refine lv_bipush (v := nI 60) hx hb dX1_init_29 (by decide) ?_
  refine va_newa (ty := .char) (N' := 60) (a0 := (60, .inl z_)) hx hb (hts _ (List.mem_of_getElem? (i := 8) rfl)) rfl hK hP hD hS hA (fun cA => rfl) (by decide) (by decide) (by decide) (Nat.le_of_ble_eq_true rfl) (Nat.le_of_ble_eq_true rfl) dX1_init_31 (fun q4 cA H hK1 hP hD hS => ?_)
  have hcA := cls_c hK1
  subst hcA
  clear hK1
  have hP : va_P D vwCl [(h0, .inr (1, [.int 0, .int 0, .ref q1, .ref q2, .ref q3, .null, .int 0, .int 0])), (q1, iA cs 20 z_), (q2, iA cs 20 z_), (q3, iA cs 20 z_), (q4, cA0 cs 60 z_)] H := hP
  have hD : va_D A [(h0, .inr (1, [.int 0, .int 0, .ref q1, .ref q2, .ref q3, .null, .int 0, .int 0])), (q1, iA cs 20 z_), (q2, iA cs 20 z_), (q3, iA cs 20 z_), (q4, cA0 cs 60 z_)] := hD
  refine va_putF (D := D) (ci := 1) (v := .ref q4) (ty := .array .char) (C := RX1) (T := TX1) (N := 8) hx hb hts inX1_own tyX1 tyX1_ok nmX1 hown hK hP hD hS 0 rfl rfl 5 (by decide) (hts _ (List.mem_of_getElem? (i := 9) rfl)) (fun _ h9 => h9) rfl hin rfl (by decide +kernel) rfl rfl (Nat.le_of_ble_eq_true rfl) dX1_init_33 (fun H locs hP hD hS => ?_)
  have hP : va_P D vwCl [(h0, .inr (1, [.int 0, .int 0, .ref q1, .ref q2, .ref q3, .ref q4, .int 0, .int 0])), (q1, iA cs 20 z_), (q2, iA cs 20 z_), (q3, iA cs 20 z_), (q4, cA0 cs 60 z_)] H := hP
  have hD : va_D A [(h0, .inr (1, [.int 0, .int 0, .ref q1, .ref q2, .ref q3, .ref q4, .int 0, .int 0])), (q1, iA cs 20 z_), (q2, iA cs 20 z_), (q3, iA cs 20 z_), (q4, cA0 cs 60 z_)] := hD
  obtain ⟨ad, had⟩ := ad_of o [h0, q1, q2, q3, q4]
  have e0 : ad o = h0 := had 0 h0 rfl
  have e1 : ad (o + 1) = q1 := had 1 q1 rfl
  have e2 : ad (o + 2) = q2 := had 2 q2 rfl
  have e3 : ad (o + 3) = q3 := had 3 q3 rfl
  have e4 : ad (o + 4) = q4 := had 4 q4 rfl
  have ew : w1 cs ad o = [(h0, .inr (1, [.int 0, .int 0, .ref q1, .ref q2, .ref q3, .ref q4, .int 0, .int 0])), (q1, iA cs 20 z_), (q2, iA cs 20 z_), (q3, iA cs 20 z_), (q4, cA0 cs 60 z_)] := by unfold w1; rw [e0, e1, e2, e3, e4]
  rw [← ew] at hP hD
  refine W.widen (k := 4) (n := 120) (Nat.le_of_ble_eq_true rfl) (Nat.le_of_ble_eq_true rfl) ?_
  exact W.vret hx hb hr (fun t ht hW => ⟨⟨ad, rfl, e0, by rw [ht]; exact hP, va_K.moved hW.alike hK, hD⟩, hS.F ht⟩) hS.2.2 dX1_init_36
def w9 (cs : CS) (ad : Nat → Nat) (o : Nat) : va_W := [(ad o, .inr (9, [.ref (ad (o + 1)), .ref (ad (o + 2)), .int 0, .int 0, .ref (ad (o + 3)), .ref (ad (o + 4)), .int 0, .int 0, .int 0, .int 0, .int 0, .int 0])), (ad (o + 1), iA cs 6036 (upd (upd z_ 6 3) 7 5)), (ad (o + 2), iA cs 36216 z_), (ad (o + 3), iA cs 488 z_), (ad (o + 4), iA cs 60 z_)]
theorem inX9_own : ∀ w ∈ wsX90, w ∈ wsX9_init := fun w h => List.mem_cons_of_mem _ (List.mem_append_right _ h)
abbrev rmX9_init : Room := { frames := 1, cells := 4, slots := 42800, locals := 40 }
set_option maxHeartbeats 4000000 in
set_option maxRecDepth 100000 in
theorem ci_X9 (l : Launch) (D : va_G) (cs : CS) (o h0 sz : Nat) : Met l yX9_init wsX9_init rmX9_init (va_Pc [.ref h0] (fun U => U.heap.size = sz ∧ va_P D vwCl [(h0, .inr (9, [.null, .null, .int 0, .int 0, .null, .null, .int 0, .int 0, .int 0, .int 0, .int 0, .int 0]))] U.heap ∧ va_K D vwCl (cty cs) U ∧ va_D (fun _ => True) [(h0, .inr (9, [.null, .null, .int 0, .int 0, .null, .null, .int 0, .int 0, .int 0, .int 0, .int 0, .int 0]))] ∧ NI U)) (va_Qv (fun ad : Nat → Nat => ad o = h0) (fun ad t => va_P D vwCl (w9 cs ad o) t.heap ∧ va_K D vwCl (cty cs) t ∧ va_D (va_A [(h0, .inr (9, [.null, .null, .int 0, .int 0, .null, .null, .int 0, .int 0, .int 0, .int 0, .int 0, .int 0]))] sz) (w9 cs ad o)) (va_A [(h0, .inr (9, [.null, .null, .int 0, .int 0, .null, .null, .int 0, .int 0, .int 0, .int 0, .int 0, .int 0]))] sz)) 4 42800 (va_A [(h0, .inr (9, [.null, .null, .int 0, .int 0, .null, .null, .int 0, .int 0, .int 0, .int 0, .int 0, .int 0]))] sz) := by
  refine Met.ofW (cc := cX9_init) (maxL := 1) (ret := none) (by decide) rfl ?_
  intro p e s m args below meth c s₁ B hml hv
  obtain ⟨rfl, hsz, hP, hK, hD0, hN⟩ := hv
  have hx := B.exec
  have hb := B.bytes
  have hr := B.returns
  have hts := atoms_spec (ws := wsX9_init) B.pre
  have hown : s.vm.findClass RX9 = some m.cls := findClass_of_methodNamed B.named
  have hin : meth.name = "<init>" := (name_of_methodNamed B.named B.method).1
  subst hsz
  have hD := hD0.self (sz := s.heap.size)
  generalize hAe : va_A [(h0, .inr (9, [.null, .null, .int 0, .int 0, .null, .null, .int 0, .int 0, .int 0, .int 0, .int 0, .int 0]))] s.heap.size = A at hD ⊢
  have hA : ∀ q : Nat, s.heap.size ≤ q → A q := fun q h => by rw [← hAe]; exact Or.inr h
  have hS : va_S A s.heap s.heap [] := va_S.rf
  have hP : va_P D vwCl [(h0, .inr (9, [.null, .null, .int 0, .int 0, .null, .null, .int 0, .int 0, .int 0, .int 0, .int 0, .int 0]))] s.heap := hP
  have hl := lv_entry ([.ref h0]) (n := 1) (Nat.le_of_ble_eq_true rfl)
  rw [lg_entry_eq]
  generalize (lg_sl ([.ref h0]) ++ List.replicate (1 - (lg_sl ([.ref h0])).length) Slot.unset).toArray = ls at hl ⊢
  have hl : lv_has ls 1 [(0, .ref h0)] := hl
  refine lv_aload_n hx hb dX9_init_0 rfl (lv_at hl 0 rfl) ?_
  refine W.objInit hx hb hown (hts _ (List.mem_of_getElem? (i := 1) rfl)) (hts _ (List.mem_of_getElem? (i := 2) rfl)) (hts _ (List.mem_of_getElem? (i := 3) rfl)) rfl (by rw [hml]; exact hl.1) rfl dX9_init_1 (Nat.le_of_ble_eq_true rfl) (Nat.le_of_ble_eq_true rfl) ?_
  refine W.eq (g2 := F0 m 4 ls []) rfl ?_
  refine lv_aload_n hx hb dX9_init_4 rfl (lv_at hl 0 rfl) ?_
  refine lv_sipush (v := nI 6036) hx hb dX9_init_5 (by decide) ?_
  refine va_newa (ty := .int) (N' := 6036) (a0 := (6036, .inl z_)) hx hb (hts _ (List.mem_of_getElem? (i := 4) rfl)) rfl hK hP hD hS hA (fun cA => rfl) (by decide) (by decide) (by decide) (Nat.le_of_ble_eq_true rfl) (Nat.le_of_ble_eq_true rfl) dX9_init_8 (fun q1 cA H hK1 hP hD hS => ?_)
  have hcA := cls_i hK1
  subst hcA
  clear hK1
  have hP : va_P D vwCl [(h0, .inr (9, [.null, .null, .int 0, .int 0, .null, .null, .int 0, .int 0, .int 0, .int 0, .int 0, .int 0])), (q1, iA cs 6036 z_)] H := hP
  have hD : va_D A [(h0, .inr (9, [.null, .null, .int 0, .int 0, .null, .null, .int 0, .int 0, .int 0, .int 0, .int 0, .int 0])), (q1, iA cs 6036 z_)] := hD
  refine va_putF (D := D) (ci := 9) (v := .ref q1) (ty := .array .int) (C := RX9) (T := TX9) (N := 12) hx hb hts inX9_own tyX9 tyX9_ok nmX9 hown hK hP hD hS 0 rfl rfl 0 (by decide) (hts _ (List.mem_of_getElem? (i := 5) rfl)) (fun _ h9 => h9) rfl hin rfl (by decide +kernel) rfl rfl (Nat.le_of_ble_eq_true rfl) dX9_init_10 (fun H locs hP hD hS => ?_)
  have hP : va_P D vwCl [(h0, .inr (9, [.ref q1, .null, .int 0, .int 0, .null, .null, .int 0, .int 0, .int 0, .int 0, .int 0, .int 0])), (q1, iA cs 6036 z_)] H := hP
  have hD : va_D A [(h0, .inr (9, [.ref q1, .null, .int 0, .int 0, .null, .null, .int 0, .int 0, .int 0, .int 0, .int 0, .int 0])), (q1, iA cs 6036 z_)] := hD
  refine lv_aload_n hx hb dX9_init_13 rfl (lv_at hl 0 rfl) ?_
  refine lv_ldc (v := nI 36216) hx hb hown (hts _ (List.mem_of_getElem? (i := 6) rfl)) dX9_init_14 ?_
  refine va_newa (ty := .int) (N' := 36216) (a0 := (36216, .inl z_)) hx hb (hts _ (List.mem_of_getElem? (i := 4) rfl)) rfl hK hP hD hS hA (fun cA => rfl) (by decide) (by decide) (by decide) (Nat.le_of_ble_eq_true rfl) (Nat.le_of_ble_eq_true rfl) dX9_init_16 (fun q2 cA H hK1 hP hD hS => ?_)
  have hcA := cls_i hK1
  subst hcA
  clear hK1
  have hP : va_P D vwCl [(h0, .inr (9, [.ref q1, .null, .int 0, .int 0, .null, .null, .int 0, .int 0, .int 0, .int 0, .int 0, .int 0])), (q1, iA cs 6036 z_), (q2, iA cs 36216 z_)] H := hP
  have hD : va_D A [(h0, .inr (9, [.ref q1, .null, .int 0, .int 0, .null, .null, .int 0, .int 0, .int 0, .int 0, .int 0, .int 0])), (q1, iA cs 6036 z_), (q2, iA cs 36216 z_)] := hD
  refine va_putF (D := D) (ci := 9) (v := .ref q2) (ty := .array .int) (C := RX9) (T := TX9) (N := 12) hx hb hts inX9_own tyX9 tyX9_ok nmX9 hown hK hP hD hS 0 rfl rfl 1 (by decide) (hts _ (List.mem_of_getElem? (i := 7) rfl)) (fun _ h9 => h9) rfl hin rfl (by decide +kernel) rfl rfl (Nat.le_of_ble_eq_true rfl) dX9_init_18 (fun H locs hP hD hS => ?_)
  have hP : va_P D vwCl [(h0, .inr (9, [.ref q1, .ref q2, .int 0, .int 0, .null, .null, .int 0, .int 0, .int 0, .int 0, .int 0, .int 0])), (q1, iA cs 6036 z_), (q2, iA cs 36216 z_)] H := hP
  have hD : va_D A [(h0, .inr (9, [.ref q1, .ref q2, .int 0, .int 0, .null, .null, .int 0, .int 0, .int 0, .int 0, .int 0, .int 0])), (q1, iA cs 6036 z_), (q2, iA cs 36216 z_)] := hD
  refine lv_aload_n hx hb dX9_init_21 rfl (lv_at hl 0 rfl) ?_
  refine lv_sipush (v := nI 488) hx hb dX9_init_22 (by decide) ?_
  refine va_newa (ty := .int) (N' := 488) (a0 := (488, .inl z_)) hx hb (hts _ (List.mem_of_getElem? (i := 4) rfl)) rfl hK hP hD hS hA (fun cA => rfl) (by decide) (by decide) (by decide) (Nat.le_of_ble_eq_true rfl) (Nat.le_of_ble_eq_true rfl) dX9_init_25 (fun q3 cA H hK1 hP hD hS => ?_)
  have hcA := cls_i hK1
  subst hcA
  clear hK1
  have hP : va_P D vwCl [(h0, .inr (9, [.ref q1, .ref q2, .int 0, .int 0, .null, .null, .int 0, .int 0, .int 0, .int 0, .int 0, .int 0])), (q1, iA cs 6036 z_), (q2, iA cs 36216 z_), (q3, iA cs 488 z_)] H := hP
  have hD : va_D A [(h0, .inr (9, [.ref q1, .ref q2, .int 0, .int 0, .null, .null, .int 0, .int 0, .int 0, .int 0, .int 0, .int 0])), (q1, iA cs 6036 z_), (q2, iA cs 36216 z_), (q3, iA cs 488 z_)] := hD
  refine va_putF (D := D) (ci := 9) (v := .ref q3) (ty := .array .int) (C := RX9) (T := TX9) (N := 12) hx hb hts inX9_own tyX9 tyX9_ok nmX9 hown hK hP hD hS 0 rfl rfl 4 (by decide) (hts _ (List.mem_of_getElem? (i := 8) rfl)) (fun _ h9 => h9) rfl hin rfl (by decide +kernel) rfl rfl (Nat.le_of_ble_eq_true rfl) dX9_init_27 (fun H locs hP hD hS => ?_)
  have hP : va_P D vwCl [(h0, .inr (9, [.ref q1, .ref q2, .int 0, .int 0, .ref q3, .null, .int 0, .int 0, .int 0, .int 0, .int 0, .int 0])), (q1, iA cs 6036 z_), (q2, iA cs 36216 z_), (q3, iA cs 488 z_)] H := hP
  have hD : va_D A [(h0, .inr (9, [.ref q1, .ref q2, .int 0, .int 0, .ref q3, .null, .int 0, .int 0, .int 0, .int 0, .int 0, .int 0])), (q1, iA cs 6036 z_), (q2, iA cs 36216 z_), (q3, iA cs 488 z_)] := hD
  refine lv_aload_n hx hb dX9_init_30 rfl (lv_at hl 0 rfl) ?_
  refine lv_bipush (v := nI 60) hx hb dX9_init_31 (by decide) ?_
  refine va_newa (ty := .int) (N' := 60) (a0 := (60, .inl z_)) hx hb (hts _ (List.mem_of_getElem? (i := 4) rfl)) rfl hK hP hD hS hA (fun cA => rfl) (by decide) (by decide) (by decide) (Nat.le_of_ble_eq_true rfl) (Nat.le_of_ble_eq_true rfl) dX9_init_33 (fun q4 cA H hK1 hP hD hS => ?_)
  have hcA := cls_i hK1
  subst hcA
  clear hK1
  have hP : va_P D vwCl [(h0, .inr (9, [.ref q1, .ref q2, .int 0, .int 0, .ref q3, .null, .int 0, .int 0, .int 0, .int 0, .int 0, .int 0])), (q1, iA cs 6036 z_), (q2, iA cs 36216 z_), (q3, iA cs 488 z_), (q4, iA cs 60 z_)] H := hP
  have hD : va_D A [(h0, .inr (9, [.ref q1, .ref q2, .int 0, .int 0, .ref q3, .null, .int 0, .int 0, .int 0, .int 0, .int 0, .int 0])), (q1, iA cs 6036 z_), (q2, iA cs 36216 z_), (q3, iA cs 488 z_), (q4, iA cs 60 z_)] := hD
  refine va_putF (D := D) (ci := 9) (v := .ref q4) (ty := .array .int) (C := RX9) (T := TX9) (N := 12) hx hb hts inX9_own tyX9 tyX9_ok nmX9 hown hK hP hD hS 0 rfl rfl 5 (by decide) (hts _ (List.mem_of_getElem? (i := 9) rfl)) (fun _ h9 => h9) rfl hin rfl (by decide +kernel) rfl rfl (Nat.le_of_ble_eq_true rfl) dX9_init_35 (fun H locs hP hD hS => ?_)
  have hP : va_P D vwCl [(h0, .inr (9, [.ref q1, .ref q2, .int 0, .int 0, .ref q3, .ref q4, .int 0, .int 0, .int 0, .int 0, .int 0, .int 0])), (q1, iA cs 6036 z_), (q2, iA cs 36216 z_), (q3, iA cs 488 z_), (q4, iA cs 60 z_)] H := hP
  have hD : va_D A [(h0, .inr (9, [.ref q1, .ref q2, .int 0, .int 0, .ref q3, .ref q4, .int 0, .int 0, .int 0, .int 0, .int 0, .int 0])), (q1, iA cs 6036 z_), (q2, iA cs 36216 z_), (q3, iA cs 488 z_), (q4, iA cs 60 z_)] := hD
  refine lv_aload_n hx hb dX9_init_38 rfl (lv_at hl 0 rfl) ?_
  refine va_get (D := D) (ci := 9) (v := .ref q1) (C := RX9) (T := TX9) (N := 12) hx hb hts inX9_own hown hK hP 0 rfl rfl 0 (by decide) (hts _ (List.mem_of_getElem? (i := 5) rfl)) (fun _ h9 => h9) rfl dX9_init_39 ?_
  refine lv_bipush (v := nI 6) hx hb dX9_init_42 (by decide) ?_
  refine lv_iconst (v := nI 3) hx hb dX9_init_44 (by decide) ?_
  refine va_iast hx hb hK hP hD hS 1 1 rfl rfl (fun q => q.elim (nI_pos (by omega)) (fun q2 => by rw [nI_c (by omega)] at q2; omega)) dX9_init_45 (fun H locs hP hD hS => ?_)
  have hP : va_P D vwCl [(h0, .inr (9, [.ref q1, .ref q2, .int 0, .int 0, .ref q3, .ref q4, .int 0, .int 0, .int 0, .int 0, .int 0, .int 0])), (q1, iA cs 6036 (upd z_ 6 3)), (q2, iA cs 36216 z_), (q3, iA cs 488 z_), (q4, iA cs 60 z_)] H := hP
  have hD : va_D A [(h0, .inr (9, [.ref q1, .ref q2, .int 0, .int 0, .ref q3, .ref q4, .int 0, .int 0, .int 0, .int 0, .int 0, .int 0])), (q1, iA cs 6036 (upd z_ 6 3)), (q2, iA cs 36216 z_), (q3, iA cs 488 z_), (q4, iA cs 60 z_)] := hD
  refine lv_aload_n hx hb dX9_init_46 rfl (lv_at hl 0 rfl) ?_
  refine va_get (D := D) (ci := 9) (v := .ref q1) (C := RX9) (T := TX9) (N := 12) hx hb hts inX9_own hown hK hP 0 rfl rfl 0 (by decide) (hts _ (List.mem_of_getElem? (i := 5) rfl)) (fun _ h9 => h9) rfl dX9_init_47 ?_
  refine lv_bipush (v := nI 7) hx hb dX9_init_50 (by decide) ?_
  refine lv_iconst (v := nI 5) hx hb dX9_init_52 (by decide) ?_
  refine va_iast hx hb hK hP hD hS 1 1 rfl rfl (fun q => q.elim (nI_pos (by omega)) (fun q2 => by rw [nI_c (by omega)] at q2; omega)) dX9_init_53 (fun H locs hP hD hS => ?_)
  have hP : va_P D vwCl [(h0, .inr (9, [.ref q1, .ref q2, .int 0, .int 0, .ref q3, .ref q4, .int 0, .int 0, .int 0, .int 0, .int 0, .int 0])), (q1, iA cs 6036 (upd (upd z_ 6 3) 7 5)), (q2, iA cs 36216 z_), (q3, iA cs 488 z_), (q4, iA cs 60 z_)] H := hP
  have hD : va_D A [(h0, .inr (9, [.ref q1, .ref q2, .int 0, .int 0, .ref q3, .ref q4, .int 0, .int 0, .int 0, .int 0, .int 0, .int 0])), (q1, iA cs 6036 (upd (upd z_ 6 3) 7 5)), (q2, iA cs 36216 z_), (q3, iA cs 488 z_), (q4, iA cs 60 z_)] := hD
  obtain ⟨ad, had⟩ := ad_of o [h0, q1, q2, q3, q4]
  have e0 : ad o = h0 := had 0 h0 rfl
  have e1 : ad (o + 1) = q1 := had 1 q1 rfl
  have e2 : ad (o + 2) = q2 := had 2 q2 rfl
  have e3 : ad (o + 3) = q3 := had 3 q3 rfl
  have e4 : ad (o + 4) = q4 := had 4 q4 rfl
  have ew : w9 cs ad o = [(h0, .inr (9, [.ref q1, .ref q2, .int 0, .int 0, .ref q3, .ref q4, .int 0, .int 0, .int 0, .int 0, .int 0, .int 0])), (q1, iA cs 6036 (upd (upd z_ 6 3) 7 5)), (q2, iA cs 36216 z_), (q3, iA cs 488 z_), (q4, iA cs 60 z_)] := by unfold w9; rw [e0, e1, e2, e3, e4]
  rw [← ew] at hP hD
  refine W.widen (k := 4) (n := 42800) (Nat.le_of_ble_eq_true rfl) (Nat.le_of_ble_eq_true rfl) ?_
  exact W.vret hx hb hr (fun t ht hW => ⟨⟨ad, rfl, e0, by rw [ht]; exact hP, va_K.moved hW.alike hK, hD⟩, hS.F ht⟩) hS.2.2 dX9_init_54
