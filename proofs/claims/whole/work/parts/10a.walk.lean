/-! THE WALKS (laid by wip/whole/gen_walk.py) -/
abbrev rmX4_copyFrom : Room := { frames := 1, cells := 0, slots := 0, locals := 26 }
abbrev mX4_copyFrom : MT := (rmX4_copyFrom, wsX4_copyFrom, cX4_copyFrom, 2, RX4, none)
theorem hd_X4_copyFrom : yX4_copyFrom.cls = RX4 ∧ yX4_copyFrom.cls ≠ "java/lang/invoke/MethodHandle" ∧ yX4_copyFrom.cls ≠ "java/lang/invoke/VarHandle" ∧ (parseMethodDescriptor yX4_copyFrom.desc).map (fun d => d.parameters.length) = some 1 := by decide +kernel
theorem inX4_copyFrom_4 : ∀ w ∈ wsX40, w ∈ wsX4_copyFrom := fun w h => List.mem_cons_of_mem _ (List.mem_append_right _ h)
set_option maxHeartbeats 4000000 in
set_option maxRecDepth 100000 in
theorem cm_X4_copyFrom (l : Launch) {X : XT} (hX : XD X) (g : Nat) (σ : Mem) (o : Nat) (hL : L4 o) (o1 : Nat) (hLo1 : L4 o1) {σ' : Mem} (h : fX4_copyFrom g σ o o1 = some σ') : Met l yX4_copyFrom wsX4_copyFrom rmX4_copyFrom (va_Pc [.ref (xad X o), .ref (xad X o1)] (WW X σ)) (QV X σ') 0 0 (XA X) := by
  refine met_x (M := mX4_copyFrom) (lv := [(0, .ref (xad X o)), (1, .ref (xad X o1))]) hX (by decide) rfl rfl (Nat.le_of_ble_eq_true rfl) rfl ?_
  unfold fX4_copyFrom at h
  refine k_aload_n (q := 0) dX4_copyFrom_0 rfl rfl ?_
  refine k_aload_n (q := 1) dX4_copyFrom_1 rfl rfl ?_
  refine kg_4 (v := .int (σ o1 0)) hLo1.1 inX4_copyFrom_4 0 (by decide) (List.mem_of_getElem? (i := 1) rfl) rfl dX4_copyFrom_2 ?_
  refine kp_4_0 hL.1 inX4_copyFrom_4 (List.mem_of_getElem? (i := 1) rfl) dX4_copyFrom_5 h (fun σ1 h => ?_)
  refine k_aload_n (q := 1) dX4_copyFrom_8 rfl rfl ?_
  refine kg_4 (v := .ref (xad X (o1 + 1))) hLo1.1 inX4_copyFrom_4 1 (by decide) (List.mem_of_getElem? (i := 2) rfl) rfl dX4_copyFrom_9 ?_
  refine k_iconst (v := (nI 0)) dX4_copyFrom_12 (by decide) ?_
  refine k_aload_n (q := 0) dX4_copyFrom_13 rfl rfl ?_
  refine kg_4 (v := .ref (xad X (o + 1))) hL.1 inX4_copyFrom_4 1 (by decide) (List.mem_of_getElem? (i := 2) rfl) rfl dX4_copyFrom_14 ?_
  refine k_iconst (v := (nI 0)) dX4_copyFrom_17 (by decide) ?_
  refine k_bipush (v := (nI 20)) dX4_copyFrom_18 (by decide) ?_
  refine k_copy (n := 20) hLo1.2.1 hL.2.1 (by decide) (by decide) (List.mem_of_getElem? (i := 3) rfl) (List.mem_of_getElem? (i := 4) rfl) (List.mem_of_getElem? (i := 5) rfl) (List.mem_of_getElem? (i := 6) rfl) (Nat.le_of_ble_eq_true rfl) (Nat.le_of_ble_eq_true rfl) dX4_copyFrom_20 h (fun σ2 h => ?_)
  refine k_aload_n (q := 1) dX4_copyFrom_23 rfl rfl ?_
  refine kg_4 (v := .ref (xad X (o1 + 2))) hLo1.1 inX4_copyFrom_4 2 (by decide) (List.mem_of_getElem? (i := 7) rfl) rfl dX4_copyFrom_24 ?_
  refine k_iconst (v := (nI 0)) dX4_copyFrom_27 (by decide) ?_
  refine k_aload_n (q := 0) dX4_copyFrom_28 rfl rfl ?_
  refine kg_4 (v := .ref (xad X (o + 2))) hL.1 inX4_copyFrom_4 2 (by decide) (List.mem_of_getElem? (i := 7) rfl) rfl dX4_copyFrom_29 ?_
  refine k_iconst (v := (nI 0)) dX4_copyFrom_32 (by decide) ?_
  refine k_bipush (v := (nI 20)) dX4_copyFrom_33 (by decide) ?_
  refine k_copy (n := 20) hLo1.2.2.1 hL.2.2.1 (by decide) (by decide) (List.mem_of_getElem? (i := 3) rfl) (List.mem_of_getElem? (i := 4) rfl) (List.mem_of_getElem? (i := 5) rfl) (List.mem_of_getElem? (i := 6) rfl) (Nat.le_of_ble_eq_true rfl) (Nat.le_of_ble_eq_true rfl) dX4_copyFrom_35 h (fun σ3 h => ?_)
  refine k_aload_n (q := 1) dX4_copyFrom_38 rfl rfl ?_
  refine kg_4 (v := .ref (xad X (o1 + 3))) hLo1.1 inX4_copyFrom_4 3 (by decide) (List.mem_of_getElem? (i := 8) rfl) rfl dX4_copyFrom_39 ?_
  refine k_iconst (v := (nI 0)) dX4_copyFrom_42 (by decide) ?_
  refine k_aload_n (q := 0) dX4_copyFrom_43 rfl rfl ?_
  refine kg_4 (v := .ref (xad X (o + 3))) hL.1 inX4_copyFrom_4 3 (by decide) (List.mem_of_getElem? (i := 8) rfl) rfl dX4_copyFrom_44 ?_
  refine k_iconst (v := (nI 0)) dX4_copyFrom_47 (by decide) ?_
  refine k_bipush (v := (nI 20)) dX4_copyFrom_48 (by decide) ?_
  refine k_copy (n := 20) hLo1.2.2.2.1 hL.2.2.2.1 (by decide) (by decide) (List.mem_of_getElem? (i := 3) rfl) (List.mem_of_getElem? (i := 4) rfl) (List.mem_of_getElem? (i := 5) rfl) (List.mem_of_getElem? (i := 6) rfl) (Nat.le_of_ble_eq_true rfl) (Nat.le_of_ble_eq_true rfl) dX4_copyFrom_50 h (fun σ4 h => ?_)
  refine k_aload_n (q := 1) dX4_copyFrom_53 rfl rfl ?_
  refine kg_4 (v := .ref (xad X (o1 + 4))) hLo1.1 inX4_copyFrom_4 4 (by decide) (List.mem_of_getElem? (i := 9) rfl) rfl dX4_copyFrom_54 ?_
  refine k_iconst (v := (nI 0)) dX4_copyFrom_57 (by decide) ?_
  refine k_aload_n (q := 0) dX4_copyFrom_58 rfl rfl ?_
  refine kg_4 (v := .ref (xad X (o + 4))) hL.1 inX4_copyFrom_4 4 (by decide) (List.mem_of_getElem? (i := 9) rfl) rfl dX4_copyFrom_59 ?_
  refine k_iconst (v := (nI 0)) dX4_copyFrom_62 (by decide) ?_
  refine k_bipush (v := (nI 20)) dX4_copyFrom_63 (by decide) ?_
  refine k_copy (n := 20) hLo1.2.2.2.2 hL.2.2.2.2 (by decide) (by decide) (List.mem_of_getElem? (i := 3) rfl) (List.mem_of_getElem? (i := 4) rfl) (List.mem_of_getElem? (i := 5) rfl) (List.mem_of_getElem? (i := 6) rfl) (Nat.le_of_ble_eq_true rfl) (Nat.le_of_ble_eq_true rfl) dX4_copyFrom_65 h (fun σ5 h => ?_)
  exact k_vret rfl dX4_copyFrom_68 h
abbrev rmX4_lengthOf : Room := { frames := 0, cells := 0, slots := 0, locals := 0 }
abbrev mX4_lengthOf : MT := (rmX4_lengthOf, wsX4_lengthOf, cX4_lengthOf, 2, RX4, some .int)
theorem hd_X4_lengthOf : yX4_lengthOf.cls = RX4 ∧ yX4_lengthOf.cls ≠ "java/lang/invoke/MethodHandle" ∧ yX4_lengthOf.cls ≠ "java/lang/invoke/VarHandle" ∧ (parseMethodDescriptor yX4_lengthOf.desc).map (fun d => d.parameters.length) = some 1 := by decide +kernel
theorem inX4_lengthOf_4 : ∀ w ∈ wsX40, w ∈ wsX4_lengthOf := fun w h => List.mem_cons_of_mem _ (List.mem_append_right _ h)
set_option maxHeartbeats 4000000 in
set_option maxRecDepth 100000 in
theorem cm_X4_lengthOf (l : Launch) {X : XT} (hX : XD X) (g : Nat) (σ : Mem) (o : Nat) (hL : L4 o) (p1 : Int32) {r : Int32} (h : fX4_lengthOf g σ o p1 = some r) : Met l yX4_lengthOf wsX4_lengthOf rmX4_lengthOf (va_Pc [.ref (xad X o), .int p1] (WW X σ)) (QI X r σ) 0 0 (XA X) := by
  refine met_x (M := mX4_lengthOf) (lv := [(0, .ref (xad X o)), (1, .int p1)]) hX (by decide) rfl rfl (Nat.le_of_ble_eq_true rfl) rfl ?_
  unfold fX4_lengthOf at h
  refine k_aload_n (q := 0) dX4_lengthOf_0 rfl rfl ?_
  refine kg_4 (v := .ref (xad X (o + 3))) hL.1 inX4_lengthOf_4 3 (by decide) (List.mem_of_getElem? (i := 1) rfl) rfl dX4_lengthOf_1 ?_
  refine k_iload_n (q := 1) dX4_lengthOf_4 rfl rfl ?_
  refine k_iald (n := 20) hL.2.2.2.1 dX4_lengthOf_5 h (fun h => ?_)
  refine k_aload_n (q := 0) dX4_lengthOf_6 rfl rfl ?_
  refine kg_4 (v := .ref (xad X (o + 2))) hL.1 inX4_lengthOf_4 2 (by decide) (List.mem_of_getElem? (i := 2) rfl) rfl dX4_lengthOf_7 ?_
  refine k_iload_n (q := 1) dX4_lengthOf_10 rfl rfl ?_
  refine k_iald (n := 20) hL.2.2.1 dX4_lengthOf_11 h (fun h => ?_)
  refine k_isub dX4_lengthOf_12 ?_
  refine k_iconst (v := (nI 1)) dX4_lengthOf_13 (by decide) ?_
  refine k_iadd dX4_lengthOf_14 ?_
  exact k_iretR rfl dX4_lengthOf_15 h
abbrev rmX4_pieceAt : Room := { frames := 1, cells := 0, slots := 0, locals := 21 }
abbrev mX4_pieceAt : MT := (rmX4_pieceAt, wsX4_pieceAt, cX4_pieceAt, 4, RX4, some .int)
theorem hd_X4_pieceAt : yX4_pieceAt.cls = RX4 ∧ yX4_pieceAt.cls ≠ "java/lang/invoke/MethodHandle" ∧ yX4_pieceAt.cls ≠ "java/lang/invoke/VarHandle" ∧ (parseMethodDescriptor yX4_pieceAt.desc).map (fun d => d.parameters.length) = some 1 := by decide +kernel
theorem inX4_pieceAt_4 : ∀ w ∈ wsX40, w ∈ wsX4_pieceAt := fun w h => List.mem_cons_of_mem _ (List.mem_append_right _ h)
set_option maxHeartbeats 4000000 in
set_option maxRecDepth 100000 in
theorem wX4_pieceAt_4 (l : Launch) {X : XT} (hX : XD X) (g : Nat) (o : Nat) (hL : L4 o) {r : Int32} : ∀ (n : Nat) (σ : Mem) (x1 : Int32) (x2 : Int32) (x3 : Int32), fX4_pieceAt_4 g o n σ x1 x2 x3 = some r → WG X l mX4_pieceAt (fun _ _ => True) 0 0 (QM X (QI X r σ)) 4 σ [(0, .ref (xad X o)), (1, .int x1), (2, .int x2), (3, .int x3)] [] := by
  intro n
  induction n with
  | zero => intro σ x1 x2 x3 h; exact nomatch (show (none : Option _) = some _ from h)
  | succ n ih =>
    intro σ x1 x2 x3 h
    rw [fX4_pieceAt_4] at h
    refine k_iload_n (q := 3) dX4_pieceAt_4 rfl rfl ?_
    refine k_aload_n (q := 0) dX4_pieceAt_5 rfl rfl ?_
    refine kg_4 (v := .int (σ o 0)) hL.1 inX4_pieceAt_4 0 (by decide) (List.mem_of_getElem? (i := 1) rfl) rfl dX4_pieceAt_6 ?_
    refine k_icmp_ge (tgt := 33) dX4_pieceAt_9 (by decide) h (fun h => ?_) (fun h => ?_)
    · refine k_bipush (v := (nN 5)) dX4_pieceAt_33 (by decide) ?_
      exact k_iretR rfl dX4_pieceAt_35 h
    · refine k_iload_n (q := 2) dX4_pieceAt_12 rfl rfl ?_
      refine k_aload_n (q := 0) dX4_pieceAt_13 rfl rfl ?_
      refine k_iload_n (q := 3) dX4_pieceAt_14 rfl rfl ?_
      obtain ⟨r2, hc1, h⟩ := bnd_e h
      refine k_cv (q := (RX4, TX4, 5)) (As := [.int x3]) 1 (cm_X4_lengthOf l hX g σ o hL x3 hc1) gX4_pieceAt_X4_lengthOf rfl ⟨rfl, rfl⟩ hd_X4_lengthOf ⟨Nat.le_of_ble_eq_true rfl, Nat.le_of_ble_eq_true rfl⟩ ⟨Nat.le_refl _, Nat.le_refl _⟩ (lay_lt hL.1 (by decide)) (ce_of hL.1) rfl rfl (Nat.le_of_ble_eq_true rfl) rfl dX4_pieceAt_15 ?_
      refine k_iadd dX4_pieceAt_18 ?_
      refine k_istore_n (lv' := [(2, .int (x2 + r2)), (0, .ref (xad X o)), (1, .int x1), (3, .int x3)]) dX4_pieceAt_19 rfl (Nat.le_of_ble_eq_true rfl) rfl ?_
      refine k_iload_n (q := 2) dX4_pieceAt_20 rfl rfl ?_
      refine k_iload_n (q := 0) dX4_pieceAt_21 rfl rfl ?_
      refine k_icmp_ge (tgt := 27) dX4_pieceAt_22 (by decide) h (fun h => ?_) (fun h => ?_)
      · refine k_iinc (q := 3) (v := (x3 + (nI 1))) (lv' := [(3, .int (x3 + (nI 1))), (2, .int (x2 + r2)), (0, .ref (xad X o)), (1, .int x1)]) dX4_pieceAt_27 rfl rfl (Nat.le_of_ble_eq_true rfl) rfl ?_
        refine k_goto (tgt := 4) dX4_pieceAt_30 (by decide) ?_
        refine k_sub (ks' := [2, 3, 1, 0]) rfl ?_
        exact ih σ x1 (x2 + r2) (x3 + (nI 1)) h
      · refine k_iload_n (q := 3) dX4_pieceAt_25 rfl rfl ?_
        exact k_iretR rfl dX4_pieceAt_26 h
set_option maxHeartbeats 4000000 in
set_option maxRecDepth 100000 in
theorem cm_X4_pieceAt (l : Launch) {X : XT} (hX : XD X) (g : Nat) (σ : Mem) (o : Nat) (hL : L4 o) (p1 : Int32) {r : Int32} (h : fX4_pieceAt g σ o p1 = some r) : Met l yX4_pieceAt wsX4_pieceAt rmX4_pieceAt (va_Pc [.ref (xad X o), .int p1] (WW X σ)) (QI X r σ) 0 0 (XA X) := by
  refine met_x (M := mX4_pieceAt) (lv := [(0, .ref (xad X o)), (1, .int p1)]) hX (by decide) rfl rfl (Nat.le_of_ble_eq_true rfl) rfl ?_
  unfold fX4_pieceAt at h
  refine k_iconst (v := (nI 0)) dX4_pieceAt_0 (by decide) ?_
  refine k_istore_n (lv' := [(2, .int (nI 0)), (0, .ref (xad X o)), (1, .int p1)]) dX4_pieceAt_1 rfl (Nat.le_of_ble_eq_true rfl) rfl ?_
  refine k_iconst (v := (nI 0)) dX4_pieceAt_2 (by decide) ?_
  refine k_istore_n (lv' := [(3, .int (nI 0)), (2, .int (nI 0)), (0, .ref (xad X o)), (1, .int p1)]) dX4_pieceAt_3 rfl (Nat.le_of_ble_eq_true rfl) rfl ?_
  refine k_sub (ks' := [2, 3, 1, 0]) rfl ?_
  exact wX4_pieceAt_4 l hX g o hL g σ p1 (nI 0) (nI 0) h
abbrev rmX4_has : Room := { frames := 0, cells := 0, slots := 0, locals := 0 }
abbrev mX4_has : MT := (rmX4_has, wsX4_has, cX4_has, 2, RX4, some .boolean)
theorem hd_X4_has : yX4_has.cls = RX4 ∧ yX4_has.cls ≠ "java/lang/invoke/MethodHandle" ∧ yX4_has.cls ≠ "java/lang/invoke/VarHandle" ∧ (parseMethodDescriptor yX4_has.desc).map (fun d => d.parameters.length) = some 1 := by decide +kernel
theorem inX4_has_4 : ∀ w ∈ wsX40, w ∈ wsX4_has := fun w h => List.mem_cons_of_mem _ (List.mem_append_right _ h)
set_option maxHeartbeats 4000000 in
set_option maxRecDepth 100000 in
theorem cm_X4_has (l : Launch) {X : XT} (hX : XD X) (g : Nat) (σ : Mem) (o : Nat) (hL : L4 o) (p1 : Int32) {r : Int32} (h : fX4_has g σ o p1 = some r) : Met l yX4_has wsX4_has rmX4_has (va_Pc [.ref (xad X o), .int p1] (WW X σ)) (QI X r σ) 0 0 (XA X) := by
  refine met_x (M := mX4_has) (lv := [(0, .ref (xad X o)), (1, .int p1)]) hX (by decide) rfl rfl (Nat.le_of_ble_eq_true rfl) rfl ?_
  unfold fX4_has at h
  refine k_iload_n (q := 1) dX4_has_0 rfl rfl ?_
  refine k_if_lt (tgt := 16) dX4_has_1 (by decide) h (fun h => ?_) (fun h => ?_)
  · refine k_iconst (v := (nI 0)) dX4_has_16 (by decide) ?_
    exact k_zretR rfl dX4_has_17 rfl h
  · refine k_iload_n (q := 1) dX4_has_4 rfl rfl ?_
    refine k_aload_n (q := 0) dX4_has_5 rfl rfl ?_
    refine kg_4 (v := .int (σ o 0)) hL.1 inX4_has_4 0 (by decide) (List.mem_of_getElem? (i := 1) rfl) rfl dX4_has_6 ?_
    refine k_icmp_ge (tgt := 16) dX4_has_9 (by decide) h (fun h => ?_) (fun h => ?_)
    · refine k_iconst (v := (nI 0)) dX4_has_16 (by decide) ?_
      exact k_zretR rfl dX4_has_17 rfl h
    · refine k_iconst (v := (nI 1)) dX4_has_12 (by decide) ?_
      refine k_goto (tgt := 17) dX4_has_13 (by decide) ?_
      exact k_zretR rfl dX4_has_17 rfl h
abbrev rmX4_startOf : Room := { frames := 1, cells := 0, slots := 0, locals := 21 }
abbrev mX4_startOf : MT := (rmX4_startOf, wsX4_startOf, cX4_startOf, 4, RX4, some .int)
theorem hd_X4_startOf : yX4_startOf.cls = RX4 ∧ yX4_startOf.cls ≠ "java/lang/invoke/MethodHandle" ∧ yX4_startOf.cls ≠ "java/lang/invoke/VarHandle" ∧ (parseMethodDescriptor yX4_startOf.desc).map (fun d => d.parameters.length) = some 1 := by decide +kernel
theorem inX4_startOf_4 : ∀ w ∈ wsX40, w ∈ wsX4_startOf := fun w h => List.mem_cons_of_mem _ (List.mem_append_right _ h)
set_option maxHeartbeats 4000000 in
set_option maxRecDepth 100000 in
theorem wX4_startOf_4 (l : Launch) {X : XT} (hX : XD X) (g : Nat) (o : Nat) (hL : L4 o) {r : Int32} : ∀ (n : Nat) (σ : Mem) (x1 : Int32) (x2 : Int32) (x3 : Int32), fX4_startOf_4 g o n σ x1 x2 x3 = some r → WG X l mX4_startOf (fun _ _ => True) 0 0 (QM X (QI X r σ)) 4 σ [(0, .ref (xad X o)), (1, .int x1), (2, .int x2), (3, .int x3)] [] := by
  intro n
  induction n with
  | zero => intro σ x1 x2 x3 h; exact nomatch (show (none : Option _) = some _ from h)
  | succ n ih =>
    intro σ x1 x2 x3 h
    rw [fX4_startOf_4] at h
    refine k_iload_n (q := 3) dX4_startOf_4 rfl rfl ?_
    refine k_iload_n (q := 1) dX4_startOf_5 rfl rfl ?_
    refine k_icmp_ge (tgt := 31) dX4_startOf_6 (by decide) h (fun h => ?_) (fun h => ?_)
    · refine k_iload_n (q := 2) dX4_startOf_31 rfl rfl ?_
      exact k_iretR rfl dX4_startOf_32 h
    · refine k_iload_n (q := 3) dX4_startOf_9 rfl rfl ?_
      refine k_aload_n (q := 0) dX4_startOf_10 rfl rfl ?_
      refine kg_4 (v := .int (σ o 0)) hL.1 inX4_startOf_4 0 (by decide) (List.mem_of_getElem? (i := 1) rfl) rfl dX4_startOf_11 ?_
      refine k_icmp_ge (tgt := 31) dX4_startOf_14 (by decide) h (fun h => ?_) (fun h => ?_)
      · refine k_iload_n (q := 2) dX4_startOf_31 rfl rfl ?_
        exact k_iretR rfl dX4_startOf_32 h
      · refine k_iload_n (q := 2) dX4_startOf_17 rfl rfl ?_
        refine k_aload_n (q := 0) dX4_startOf_18 rfl rfl ?_
        refine k_iload_n (q := 3) dX4_startOf_19 rfl rfl ?_
        obtain ⟨r2, hc1, h⟩ := bnd_e h
        refine k_cv (q := (RX4, TX4, 5)) (As := [.int x3]) 1 (cm_X4_lengthOf l hX g σ o hL x3 hc1) gX4_startOf_X4_lengthOf rfl ⟨rfl, rfl⟩ hd_X4_lengthOf ⟨Nat.le_of_ble_eq_true rfl, Nat.le_of_ble_eq_true rfl⟩ ⟨Nat.le_refl _, Nat.le_refl _⟩ (lay_lt hL.1 (by decide)) (ce_of hL.1) rfl rfl (Nat.le_of_ble_eq_true rfl) rfl dX4_startOf_20 ?_
        refine k_iadd dX4_startOf_23 ?_
        refine k_istore_n (lv' := [(2, .int (x2 + r2)), (0, .ref (xad X o)), (1, .int x1), (3, .int x3)]) dX4_startOf_24 rfl (Nat.le_of_ble_eq_true rfl) rfl ?_
        refine k_iinc (q := 3) (v := (x3 + (nI 1))) (lv' := [(3, .int (x3 + (nI 1))), (2, .int (x2 + r2)), (0, .ref (xad X o)), (1, .int x1)]) dX4_startOf_25 rfl rfl (Nat.le_of_ble_eq_true rfl) rfl ?_
        refine k_goto (tgt := 4) dX4_startOf_28 (by decide) ?_
        refine k_sub (ks' := [2, 3, 1, 0]) rfl ?_
        exact ih σ x1 (x2 + r2) (x3 + (nI 1)) h
set_option maxHeartbeats 4000000 in
set_option maxRecDepth 100000 in
theorem cm_X4_startOf (l : Launch) {X : XT} (hX : XD X) (g : Nat) (σ : Mem) (o : Nat) (hL : L4 o) (p1 : Int32) {r : Int32} (h : fX4_startOf g σ o p1 = some r) : Met l yX4_startOf wsX4_startOf rmX4_startOf (va_Pc [.ref (xad X o), .int p1] (WW X σ)) (QI X r σ) 0 0 (XA X) := by
  refine met_x (M := mX4_startOf) (lv := [(0, .ref (xad X o)), (1, .int p1)]) hX (by decide) rfl rfl (Nat.le_of_ble_eq_true rfl) rfl ?_
  unfold fX4_startOf at h
  refine k_iconst (v := (nI 0)) dX4_startOf_0 (by decide) ?_
  refine k_istore_n (lv' := [(2, .int (nI 0)), (0, .ref (xad X o)), (1, .int p1)]) dX4_startOf_1 rfl (Nat.le_of_ble_eq_true rfl) rfl ?_
  refine k_iconst (v := (nI 0)) dX4_startOf_2 (by decide) ?_
  refine k_istore_n (lv' := [(3, .int (nI 0)), (2, .int (nI 0)), (0, .ref (xad X o)), (1, .int p1)]) dX4_startOf_3 rfl (Nat.le_of_ble_eq_true rfl) rfl ?_
  refine k_sub (ks' := [2, 3, 1, 0]) rfl ?_
  exact wX4_startOf_4 l hX g o hL g σ p1 (nI 0) (nI 0) h
abbrev rmX4_isFull : Room := { frames := 0, cells := 0, slots := 0, locals := 0 }
abbrev mX4_isFull : MT := (rmX4_isFull, wsX4_isFull, cX4_isFull, 1, RX4, some .boolean)
theorem hd_X4_isFull : yX4_isFull.cls = RX4 ∧ yX4_isFull.cls ≠ "java/lang/invoke/MethodHandle" ∧ yX4_isFull.cls ≠ "java/lang/invoke/VarHandle" ∧ (parseMethodDescriptor yX4_isFull.desc).map (fun d => d.parameters.length) = some 0 := by decide +kernel
theorem inX4_isFull_4 : ∀ w ∈ wsX40, w ∈ wsX4_isFull := fun w h => List.mem_cons_of_mem _ (List.mem_append_right _ h)
set_option maxHeartbeats 4000000 in
set_option maxRecDepth 100000 in
theorem cm_X4_isFull (l : Launch) {X : XT} (hX : XD X) (g : Nat) (σ : Mem) (o : Nat) (hL : L4 o) {r : Int32} (h : fX4_isFull g σ o = some r) : Met l yX4_isFull wsX4_isFull rmX4_isFull (va_Pc [.ref (xad X o)] (WW X σ)) (QI X r σ) 0 0 (XA X) := by
  refine met_x (M := mX4_isFull) (lv := [(0, .ref (xad X o))]) hX (by decide) rfl rfl (Nat.le_of_ble_eq_true rfl) rfl ?_
  unfold fX4_isFull at h
  refine k_aload_n (q := 0) dX4_isFull_0 rfl rfl ?_
  refine kg_4 (v := .int (σ o 0)) hL.1 inX4_isFull_4 0 (by decide) (List.mem_of_getElem? (i := 1) rfl) rfl dX4_isFull_1 ?_
  refine k_bipush (v := (nI 20)) dX4_isFull_4 (by decide) ?_
  refine k_icmp_lt (tgt := 13) dX4_isFull_6 (by decide) h (fun h => ?_) (fun h => ?_)
  · refine k_iconst (v := (nI 0)) dX4_isFull_13 (by decide) ?_
    exact k_zretR rfl dX4_isFull_14 rfl h
  · refine k_iconst (v := (nI 1)) dX4_isFull_9 (by decide) ?_
    refine k_goto (tgt := 14) dX4_isFull_10 (by decide) ?_
    exact k_zretR rfl dX4_isFull_14 rfl h
abbrev rmX8_isWithin : Room := { frames := 0, cells := 0, slots := 0, locals := 0 }
abbrev mX8_isWithin : MT := (rmX8_isWithin, wsX8_isWithin, cX8_isWithin, 3, RX8, some .boolean)
theorem hd_X8_isWithin : yX8_isWithin.cls ≠ "java/lang/invoke/MethodHandle" ∧ yX8_isWithin.cls ≠ "java/lang/invoke/VarHandle" ∧ (parseMethodDescriptor yX8_isWithin.desc).map (fun d => d.parameters.length) = some 3 := by decide +kernel
set_option maxHeartbeats 4000000 in
set_option maxRecDepth 100000 in
theorem cm_X8_isWithin (l : Launch) {X : XT} (hX : XD X) (g : Nat) (σ : Mem) (p0 : Int32) (p1 : Int32) (p2 : Int32) {r : Int32} (h : fX8_isWithin g σ p0 p1 p2 = some r) : Met l yX8_isWithin wsX8_isWithin rmX8_isWithin (va_Pc [.int p0, .int p1, .int p2] (WW X σ)) (QI X r σ) 0 0 (XA X) := by
  refine met_x (M := mX8_isWithin) (lv := [(0, .int p0), (1, .int p1), (2, .int p2)]) hX (by decide) rfl rfl (Nat.le_of_ble_eq_true rfl) rfl ?_
  unfold fX8_isWithin at h
  refine k_iload_n (q := 0) dX8_isWithin_0 rfl rfl ?_
  refine k_iload_n (q := 1) dX8_isWithin_1 rfl rfl ?_
  refine k_icmp_lt (tgt := 14) dX8_isWithin_2 (by decide) h (fun h => ?_) (fun h => ?_)
  · refine k_iconst (v := (nI 0)) dX8_isWithin_14 (by decide) ?_
    exact k_zretR rfl dX8_isWithin_15 rfl h
  · refine k_iload_n (q := 0) dX8_isWithin_5 rfl rfl ?_
    refine k_iload_n (q := 2) dX8_isWithin_6 rfl rfl ?_
    refine k_icmp_gt (tgt := 14) dX8_isWithin_7 (by decide) h (fun h => ?_) (fun h => ?_)
    · refine k_iconst (v := (nI 0)) dX8_isWithin_14 (by decide) ?_
      exact k_zretR rfl dX8_isWithin_15 rfl h
    · refine k_iconst (v := (nI 1)) dX8_isWithin_10 (by decide) ?_
      refine k_goto (tgt := 15) dX8_isWithin_11 (by decide) ?_
      exact k_zretR rfl dX8_isWithin_15 rfl h
abbrev rmX4_copyPiece : Room := { frames := 0, cells := 0, slots := 0, locals := 0 }
abbrev mX4_copyPiece : MT := (rmX4_copyPiece, wsX4_copyPiece, cX4_copyPiece, 3, RX4, none)
theorem hd_X4_copyPiece : yX4_copyPiece.cls = RX4 ∧ yX4_copyPiece.cls ≠ "java/lang/invoke/MethodHandle" ∧ yX4_copyPiece.cls ≠ "java/lang/invoke/VarHandle" ∧ (parseMethodDescriptor yX4_copyPiece.desc).map (fun d => d.parameters.length) = some 2 := by decide +kernel
theorem inX4_copyPiece_4 : ∀ w ∈ wsX40, w ∈ wsX4_copyPiece := fun w h => List.mem_cons_of_mem _ (List.mem_append_right _ h)
set_option maxHeartbeats 4000000 in
set_option maxRecDepth 100000 in
theorem cm_X4_copyPiece (l : Launch) {X : XT} (hX : XD X) (g : Nat) (σ : Mem) (o : Nat) (hL : L4 o) (p1 : Int32) (p2 : Int32) {σ' : Mem} (h : fX4_copyPiece g σ o p1 p2 = some σ') : Met l yX4_copyPiece wsX4_copyPiece rmX4_copyPiece (va_Pc [.ref (xad X o), .int p1, .int p2] (WW X σ)) (QV X σ') 0 0 (XA X) := by
  refine met_x (M := mX4_copyPiece) (lv := [(0, .ref (xad X o)), (1, .int p1), (2, .int p2)]) hX (by decide) rfl rfl (Nat.le_of_ble_eq_true rfl) rfl ?_
  unfold fX4_copyPiece at h
  refine k_aload_n (q := 0) dX4_copyPiece_0 rfl rfl ?_
  refine kg_4 (v := .ref (xad X (o + 1))) hL.1 inX4_copyPiece_4 1 (by decide) (List.mem_of_getElem? (i := 1) rfl) rfl dX4_copyPiece_1 ?_
  refine k_iload_n (q := 2) dX4_copyPiece_4 rfl rfl ?_
  refine k_aload_n (q := 0) dX4_copyPiece_5 rfl rfl ?_
  refine kg_4 (v := .ref (xad X (o + 1))) hL.1 inX4_copyPiece_4 1 (by decide) (List.mem_of_getElem? (i := 1) rfl) rfl dX4_copyPiece_6 ?_
  refine k_iload_n (q := 1) dX4_copyPiece_9 rfl rfl ?_
  refine k_iald (n := 20) hL.2.1 dX4_copyPiece_10 h (fun h => ?_)
  refine k_iast (n := 20) hL.2.1 dX4_copyPiece_11 h (fun σ1 h => ?_)
  refine k_aload_n (q := 0) dX4_copyPiece_12 rfl rfl ?_
  refine kg_4 (v := .ref (xad X (o + 2))) hL.1 inX4_copyPiece_4 2 (by decide) (List.mem_of_getElem? (i := 2) rfl) rfl dX4_copyPiece_13 ?_
  refine k_iload_n (q := 2) dX4_copyPiece_16 rfl rfl ?_
  refine k_aload_n (q := 0) dX4_copyPiece_17 rfl rfl ?_
  refine kg_4 (v := .ref (xad X (o + 2))) hL.1 inX4_copyPiece_4 2 (by decide) (List.mem_of_getElem? (i := 2) rfl) rfl dX4_copyPiece_18 ?_
  refine k_iload_n (q := 1) dX4_copyPiece_21 rfl rfl ?_
  refine k_iald (n := 20) hL.2.2.1 dX4_copyPiece_22 h (fun h => ?_)
  refine k_iast (n := 20) hL.2.2.1 dX4_copyPiece_23 h (fun σ2 h => ?_)
  refine k_aload_n (q := 0) dX4_copyPiece_24 rfl rfl ?_
  refine kg_4 (v := .ref (xad X (o + 3))) hL.1 inX4_copyPiece_4 3 (by decide) (List.mem_of_getElem? (i := 3) rfl) rfl dX4_copyPiece_25 ?_
  refine k_iload_n (q := 2) dX4_copyPiece_28 rfl rfl ?_
  refine k_aload_n (q := 0) dX4_copyPiece_29 rfl rfl ?_
  refine kg_4 (v := .ref (xad X (o + 3))) hL.1 inX4_copyPiece_4 3 (by decide) (List.mem_of_getElem? (i := 3) rfl) rfl dX4_copyPiece_30 ?_
  refine k_iload_n (q := 1) dX4_copyPiece_33 rfl rfl ?_
  refine k_iald (n := 20) hL.2.2.2.1 dX4_copyPiece_34 h (fun h => ?_)
  refine k_iast (n := 20) hL.2.2.2.1 dX4_copyPiece_35 h (fun σ3 h => ?_)
  refine k_aload_n (q := 0) dX4_copyPiece_36 rfl rfl ?_
  refine kg_4 (v := .ref (xad X (o + 4))) hL.1 inX4_copyPiece_4 4 (by decide) (List.mem_of_getElem? (i := 4) rfl) rfl dX4_copyPiece_37 ?_
  refine k_iload_n (q := 2) dX4_copyPiece_40 rfl rfl ?_
  refine k_aload_n (q := 0) dX4_copyPiece_41 rfl rfl ?_
  refine kg_4 (v := .ref (xad X (o + 4))) hL.1 inX4_copyPiece_4 4 (by decide) (List.mem_of_getElem? (i := 4) rfl) rfl dX4_copyPiece_42 ?_
  refine k_iload_n (q := 1) dX4_copyPiece_45 rfl rfl ?_
  refine k_iald (n := 20) hL.2.2.2.2 dX4_copyPiece_46 h (fun h => ?_)
  refine k_iast (n := 20) hL.2.2.2.2 dX4_copyPiece_47 h (fun σ4 h => ?_)
  exact k_vret rfl dX4_copyPiece_48 h
abbrev rmX4_insert : Room := { frames := 1, cells := 0, slots := 0, locals := 22 }
abbrev mX4_insert : MT := (rmX4_insert, wsX4_insert, cX4_insert, 6, RX4, none)
theorem hd_X4_insert : yX4_insert.cls = RX4 ∧ yX4_insert.cls ≠ "java/lang/invoke/MethodHandle" ∧ yX4_insert.cls ≠ "java/lang/invoke/VarHandle" ∧ (parseMethodDescriptor yX4_insert.desc).map (fun d => d.parameters.length) = some 4 := by decide +kernel
theorem inX4_insert_4 : ∀ w ∈ wsX40, w ∈ wsX4_insert := fun w h => List.mem_cons_of_mem _ (List.mem_append_right _ h)
set_option maxHeartbeats 4000000 in
set_option maxRecDepth 100000 in
theorem wX4_insert_26 (l : Launch) {X : XT} (hX : XD X) (g : Nat) (o : Nat) (hL : L4 o) {σ' : Mem} : ∀ (n : Nat) (σ : Mem) (x1 : Int32) (x2 : Int32) (x3 : Int32) (x4 : Int32) (x5 : Int32), fX4_insert_26 g o n σ x1 x2 x3 x4 x5 = some σ' → WG X l mX4_insert (fun _ _ => True) 0 0 (QM X (QV X σ')) 26 σ [(0, .ref (xad X o)), (1, .int x1), (2, .int x2), (3, .int x3), (4, .int x4), (5, .int x5)] [] := by
  intro n
  induction n with
  | zero => intro σ x1 x2 x3 x4 x5 h; exact nomatch (show (none : Option _) = some _ from h)
  | succ n ih =>
    intro σ x1 x2 x3 x4 x5 h
    rw [fX4_insert_26] at h
    refine k_iload (q := 5) dX4_insert_26 rfl ?_
    refine k_iload_n (q := 1) dX4_insert_28 rfl rfl ?_
    refine k_icmp_le (tgt := 48) dX4_insert_29 (by decide) h (fun h => ?_) (fun h => ?_)
    · refine k_aload_n (q := 0) dX4_insert_48 rfl rfl ?_
      refine kg_4 (v := .ref (xad X (o + 1))) hL.1 inX4_insert_4 1 (by decide) (List.mem_of_getElem? (i := 2) rfl) rfl dX4_insert_49 ?_
      refine k_iload_n (q := 1) dX4_insert_52 rfl rfl ?_
      refine k_iload_n (q := 2) dX4_insert_53 rfl rfl ?_
      refine k_iast (n := 20) hL.2.1 dX4_insert_54 h (fun σ5 h => ?_)
      refine k_aload_n (q := 0) dX4_insert_55 rfl rfl ?_
      refine kg_4 (v := .ref (xad X (o + 2))) hL.1 inX4_insert_4 2 (by decide) (List.mem_of_getElem? (i := 3) rfl) rfl dX4_insert_56 ?_
      refine k_iload_n (q := 1) dX4_insert_59 rfl rfl ?_
      refine k_iload_n (q := 3) dX4_insert_60 rfl rfl ?_
      refine k_iast (n := 20) hL.2.2.1 dX4_insert_61 h (fun σ6 h => ?_)
      refine k_aload_n (q := 0) dX4_insert_62 rfl rfl ?_
      refine kg_4 (v := .ref (xad X (o + 3))) hL.1 inX4_insert_4 3 (by decide) (List.mem_of_getElem? (i := 4) rfl) rfl dX4_insert_63 ?_
      refine k_iload_n (q := 1) dX4_insert_66 rfl rfl ?_
      refine k_iload (q := 4) dX4_insert_67 rfl ?_
      refine k_iast (n := 20) hL.2.2.2.1 dX4_insert_69 h (fun σ7 h => ?_)
      refine k_aload_n (q := 0) dX4_insert_70 rfl rfl ?_
      refine kg_4 (v := .ref (xad X (o + 4))) hL.1 inX4_insert_4 4 (by decide) (List.mem_of_getElem? (i := 5) rfl) rfl dX4_insert_71 ?_
      refine k_iload_n (q := 1) dX4_insert_74 rfl rfl ?_
      refine k_iconst (v := (nI 0)) dX4_insert_75 (by decide) ?_
      refine k_iast (n := 20) hL.2.2.2.2 dX4_insert_76 h (fun σ8 h => ?_)
      refine k_aload_n (q := 0) dX4_insert_77 rfl rfl ?_
      refine k_dup dX4_insert_78 rfl ?_
      refine kg_4 (v := .int (σ8 o 0)) hL.1 inX4_insert_4 0 (by decide) (List.mem_of_getElem? (i := 1) rfl) rfl dX4_insert_79 ?_
      refine k_iconst (v := (nI 1)) dX4_insert_82 (by decide) ?_
      refine k_iadd dX4_insert_83 ?_
      refine kp_4_0 hL.1 inX4_insert_4 (List.mem_of_getElem? (i := 1) rfl) dX4_insert_84 h (fun σ9 h => ?_)
      exact k_vret rfl dX4_insert_87 h
    · refine k_aload_n (q := 0) dX4_insert_32 rfl rfl ?_
      refine k_iload (q := 5) dX4_insert_33 rfl ?_
      refine k_iconst (v := (nI 1)) dX4_insert_35 (by decide) ?_
      refine k_isub dX4_insert_36 ?_
      refine k_iload (q := 5) dX4_insert_37 rfl ?_
      obtain ⟨σ11, hc10, h⟩ := bnd_e h
      refine k_cvv (q := (RX4, TX4, 5)) (As := [.int (x5 - (nI 1)), .int x5]) 2 (cm_X4_copyPiece l hX g σ o hL (x5 - (nI 1)) x5 hc10) gX4_insert_X4_copyPiece rfl ⟨rfl, rfl⟩ hd_X4_copyPiece ⟨Nat.le_of_ble_eq_true rfl, Nat.le_of_ble_eq_true rfl⟩ ⟨Nat.le_refl _, Nat.le_refl _⟩ (lay_lt hL.1 (by decide)) (ce_of hL.1) rfl rfl (Nat.le_of_ble_eq_true rfl) rfl dX4_insert_39 ?_
      refine k_iinc (q := 5) (v := (x5 + (nN 1))) (lv' := [(5, .int (x5 + (nN 1))), (0, .ref (xad X o)), (1, .int x1), (2, .int x2), (3, .int x3), (4, .int x4)]) dX4_insert_42 rfl rfl (Nat.le_of_ble_eq_true rfl) rfl ?_
      refine k_goto (tgt := 26) dX4_insert_45 (by decide) ?_
      refine k_sub (ks' := [1, 2, 3, 4, 5, 0]) rfl ?_
      exact ih σ11 x1 x2 x3 x4 (x5 + (nN 1)) h
set_option maxHeartbeats 4000000 in
set_option maxRecDepth 100000 in
theorem cm_X4_insert (l : Launch) {X : XT} (hX : XD X) (g : Nat) (σ : Mem) (o : Nat) (hL : L4 o) (p1 : Int32) (p2 : Int32) (p3 : Int32) (p4 : Int32) {σ' : Mem} (h : fX4_insert g σ o p1 p2 p3 p4 = some σ') : Met l yX4_insert wsX4_insert rmX4_insert (va_Pc [.ref (xad X o), .int p1, .int p2, .int p3, .int p4] (WW X σ)) (QV X σ') 0 0 (XA X) := by
  refine met_x (M := mX4_insert) (lv := [(0, .ref (xad X o)), (1, .int p1), (2, .int p2), (3, .int p3), (4, .int p4)]) hX (by decide) rfl rfl (Nat.le_of_ble_eq_true rfl) rfl ?_
  unfold fX4_insert at h
  refine k_aload_n (q := 0) dX4_insert_0 rfl rfl ?_
  obtain ⟨r2, hc1, h⟩ := bnd_e h
  refine k_cv (q := (RX4, TX4, 5)) (As := []) 0 (cm_X4_isFull l hX g σ o hL hc1) gX4_insert_X4_isFull rfl ⟨rfl, rfl⟩ hd_X4_isFull ⟨Nat.le_of_ble_eq_true rfl, Nat.le_of_ble_eq_true rfl⟩ ⟨Nat.le_refl _, Nat.le_refl _⟩ (lay_lt hL.1 (by decide)) (ce_of hL.1) rfl rfl (Nat.le_of_ble_eq_true rfl) rfl dX4_insert_1 ?_
  refine k_if_ne (tgt := 19) dX4_insert_4 (by decide) h (fun h => ?_) (fun h => ?_)
  · exact k_vret rfl dX4_insert_19 h
  · refine k_iload_n (q := 1) dX4_insert_7 rfl rfl ?_
    refine k_iconst (v := (nI 0)) dX4_insert_8 (by decide) ?_
    refine k_aload_n (q := 0) dX4_insert_9 rfl rfl ?_
    refine kg_4 (v := .int (σ o 0)) hL.1 inX4_insert_4 0 (by decide) (List.mem_of_getElem? (i := 1) rfl) rfl dX4_insert_10 ?_
    obtain ⟨r4, hc3, h⟩ := bnd_e h
    refine k_csN (host := "HoleReel") (As := [.int p1, .int (nI 0), .int (σ o 0)]) 3 (cm_X8_isWithin l hX g σ p1 (nI 0) (σ o 0) hc3) gX4_insert_X8_isWithin_n41 rfl ⟨rfl, rfl⟩ (fun _ hN => hN.2.2.2.2.1) (List.mem_of_getElem? (i := 12) rfl) (List.mem_of_getElem? (i := 11) rfl) hd_X8_isWithin ⟨Nat.le_of_ble_eq_true rfl, Nat.le_of_ble_eq_true rfl⟩ ⟨Nat.le_refl _, Nat.le_refl _⟩ rfl (Nat.le_of_ble_eq_true rfl) rfl dX4_insert_13 ?_
    refine k_if_ne (tgt := 20) dX4_insert_16 (by decide) h (fun h => ?_) (fun h => ?_)
    · refine k_aload_n (q := 0) dX4_insert_20 rfl rfl ?_
      refine kg_4 (v := .int (σ o 0)) hL.1 inX4_insert_4 0 (by decide) (List.mem_of_getElem? (i := 1) rfl) rfl dX4_insert_21 ?_
      refine k_istore (lv' := [(5, .int (σ o 0)), (0, .ref (xad X o)), (1, .int p1), (2, .int p2), (3, .int p3), (4, .int p4)]) dX4_insert_24 (Nat.le_of_ble_eq_true rfl) rfl ?_
      refine k_sub (ks' := [1, 2, 3, 4, 5, 0]) rfl ?_
      exact wX4_insert_26 l hX g o hL g σ p1 p2 p3 p4 (σ o 0) h
    · exact k_vret rfl dX4_insert_19 h
abbrev rmX4_goesOn : Room := { frames := 1, cells := 0, slots := 0, locals := 21 }
abbrev mX4_goesOn : MT := (rmX4_goesOn, wsX4_goesOn, cX4_goesOn, 2, RX4, some .boolean)
theorem hd_X4_goesOn : yX4_goesOn.cls = RX4 ∧ yX4_goesOn.cls ≠ "java/lang/invoke/MethodHandle" ∧ yX4_goesOn.cls ≠ "java/lang/invoke/VarHandle" ∧ (parseMethodDescriptor yX4_goesOn.desc).map (fun d => d.parameters.length) = some 1 := by decide +kernel
theorem inX4_goesOn_4 : ∀ w ∈ wsX40, w ∈ wsX4_goesOn := fun w h => List.mem_cons_of_mem _ (List.mem_append_right _ h)
set_option maxHeartbeats 4000000 in
set_option maxRecDepth 100000 in
theorem cm_X4_goesOn (l : Launch) {X : XT} (hX : XD X) (g : Nat) (σ : Mem) (o : Nat) (hL : L4 o) (p1 : Int32) {r : Int32} (h : fX4_goesOn g σ o p1 = some r) : Met l yX4_goesOn wsX4_goesOn rmX4_goesOn (va_Pc [.ref (xad X o), .int p1] (WW X σ)) (QI X r σ) 0 0 (XA X) := by
  refine met_x (M := mX4_goesOn) (lv := [(0, .ref (xad X o)), (1, .int p1)]) hX (by decide) rfl rfl (Nat.le_of_ble_eq_true rfl) rfl ?_
  unfold fX4_goesOn at h
  refine k_aload_n (q := 0) dX4_goesOn_0 rfl rfl ?_
  refine k_iload_n (q := 1) dX4_goesOn_1 rfl rfl ?_
  obtain ⟨r2, hc1, h⟩ := bnd_e h
  refine k_cv (q := (RX4, TX4, 5)) (As := [.int p1]) 1 (cm_X4_has l hX g σ o hL p1 hc1) gX4_goesOn_X4_has rfl ⟨rfl, rfl⟩ hd_X4_has ⟨Nat.le_of_ble_eq_true rfl, Nat.le_of_ble_eq_true rfl⟩ ⟨Nat.le_refl _, Nat.le_refl _⟩ (lay_lt hL.1 (by decide)) (ce_of hL.1) rfl rfl (Nat.le_of_ble_eq_true rfl) rfl dX4_goesOn_2 ?_
  refine k_if_eq (tgt := 58) dX4_goesOn_5 (by decide) h (fun h => ?_) (fun h => ?_)
  · refine k_iconst (v := (nI 0)) dX4_goesOn_58 (by decide) ?_
    exact k_zretR rfl dX4_goesOn_59 rfl h
  · refine k_aload_n (q := 0) dX4_goesOn_8 rfl rfl ?_
    refine k_iload_n (q := 1) dX4_goesOn_9 rfl rfl ?_
    refine k_iconst (v := (nI 1)) dX4_goesOn_10 (by decide) ?_
    refine k_iadd dX4_goesOn_11 ?_
    obtain ⟨r4, hc3, h⟩ := bnd_e h
    refine k_cv (q := (RX4, TX4, 5)) (As := [.int (p1 + (nI 1))]) 1 (cm_X4_has l hX g σ o hL (p1 + (nI 1)) hc3) gX4_goesOn_X4_has rfl ⟨rfl, rfl⟩ hd_X4_has ⟨Nat.le_of_ble_eq_true rfl, Nat.le_of_ble_eq_true rfl⟩ ⟨Nat.le_refl _, Nat.le_refl _⟩ (lay_lt hL.1 (by decide)) (ce_of hL.1) rfl rfl (Nat.le_of_ble_eq_true rfl) rfl dX4_goesOn_12 ?_
    refine k_if_eq (tgt := 58) dX4_goesOn_15 (by decide) h (fun h => ?_) (fun h => ?_)
    · refine k_iconst (v := (nI 0)) dX4_goesOn_58 (by decide) ?_
      exact k_zretR rfl dX4_goesOn_59 rfl h
    · refine k_aload_n (q := 0) dX4_goesOn_18 rfl rfl ?_
      refine kg_4 (v := .ref (xad X (o + 1))) hL.1 inX4_goesOn_4 1 (by decide) (List.mem_of_getElem? (i := 1) rfl) rfl dX4_goesOn_19 ?_
      refine k_iload_n (q := 1) dX4_goesOn_22 rfl rfl ?_
      refine k_iald (n := 20) hL.2.1 dX4_goesOn_23 h (fun h => ?_)
      refine k_aload_n (q := 0) dX4_goesOn_24 rfl rfl ?_
      refine kg_4 (v := .ref (xad X (o + 1))) hL.1 inX4_goesOn_4 1 (by decide) (List.mem_of_getElem? (i := 1) rfl) rfl dX4_goesOn_25 ?_
      refine k_iload_n (q := 1) dX4_goesOn_28 rfl rfl ?_
      refine k_iconst (v := (nI 1)) dX4_goesOn_29 (by decide) ?_
      refine k_iadd dX4_goesOn_30 ?_
      refine k_iald (n := 20) hL.2.1 dX4_goesOn_31 h (fun h => ?_)
      refine k_icmp_ne (tgt := 58) dX4_goesOn_32 (by decide) h (fun h => ?_) (fun h => ?_)
      · refine k_iconst (v := (nI 0)) dX4_goesOn_58 (by decide) ?_
        exact k_zretR rfl dX4_goesOn_59 rfl h
      · refine k_aload_n (q := 0) dX4_goesOn_35 rfl rfl ?_
        refine kg_4 (v := .ref (xad X (o + 3))) hL.1 inX4_goesOn_4 3 (by decide) (List.mem_of_getElem? (i := 2) rfl) rfl dX4_goesOn_36 ?_
        refine k_iload_n (q := 1) dX4_goesOn_39 rfl rfl ?_
        refine k_iald (n := 20) hL.2.2.2.1 dX4_goesOn_40 h (fun h => ?_)
        refine k_iconst (v := (nI 1)) dX4_goesOn_41 (by decide) ?_
        refine k_iadd dX4_goesOn_42 ?_
        refine k_aload_n (q := 0) dX4_goesOn_43 rfl rfl ?_
        refine kg_4 (v := .ref (xad X (o + 2))) hL.1 inX4_goesOn_4 2 (by decide) (List.mem_of_getElem? (i := 3) rfl) rfl dX4_goesOn_44 ?_
        refine k_iload_n (q := 1) dX4_goesOn_47 rfl rfl ?_
        refine k_iconst (v := (nI 1)) dX4_goesOn_48 (by decide) ?_
        refine k_iadd dX4_goesOn_49 ?_
        refine k_iald (n := 20) hL.2.2.1 dX4_goesOn_50 h (fun h => ?_)
        refine k_icmp_ne (tgt := 58) dX4_goesOn_51 (by decide) h (fun h => ?_) (fun h => ?_)
        · refine k_iconst (v := (nI 0)) dX4_goesOn_58 (by decide) ?_
          exact k_zretR rfl dX4_goesOn_59 rfl h
        · refine k_iconst (v := (nI 1)) dX4_goesOn_54 (by decide) ?_
          refine k_goto (tgt := 59) dX4_goesOn_55 (by decide) ?_
          exact k_zretR rfl dX4_goesOn_59 rfl h
abbrev rmX4_drop : Room := { frames := 1, cells := 0, slots := 0, locals := 22 }
abbrev mX4_drop : MT := (rmX4_drop, wsX4_drop, cX4_drop, 3, RX4, none)
theorem hd_X4_drop : yX4_drop.cls = RX4 ∧ yX4_drop.cls ≠ "java/lang/invoke/MethodHandle" ∧ yX4_drop.cls ≠ "java/lang/invoke/VarHandle" ∧ (parseMethodDescriptor yX4_drop.desc).map (fun d => d.parameters.length) = some 1 := by decide +kernel
theorem inX4_drop_4 : ∀ w ∈ wsX40, w ∈ wsX4_drop := fun w h => List.mem_cons_of_mem _ (List.mem_append_right _ h)
set_option maxHeartbeats 4000000 in
set_option maxRecDepth 100000 in
theorem wX4_drop_13 (l : Launch) {X : XT} (hX : XD X) (g : Nat) (o : Nat) (hL : L4 o) {σ' : Mem} : ∀ (n : Nat) (σ : Mem) (x2 : Int32), fX4_drop_13 g o n σ x2 = some σ' → WG X l mX4_drop (fun _ _ => True) 0 0 (QM X (QV X σ')) 13 σ [(0, .ref (xad X o)), (2, .int x2)] [] := by
  intro n
  induction n with
  | zero => intro σ x2 h; exact nomatch (show (none : Option _) = some _ from h)
  | succ n ih =>
    intro σ x2 h
    rw [fX4_drop_13] at h
    refine k_iload_n (q := 1) dX4_drop_13 rfl rfl ?_
    refine k_aload_n (q := 0) dX4_drop_14 rfl rfl ?_
    refine kg_4 (v := .int (σ o 0)) hL.1 inX4_drop_4 0 (by decide) (List.mem_of_getElem? (i := 1) rfl) rfl dX4_drop_15 ?_
    refine k_icmp_ge (tgt := 35) dX4_drop_18 (by decide) h (fun h => ?_) (fun h => ?_)
    · refine k_aload_n (q := 0) dX4_drop_35 rfl rfl ?_
      refine k_dup dX4_drop_36 rfl ?_
      refine kg_4 (v := .int (σ o 0)) hL.1 inX4_drop_4 0 (by decide) (List.mem_of_getElem? (i := 1) rfl) rfl dX4_drop_37 ?_
      refine k_iconst (v := (nI 1)) dX4_drop_40 (by decide) ?_
      refine k_isub dX4_drop_41 ?_
      refine kp_4_0 hL.1 inX4_drop_4 (List.mem_of_getElem? (i := 1) rfl) dX4_drop_42 h (fun σ3 h => ?_)
      exact k_vret rfl dX4_drop_45 h
    · refine k_aload_n (q := 0) dX4_drop_21 rfl rfl ?_
      refine k_iload_n (q := 1) dX4_drop_22 rfl rfl ?_
      refine k_iload_n (q := 1) dX4_drop_23 rfl rfl ?_
      refine k_iconst (v := (nI 1)) dX4_drop_24 (by decide) ?_
      refine k_isub dX4_drop_25 ?_
      obtain ⟨σ5, hc4, h⟩ := bnd_e h
      refine k_cvv (q := (RX4, TX4, 5)) (As := [.int x2, .int (x2 - (nI 1))]) 2 (cm_X4_copyPiece l hX g σ o hL x2 (x2 - (nI 1)) hc4) gX4_drop_X4_copyPiece rfl ⟨rfl, rfl⟩ hd_X4_copyPiece ⟨Nat.le_of_ble_eq_true rfl, Nat.le_of_ble_eq_true rfl⟩ ⟨Nat.le_refl _, Nat.le_refl _⟩ (lay_lt hL.1 (by decide)) (ce_of hL.1) rfl rfl (Nat.le_of_ble_eq_true rfl) rfl dX4_drop_26 ?_
      refine k_iinc (q := 1) (v := (x2 + (nI 1))) (lv' := [(2, .int (x2 + (nI 1))), (0, .ref (xad X o))]) dX4_drop_29 rfl rfl (Nat.le_of_ble_eq_true rfl) rfl ?_
      refine k_goto (tgt := 13) dX4_drop_32 (by decide) ?_
      refine k_sub (ks' := [1, 0]) rfl ?_
      exact ih σ5 (x2 + (nI 1)) h
set_option maxHeartbeats 4000000 in
set_option maxRecDepth 100000 in
theorem cm_X4_drop (l : Launch) {X : XT} (hX : XD X) (g : Nat) (σ : Mem) (o : Nat) (hL : L4 o) (p1 : Int32) {σ' : Mem} (h : fX4_drop g σ o p1 = some σ') : Met l yX4_drop wsX4_drop rmX4_drop (va_Pc [.ref (xad X o), .int p1] (WW X σ)) (QV X σ') 0 0 (XA X) := by
  refine met_x (M := mX4_drop) (lv := [(0, .ref (xad X o)), (1, .int p1)]) hX (by decide) rfl rfl (Nat.le_of_ble_eq_true rfl) rfl ?_
  unfold fX4_drop at h
  refine k_aload_n (q := 0) dX4_drop_0 rfl rfl ?_
  refine k_iload_n (q := 1) dX4_drop_1 rfl rfl ?_
  obtain ⟨r2, hc1, h⟩ := bnd_e h
  refine k_cv (q := (RX4, TX4, 5)) (As := [.int p1]) 1 (cm_X4_has l hX g σ o hL p1 hc1) gX4_drop_X4_has rfl ⟨rfl, rfl⟩ hd_X4_has ⟨Nat.le_of_ble_eq_true rfl, Nat.le_of_ble_eq_true rfl⟩ ⟨Nat.le_refl _, Nat.le_refl _⟩ (lay_lt hL.1 (by decide)) (ce_of hL.1) rfl rfl (Nat.le_of_ble_eq_true rfl) rfl dX4_drop_2 ?_
  refine k_if_ne (tgt := 9) dX4_drop_5 (by decide) h (fun h => ?_) (fun h => ?_)
  · refine k_iload_n (q := 1) dX4_drop_9 rfl rfl ?_
    refine k_iconst (v := (nI 1)) dX4_drop_10 (by decide) ?_
    refine k_iadd dX4_drop_11 ?_
    refine k_istore_n (lv' := [(2, .int (p1 + (nI 1))), (0, .ref (xad X o)), (1, .int p1)]) dX4_drop_12 rfl (Nat.le_of_ble_eq_true rfl) rfl ?_
    refine k_sub (ks' := [1, 0]) rfl ?_
    exact wX4_drop_13 l hX g o hL g σ (p1 + (nI 1)) h
  · exact k_vret rfl dX4_drop_8 h
abbrev rmX4_renewSplice : Room := { frames := 1, cells := 0, slots := 0, locals := 21 }
abbrev mX4_renewSplice : MT := (rmX4_renewSplice, wsX4_renewSplice, cX4_renewSplice, 2, RX4, none)
theorem hd_X4_renewSplice : yX4_renewSplice.cls = RX4 ∧ yX4_renewSplice.cls ≠ "java/lang/invoke/MethodHandle" ∧ yX4_renewSplice.cls ≠ "java/lang/invoke/VarHandle" ∧ (parseMethodDescriptor yX4_renewSplice.desc).map (fun d => d.parameters.length) = some 1 := by decide +kernel
theorem inX4_renewSplice_4 : ∀ w ∈ wsX40, w ∈ wsX4_renewSplice := fun w h => List.mem_cons_of_mem _ (List.mem_append_right _ h)
set_option maxHeartbeats 4000000 in
set_option maxRecDepth 100000 in
theorem cm_X4_renewSplice (l : Launch) {X : XT} (hX : XD X) (g : Nat) (σ : Mem) (o : Nat) (hL : L4 o) (p1 : Int32) {σ' : Mem} (h : fX4_renewSplice g σ o p1 = some σ') : Met l yX4_renewSplice wsX4_renewSplice rmX4_renewSplice (va_Pc [.ref (xad X o), .int p1] (WW X σ)) (QV X σ') 0 0 (XA X) := by
  refine met_x (M := mX4_renewSplice) (lv := [(0, .ref (xad X o)), (1, .int p1)]) hX (by decide) rfl rfl (Nat.le_of_ble_eq_true rfl) rfl ?_
  unfold fX4_renewSplice at h
  refine k_aload_n (q := 0) dX4_renewSplice_0 rfl rfl ?_
  refine k_iload_n (q := 1) dX4_renewSplice_1 rfl rfl ?_
  obtain ⟨r2, hc1, h⟩ := bnd_e h
  refine k_cv (q := (RX4, TX4, 5)) (As := [.int p1]) 1 (cm_X4_has l hX g σ o hL p1 hc1) gX4_renewSplice_X4_has rfl ⟨rfl, rfl⟩ hd_X4_has ⟨Nat.le_of_ble_eq_true rfl, Nat.le_of_ble_eq_true rfl⟩ ⟨Nat.le_refl _, Nat.le_refl _⟩ (lay_lt hL.1 (by decide)) (ce_of hL.1) rfl rfl (Nat.le_of_ble_eq_true rfl) rfl dX4_renewSplice_2 ?_
  refine k_if_eq (tgt := 15) dX4_renewSplice_5 (by decide) h (fun h => ?_) (fun h => ?_)
  · exact k_vret rfl dX4_renewSplice_15 h
  · refine k_aload_n (q := 0) dX4_renewSplice_8 rfl rfl ?_
    refine kg_4 (v := .ref (xad X (o + 4))) hL.1 inX4_renewSplice_4 4 (by decide) (List.mem_of_getElem? (i := 1) rfl) rfl dX4_renewSplice_9 ?_
    refine k_iload_n (q := 1) dX4_renewSplice_12 rfl rfl ?_
    refine k_iconst (v := (nI 0)) dX4_renewSplice_13 (by decide) ?_
    refine k_iast (n := 20) hL.2.2.2.2 dX4_renewSplice_14 h (fun σ3 h => ?_)
    exact k_vret rfl dX4_renewSplice_15 h
abbrev rmX4_pullFrom : Room := { frames := 2, cells := 0, slots := 0, locals := 44 }
abbrev mX4_pullFrom : MT := (rmX4_pullFrom, wsX4_pullFrom, cX4_pullFrom, 2, RX4, none)
theorem hd_X4_pullFrom : yX4_pullFrom.cls = RX4 ∧ yX4_pullFrom.cls ≠ "java/lang/invoke/MethodHandle" ∧ yX4_pullFrom.cls ≠ "java/lang/invoke/VarHandle" ∧ (parseMethodDescriptor yX4_pullFrom.desc).map (fun d => d.parameters.length) = some 1 := by decide +kernel
theorem inX4_pullFrom_4 : ∀ w ∈ wsX40, w ∈ wsX4_pullFrom := fun w h => List.mem_cons_of_mem _ (List.mem_append_right _ h)
set_option maxHeartbeats 4000000 in
set_option maxRecDepth 100000 in
theorem cm_X4_pullFrom (l : Launch) {X : XT} (hX : XD X) (g : Nat) (σ : Mem) (o : Nat) (hL : L4 o) (p1 : Int32) {σ' : Mem} (h : fX4_pullFrom g σ o p1 = some σ') : Met l yX4_pullFrom wsX4_pullFrom rmX4_pullFrom (va_Pc [.ref (xad X o), .int p1] (WW X σ)) (QV X σ') 0 0 (XA X) := by
  refine met_x (M := mX4_pullFrom) (lv := [(0, .ref (xad X o)), (1, .int p1)]) hX (by decide) rfl rfl (Nat.le_of_ble_eq_true rfl) rfl ?_
  unfold fX4_pullFrom at h
  refine k_aload_n (q := 0) dX4_pullFrom_0 rfl rfl ?_
  refine k_iload_n (q := 1) dX4_pullFrom_1 rfl rfl ?_
  obtain ⟨σ2, hc1, h⟩ := bnd_e h
  refine k_cvv (q := (RX4, TX4, 5)) (As := [.int p1]) 1 (cm_X4_drop l hX g σ o hL p1 hc1) gX4_pullFrom_X4_drop rfl ⟨rfl, rfl⟩ hd_X4_drop ⟨Nat.le_of_ble_eq_true rfl, Nat.le_of_ble_eq_true rfl⟩ ⟨Nat.le_refl _, Nat.le_refl _⟩ (lay_lt hL.1 (by decide)) (ce_of hL.1) rfl rfl (Nat.le_of_ble_eq_true rfl) rfl dX4_pullFrom_2 ?_
  refine k_aload_n (q := 0) dX4_pullFrom_5 rfl rfl ?_
  refine k_iload_n (q := 1) dX4_pullFrom_6 rfl rfl ?_
  obtain ⟨σ4, hc3, h⟩ := bnd_e h
  refine k_cvv (q := (RX4, TX4, 5)) (As := [.int p1]) 1 (cm_X4_renewSplice l hX g σ2 o hL p1 hc3) gX4_pullFrom_X4_renewSplice rfl ⟨rfl, rfl⟩ hd_X4_renewSplice ⟨Nat.le_of_ble_eq_true rfl, Nat.le_of_ble_eq_true rfl⟩ ⟨Nat.le_refl _, Nat.le_refl _⟩ (lay_lt hL.1 (by decide)) (ce_of hL.1) rfl rfl (Nat.le_of_ble_eq_true rfl) rfl dX4_pullFrom_7 ?_
  exact k_vret rfl dX4_pullFrom_10 h
abbrev rmX4_putAt : Room := { frames := 2, cells := 0, slots := 0, locals := 47 }
abbrev mX4_putAt : MT := (rmX4_putAt, wsX4_putAt, cX4_putAt, 5, RX4, none)
theorem hd_X4_putAt : yX4_putAt.cls = RX4 ∧ yX4_putAt.cls ≠ "java/lang/invoke/MethodHandle" ∧ yX4_putAt.cls ≠ "java/lang/invoke/VarHandle" ∧ (parseMethodDescriptor yX4_putAt.desc).map (fun d => d.parameters.length) = some 4 := by decide +kernel
theorem inX4_putAt_4 : ∀ w ∈ wsX40, w ∈ wsX4_putAt := fun w h => List.mem_cons_of_mem _ (List.mem_append_right _ h)
set_option maxHeartbeats 4000000 in
set_option maxRecDepth 100000 in
theorem cm_X4_putAt (l : Launch) {X : XT} (hX : XD X) (g : Nat) (σ : Mem) (o : Nat) (hL : L4 o) (p1 : Int32) (p2 : Int32) (p3 : Int32) (p4 : Int32) {σ' : Mem} (h : fX4_putAt g σ o p1 p2 p3 p4 = some σ') : Met l yX4_putAt wsX4_putAt rmX4_putAt (va_Pc [.ref (xad X o), .int p1, .int p2, .int p3, .int p4] (WW X σ)) (QV X σ') 0 0 (XA X) := by
  refine met_x (M := mX4_putAt) (lv := [(0, .ref (xad X o)), (1, .int p1), (2, .int p2), (3, .int p3), (4, .int p4)]) hX (by decide) rfl rfl (Nat.le_of_ble_eq_true rfl) rfl ?_
  unfold fX4_putAt at h
  refine k_aload_n (q := 0) dX4_putAt_0 rfl rfl ?_
  refine k_iload_n (q := 1) dX4_putAt_1 rfl rfl ?_
  refine k_iload_n (q := 2) dX4_putAt_2 rfl rfl ?_
  refine k_iload_n (q := 3) dX4_putAt_3 rfl rfl ?_
  refine k_iload (q := 4) dX4_putAt_4 rfl ?_
  obtain ⟨σ2, hc1, h⟩ := bnd_e h
  refine k_cvv (q := (RX4, TX4, 5)) (As := [.int p1, .int p2, .int p3, .int p4]) 4 (cm_X4_insert l hX g σ o hL p1 p2 p3 p4 hc1) gX4_putAt_X4_insert rfl ⟨rfl, rfl⟩ hd_X4_insert ⟨Nat.le_of_ble_eq_true rfl, Nat.le_of_ble_eq_true rfl⟩ ⟨Nat.le_refl _, Nat.le_refl _⟩ (lay_lt hL.1 (by decide)) (ce_of hL.1) rfl rfl (Nat.le_of_ble_eq_true rfl) rfl dX4_putAt_6 ?_
  refine k_aload_n (q := 0) dX4_putAt_9 rfl rfl ?_
  refine k_iload_n (q := 1) dX4_putAt_10 rfl rfl ?_
  refine k_iconst (v := (nI 1)) dX4_putAt_11 (by decide) ?_
  refine k_iadd dX4_putAt_12 ?_
  obtain ⟨σ4, hc3, h⟩ := bnd_e h
  refine k_cvv (q := (RX4, TX4, 5)) (As := [.int (p1 + (nI 1))]) 1 (cm_X4_renewSplice l hX g σ2 o hL (p1 + (nI 1)) hc3) gX4_putAt_X4_renewSplice rfl ⟨rfl, rfl⟩ hd_X4_renewSplice ⟨Nat.le_of_ble_eq_true rfl, Nat.le_of_ble_eq_true rfl⟩ ⟨Nat.le_refl _, Nat.le_refl _⟩ (lay_lt hL.1 (by decide)) (ce_of hL.1) rfl rfl (Nat.le_of_ble_eq_true rfl) rfl dX4_putAt_13 ?_
  exact k_vret rfl dX4_putAt_16 h
abbrev rmX6_copyFrom : Room := { frames := 1, cells := 0, slots := 0, locals := 26 }
abbrev mX6_copyFrom : MT := (rmX6_copyFrom, wsX6_copyFrom, cX6_copyFrom, 2, RX6, none)
theorem hd_X6_copyFrom : yX6_copyFrom.cls = RX6 ∧ yX6_copyFrom.cls ≠ "java/lang/invoke/MethodHandle" ∧ yX6_copyFrom.cls ≠ "java/lang/invoke/VarHandle" ∧ (parseMethodDescriptor yX6_copyFrom.desc).map (fun d => d.parameters.length) = some 1 := by decide +kernel
theorem inX6_copyFrom_6 : ∀ w ∈ wsX60, w ∈ wsX6_copyFrom := fun w h => List.mem_cons_of_mem _ (List.mem_append_right _ h)
set_option maxHeartbeats 4000000 in
set_option maxRecDepth 100000 in
theorem cm_X6_copyFrom (l : Launch) {X : XT} (hX : XD X) (g : Nat) (σ : Mem) (o : Nat) (hL : L6 o) (o1 : Nat) (hLo1 : L6 o1) {σ' : Mem} (h : fX6_copyFrom g σ o o1 = some σ') : Met l yX6_copyFrom wsX6_copyFrom rmX6_copyFrom (va_Pc [.ref (xad X o), .ref (xad X o1)] (WW X σ)) (QV X σ') 0 0 (XA X) := by
  refine met_x (M := mX6_copyFrom) (lv := [(0, .ref (xad X o)), (1, .ref (xad X o1))]) hX (by decide) rfl rfl (Nat.le_of_ble_eq_true rfl) rfl ?_
  unfold fX6_copyFrom at h
  refine k_aload_n (q := 0) dX6_copyFrom_0 rfl rfl ?_
  refine k_aload_n (q := 1) dX6_copyFrom_1 rfl rfl ?_
  refine kg_6 (v := .int (σ o1 0)) hLo1.1 inX6_copyFrom_6 0 (by decide) (List.mem_of_getElem? (i := 1) rfl) rfl dX6_copyFrom_2 ?_
  refine kp_6_0 hL.1 inX6_copyFrom_6 (List.mem_of_getElem? (i := 1) rfl) dX6_copyFrom_5 h (fun σ1 h => ?_)
  refine k_aload_n (q := 1) dX6_copyFrom_8 rfl rfl ?_
  refine kg_6 (v := .ref (xad X (o1 + 1))) hLo1.1 inX6_copyFrom_6 1 (by decide) (List.mem_of_getElem? (i := 2) rfl) rfl dX6_copyFrom_9 ?_
  refine k_iconst (v := (nI 0)) dX6_copyFrom_12 (by decide) ?_
  refine k_aload_n (q := 0) dX6_copyFrom_13 rfl rfl ?_
  refine kg_6 (v := .ref (xad X (o + 1))) hL.1 inX6_copyFrom_6 1 (by decide) (List.mem_of_getElem? (i := 2) rfl) rfl dX6_copyFrom_14 ?_
  refine k_iconst (v := (nI 0)) dX6_copyFrom_17 (by decide) ?_
  refine k_bipush (v := (nI 12)) dX6_copyFrom_18 (by decide) ?_
  refine k_copy (n := 12) hLo1.2.1 hL.2.1 (by decide) (by decide) (List.mem_of_getElem? (i := 3) rfl) (List.mem_of_getElem? (i := 4) rfl) (List.mem_of_getElem? (i := 5) rfl) (List.mem_of_getElem? (i := 6) rfl) (Nat.le_of_ble_eq_true rfl) (Nat.le_of_ble_eq_true rfl) dX6_copyFrom_20 h (fun σ2 h => ?_)
  refine k_aload_n (q := 1) dX6_copyFrom_23 rfl rfl ?_
  refine kg_6 (v := .ref (xad X (o1 + 2))) hLo1.1 inX6_copyFrom_6 2 (by decide) (List.mem_of_getElem? (i := 7) rfl) rfl dX6_copyFrom_24 ?_
  refine k_iconst (v := (nI 0)) dX6_copyFrom_27 (by decide) ?_
  refine k_aload_n (q := 0) dX6_copyFrom_28 rfl rfl ?_
  refine kg_6 (v := .ref (xad X (o + 2))) hL.1 inX6_copyFrom_6 2 (by decide) (List.mem_of_getElem? (i := 7) rfl) rfl dX6_copyFrom_29 ?_
  refine k_iconst (v := (nI 0)) dX6_copyFrom_32 (by decide) ?_
  refine k_bipush (v := (nI 12)) dX6_copyFrom_33 (by decide) ?_
  refine k_copy (n := 12) hLo1.2.2.1 hL.2.2.1 (by decide) (by decide) (List.mem_of_getElem? (i := 3) rfl) (List.mem_of_getElem? (i := 4) rfl) (List.mem_of_getElem? (i := 5) rfl) (List.mem_of_getElem? (i := 6) rfl) (Nat.le_of_ble_eq_true rfl) (Nat.le_of_ble_eq_true rfl) dX6_copyFrom_35 h (fun σ3 h => ?_)
  refine k_aload_n (q := 1) dX6_copyFrom_38 rfl rfl ?_
  refine kg_6 (v := .ref (xad X (o1 + 3))) hLo1.1 inX6_copyFrom_6 3 (by decide) (List.mem_of_getElem? (i := 8) rfl) rfl dX6_copyFrom_39 ?_
  refine k_iconst (v := (nI 0)) dX6_copyFrom_42 (by decide) ?_
  refine k_aload_n (q := 0) dX6_copyFrom_43 rfl rfl ?_
  refine kg_6 (v := .ref (xad X (o + 3))) hL.1 inX6_copyFrom_6 3 (by decide) (List.mem_of_getElem? (i := 8) rfl) rfl dX6_copyFrom_44 ?_
  refine k_iconst (v := (nI 0)) dX6_copyFrom_47 (by decide) ?_
  refine k_sipush (v := (nI 480)) dX6_copyFrom_48 (by decide) ?_
  refine k_copy (n := 480) hLo1.2.2.2.1 hL.2.2.2.1 (by decide) (by decide) (List.mem_of_getElem? (i := 3) rfl) (List.mem_of_getElem? (i := 4) rfl) (List.mem_of_getElem? (i := 5) rfl) (List.mem_of_getElem? (i := 6) rfl) (Nat.le_of_ble_eq_true rfl) (Nat.le_of_ble_eq_true rfl) dX6_copyFrom_51 h (fun σ4 h => ?_)
  refine k_aload_n (q := 1) dX6_copyFrom_54 rfl rfl ?_
  refine kg_6 (v := .ref (xad X (o1 + 4))) hLo1.1 inX6_copyFrom_6 4 (by decide) (List.mem_of_getElem? (i := 9) rfl) rfl dX6_copyFrom_55 ?_
  refine k_iconst (v := (nI 0)) dX6_copyFrom_58 (by decide) ?_
  refine k_aload_n (q := 0) dX6_copyFrom_59 rfl rfl ?_
  refine kg_6 (v := .ref (xad X (o + 4))) hL.1 inX6_copyFrom_6 4 (by decide) (List.mem_of_getElem? (i := 9) rfl) rfl dX6_copyFrom_60 ?_
  refine k_iconst (v := (nI 0)) dX6_copyFrom_63 (by decide) ?_
  refine k_sipush (v := (nI 480)) dX6_copyFrom_64 (by decide) ?_
  refine k_copy (n := 480) hLo1.2.2.2.2 hL.2.2.2.2 (by decide) (by decide) (List.mem_of_getElem? (i := 3) rfl) (List.mem_of_getElem? (i := 4) rfl) (List.mem_of_getElem? (i := 5) rfl) (List.mem_of_getElem? (i := 6) rfl) (Nat.le_of_ble_eq_true rfl) (Nat.le_of_ble_eq_true rfl) dX6_copyFrom_67 h (fun σ5 h => ?_)
  exact k_vret rfl dX6_copyFrom_70 h
abbrev rmX7_copyFrom : Room := { frames := 1, cells := 0, slots := 0, locals := 26 }
abbrev mX7_copyFrom : MT := (rmX7_copyFrom, wsX7_copyFrom, cX7_copyFrom, 2, RX7, none)
theorem hd_X7_copyFrom : yX7_copyFrom.cls = RX7 ∧ yX7_copyFrom.cls ≠ "java/lang/invoke/MethodHandle" ∧ yX7_copyFrom.cls ≠ "java/lang/invoke/VarHandle" ∧ (parseMethodDescriptor yX7_copyFrom.desc).map (fun d => d.parameters.length) = some 1 := by decide +kernel
theorem inX7_copyFrom_7 : ∀ w ∈ wsX70, w ∈ wsX7_copyFrom := fun w h => List.mem_cons_of_mem _ (List.mem_append_right _ h)
set_option maxHeartbeats 4000000 in
set_option maxRecDepth 100000 in
theorem cm_X7_copyFrom (l : Launch) {X : XT} (hX : XD X) (g : Nat) (σ : Mem) (o : Nat) (hL : L7 o) (o1 : Nat) (hLo1 : L7 o1) {σ' : Mem} (h : fX7_copyFrom g σ o o1 = some σ') : Met l yX7_copyFrom wsX7_copyFrom rmX7_copyFrom (va_Pc [.ref (xad X o), .ref (xad X o1)] (WW X σ)) (QV X σ') 0 0 (XA X) := by
  refine met_x (M := mX7_copyFrom) (lv := [(0, .ref (xad X o)), (1, .ref (xad X o1))]) hX (by decide) rfl rfl (Nat.le_of_ble_eq_true rfl) rfl ?_
  unfold fX7_copyFrom at h
  refine k_aload_n (q := 0) dX7_copyFrom_0 rfl rfl ?_
  refine k_aload_n (q := 1) dX7_copyFrom_1 rfl rfl ?_
  refine kg_7 (v := .int (σ o1 0)) hLo1.1 inX7_copyFrom_7 0 (by decide) (List.mem_of_getElem? (i := 1) rfl) rfl dX7_copyFrom_2 ?_
  refine kp_7_0 hL.1 inX7_copyFrom_7 (List.mem_of_getElem? (i := 1) rfl) dX7_copyFrom_5 h (fun σ1 h => ?_)
  refine k_aload_n (q := 1) dX7_copyFrom_8 rfl rfl ?_
  refine kg_7 (v := .ref (xad X (o1 + 1))) hLo1.1 inX7_copyFrom_7 1 (by decide) (List.mem_of_getElem? (i := 2) rfl) rfl dX7_copyFrom_9 ?_
  refine k_iconst (v := (nI 0)) dX7_copyFrom_12 (by decide) ?_
  refine k_aload_n (q := 0) dX7_copyFrom_13 rfl rfl ?_
  refine kg_7 (v := .ref (xad X (o + 1))) hL.1 inX7_copyFrom_7 1 (by decide) (List.mem_of_getElem? (i := 2) rfl) rfl dX7_copyFrom_14 ?_
  refine k_iconst (v := (nI 0)) dX7_copyFrom_17 (by decide) ?_
  refine k_bipush (v := (nI 8)) dX7_copyFrom_18 (by decide) ?_
  refine k_copy (n := 8) hLo1.2.1 hL.2.1 (by decide) (by decide) (List.mem_of_getElem? (i := 3) rfl) (List.mem_of_getElem? (i := 4) rfl) (List.mem_of_getElem? (i := 5) rfl) (List.mem_of_getElem? (i := 6) rfl) (Nat.le_of_ble_eq_true rfl) (Nat.le_of_ble_eq_true rfl) dX7_copyFrom_20 h (fun σ2 h => ?_)
  refine k_aload_n (q := 1) dX7_copyFrom_23 rfl rfl ?_
  refine kg_7 (v := .ref (xad X (o1 + 2))) hLo1.1 inX7_copyFrom_7 2 (by decide) (List.mem_of_getElem? (i := 7) rfl) rfl dX7_copyFrom_24 ?_
  refine k_iconst (v := (nI 0)) dX7_copyFrom_27 (by decide) ?_
  refine k_aload_n (q := 0) dX7_copyFrom_28 rfl rfl ?_
  refine kg_7 (v := .ref (xad X (o + 2))) hL.1 inX7_copyFrom_7 2 (by decide) (List.mem_of_getElem? (i := 7) rfl) rfl dX7_copyFrom_29 ?_
  refine k_iconst (v := (nI 0)) dX7_copyFrom_32 (by decide) ?_
  refine k_bipush (v := (nI 8)) dX7_copyFrom_33 (by decide) ?_
  refine k_copy (n := 8) hLo1.2.2.1 hL.2.2.1 (by decide) (by decide) (List.mem_of_getElem? (i := 3) rfl) (List.mem_of_getElem? (i := 4) rfl) (List.mem_of_getElem? (i := 5) rfl) (List.mem_of_getElem? (i := 6) rfl) (Nat.le_of_ble_eq_true rfl) (Nat.le_of_ble_eq_true rfl) dX7_copyFrom_35 h (fun σ3 h => ?_)
  refine k_aload_n (q := 1) dX7_copyFrom_38 rfl rfl ?_
  refine kg_7 (v := .ref (xad X (o1 + 3))) hLo1.1 inX7_copyFrom_7 3 (by decide) (List.mem_of_getElem? (i := 8) rfl) rfl dX7_copyFrom_39 ?_
  refine k_iconst (v := (nI 0)) dX7_copyFrom_42 (by decide) ?_
  refine k_aload_n (q := 0) dX7_copyFrom_43 rfl rfl ?_
  refine kg_7 (v := .ref (xad X (o + 3))) hL.1 inX7_copyFrom_7 3 (by decide) (List.mem_of_getElem? (i := 8) rfl) rfl dX7_copyFrom_44 ?_
  refine k_iconst (v := (nI 0)) dX7_copyFrom_47 (by decide) ?_
  refine k_bipush (v := (nI 8)) dX7_copyFrom_48 (by decide) ?_
  refine k_copy (n := 8) hLo1.2.2.2 hL.2.2.2 (by decide) (by decide) (List.mem_of_getElem? (i := 3) rfl) (List.mem_of_getElem? (i := 4) rfl) (List.mem_of_getElem? (i := 5) rfl) (List.mem_of_getElem? (i := 6) rfl) (Nat.le_of_ble_eq_true rfl) (Nat.le_of_ble_eq_true rfl) dX7_copyFrom_50 h (fun σ4 h => ?_)
  exact k_vret rfl dX7_copyFrom_53 h
abbrev rmX5_copyFrom : Room := { frames := 1, cells := 0, slots := 0, locals := 26 }
abbrev mX5_copyFrom : MT := (rmX5_copyFrom, wsX5_copyFrom, cX5_copyFrom, 2, RX5, none)
theorem hd_X5_copyFrom : yX5_copyFrom.cls = RX5 ∧ yX5_copyFrom.cls ≠ "java/lang/invoke/MethodHandle" ∧ yX5_copyFrom.cls ≠ "java/lang/invoke/VarHandle" ∧ (parseMethodDescriptor yX5_copyFrom.desc).map (fun d => d.parameters.length) = some 1 := by decide +kernel
theorem inX5_copyFrom_5 : ∀ w ∈ wsX50, w ∈ wsX5_copyFrom := fun w h => List.mem_cons_of_mem _ (List.mem_append_right _ h)
set_option maxHeartbeats 4000000 in
set_option maxRecDepth 100000 in
theorem cm_X5_copyFrom (l : Launch) {X : XT} (hX : XD X) (g : Nat) (σ : Mem) (o : Nat) (hL : L5 o) (o1 : Nat) (hLo1 : L5 o1) {σ' : Mem} (h : fX5_copyFrom g σ o o1 = some σ') : Met l yX5_copyFrom wsX5_copyFrom rmX5_copyFrom (va_Pc [.ref (xad X o), .ref (xad X o1)] (WW X σ)) (QV X σ') 0 0 (XA X) := by
  refine met_x (M := mX5_copyFrom) (lv := [(0, .ref (xad X o)), (1, .ref (xad X o1))]) hX (by decide) rfl rfl (Nat.le_of_ble_eq_true rfl) rfl ?_
  unfold fX5_copyFrom at h
  refine k_aload_n (q := 1) dX5_copyFrom_0 rfl rfl ?_
  refine kg_5 (v := .ref (xad X (o1 + 1))) hLo1.1 inX5_copyFrom_5 0 (by decide) (List.mem_of_getElem? (i := 1) rfl) rfl dX5_copyFrom_1 ?_
  refine k_iconst (v := (nI 0)) dX5_copyFrom_4 (by decide) ?_
  refine k_aload_n (q := 0) dX5_copyFrom_5 rfl rfl ?_
  refine kg_5 (v := .ref (xad X (o + 1))) hL.1 inX5_copyFrom_5 0 (by decide) (List.mem_of_getElem? (i := 1) rfl) rfl dX5_copyFrom_6 ?_
  refine k_iconst (v := (nI 0)) dX5_copyFrom_9 (by decide) ?_
  refine k_bipush (v := (nI 8)) dX5_copyFrom_10 (by decide) ?_
  refine k_copy (n := 8) hLo1.2.1 hL.2.1 (by decide) (by decide) (List.mem_of_getElem? (i := 2) rfl) (List.mem_of_getElem? (i := 3) rfl) (List.mem_of_getElem? (i := 4) rfl) (List.mem_of_getElem? (i := 5) rfl) (Nat.le_of_ble_eq_true rfl) (Nat.le_of_ble_eq_true rfl) dX5_copyFrom_12 h (fun σ1 h => ?_)
  refine k_aload_n (q := 1) dX5_copyFrom_15 rfl rfl ?_
  refine kg_5 (v := .ref (xad X (o1 + 2))) hLo1.1 inX5_copyFrom_5 1 (by decide) (List.mem_of_getElem? (i := 6) rfl) rfl dX5_copyFrom_16 ?_
  refine k_iconst (v := (nI 0)) dX5_copyFrom_19 (by decide) ?_
  refine k_aload_n (q := 0) dX5_copyFrom_20 rfl rfl ?_
  refine kg_5 (v := .ref (xad X (o + 2))) hL.1 inX5_copyFrom_5 1 (by decide) (List.mem_of_getElem? (i := 6) rfl) rfl dX5_copyFrom_21 ?_
  refine k_iconst (v := (nI 0)) dX5_copyFrom_24 (by decide) ?_
  refine k_sipush (v := (nI 480)) dX5_copyFrom_25 (by decide) ?_
  refine k_copy (n := 480) hLo1.2.2 hL.2.2 (by decide) (by decide) (List.mem_of_getElem? (i := 2) rfl) (List.mem_of_getElem? (i := 3) rfl) (List.mem_of_getElem? (i := 4) rfl) (List.mem_of_getElem? (i := 5) rfl) (Nat.le_of_ble_eq_true rfl) (Nat.le_of_ble_eq_true rfl) dX5_copyFrom_28 h (fun σ2 h => ?_)
  exact k_vret rfl dX5_copyFrom_31 h
abbrev rmX5_begin : Room := { frames := 0, cells := 0, slots := 0, locals := 0 }
abbrev mX5_begin : MT := (rmX5_begin, wsX5_begin, cX5_begin, 2, RX5, none)
theorem hd_X5_begin : yX5_begin.cls = RX5 ∧ yX5_begin.cls ≠ "java/lang/invoke/MethodHandle" ∧ yX5_begin.cls ≠ "java/lang/invoke/VarHandle" ∧ (parseMethodDescriptor yX5_begin.desc).map (fun d => d.parameters.length) = some 0 := by decide +kernel
theorem inX5_begin_5 : ∀ w ∈ wsX50, w ∈ wsX5_begin := fun w h => List.mem_cons_of_mem _ (List.mem_append_right _ h)
set_option maxHeartbeats 4000000 in
set_option maxRecDepth 100000 in
theorem wX5_begin_2 (l : Launch) {X : XT} (hX : XD X) (g : Nat) (o : Nat) (hL : L5 o) {σ' : Mem} : ∀ (n : Nat) (σ : Mem) (x1 : Int32), fX5_begin_2 g o n σ x1 = some σ' → WG X l mX5_begin (fun _ _ => True) 0 0 (QM X (QV X σ')) 2 σ [(0, .ref (xad X o)), (1, .int x1)] [] := by
  intro n
  induction n with
  | zero => intro σ x1 h; exact nomatch (show (none : Option _) = some _ from h)
  | succ n ih =>
    intro σ x1 h
    rw [fX5_begin_2] at h
    refine k_iload_n (q := 1) dX5_begin_2 rfl rfl ?_
    refine k_bipush (v := (nI 8)) dX5_begin_3 (by decide) ?_
    refine k_icmp_ge (tgt := 21) dX5_begin_5 (by decide) h (fun h => ?_) (fun h => ?_)
    · refine k_aload_n (q := 0) dX5_begin_21 rfl rfl ?_
      refine kg_5 (v := .ref (xad X (o + 1))) hL.1 inX5_begin_5 0 (by decide) (List.mem_of_getElem? (i := 1) rfl) rfl dX5_begin_22 ?_
      refine k_bipush (v := (nI 6)) dX5_begin_25 (by decide) ?_
      refine k_bipush (v := (nN 5)) dX5_begin_27 (by decide) ?_
      refine k_iast (n := 8) hL.2.1 dX5_begin_29 h (fun σ1 h => ?_)
      exact k_vret rfl dX5_begin_30 h
    · refine k_aload_n (q := 0) dX5_begin_8 rfl rfl ?_
      refine kg_5 (v := .ref (xad X (o + 1))) hL.1 inX5_begin_5 0 (by decide) (List.mem_of_getElem? (i := 1) rfl) rfl dX5_begin_9 ?_
      refine k_iload_n (q := 1) dX5_begin_12 rfl rfl ?_
      refine k_iconst (v := (nI 0)) dX5_begin_13 (by decide) ?_
      refine k_iast (n := 8) hL.2.1 dX5_begin_14 h (fun σ2 h => ?_)
      refine k_iinc (q := 1) (v := (x1 + (nI 1))) (lv' := [(1, .int (x1 + (nI 1))), (0, .ref (xad X o))]) dX5_begin_15 rfl rfl (Nat.le_of_ble_eq_true rfl) rfl ?_
      refine k_goto (tgt := 2) dX5_begin_18 (by decide) ?_
      refine k_sub (ks' := [1, 0]) rfl ?_
      exact ih σ2 (x1 + (nI 1)) h
set_option maxHeartbeats 4000000 in
set_option maxRecDepth 100000 in
theorem cm_X5_begin (l : Launch) {X : XT} (hX : XD X) (g : Nat) (σ : Mem) (o : Nat) (hL : L5 o) {σ' : Mem} (h : fX5_begin g σ o = some σ') : Met l yX5_begin wsX5_begin rmX5_begin (va_Pc [.ref (xad X o)] (WW X σ)) (QV X σ') 0 0 (XA X) := by
  refine met_x (M := mX5_begin) (lv := [(0, .ref (xad X o))]) hX (by decide) rfl rfl (Nat.le_of_ble_eq_true rfl) rfl ?_
  unfold fX5_begin at h
  refine k_iconst (v := (nI 0)) dX5_begin_0 (by decide) ?_
  refine k_istore_n (lv' := [(1, .int (nI 0)), (0, .ref (xad X o))]) dX5_begin_1 rfl (Nat.le_of_ble_eq_true rfl) rfl ?_
  refine k_sub (ks' := [1, 0]) rfl ?_
  exact wX5_begin_2 l hX g o hL g σ (nI 0) h
abbrev rmX8_slotOf : Room := { frames := 0, cells := 0, slots := 0, locals := 0 }
abbrev mX8_slotOf : MT := (rmX8_slotOf, wsX8_slotOf, cX8_slotOf, 2, RX8, some .int)
theorem hd_X8_slotOf : yX8_slotOf.cls ≠ "java/lang/invoke/MethodHandle" ∧ yX8_slotOf.cls ≠ "java/lang/invoke/VarHandle" ∧ (parseMethodDescriptor yX8_slotOf.desc).map (fun d => d.parameters.length) = some 2 := by decide +kernel
set_option maxHeartbeats 4000000 in
set_option maxRecDepth 100000 in
theorem cm_X8_slotOf (l : Launch) {X : XT} (hX : XD X) (g : Nat) (σ : Mem) (p0 : Int32) (p1 : Int32) {r : Int32} (h : fX8_slotOf g σ p0 p1 = some r) : Met l yX8_slotOf wsX8_slotOf rmX8_slotOf (va_Pc [.int p0, .int p1] (WW X σ)) (QI X r σ) 0 0 (XA X) := by
  refine met_x (M := mX8_slotOf) (lv := [(0, .int p0), (1, .int p1)]) hX (by decide) rfl rfl (Nat.le_of_ble_eq_true rfl) rfl ?_
  unfold fX8_slotOf at h
  refine k_iload_n (q := 0) dX8_slotOf_0 rfl rfl ?_
  refine k_bipush (v := (nI 40)) dX8_slotOf_1 (by decide) ?_
  refine k_imul dX8_slotOf_3 ?_
  refine k_iload_n (q := 1) dX8_slotOf_4 rfl rfl ?_
  refine k_iadd dX8_slotOf_5 ?_
  exact k_iretR rfl dX8_slotOf_6 h
abbrev rmJ6_bitCount_0f7a4 : Room := { frames := 0, cells := 0, slots := 0, locals := 0 }
abbrev mJ6_bitCount_0f7a4 : MT := (rmJ6_bitCount_0f7a4, wsJ6_bitCount_0f7a4, cJ6_bitCount_0f7a4, 1, RJ6, some .int)
theorem hd_J6_bitCount_0f7a4 : yJ6_bitCount_0f7a4.cls ≠ "java/lang/invoke/MethodHandle" ∧ yJ6_bitCount_0f7a4.cls ≠ "java/lang/invoke/VarHandle" ∧ (parseMethodDescriptor yJ6_bitCount_0f7a4.desc).map (fun d => d.parameters.length) = some 1 := by decide +kernel
set_option maxHeartbeats 4000000 in
set_option maxRecDepth 100000 in
theorem cm_J6_bitCount_0f7a4 (l : Launch) {X : XT} (hX : XD X) (g : Nat) (σ : Mem) (p0 : Int32) {r : Int32} (h : fJ6_bitCount_0f7a4 g σ p0 = some r) : Met l yJ6_bitCount_0f7a4 wsJ6_bitCount_0f7a4 rmJ6_bitCount_0f7a4 (va_Pc [.int p0] (WW X σ)) (QI X r σ) 0 0 (XA X) := by
  refine met_x (M := mJ6_bitCount_0f7a4) (lv := [(0, .int p0)]) hX (by decide) rfl rfl (Nat.le_of_ble_eq_true rfl) rfl ?_
  unfold fJ6_bitCount_0f7a4 at h
  refine k_iload_n (q := 0) dJ6_bitCount_0f7a4_0 rfl rfl ?_
  refine k_iload_n (q := 0) dJ6_bitCount_0f7a4_1 rfl rfl ?_
  refine k_iconst (v := (nI 1)) dJ6_bitCount_0f7a4_2 (by decide) ?_
  refine k_iushr dJ6_bitCount_0f7a4_3 ?_
  refine k_ldcw (v := (nI 1431655765)) (List.mem_of_getElem? (i := 1) rfl) dJ6_bitCount_0f7a4_4 ?_
  refine k_iand dJ6_bitCount_0f7a4_7 ?_
  refine k_isub dJ6_bitCount_0f7a4_8 ?_
  refine k_istore_n (lv' := [(0, .int (p0 - ((p0.toUInt32 >>> ((nI 1).toUInt32 &&& Int32.toUInt32 31)).toInt32 &&& (nI 1431655765))))]) dJ6_bitCount_0f7a4_9 rfl (Nat.le_of_ble_eq_true rfl) rfl ?_
  refine k_iload_n (q := 0) dJ6_bitCount_0f7a4_10 rfl rfl ?_
  refine k_ldcw (v := (nI 858993459)) (List.mem_of_getElem? (i := 2) rfl) dJ6_bitCount_0f7a4_11 ?_
  refine k_iand dJ6_bitCount_0f7a4_14 ?_
  refine k_iload_n (q := 0) dJ6_bitCount_0f7a4_15 rfl rfl ?_
  refine k_iconst (v := (nI 2)) dJ6_bitCount_0f7a4_16 (by decide) ?_
  refine k_iushr dJ6_bitCount_0f7a4_17 ?_
  refine k_ldcw (v := (nI 858993459)) (List.mem_of_getElem? (i := 2) rfl) dJ6_bitCount_0f7a4_18 ?_
  refine k_iand dJ6_bitCount_0f7a4_21 ?_
  refine k_iadd dJ6_bitCount_0f7a4_22 ?_
  refine k_istore_n (lv' := [(0, .int (((p0 - ((p0.toUInt32 >>> ((nI 1).toUInt32 &&& Int32.toUInt32 31)).toInt32 &&& (nI 1431655765))) &&& (nI 858993459)) + (((p0 - ((p0.toUInt32 >>> ((nI 1).toUInt32 &&& Int32.toUInt32 31)).toInt32 &&& (nI 1431655765))).toUInt32 >>> ((nI 2).toUInt32 &&& Int32.toUInt32 31)).toInt32 &&& (nI 858993459))))]) dJ6_bitCount_0f7a4_23 rfl (Nat.le_of_ble_eq_true rfl) rfl ?_
  refine k_iload_n (q := 0) dJ6_bitCount_0f7a4_24 rfl rfl ?_
  refine k_iload_n (q := 0) dJ6_bitCount_0f7a4_25 rfl rfl ?_
  refine k_iconst (v := (nI 4)) dJ6_bitCount_0f7a4_26 (by decide) ?_
  refine k_iushr dJ6_bitCount_0f7a4_27 ?_
  refine k_iadd dJ6_bitCount_0f7a4_28 ?_
  refine k_ldcw (v := (nI 252645135)) (List.mem_of_getElem? (i := 3) rfl) dJ6_bitCount_0f7a4_29 ?_
  refine k_iand dJ6_bitCount_0f7a4_32 ?_
  refine k_istore_n (lv' := [(0, .int (((((p0 - ((p0.toUInt32 >>> ((nI 1).toUInt32 &&& Int32.toUInt32 31)).toInt32 &&& (nI 1431655765))) &&& (nI 858993459)) + (((p0 - ((p0.toUInt32 >>> ((nI 1).toUInt32 &&& Int32.toUInt32 31)).toInt32 &&& (nI 1431655765))).toUInt32 >>> ((nI 2).toUInt32 &&& Int32.toUInt32 31)).toInt32 &&& (nI 858993459))) + ((((p0 - ((p0.toUInt32 >>> ((nI 1).toUInt32 &&& Int32.toUInt32 31)).toInt32 &&& (nI 1431655765))) &&& (nI 858993459)) + (((p0 - ((p0.toUInt32 >>> ((nI 1).toUInt32 &&& Int32.toUInt32 31)).toInt32 &&& (nI 1431655765))).toUInt32 >>> ((nI 2).toUInt32 &&& Int32.toUInt32 31)).toInt32 &&& (nI 858993459))).toUInt32 >>> ((nI 4).toUInt32 &&& Int32.toUInt32 31)).toInt32) &&& (nI 252645135)))]) dJ6_bitCount_0f7a4_33 rfl (Nat.le_of_ble_eq_true rfl) rfl ?_
  refine k_iload_n (q := 0) dJ6_bitCount_0f7a4_34 rfl rfl ?_
  refine k_iload_n (q := 0) dJ6_bitCount_0f7a4_35 rfl rfl ?_
  refine k_bipush (v := (nI 8)) dJ6_bitCount_0f7a4_36 (by decide) ?_
  refine k_iushr dJ6_bitCount_0f7a4_38 ?_
  refine k_iadd dJ6_bitCount_0f7a4_39 ?_
  refine k_istore_n (lv' := [(0, .int ((((((p0 - ((p0.toUInt32 >>> ((nI 1).toUInt32 &&& Int32.toUInt32 31)).toInt32 &&& (nI 1431655765))) &&& (nI 858993459)) + (((p0 - ((p0.toUInt32 >>> ((nI 1).toUInt32 &&& Int32.toUInt32 31)).toInt32 &&& (nI 1431655765))).toUInt32 >>> ((nI 2).toUInt32 &&& Int32.toUInt32 31)).toInt32 &&& (nI 858993459))) + ((((p0 - ((p0.toUInt32 >>> ((nI 1).toUInt32 &&& Int32.toUInt32 31)).toInt32 &&& (nI 1431655765))) &&& (nI 858993459)) + (((p0 - ((p0.toUInt32 >>> ((nI 1).toUInt32 &&& Int32.toUInt32 31)).toInt32 &&& (nI 1431655765))).toUInt32 >>> ((nI 2).toUInt32 &&& Int32.toUInt32 31)).toInt32 &&& (nI 858993459))).toUInt32 >>> ((nI 4).toUInt32 &&& Int32.toUInt32 31)).toInt32) &&& (nI 252645135)) + ((((((p0 - ((p0.toUInt32 >>> ((nI 1).toUInt32 &&& Int32.toUInt32 31)).toInt32 &&& (nI 1431655765))) &&& (nI 858993459)) + (((p0 - ((p0.toUInt32 >>> ((nI 1).toUInt32 &&& Int32.toUInt32 31)).toInt32 &&& (nI 1431655765))).toUInt32 >>> ((nI 2).toUInt32 &&& Int32.toUInt32 31)).toInt32 &&& (nI 858993459))) + ((((p0 - ((p0.toUInt32 >>> ((nI 1).toUInt32 &&& Int32.toUInt32 31)).toInt32 &&& (nI 1431655765))) &&& (nI 858993459)) + (((p0 - ((p0.toUInt32 >>> ((nI 1).toUInt32 &&& Int32.toUInt32 31)).toInt32 &&& (nI 1431655765))).toUInt32 >>> ((nI 2).toUInt32 &&& Int32.toUInt32 31)).toInt32 &&& (nI 858993459))).toUInt32 >>> ((nI 4).toUInt32 &&& Int32.toUInt32 31)).toInt32) &&& (nI 252645135)).toUInt32 >>> ((nI 8).toUInt32 &&& Int32.toUInt32 31)).toInt32))]) dJ6_bitCount_0f7a4_40 rfl (Nat.le_of_ble_eq_true rfl) rfl ?_
  refine k_iload_n (q := 0) dJ6_bitCount_0f7a4_41 rfl rfl ?_
  refine k_iload_n (q := 0) dJ6_bitCount_0f7a4_42 rfl rfl ?_
  refine k_bipush (v := (nI 16)) dJ6_bitCount_0f7a4_43 (by decide) ?_
  refine k_iushr dJ6_bitCount_0f7a4_45 ?_
  refine k_iadd dJ6_bitCount_0f7a4_46 ?_
  refine k_istore_n (lv' := [(0, .int (((((((p0 - ((p0.toUInt32 >>> ((nI 1).toUInt32 &&& Int32.toUInt32 31)).toInt32 &&& (nI 1431655765))) &&& (nI 858993459)) + (((p0 - ((p0.toUInt32 >>> ((nI 1).toUInt32 &&& Int32.toUInt32 31)).toInt32 &&& (nI 1431655765))).toUInt32 >>> ((nI 2).toUInt32 &&& Int32.toUInt32 31)).toInt32 &&& (nI 858993459))) + ((((p0 - ((p0.toUInt32 >>> ((nI 1).toUInt32 &&& Int32.toUInt32 31)).toInt32 &&& (nI 1431655765))) &&& (nI 858993459)) + (((p0 - ((p0.toUInt32 >>> ((nI 1).toUInt32 &&& Int32.toUInt32 31)).toInt32 &&& (nI 1431655765))).toUInt32 >>> ((nI 2).toUInt32 &&& Int32.toUInt32 31)).toInt32 &&& (nI 858993459))).toUInt32 >>> ((nI 4).toUInt32 &&& Int32.toUInt32 31)).toInt32) &&& (nI 252645135)) + ((((((p0 - ((p0.toUInt32 >>> ((nI 1).toUInt32 &&& Int32.toUInt32 31)).toInt32 &&& (nI 1431655765))) &&& (nI 858993459)) + (((p0 - ((p0.toUInt32 >>> ((nI 1).toUInt32 &&& Int32.toUInt32 31)).toInt32 &&& (nI 1431655765))).toUInt32 >>> ((nI 2).toUInt32 &&& Int32.toUInt32 31)).toInt32 &&& (nI 858993459))) + ((((p0 - ((p0.toUInt32 >>> ((nI 1).toUInt32 &&& Int32.toUInt32 31)).toInt32 &&& (nI 1431655765))) &&& (nI 858993459)) + (((p0 - ((p0.toUInt32 >>> ((nI 1).toUInt32 &&& Int32.toUInt32 31)).toInt32 &&& (nI 1431655765))).toUInt32 >>> ((nI 2).toUInt32 &&& Int32.toUInt32 31)).toInt32 &&& (nI 858993459))).toUInt32 >>> ((nI 4).toUInt32 &&& Int32.toUInt32 31)).toInt32) &&& (nI 252645135)).toUInt32 >>> ((nI 8).toUInt32 &&& Int32.toUInt32 31)).toInt32) + (((((((p0 - ((p0.toUInt32 >>> ((nI 1).toUInt32 &&& Int32.toUInt32 31)).toInt32 &&& (nI 1431655765))) &&& (nI 858993459)) + (((p0 - ((p0.toUInt32 >>> ((nI 1).toUInt32 &&& Int32.toUInt32 31)).toInt32 &&& (nI 1431655765))).toUInt32 >>> ((nI 2).toUInt32 &&& Int32.toUInt32 31)).toInt32 &&& (nI 858993459))) + ((((p0 - ((p0.toUInt32 >>> ((nI 1).toUInt32 &&& Int32.toUInt32 31)).toInt32 &&& (nI 1431655765))) &&& (nI 858993459)) + (((p0 - ((p0.toUInt32 >>> ((nI 1).toUInt32 &&& Int32.toUInt32 31)).toInt32 &&& (nI 1431655765))).toUInt32 >>> ((nI 2).toUInt32 &&& Int32.toUInt32 31)).toInt32 &&& (nI 858993459))).toUInt32 >>> ((nI 4).toUInt32 &&& Int32.toUInt32 31)).toInt32) &&& (nI 252645135)) + ((((((p0 - ((p0.toUInt32 >>> ((nI 1).toUInt32 &&& Int32.toUInt32 31)).toInt32 &&& (nI 1431655765))) &&& (nI 858993459)) + (((p0 - ((p0.toUInt32 >>> ((nI 1).toUInt32 &&& Int32.toUInt32 31)).toInt32 &&& (nI 1431655765))).toUInt32 >>> ((nI 2).toUInt32 &&& Int32.toUInt32 31)).toInt32 &&& (nI 858993459))) + ((((p0 - ((p0.toUInt32 >>> ((nI 1).toUInt32 &&& Int32.toUInt32 31)).toInt32 &&& (nI 1431655765))) &&& (nI 858993459)) + (((p0 - ((p0.toUInt32 >>> ((nI 1).toUInt32 &&& Int32.toUInt32 31)).toInt32 &&& (nI 1431655765))).toUInt32 >>> ((nI 2).toUInt32 &&& Int32.toUInt32 31)).toInt32 &&& (nI 858993459))).toUInt32 >>> ((nI 4).toUInt32 &&& Int32.toUInt32 31)).toInt32) &&& (nI 252645135)).toUInt32 >>> ((nI 8).toUInt32 &&& Int32.toUInt32 31)).toInt32).toUInt32 >>> ((nI 16).toUInt32 &&& Int32.toUInt32 31)).toInt32))]) dJ6_bitCount_0f7a4_47 rfl (Nat.le_of_ble_eq_true rfl) rfl ?_
  refine k_iload_n (q := 0) dJ6_bitCount_0f7a4_48 rfl rfl ?_
  refine k_bipush (v := (nI 63)) dJ6_bitCount_0f7a4_49 (by decide) ?_
  refine k_iand dJ6_bitCount_0f7a4_51 ?_
  exact k_iretR rfl dJ6_bitCount_0f7a4_52 h
abbrev rmX6_goodHoles : Room := { frames := 1, cells := 0, slots := 0, locals := 20 }
abbrev mX6_goodHoles : MT := (rmX6_goodHoles, wsX6_goodHoles, cX6_goodHoles, 2, RX6, some .int)
theorem hd_X6_goodHoles : yX6_goodHoles.cls = RX6 ∧ yX6_goodHoles.cls ≠ "java/lang/invoke/MethodHandle" ∧ yX6_goodHoles.cls ≠ "java/lang/invoke/VarHandle" ∧ (parseMethodDescriptor yX6_goodHoles.desc).map (fun d => d.parameters.length) = some 1 := by decide +kernel
theorem inX6_goodHoles_6 : ∀ w ∈ wsX60, w ∈ wsX6_goodHoles := fun w h => List.mem_cons_of_mem _ (List.mem_append_right _ h)
set_option maxHeartbeats 4000000 in
set_option maxRecDepth 100000 in
theorem cm_X6_goodHoles (l : Launch) {X : XT} (hX : XD X) (g : Nat) (σ : Mem) (o : Nat) (hL : L6 o) (p1 : Int32) {r : Int32} (h : fX6_goodHoles g σ o p1 = some r) : Met l yX6_goodHoles wsX6_goodHoles rmX6_goodHoles (va_Pc [.ref (xad X o), .int p1] (WW X σ)) (QI X r σ) 0 0 (XA X) := by
  refine met_x (M := mX6_goodHoles) (lv := [(0, .ref (xad X o)), (1, .int p1)]) hX (by decide) rfl rfl (Nat.le_of_ble_eq_true rfl) rfl ?_
  unfold fX6_goodHoles at h
  refine k_iconst (v := (nI 4)) dX6_goodHoles_0 (by decide) ?_
  refine k_aload_n (q := 0) dX6_goodHoles_1 rfl rfl ?_
  refine kg_6 (v := .ref (xad X (o + 3))) hL.1 inX6_goodHoles_6 3 (by decide) (List.mem_of_getElem? (i := 1) rfl) rfl dX6_goodHoles_2 ?_
  refine k_iload_n (q := 1) dX6_goodHoles_5 rfl rfl ?_
  refine k_iald (n := 480) hL.2.2.2.1 dX6_goodHoles_6 h (fun h => ?_)
  obtain ⟨r2, hc1, h⟩ := bnd_e h
  refine k_cs (As := [.int (σ (o + 3) p1.toNatClampNeg)]) 1 (cm_J6_bitCount_0f7a4 l hX g σ (σ (o + 3) p1.toNatClampNeg) hc1) gX6_goodHoles_J6_bitCount_0f7a4 rfl ⟨rfl, rfl⟩ hd_J6_bitCount_0f7a4 ⟨Nat.le_of_ble_eq_true rfl, Nat.le_of_ble_eq_true rfl⟩ ⟨Nat.le_refl _, Nat.le_refl _⟩ rfl (Nat.le_of_ble_eq_true rfl) rfl dX6_goodHoles_7 ?_
  refine k_isub dX6_goodHoles_10 ?_
  exact k_iretR rfl dX6_goodHoles_11 h
abbrev rmX5_countHoles : Room := { frames := 0, cells := 0, slots := 0, locals := 0 }
abbrev mX5_countHoles : MT := (rmX5_countHoles, wsX5_countHoles, cX5_countHoles, 3, RX5, none)
theorem hd_X5_countHoles : yX5_countHoles.cls = RX5 ∧ yX5_countHoles.cls ≠ "java/lang/invoke/MethodHandle" ∧ yX5_countHoles.cls ≠ "java/lang/invoke/VarHandle" ∧ (parseMethodDescriptor yX5_countHoles.desc).map (fun d => d.parameters.length) = some 2 := by decide +kernel
theorem inX5_countHoles_5 : ∀ w ∈ wsX50, w ∈ wsX5_countHoles := fun w h => List.mem_cons_of_mem _ (List.mem_append_right _ h)
set_option maxHeartbeats 4000000 in
set_option maxRecDepth 100000 in
theorem cm_X5_countHoles (l : Launch) {X : XT} (hX : XD X) (g : Nat) (σ : Mem) (o : Nat) (hL : L5 o) (p1 : Int32) (p2 : Int32) {σ' : Mem} (h : fX5_countHoles g σ o p1 p2 = some σ') : Met l yX5_countHoles wsX5_countHoles rmX5_countHoles (va_Pc [.ref (xad X o), .int p1, .int p2] (WW X σ)) (QV X σ') 0 0 (XA X) := by
  refine met_x (M := mX5_countHoles) (lv := [(0, .ref (xad X o)), (1, .int p1), (2, .int p2)]) hX (by decide) rfl rfl (Nat.le_of_ble_eq_true rfl) rfl ?_
  unfold fX5_countHoles at h
  refine k_aload_n (q := 0) dX5_countHoles_0 rfl rfl ?_
  refine kg_5 (v := .ref (xad X (o + 1))) hL.1 inX5_countHoles_5 0 (by decide) (List.mem_of_getElem? (i := 1) rfl) rfl dX5_countHoles_1 ?_
  refine k_iconst (v := (nI 4)) dX5_countHoles_4 (by decide) ?_
  refine k_dup2 dX5_countHoles_5 rfl rfl ?_
  refine k_iald (n := 8) hL.2.1 dX5_countHoles_6 h (fun h => ?_)
  refine k_iload_n (q := 2) dX5_countHoles_7 rfl rfl ?_
  refine k_iadd dX5_countHoles_8 ?_
  refine k_iast (n := 8) hL.2.1 dX5_countHoles_9 h (fun σ1 h => ?_)
  refine k_aload_n (q := 0) dX5_countHoles_10 rfl rfl ?_
  refine kg_5 (v := .ref (xad X (o + 1))) hL.1 inX5_countHoles_5 0 (by decide) (List.mem_of_getElem? (i := 1) rfl) rfl dX5_countHoles_11 ?_
  refine k_iconst (v := (nI 5)) dX5_countHoles_14 (by decide) ?_
  refine k_dup2 dX5_countHoles_15 rfl rfl ?_
  refine k_iald (n := 8) hL.2.1 dX5_countHoles_16 h (fun h => ?_)
  refine k_iload_n (q := 1) dX5_countHoles_17 rfl rfl ?_
  refine k_iload_n (q := 2) dX5_countHoles_18 rfl rfl ?_
  refine k_isub dX5_countHoles_19 ?_
  refine k_iadd dX5_countHoles_20 ?_
  refine k_iast (n := 8) hL.2.1 dX5_countHoles_21 h (fun σ2 h => ?_)
  exact k_vret rfl dX5_countHoles_22 h
abbrev rmX5_addUnit : Room := { frames := 0, cells := 0, slots := 0, locals := 0 }
abbrev mX5_addUnit : MT := (rmX5_addUnit, wsX5_addUnit, cX5_addUnit, 3, RX5, none)
theorem hd_X5_addUnit : yX5_addUnit.cls = RX5 ∧ yX5_addUnit.cls ≠ "java/lang/invoke/MethodHandle" ∧ yX5_addUnit.cls ≠ "java/lang/invoke/VarHandle" ∧ (parseMethodDescriptor yX5_addUnit.desc).map (fun d => d.parameters.length) = some 1 := by decide +kernel
theorem inX5_addUnit_5 : ∀ w ∈ wsX50, w ∈ wsX5_addUnit := fun w h => List.mem_cons_of_mem _ (List.mem_append_right _ h)
set_option maxHeartbeats 4000000 in
set_option maxRecDepth 100000 in
theorem cm_X5_addUnit (l : Launch) {X : XT} (hX : XD X) (g : Nat) (σ : Mem) (o : Nat) (hL : L5 o) (p1 : Int32) {σ' : Mem} (h : fX5_addUnit g σ o p1 = some σ') : Met l yX5_addUnit wsX5_addUnit rmX5_addUnit (va_Pc [.ref (xad X o), .int p1] (WW X σ)) (QV X σ') 0 0 (XA X) := by
  refine met_x (M := mX5_addUnit) (lv := [(0, .ref (xad X o)), (1, .int p1)]) hX (by decide) rfl rfl (Nat.le_of_ble_eq_true rfl) rfl ?_
  unfold fX5_addUnit at h
  refine k_aload_n (q := 0) dX5_addUnit_0 rfl rfl ?_
  refine kg_5 (v := .ref (xad X (o + 1))) hL.1 inX5_addUnit_5 0 (by decide) (List.mem_of_getElem? (i := 1) rfl) rfl dX5_addUnit_1 ?_
  refine k_iconst (v := (nI 0)) dX5_addUnit_4 (by decide) ?_
  refine k_iald (n := 8) hL.2.1 dX5_addUnit_5 h (fun h => ?_)
  refine k_istore_n (lv' := [(2, .int (σ (o + 1) (nI 0).toNatClampNeg)), (0, .ref (xad X o)), (1, .int p1)]) dX5_addUnit_6 rfl (Nat.le_of_ble_eq_true rfl) rfl ?_
  refine k_iload_n (q := 0) dX5_addUnit_7 rfl rfl ?_
  refine k_if_lt (tgt := 34) dX5_addUnit_8 (by decide) h (fun h => ?_) (fun h => ?_)
  · exact k_vret rfl dX5_addUnit_34 h
  · refine k_iload_n (q := 0) dX5_addUnit_11 rfl rfl ?_
    refine k_sipush (v := (nI 480)) dX5_addUnit_12 (by decide) ?_
    refine k_icmp_ge (tgt := 34) dX5_addUnit_15 (by decide) h (fun h => ?_) (fun h => ?_)
    · exact k_vret rfl dX5_addUnit_34 h
    · refine k_aload_n (q := 1) dX5_addUnit_18 rfl rfl ?_
      refine kg_5 (v := .ref (xad X (o + 2))) hL.1 inX5_addUnit_5 1 (by decide) (List.mem_of_getElem? (i := 2) rfl) rfl dX5_addUnit_19 ?_
      refine k_iload_n (q := 0) dX5_addUnit_22 rfl rfl ?_
      refine k_iload_n (q := 2) dX5_addUnit_23 rfl rfl ?_
      refine k_iast (n := 480) hL.2.2 dX5_addUnit_24 h (fun σ1 h => ?_)
      refine k_aload_n (q := 1) dX5_addUnit_25 rfl rfl ?_
      refine kg_5 (v := .ref (xad X (o + 1))) hL.1 inX5_addUnit_5 0 (by decide) (List.mem_of_getElem? (i := 1) rfl) rfl dX5_addUnit_26 ?_
      refine k_iconst (v := (nI 0)) dX5_addUnit_29 (by decide) ?_
      refine k_iload_n (q := 0) dX5_addUnit_30 rfl rfl ?_
      refine k_iconst (v := (nI 1)) dX5_addUnit_31 (by decide) ?_
      refine k_iadd dX5_addUnit_32 ?_
      refine k_iast (n := 8) hL.2.1 dX5_addUnit_33 h (fun σ2 h => ?_)
      exact k_vret rfl dX5_addUnit_34 h
abbrev rmX8_codeOf : Room := { frames := 0, cells := 0, slots := 0, locals := 0 }
abbrev mX8_codeOf : MT := (rmX8_codeOf, wsX8_codeOf, cX8_codeOf, 2, RX8, some .int)
theorem hd_X8_codeOf : yX8_codeOf.cls ≠ "java/lang/invoke/MethodHandle" ∧ yX8_codeOf.cls ≠ "java/lang/invoke/VarHandle" ∧ (parseMethodDescriptor yX8_codeOf.desc).map (fun d => d.parameters.length) = some 2 := by decide +kernel
set_option maxHeartbeats 4000000 in
set_option maxRecDepth 100000 in
theorem cm_X8_codeOf (l : Launch) {X : XT} (hX : XD X) (g : Nat) (σ : Mem) (p0 : Int32) (p1 : Int32) {r : Int32} (h : fX8_codeOf g σ p0 p1 = some r) : Met l yX8_codeOf wsX8_codeOf rmX8_codeOf (va_Pc [.int p0, .int p1] (WW X σ)) (QI X r σ) 0 0 (XA X) := by
  refine met_x (M := mX8_codeOf) (lv := [(0, .int p0), (1, .int p1)]) hX (by decide) rfl rfl (Nat.le_of_ble_eq_true rfl) rfl ?_
  unfold fX8_codeOf at h
  refine k_bipush (v := (nI 100)) dX8_codeOf_0 (by decide) ?_
  refine k_iload_n (q := 0) dX8_codeOf_2 rfl rfl ?_
  refine k_imul dX8_codeOf_3 ?_
  refine k_iload_n (q := 1) dX8_codeOf_4 rfl rfl ?_
  refine k_iadd dX8_codeOf_5 ?_
  exact k_iretR rfl dX8_codeOf_6 h
abbrev rmJ6_lowestOneBit_0f7a4 : Room := { frames := 0, cells := 0, slots := 0, locals := 0 }
abbrev mJ6_lowestOneBit_0f7a4 : MT := (rmJ6_lowestOneBit_0f7a4, wsJ6_lowestOneBit_0f7a4, cJ6_lowestOneBit_0f7a4, 1, RJ6, some .int)
theorem hd_J6_lowestOneBit_0f7a4 : yJ6_lowestOneBit_0f7a4.cls ≠ "java/lang/invoke/MethodHandle" ∧ yJ6_lowestOneBit_0f7a4.cls ≠ "java/lang/invoke/VarHandle" ∧ (parseMethodDescriptor yJ6_lowestOneBit_0f7a4.desc).map (fun d => d.parameters.length) = some 1 := by decide +kernel
set_option maxHeartbeats 4000000 in
set_option maxRecDepth 100000 in
theorem cm_J6_lowestOneBit_0f7a4 (l : Launch) {X : XT} (hX : XD X) (g : Nat) (σ : Mem) (p0 : Int32) {r : Int32} (h : fJ6_lowestOneBit_0f7a4 g σ p0 = some r) : Met l yJ6_lowestOneBit_0f7a4 wsJ6_lowestOneBit_0f7a4 rmJ6_lowestOneBit_0f7a4 (va_Pc [.int p0] (WW X σ)) (QI X r σ) 0 0 (XA X) := by
  refine met_x (M := mJ6_lowestOneBit_0f7a4) (lv := [(0, .int p0)]) hX (by decide) rfl rfl (Nat.le_of_ble_eq_true rfl) rfl ?_
  unfold fJ6_lowestOneBit_0f7a4 at h
  refine k_iload_n (q := 0) dJ6_lowestOneBit_0f7a4_0 rfl rfl ?_
  refine k_iload_n (q := 0) dJ6_lowestOneBit_0f7a4_1 rfl rfl ?_
  refine k_ineg dJ6_lowestOneBit_0f7a4_2 ?_
  refine k_iand dJ6_lowestOneBit_0f7a4_3 ?_
  exact k_iretR rfl dJ6_lowestOneBit_0f7a4_4 h
abbrev rmX6_wear : Room := { frames := 1, cells := 0, slots := 0, locals := 20 }
abbrev mX6_wear : MT := (rmX6_wear, wsX6_wear, cX6_wear, 3, RX6, none)
theorem hd_X6_wear : yX6_wear.cls = RX6 ∧ yX6_wear.cls ≠ "java/lang/invoke/MethodHandle" ∧ yX6_wear.cls ≠ "java/lang/invoke/VarHandle" ∧ (parseMethodDescriptor yX6_wear.desc).map (fun d => d.parameters.length) = some 1 := by decide +kernel
theorem inX6_wear_6 : ∀ w ∈ wsX60, w ∈ wsX6_wear := fun w h => List.mem_cons_of_mem _ (List.mem_append_right _ h)
set_option maxHeartbeats 4000000 in
set_option maxRecDepth 100000 in
theorem cm_X6_wear (l : Launch) {X : XT} (hX : XD X) (g : Nat) (σ : Mem) (o : Nat) (hL : L6 o) (p1 : Int32) {σ' : Mem} (h : fX6_wear g σ o p1 = some σ') : Met l yX6_wear wsX6_wear rmX6_wear (va_Pc [.ref (xad X o), .int p1] (WW X σ)) (QV X σ') 0 0 (XA X) := by
  refine met_x (M := mX6_wear) (lv := [(0, .ref (xad X o)), (1, .int p1)]) hX (by decide) rfl rfl (Nat.le_of_ble_eq_true rfl) rfl ?_
  unfold fX6_wear at h
  refine k_aload_n (q := 0) dX6_wear_0 rfl rfl ?_
  refine kg_6 (v := .ref (xad X (o + 4))) hL.1 inX6_wear_6 4 (by decide) (List.mem_of_getElem? (i := 1) rfl) rfl dX6_wear_1 ?_
  refine k_iload_n (q := 1) dX6_wear_4 rfl rfl ?_
  refine k_dup2 dX6_wear_5 rfl rfl ?_
  refine k_iald (n := 480) hL.2.2.2.2 dX6_wear_6 h (fun h => ?_)
  refine k_iconst (v := (nI 1)) dX6_wear_7 (by decide) ?_
  refine k_iadd dX6_wear_8 ?_
  refine k_iast (n := 480) hL.2.2.2.2 dX6_wear_9 h (fun σ1 h => ?_)
  refine k_aload_n (q := 0) dX6_wear_10 rfl rfl ?_
  refine kg_6 (v := .ref (xad X (o + 3))) hL.1 inX6_wear_6 3 (by decide) (List.mem_of_getElem? (i := 2) rfl) rfl dX6_wear_11 ?_
  refine k_iload_n (q := 1) dX6_wear_14 rfl rfl ?_
  refine k_iald (n := 480) hL.2.2.2.1 dX6_wear_15 h (fun h => ?_)
  refine k_if_eq (tgt := 34) dX6_wear_16 (by decide) h (fun h => ?_) (fun h => ?_)
  · refine k_iconst (v := (nI 0)) dX6_wear_34 (by decide) ?_
    refine k_istore_n (lv' := [(2, .int (nI 0)), (0, .ref (xad X o)), (1, .int p1)]) dX6_wear_35 rfl (Nat.le_of_ble_eq_true rfl) rfl ?_
    refine k_iload_n (q := 0) dX6_wear_36 rfl rfl ?_
    refine k_if_eq (tgt := 71) dX6_wear_37 (by decide) h (fun h => ?_) (fun h => ?_)
    · exact k_vret rfl dX6_wear_71 h
    · refine k_aload_n (q := 1) dX6_wear_40 rfl rfl ?_
      refine kg_6 (v := .ref (xad X (o + 4))) hL.1 inX6_wear_6 4 (by decide) (List.mem_of_getElem? (i := 1) rfl) rfl dX6_wear_41 ?_
      refine k_iload_n (q := 2) dX6_wear_44 rfl rfl ?_
      refine k_iald (n := 480) hL.2.2.2.2 dX6_wear_45 h (fun h => ?_)
      refine k_iconst (v := (nI 3)) dX6_wear_46 (by decide) ?_
      refine k_irem dX6_wear_47 (by decide) ?_
      refine k_if_ne (tgt := 71) dX6_wear_48 (by decide) h (fun h => ?_) (fun h => ?_)
      · exact k_vret rfl dX6_wear_71 h
      · refine k_aload_n (q := 1) dX6_wear_51 rfl rfl ?_
        refine kg_6 (v := .ref (xad X (o + 3))) hL.1 inX6_wear_6 3 (by decide) (List.mem_of_getElem? (i := 2) rfl) rfl dX6_wear_52 ?_
        refine k_iload_n (q := 2) dX6_wear_55 rfl rfl ?_
        refine k_dup2 dX6_wear_56 rfl rfl ?_
        refine k_iald (n := 480) hL.2.2.2.1 dX6_wear_57 h (fun h => ?_)
        refine k_aload_n (q := 1) dX6_wear_58 rfl rfl ?_
        refine kg_6 (v := .ref (xad X (o + 3))) hL.1 inX6_wear_6 3 (by decide) (List.mem_of_getElem? (i := 2) rfl) rfl dX6_wear_59 ?_
        refine k_iload_n (q := 2) dX6_wear_62 rfl rfl ?_
        refine k_iald (n := 480) hL.2.2.2.1 dX6_wear_63 h (fun h => ?_)
        refine k_iconst (v := (nN 1)) dX6_wear_64 (by decide) ?_
        refine k_ixor dX6_wear_65 ?_
        obtain ⟨r3, hc2, h⟩ := bnd_e h
        refine k_cs (As := [.int ((σ1 (o + 3) p1.toNatClampNeg) ^^^ (nN 1))]) 1 (cm_J6_lowestOneBit_0f7a4 l hX g σ1 ((σ1 (o + 3) p1.toNatClampNeg) ^^^ (nN 1)) hc2) gX6_wear_J6_lowestOneBit_0f7a4 rfl ⟨rfl, rfl⟩ hd_J6_lowestOneBit_0f7a4 ⟨Nat.le_of_ble_eq_true rfl, Nat.le_of_ble_eq_true rfl⟩ ⟨Nat.le_refl _, Nat.le_refl _⟩ rfl (Nat.le_of_ble_eq_true rfl) rfl dX6_wear_66 ?_
        refine k_ior dX6_wear_69 ?_
        refine k_iast (n := 480) hL.2.2.2.1 dX6_wear_70 h (fun σ4 h => ?_)
        exact k_vret rfl dX6_wear_71 h
  · refine k_aload_n (q := 0) dX6_wear_19 rfl rfl ?_
    refine kg_6 (v := .ref (xad X (o + 3))) hL.1 inX6_wear_6 3 (by decide) (List.mem_of_getElem? (i := 2) rfl) rfl dX6_wear_20 ?_
    refine k_iload_n (q := 1) dX6_wear_23 rfl rfl ?_
    refine k_iald (n := 480) hL.2.2.2.1 dX6_wear_24 h (fun h => ?_)
    refine k_bipush (v := (nI 15)) dX6_wear_25 (by decide) ?_
    refine k_icmp_eq (tgt := 34) dX6_wear_27 (by decide) h (fun h => ?_) (fun h => ?_)
    · refine k_iconst (v := (nI 0)) dX6_wear_34 (by decide) ?_
      refine k_istore_n (lv' := [(2, .int (nI 0)), (0, .ref (xad X o)), (1, .int p1)]) dX6_wear_35 rfl (Nat.le_of_ble_eq_true rfl) rfl ?_
      refine k_iload_n (q := 0) dX6_wear_36 rfl rfl ?_
      refine k_if_eq (tgt := 71) dX6_wear_37 (by decide) h (fun h => ?_) (fun h => ?_)
      · exact k_vret rfl dX6_wear_71 h
      · refine k_aload_n (q := 1) dX6_wear_40 rfl rfl ?_
        refine kg_6 (v := .ref (xad X (o + 4))) hL.1 inX6_wear_6 4 (by decide) (List.mem_of_getElem? (i := 1) rfl) rfl dX6_wear_41 ?_
        refine k_iload_n (q := 2) dX6_wear_44 rfl rfl ?_
        refine k_iald (n := 480) hL.2.2.2.2 dX6_wear_45 h (fun h => ?_)
        refine k_iconst (v := (nI 3)) dX6_wear_46 (by decide) ?_
        refine k_irem dX6_wear_47 (by decide) ?_
        refine k_if_ne (tgt := 71) dX6_wear_48 (by decide) h (fun h => ?_) (fun h => ?_)
        · exact k_vret rfl dX6_wear_71 h
        · refine k_aload_n (q := 1) dX6_wear_51 rfl rfl ?_
          refine kg_6 (v := .ref (xad X (o + 3))) hL.1 inX6_wear_6 3 (by decide) (List.mem_of_getElem? (i := 2) rfl) rfl dX6_wear_52 ?_
          refine k_iload_n (q := 2) dX6_wear_55 rfl rfl ?_
          refine k_dup2 dX6_wear_56 rfl rfl ?_
          refine k_iald (n := 480) hL.2.2.2.1 dX6_wear_57 h (fun h => ?_)
          refine k_aload_n (q := 1) dX6_wear_58 rfl rfl ?_
          refine kg_6 (v := .ref (xad X (o + 3))) hL.1 inX6_wear_6 3 (by decide) (List.mem_of_getElem? (i := 2) rfl) rfl dX6_wear_59 ?_
          refine k_iload_n (q := 2) dX6_wear_62 rfl rfl ?_
          refine k_iald (n := 480) hL.2.2.2.1 dX6_wear_63 h (fun h => ?_)
          refine k_iconst (v := (nN 1)) dX6_wear_64 (by decide) ?_
          refine k_ixor dX6_wear_65 ?_
          obtain ⟨r6, hc5, h⟩ := bnd_e h
          refine k_cs (As := [.int ((σ1 (o + 3) p1.toNatClampNeg) ^^^ (nN 1))]) 1 (cm_J6_lowestOneBit_0f7a4 l hX g σ1 ((σ1 (o + 3) p1.toNatClampNeg) ^^^ (nN 1)) hc5) gX6_wear_J6_lowestOneBit_0f7a4 rfl ⟨rfl, rfl⟩ hd_J6_lowestOneBit_0f7a4 ⟨Nat.le_of_ble_eq_true rfl, Nat.le_of_ble_eq_true rfl⟩ ⟨Nat.le_refl _, Nat.le_refl _⟩ rfl (Nat.le_of_ble_eq_true rfl) rfl dX6_wear_66 ?_
          refine k_ior dX6_wear_69 ?_
          refine k_iast (n := 480) hL.2.2.2.1 dX6_wear_70 h (fun σ7 h => ?_)
          exact k_vret rfl dX6_wear_71 h
    · refine k_iconst (v := (nI 1)) dX6_wear_30 (by decide) ?_
      refine k_goto (tgt := 35) dX6_wear_31 (by decide) ?_
      refine k_istore_n (lv' := [(2, .int (nI 1)), (0, .ref (xad X o)), (1, .int p1)]) dX6_wear_35 rfl (Nat.le_of_ble_eq_true rfl) rfl ?_
      refine k_iload_n (q := 0) dX6_wear_36 rfl rfl ?_
      refine k_if_eq (tgt := 71) dX6_wear_37 (by decide) h (fun h => ?_) (fun h => ?_)
      · exact k_vret rfl dX6_wear_71 h
      · refine k_aload_n (q := 1) dX6_wear_40 rfl rfl ?_
        refine kg_6 (v := .ref (xad X (o + 4))) hL.1 inX6_wear_6 4 (by decide) (List.mem_of_getElem? (i := 1) rfl) rfl dX6_wear_41 ?_
        refine k_iload_n (q := 2) dX6_wear_44 rfl rfl ?_
        refine k_iald (n := 480) hL.2.2.2.2 dX6_wear_45 h (fun h => ?_)
        refine k_iconst (v := (nI 3)) dX6_wear_46 (by decide) ?_
        refine k_irem dX6_wear_47 (by decide) ?_
        refine k_if_ne (tgt := 71) dX6_wear_48 (by decide) h (fun h => ?_) (fun h => ?_)
        · exact k_vret rfl dX6_wear_71 h
        · refine k_aload_n (q := 1) dX6_wear_51 rfl rfl ?_
          refine kg_6 (v := .ref (xad X (o + 3))) hL.1 inX6_wear_6 3 (by decide) (List.mem_of_getElem? (i := 2) rfl) rfl dX6_wear_52 ?_
          refine k_iload_n (q := 2) dX6_wear_55 rfl rfl ?_
          refine k_dup2 dX6_wear_56 rfl rfl ?_
          refine k_iald (n := 480) hL.2.2.2.1 dX6_wear_57 h (fun h => ?_)
          refine k_aload_n (q := 1) dX6_wear_58 rfl rfl ?_
          refine kg_6 (v := .ref (xad X (o + 3))) hL.1 inX6_wear_6 3 (by decide) (List.mem_of_getElem? (i := 2) rfl) rfl dX6_wear_59 ?_
          refine k_iload_n (q := 2) dX6_wear_62 rfl rfl ?_
          refine k_iald (n := 480) hL.2.2.2.1 dX6_wear_63 h (fun h => ?_)
          refine k_iconst (v := (nN 1)) dX6_wear_64 (by decide) ?_
          refine k_ixor dX6_wear_65 ?_
          obtain ⟨r9, hc8, h⟩ := bnd_e h
          refine k_cs (As := [.int ((σ1 (o + 3) p1.toNatClampNeg) ^^^ (nN 1))]) 1 (cm_J6_lowestOneBit_0f7a4 l hX g σ1 ((σ1 (o + 3) p1.toNatClampNeg) ^^^ (nN 1)) hc8) gX6_wear_J6_lowestOneBit_0f7a4 rfl ⟨rfl, rfl⟩ hd_J6_lowestOneBit_0f7a4 ⟨Nat.le_of_ble_eq_true rfl, Nat.le_of_ble_eq_true rfl⟩ ⟨Nat.le_refl _, Nat.le_refl _⟩ rfl (Nat.le_of_ble_eq_true rfl) rfl dX6_wear_66 ?_
          refine k_ior dX6_wear_69 ?_
          refine k_iast (n := 480) hL.2.2.2.1 dX6_wear_70 h (fun σ10 h => ?_)
          exact k_vret rfl dX6_wear_71 h
abbrev rmX4_tell : Room := { frames := 0, cells := 0, slots := 0, locals := 0 }
abbrev mX4_tell : MT := (rmX4_tell, wsX4_tell, cX4_tell, 3, RX4, some .int)
theorem hd_X4_tell : yX4_tell.cls = RX4 ∧ yX4_tell.cls ≠ "java/lang/invoke/MethodHandle" ∧ yX4_tell.cls ≠ "java/lang/invoke/VarHandle" ∧ (parseMethodDescriptor yX4_tell.desc).map (fun d => d.parameters.length) = some 2 := by decide +kernel
theorem inX4_tell_4 : ∀ w ∈ wsX40, w ∈ wsX4_tell := fun w h => List.mem_cons_of_mem _ (List.mem_append_right _ h)
set_option maxHeartbeats 4000000 in
set_option maxRecDepth 100000 in
theorem cm_X4_tell (l : Launch) {X : XT} (hX : XD X) (g : Nat) (σ : Mem) (o : Nat) (hL : L4 o) (p1 : Int32) (p2 : Int32) {r : Int32} (h : fX4_tell g σ o p1 p2 = some r) : Met l yX4_tell wsX4_tell rmX4_tell (va_Pc [.ref (xad X o), .int p1, .int p2] (WW X σ)) (QI X r σ) 0 0 (XA X) := by
  refine met_x (M := mX4_tell) (lv := [(0, .ref (xad X o)), (1, .int p1), (2, .int p2)]) hX (by decide) rfl rfl (Nat.le_of_ble_eq_true rfl) rfl ?_
  unfold fX4_tell at h
  refine k_iload_n (q := 2) dX4_tell_0 rfl rfl ?_
  refine k_if h (fun c0 h => ?_) (fun c0 h => ?_)
  · refine k_look (off := 27) (tgt := 28) dX4_tell_1 (by decide) (by rw [c0]; rfl) (by decide) ?_
    refine k_aload_n (q := 0) dX4_tell_28 rfl rfl ?_
    refine kg_4 (v := .ref (xad X (o + 1))) hL.1 inX4_tell_4 1 (by decide) (List.mem_of_getElem? (i := 1) rfl) rfl dX4_tell_29 ?_
    refine k_iload_n (q := 1) dX4_tell_32 rfl rfl ?_
    refine k_iald (n := 20) hL.2.1 dX4_tell_33 h (fun h => ?_)
    exact k_iretR rfl dX4_tell_34 h
  · refine k_if h (fun c1 h => ?_) (fun c1 h => ?_)
    · refine k_look (off := 34) (tgt := 35) dX4_tell_1 (by decide) (by rw [c1]; rfl) (by decide) ?_
      refine k_aload_n (q := 0) dX4_tell_35 rfl rfl ?_
      refine kg_4 (v := .ref (xad X (o + 2))) hL.1 inX4_tell_4 2 (by decide) (List.mem_of_getElem? (i := 2) rfl) rfl dX4_tell_36 ?_
      refine k_iload_n (q := 1) dX4_tell_39 rfl rfl ?_
      refine k_iald (n := 20) hL.2.2.1 dX4_tell_40 h (fun h => ?_)
      exact k_iretR rfl dX4_tell_41 h
    · refine k_look (off := 41) (tgt := 42) dX4_tell_1 (by decide) ((lv_osw c0 (show Int32.toInt (nI 0) = 0 from rfl)).trans ((lv_osw c1 (show Int32.toInt (nI 1) = 1 from rfl)).trans (rfl))) (by decide) ?_
      refine k_aload_n (q := 0) dX4_tell_42 rfl rfl ?_
      refine kg_4 (v := .ref (xad X (o + 3))) hL.1 inX4_tell_4 3 (by decide) (List.mem_of_getElem? (i := 3) rfl) rfl dX4_tell_43 ?_
      refine k_iload_n (q := 1) dX4_tell_46 rfl rfl ?_
      refine k_iald (n := 20) hL.2.2.2.1 dX4_tell_47 h (fun h => ?_)
      exact k_iretR rfl dX4_tell_48 h
abbrev rmX4_allFrames : Room := { frames := 2, cells := 0, slots := 0, locals := 44 }
abbrev mX4_allFrames : MT := (rmX4_allFrames, wsX4_allFrames, cX4_allFrames, 1, RX4, some .int)
theorem hd_X4_allFrames : yX4_allFrames.cls = RX4 ∧ yX4_allFrames.cls ≠ "java/lang/invoke/MethodHandle" ∧ yX4_allFrames.cls ≠ "java/lang/invoke/VarHandle" ∧ (parseMethodDescriptor yX4_allFrames.desc).map (fun d => d.parameters.length) = some 0 := by decide +kernel
theorem inX4_allFrames_4 : ∀ w ∈ wsX40, w ∈ wsX4_allFrames := fun w h => List.mem_cons_of_mem _ (List.mem_append_right _ h)
set_option maxHeartbeats 4000000 in
set_option maxRecDepth 100000 in
theorem cm_X4_allFrames (l : Launch) {X : XT} (hX : XD X) (g : Nat) (σ : Mem) (o : Nat) (hL : L4 o) {r : Int32} (h : fX4_allFrames g σ o = some r) : Met l yX4_allFrames wsX4_allFrames rmX4_allFrames (va_Pc [.ref (xad X o)] (WW X σ)) (QI X r σ) 0 0 (XA X) := by
  refine met_x (M := mX4_allFrames) (lv := [(0, .ref (xad X o))]) hX (by decide) rfl rfl (Nat.le_of_ble_eq_true rfl) rfl ?_
  unfold fX4_allFrames at h
  refine k_aload_n (q := 0) dX4_allFrames_0 rfl rfl ?_
  refine k_aload_n (q := 0) dX4_allFrames_1 rfl rfl ?_
  refine kg_4 (v := .int (σ o 0)) hL.1 inX4_allFrames_4 0 (by decide) (List.mem_of_getElem? (i := 1) rfl) rfl dX4_allFrames_2 ?_
  obtain ⟨r2, hc1, h⟩ := bnd_e h
  refine k_cv (q := (RX4, TX4, 5)) (As := [.int (σ o 0)]) 1 (cm_X4_startOf l hX g σ o hL (σ o 0) hc1) gX4_allFrames_X4_startOf rfl ⟨rfl, rfl⟩ hd_X4_startOf ⟨Nat.le_of_ble_eq_true rfl, Nat.le_of_ble_eq_true rfl⟩ ⟨Nat.le_refl _, Nat.le_refl _⟩ (lay_lt hL.1 (by decide)) (ce_of hL.1) rfl rfl (Nat.le_of_ble_eq_true rfl) rfl dX4_allFrames_5 ?_
  exact k_iretR rfl dX4_allFrames_8 h
abbrev rmX4_positionOf : Room := { frames := 1, cells := 0, slots := 0, locals := 22 }
abbrev mX4_positionOf : MT := (rmX4_positionOf, wsX4_positionOf, cX4_positionOf, 5, RX4, some .int)
theorem hd_X4_positionOf : yX4_positionOf.cls = RX4 ∧ yX4_positionOf.cls ≠ "java/lang/invoke/MethodHandle" ∧ yX4_positionOf.cls ≠ "java/lang/invoke/VarHandle" ∧ (parseMethodDescriptor yX4_positionOf.desc).map (fun d => d.parameters.length) = some 2 := by decide +kernel
theorem inX4_positionOf_4 : ∀ w ∈ wsX40, w ∈ wsX4_positionOf := fun w h => List.mem_cons_of_mem _ (List.mem_append_right _ h)
set_option maxHeartbeats 4000000 in
set_option maxRecDepth 100000 in
theorem wX4_positionOf_5 (l : Launch) {X : XT} (hX : XD X) (g : Nat) (o : Nat) (hL : L4 o) {r : Int32} : ∀ (n : Nat) (σ : Mem) (x1 : Int32) (x2 : Int32) (x3 : Int32) (x4 : Int32), fX4_positionOf_5 g o n σ x1 x2 x3 x4 = some r → WG X l mX4_positionOf (fun _ _ => True) 0 0 (QM X (QI X r σ)) 5 σ [(0, .ref (xad X o)), (1, .int x1), (2, .int x2), (3, .int x3), (4, .int x4)] [] := by
  intro n
  induction n with
  | zero => intro σ x1 x2 x3 x4 h; exact nomatch (show (none : Option _) = some _ from h)
  | succ n ih =>
    intro σ x1 x2 x3 x4 h
    rw [fX4_positionOf_5] at h
    refine k_iload (q := 4) dX4_positionOf_5 rfl ?_
    refine k_aload_n (q := 0) dX4_positionOf_7 rfl rfl ?_
    refine kg_4 (v := .int (σ o 0)) hL.1 inX4_positionOf_4 0 (by decide) (List.mem_of_getElem? (i := 1) rfl) rfl dX4_positionOf_8 ?_
    refine k_icmp_ge (tgt := 73) dX4_positionOf_11 (by decide) h (fun h => ?_) (fun h => ?_)
    · refine k_bipush (v := (nN 5)) dX4_positionOf_73 (by decide) ?_
      exact k_iretR rfl dX4_positionOf_75 h
    · refine k_aload_n (q := 0) dX4_positionOf_14 rfl rfl ?_
      refine kg_4 (v := .ref (xad X (o + 1))) hL.1 inX4_positionOf_4 1 (by decide) (List.mem_of_getElem? (i := 2) rfl) rfl dX4_positionOf_15 ?_
      refine k_iload (q := 4) dX4_positionOf_18 rfl ?_
      refine k_iald (n := 20) hL.2.1 dX4_positionOf_20 h (fun h => ?_)
      refine k_iload_n (q := 1) dX4_positionOf_21 rfl rfl ?_
      refine k_icmp_ne (tgt := 58) dX4_positionOf_22 (by decide) h (fun h => ?_) (fun h => ?_)
      · refine k_iload_n (q := 3) dX4_positionOf_58 rfl rfl ?_
        refine k_aload_n (q := 0) dX4_positionOf_59 rfl rfl ?_
        refine k_iload (q := 4) dX4_positionOf_60 rfl ?_
        obtain ⟨r2, hc1, h⟩ := bnd_e h
        refine k_cv (q := (RX4, TX4, 5)) (As := [.int x4]) 1 (cm_X4_lengthOf l hX g σ o hL x4 hc1) gX4_positionOf_X4_lengthOf rfl ⟨rfl, rfl⟩ hd_X4_lengthOf ⟨Nat.le_of_ble_eq_true rfl, Nat.le_of_ble_eq_true rfl⟩ ⟨Nat.le_refl _, Nat.le_refl _⟩ (lay_lt hL.1 (by decide)) (ce_of hL.1) rfl rfl (Nat.le_of_ble_eq_true rfl) rfl dX4_positionOf_62 ?_
        refine k_iadd dX4_positionOf_65 ?_
        refine k_istore_n (lv' := [(3, .int (x3 + r2)), (0, .ref (xad X o)), (1, .int x1), (2, .int x2), (4, .int x4)]) dX4_positionOf_66 rfl (Nat.le_of_ble_eq_true rfl) rfl ?_
        refine k_iinc (q := 4) (v := (x4 + (nI 1))) (lv' := [(4, .int (x4 + (nI 1))), (3, .int (x3 + r2)), (0, .ref (xad X o)), (1, .int x1), (2, .int x2)]) dX4_positionOf_67 rfl rfl (Nat.le_of_ble_eq_true rfl) rfl ?_
        refine k_goto (tgt := 5) dX4_positionOf_70 (by decide) ?_
        refine k_sub (ks' := [2, 3, 4, 1, 0]) rfl ?_
        exact ih σ x1 x2 (x3 + r2) (x4 + (nI 1)) h
      · refine k_iload_n (q := 2) dX4_positionOf_25 rfl rfl ?_
        refine k_aload_n (q := 0) dX4_positionOf_26 rfl rfl ?_
        refine kg_4 (v := .ref (xad X (o + 2))) hL.1 inX4_positionOf_4 2 (by decide) (List.mem_of_getElem? (i := 3) rfl) rfl dX4_positionOf_27 ?_
        refine k_iload (q := 4) dX4_positionOf_30 rfl ?_
        refine k_iald (n := 20) hL.2.2.1 dX4_positionOf_32 h (fun h => ?_)
        refine k_aload_n (q := 0) dX4_positionOf_33 rfl rfl ?_
        refine kg_4 (v := .ref (xad X (o + 3))) hL.1 inX4_positionOf_4 3 (by decide) (List.mem_of_getElem? (i := 4) rfl) rfl dX4_positionOf_34 ?_
        refine k_iload (q := 4) dX4_positionOf_37 rfl ?_
        refine k_iald (n := 20) hL.2.2.2.1 dX4_positionOf_39 h (fun h => ?_)
        obtain ⟨r4, hc3, h⟩ := bnd_e h
        refine k_csN (host := "HoleReel") (As := [.int x2, .int (σ (o + 2) x4.toNatClampNeg), .int (σ (o + 3) x4.toNatClampNeg)]) 3 (cm_X8_isWithin l hX g σ x2 (σ (o + 2) x4.toNatClampNeg) (σ (o + 3) x4.toNatClampNeg) hc3) gX4_positionOf_X8_isWithin_n41 rfl ⟨rfl, rfl⟩ (fun _ hN => hN.2.2.2.2.1) (List.mem_of_getElem? (i := 6) rfl) (List.mem_of_getElem? (i := 5) rfl) hd_X8_isWithin ⟨Nat.le_of_ble_eq_true rfl, Nat.le_of_ble_eq_true rfl⟩ ⟨Nat.le_refl _, Nat.le_refl _⟩ rfl (Nat.le_of_ble_eq_true rfl) rfl dX4_positionOf_40 ?_
        refine k_if_eq (tgt := 58) dX4_positionOf_43 (by decide) h (fun h => ?_) (fun h => ?_)
        · refine k_iload_n (q := 3) dX4_positionOf_58 rfl rfl ?_
          refine k_aload_n (q := 0) dX4_positionOf_59 rfl rfl ?_
          refine k_iload (q := 4) dX4_positionOf_60 rfl ?_
          obtain ⟨r6, hc5, h⟩ := bnd_e h
          refine k_cv (q := (RX4, TX4, 5)) (As := [.int x4]) 1 (cm_X4_lengthOf l hX g σ o hL x4 hc5) gX4_positionOf_X4_lengthOf rfl ⟨rfl, rfl⟩ hd_X4_lengthOf ⟨Nat.le_of_ble_eq_true rfl, Nat.le_of_ble_eq_true rfl⟩ ⟨Nat.le_refl _, Nat.le_refl _⟩ (lay_lt hL.1 (by decide)) (ce_of hL.1) rfl rfl (Nat.le_of_ble_eq_true rfl) rfl dX4_positionOf_62 ?_
          refine k_iadd dX4_positionOf_65 ?_
          refine k_istore_n (lv' := [(3, .int (x3 + r6)), (0, .ref (xad X o)), (1, .int x1), (2, .int x2), (4, .int x4)]) dX4_positionOf_66 rfl (Nat.le_of_ble_eq_true rfl) rfl ?_
          refine k_iinc (q := 4) (v := (x4 + (nI 1))) (lv' := [(4, .int (x4 + (nI 1))), (3, .int (x3 + r6)), (0, .ref (xad X o)), (1, .int x1), (2, .int x2)]) dX4_positionOf_67 rfl rfl (Nat.le_of_ble_eq_true rfl) rfl ?_
          refine k_goto (tgt := 5) dX4_positionOf_70 (by decide) ?_
          refine k_sub (ks' := [2, 3, 4, 1, 0]) rfl ?_
          exact ih σ x1 x2 (x3 + r6) (x4 + (nI 1)) h
        · refine k_iload_n (q := 3) dX4_positionOf_46 rfl rfl ?_
          refine k_iload_n (q := 2) dX4_positionOf_47 rfl rfl ?_
          refine k_iadd dX4_positionOf_48 ?_
          refine k_aload_n (q := 0) dX4_positionOf_49 rfl rfl ?_
          refine kg_4 (v := .ref (xad X (o + 2))) hL.1 inX4_positionOf_4 2 (by decide) (List.mem_of_getElem? (i := 3) rfl) rfl dX4_positionOf_50 ?_
          refine k_iload (q := 4) dX4_positionOf_53 rfl ?_
          refine k_iald (n := 20) hL.2.2.1 dX4_positionOf_55 h (fun h => ?_)
          refine k_isub dX4_positionOf_56 ?_
          exact k_iretR rfl dX4_positionOf_57 h
set_option maxHeartbeats 4000000 in
set_option maxRecDepth 100000 in
theorem cm_X4_positionOf (l : Launch) {X : XT} (hX : XD X) (g : Nat) (σ : Mem) (o : Nat) (hL : L4 o) (p1 : Int32) (p2 : Int32) {r : Int32} (h : fX4_positionOf g σ o p1 p2 = some r) : Met l yX4_positionOf wsX4_positionOf rmX4_positionOf (va_Pc [.ref (xad X o), .int p1, .int p2] (WW X σ)) (QI X r σ) 0 0 (XA X) := by
  refine met_x (M := mX4_positionOf) (lv := [(0, .ref (xad X o)), (1, .int p1), (2, .int p2)]) hX (by decide) rfl rfl (Nat.le_of_ble_eq_true rfl) rfl ?_
  unfold fX4_positionOf at h
  refine k_iconst (v := (nI 0)) dX4_positionOf_0 (by decide) ?_
  refine k_istore_n (lv' := [(3, .int (nI 0)), (0, .ref (xad X o)), (1, .int p1), (2, .int p2)]) dX4_positionOf_1 rfl (Nat.le_of_ble_eq_true rfl) rfl ?_
  refine k_iconst (v := (nI 0)) dX4_positionOf_2 (by decide) ?_
  refine k_istore (lv' := [(4, .int (nI 0)), (3, .int (nI 0)), (0, .ref (xad X o)), (1, .int p1), (2, .int p2)]) dX4_positionOf_3 (Nat.le_of_ble_eq_true rfl) rfl ?_
  refine k_sub (ks' := [2, 3, 4, 1, 0]) rfl ?_
  exact wX4_positionOf_5 l hX g o hL g σ p1 p2 (nI 0) (nI 0) h
abbrev rmX4_framesOf : Room := { frames := 1, cells := 0, slots := 0, locals := 21 }
abbrev mX4_framesOf : MT := (rmX4_framesOf, wsX4_framesOf, cX4_framesOf, 4, RX4, some .int)
theorem hd_X4_framesOf : yX4_framesOf.cls = RX4 ∧ yX4_framesOf.cls ≠ "java/lang/invoke/MethodHandle" ∧ yX4_framesOf.cls ≠ "java/lang/invoke/VarHandle" ∧ (parseMethodDescriptor yX4_framesOf.desc).map (fun d => d.parameters.length) = some 1 := by decide +kernel
theorem inX4_framesOf_4 : ∀ w ∈ wsX40, w ∈ wsX4_framesOf := fun w h => List.mem_cons_of_mem _ (List.mem_append_right _ h)
set_option maxHeartbeats 4000000 in
set_option maxRecDepth 100000 in
theorem wX4_framesOf_4 (l : Launch) {X : XT} (hX : XD X) (g : Nat) (o : Nat) (hL : L4 o) {r : Int32} : ∀ (n : Nat) (σ : Mem) (x1 : Int32) (x2 : Int32) (x3 : Int32), fX4_framesOf_4 g o n σ x1 x2 x3 = some r → WG X l mX4_framesOf (fun _ _ => True) 0 0 (QM X (QI X r σ)) 4 σ [(0, .ref (xad X o)), (1, .int x1), (2, .int x2), (3, .int x3)] [] := by
  intro n
  induction n with
  | zero => intro σ x1 x2 x3 h; exact nomatch (show (none : Option _) = some _ from h)
  | succ n ih =>
    intro σ x1 x2 x3 h
    rw [fX4_framesOf_4] at h
    refine k_iload_n (q := 3) dX4_framesOf_4 rfl rfl ?_
    refine k_aload_n (q := 0) dX4_framesOf_5 rfl rfl ?_
    refine kg_4 (v := .int (σ o 0)) hL.1 inX4_framesOf_4 0 (by decide) (List.mem_of_getElem? (i := 1) rfl) rfl dX4_framesOf_6 ?_
    refine k_icmp_ge (tgt := 40) dX4_framesOf_9 (by decide) h (fun h => ?_) (fun h => ?_)
    · refine k_iload_n (q := 2) dX4_framesOf_40 rfl rfl ?_
      exact k_iretR rfl dX4_framesOf_41 h
    · refine k_iload_n (q := 2) dX4_framesOf_12 rfl rfl ?_
      refine k_aload_n (q := 0) dX4_framesOf_13 rfl rfl ?_
      refine kg_4 (v := .ref (xad X (o + 1))) hL.1 inX4_framesOf_4 1 (by decide) (List.mem_of_getElem? (i := 2) rfl) rfl dX4_framesOf_14 ?_
      refine k_iload_n (q := 3) dX4_framesOf_17 rfl rfl ?_
      refine k_iald (n := 20) hL.2.1 dX4_framesOf_18 h (fun h => ?_)
      refine k_iload_n (q := 1) dX4_framesOf_19 rfl rfl ?_
      refine k_icmp_ne (tgt := 31) dX4_framesOf_20 (by decide) h (fun h => ?_) (fun h => ?_)
      · refine k_iconst (v := (nI 0)) dX4_framesOf_31 (by decide) ?_
        refine k_iadd dX4_framesOf_32 ?_
        refine k_istore_n (lv' := [(2, .int (x2 + (nI 0))), (0, .ref (xad X o)), (1, .int x1), (3, .int x3)]) dX4_framesOf_33 rfl (Nat.le_of_ble_eq_true rfl) rfl ?_
        refine k_iinc (q := 3) (v := (x3 + (nI 1))) (lv' := [(3, .int (x3 + (nI 1))), (2, .int (x2 + (nI 0))), (0, .ref (xad X o)), (1, .int x1)]) dX4_framesOf_34 rfl rfl (Nat.le_of_ble_eq_true rfl) rfl ?_
        refine k_goto (tgt := 4) dX4_framesOf_37 (by decide) ?_
        refine k_sub (ks' := [2, 3, 1, 0]) rfl ?_
        exact ih σ x1 (x2 + (nI 0)) (x3 + (nI 1)) h
      · refine k_aload_n (q := 0) dX4_framesOf_23 rfl rfl ?_
        refine k_iload_n (q := 3) dX4_framesOf_24 rfl rfl ?_
        obtain ⟨r2, hc1, h⟩ := bnd_e h
        refine k_cv (q := (RX4, TX4, 5)) (As := [.int x3]) 1 (cm_X4_lengthOf l hX g σ o hL x3 hc1) gX4_framesOf_X4_lengthOf rfl ⟨rfl, rfl⟩ hd_X4_lengthOf ⟨Nat.le_of_ble_eq_true rfl, Nat.le_of_ble_eq_true rfl⟩ ⟨Nat.le_refl _, Nat.le_refl _⟩ (lay_lt hL.1 (by decide)) (ce_of hL.1) rfl rfl (Nat.le_of_ble_eq_true rfl) rfl dX4_framesOf_25 ?_
        refine k_goto (tgt := 32) dX4_framesOf_28 (by decide) ?_
        refine k_iadd dX4_framesOf_32 ?_
        refine k_istore_n (lv' := [(2, .int (x2 + r2)), (0, .ref (xad X o)), (1, .int x1), (3, .int x3)]) dX4_framesOf_33 rfl (Nat.le_of_ble_eq_true rfl) rfl ?_
        refine k_iinc (q := 3) (v := (x3 + (nI 1))) (lv' := [(3, .int (x3 + (nI 1))), (2, .int (x2 + r2)), (0, .ref (xad X o)), (1, .int x1)]) dX4_framesOf_34 rfl rfl (Nat.le_of_ble_eq_true rfl) rfl ?_
        refine k_goto (tgt := 4) dX4_framesOf_37 (by decide) ?_
        refine k_sub (ks' := [2, 3, 1, 0]) rfl ?_
        exact ih σ x1 (x2 + r2) (x3 + (nI 1)) h
set_option maxHeartbeats 4000000 in
set_option maxRecDepth 100000 in
theorem cm_X4_framesOf (l : Launch) {X : XT} (hX : XD X) (g : Nat) (σ : Mem) (o : Nat) (hL : L4 o) (p1 : Int32) {r : Int32} (h : fX4_framesOf g σ o p1 = some r) : Met l yX4_framesOf wsX4_framesOf rmX4_framesOf (va_Pc [.ref (xad X o), .int p1] (WW X σ)) (QI X r σ) 0 0 (XA X) := by
  refine met_x (M := mX4_framesOf) (lv := [(0, .ref (xad X o)), (1, .int p1)]) hX (by decide) rfl rfl (Nat.le_of_ble_eq_true rfl) rfl ?_
  unfold fX4_framesOf at h
  refine k_iconst (v := (nI 0)) dX4_framesOf_0 (by decide) ?_
  refine k_istore_n (lv' := [(2, .int (nI 0)), (0, .ref (xad X o)), (1, .int p1)]) dX4_framesOf_1 rfl (Nat.le_of_ble_eq_true rfl) rfl ?_
  refine k_iconst (v := (nI 0)) dX4_framesOf_2 (by decide) ?_
  refine k_istore_n (lv' := [(3, .int (nI 0)), (2, .int (nI 0)), (0, .ref (xad X o)), (1, .int p1)]) dX4_framesOf_3 rfl (Nat.le_of_ble_eq_true rfl) rfl ?_
  refine k_sub (ks' := [2, 3, 1, 0]) rfl ?_
  exact wX4_framesOf_4 l hX g o hL g σ p1 (nI 0) (nI 0) h
abbrev rmX4_piecesOf : Room := { frames := 0, cells := 0, slots := 0, locals := 0 }
abbrev mX4_piecesOf : MT := (rmX4_piecesOf, wsX4_piecesOf, cX4_piecesOf, 4, RX4, some .int)
theorem hd_X4_piecesOf : yX4_piecesOf.cls = RX4 ∧ yX4_piecesOf.cls ≠ "java/lang/invoke/MethodHandle" ∧ yX4_piecesOf.cls ≠ "java/lang/invoke/VarHandle" ∧ (parseMethodDescriptor yX4_piecesOf.desc).map (fun d => d.parameters.length) = some 1 := by decide +kernel
theorem inX4_piecesOf_4 : ∀ w ∈ wsX40, w ∈ wsX4_piecesOf := fun w h => List.mem_cons_of_mem _ (List.mem_append_right _ h)
set_option maxHeartbeats 4000000 in
set_option maxRecDepth 100000 in
theorem wX4_piecesOf_4 (l : Launch) {X : XT} (hX : XD X) (g : Nat) (o : Nat) (hL : L4 o) {r : Int32} : ∀ (n : Nat) (σ : Mem) (x1 : Int32) (x2 : Int32) (x3 : Int32), fX4_piecesOf_4 g o n σ x1 x2 x3 = some r → WG X l mX4_piecesOf (fun _ _ => True) 0 0 (QM X (QI X r σ)) 4 σ [(0, .ref (xad X o)), (1, .int x1), (2, .int x2), (3, .int x3)] [] := by
  intro n
  induction n with
  | zero => intro σ x1 x2 x3 h; exact nomatch (show (none : Option _) = some _ from h)
  | succ n ih =>
    intro σ x1 x2 x3 h
    rw [fX4_piecesOf_4] at h
    refine k_iload_n (q := 3) dX4_piecesOf_4 rfl rfl ?_
    refine k_aload_n (q := 0) dX4_piecesOf_5 rfl rfl ?_
    refine kg_4 (v := .int (σ o 0)) hL.1 inX4_piecesOf_4 0 (by decide) (List.mem_of_getElem? (i := 1) rfl) rfl dX4_piecesOf_6 ?_
    refine k_icmp_ge (tgt := 36) dX4_piecesOf_9 (by decide) h (fun h => ?_) (fun h => ?_)
    · refine k_iload_n (q := 2) dX4_piecesOf_36 rfl rfl ?_
      exact k_iretR rfl dX4_piecesOf_37 h
    · refine k_iload_n (q := 2) dX4_piecesOf_12 rfl rfl ?_
      refine k_aload_n (q := 0) dX4_piecesOf_13 rfl rfl ?_
      refine kg_4 (v := .ref (xad X (o + 1))) hL.1 inX4_piecesOf_4 1 (by decide) (List.mem_of_getElem? (i := 2) rfl) rfl dX4_piecesOf_14 ?_
      refine k_iload_n (q := 3) dX4_piecesOf_17 rfl rfl ?_
      refine k_iald (n := 20) hL.2.1 dX4_piecesOf_18 h (fun h => ?_)
      refine k_iload_n (q := 1) dX4_piecesOf_19 rfl rfl ?_
      have key : WG X l mX4_piecesOf (fun _ _ => True) 0 0 (QM X (QI X r σ)) 28 σ [(0, .ref (xad X o)), (1, .int x1), (2, .int x2), (3, .int x3)] [.int (if (σ (o + 1) x3.toNatClampNeg) = x1 then (nI 1) else (nI 0)), .int x2] := by
        refine k_iadd dX4_piecesOf_28 ?_
        refine k_istore_n (lv' := [(2, .int (x2 + (if (σ (o + 1) x3.toNatClampNeg) = x1 then (nI 1) else (nI 0)))), (0, .ref (xad X o)), (1, .int x1), (3, .int x3)]) dX4_piecesOf_29 rfl (Nat.le_of_ble_eq_true rfl) rfl ?_
        refine k_iinc (q := 3) (v := (x3 + (nI 1))) (lv' := [(3, .int (x3 + (nI 1))), (2, .int (x2 + (if (σ (o + 1) x3.toNatClampNeg) = x1 then (nI 1) else (nI 0)))), (0, .ref (xad X o)), (1, .int x1)]) dX4_piecesOf_30 rfl rfl (Nat.le_of_ble_eq_true rfl) rfl ?_
        refine k_goto (tgt := 4) dX4_piecesOf_33 (by decide) ?_
        refine k_sub (ks' := [2, 3, 1, 0]) rfl ?_
        exact ih σ x1 (x2 + (if (σ (o + 1) x3.toNatClampNeg) = x1 then (nI 1) else (nI 0))) (x3 + (nI 1)) h
      refine k_icmpc_ne (tgt := 27) dX4_piecesOf_20 (by decide) (fun hq => ?_) (fun hq => ?_)
      · rw [if_neg hq] at key
        refine k_iconst (v := (nI 0)) dX4_piecesOf_27 (by decide) ?_
        exact key
      · rw [if_pos hq] at key
        refine k_iconst (v := (nI 1)) dX4_piecesOf_23 (by decide) ?_
        refine k_goto (tgt := 28) dX4_piecesOf_24 (by decide) ?_
        exact key
set_option maxHeartbeats 4000000 in
set_option maxRecDepth 100000 in
theorem cm_X4_piecesOf (l : Launch) {X : XT} (hX : XD X) (g : Nat) (σ : Mem) (o : Nat) (hL : L4 o) (p1 : Int32) {r : Int32} (h : fX4_piecesOf g σ o p1 = some r) : Met l yX4_piecesOf wsX4_piecesOf rmX4_piecesOf (va_Pc [.ref (xad X o), .int p1] (WW X σ)) (QI X r σ) 0 0 (XA X) := by
  refine met_x (M := mX4_piecesOf) (lv := [(0, .ref (xad X o)), (1, .int p1)]) hX (by decide) rfl rfl (Nat.le_of_ble_eq_true rfl) rfl ?_
  unfold fX4_piecesOf at h
  refine k_iconst (v := (nI 0)) dX4_piecesOf_0 (by decide) ?_
  refine k_istore_n (lv' := [(2, .int (nI 0)), (0, .ref (xad X o)), (1, .int p1)]) dX4_piecesOf_1 rfl (Nat.le_of_ble_eq_true rfl) rfl ?_
  refine k_iconst (v := (nI 0)) dX4_piecesOf_2 (by decide) ?_
  refine k_istore_n (lv' := [(3, .int (nI 0)), (2, .int (nI 0)), (0, .ref (xad X o)), (1, .int p1)]) dX4_piecesOf_3 rfl (Nat.le_of_ble_eq_true rfl) rfl ?_
  refine k_sub (ks' := [2, 3, 1, 0]) rfl ?_
  exact wX4_piecesOf_4 l hX g o hL g σ p1 (nI 0) (nI 0) h
abbrev rmX4_isInOrder : Room := { frames := 0, cells := 0, slots := 0, locals := 0 }
abbrev mX4_isInOrder : MT := (rmX4_isInOrder, wsX4_isInOrder, cX4_isInOrder, 4, RX4, some .boolean)
theorem hd_X4_isInOrder : yX4_isInOrder.cls = RX4 ∧ yX4_isInOrder.cls ≠ "java/lang/invoke/MethodHandle" ∧ yX4_isInOrder.cls ≠ "java/lang/invoke/VarHandle" ∧ (parseMethodDescriptor yX4_isInOrder.desc).map (fun d => d.parameters.length) = some 1 := by decide +kernel
theorem inX4_isInOrder_4 : ∀ w ∈ wsX40, w ∈ wsX4_isInOrder := fun w h => List.mem_cons_of_mem _ (List.mem_append_right _ h)
set_option maxHeartbeats 4000000 in
set_option maxRecDepth 100000 in
theorem wX4_isInOrder_4 (l : Launch) {X : XT} (hX : XD X) (g : Nat) (o : Nat) (hL : L4 o) {r : Int32} : ∀ (n : Nat) (σ : Mem) (x1 : Int32) (x2 : Int32) (x3 : Int32), fX4_isInOrder_4 g o n σ x1 x2 x3 = some r → WG X l mX4_isInOrder (fun _ _ => True) 0 0 (QM X (QI X r σ)) 4 σ [(0, .ref (xad X o)), (1, .int x1), (2, .int x2), (3, .int x3)] [] := by
  intro n
  induction n with
  | zero => intro σ x1 x2 x3 h; exact nomatch (show (none : Option _) = some _ from h)
  | succ n ih =>
    intro σ x1 x2 x3 h
    rw [fX4_isInOrder_4] at h
    refine k_iload_n (q := 3) dX4_isInOrder_4 rfl rfl ?_
    refine k_aload_n (q := 0) dX4_isInOrder_5 rfl rfl ?_
    refine kg_4 (v := .int (σ o 0)) hL.1 inX4_isInOrder_4 0 (by decide) (List.mem_of_getElem? (i := 1) rfl) rfl dX4_isInOrder_6 ?_
    refine k_icmp_ge (tgt := 47) dX4_isInOrder_9 (by decide) h (fun h => ?_) (fun h => ?_)
    · refine k_iconst (v := (nI 1)) dX4_isInOrder_47 (by decide) ?_
      exact k_zretR rfl dX4_isInOrder_48 rfl h
    · refine k_aload_n (q := 0) dX4_isInOrder_12 rfl rfl ?_
      refine kg_4 (v := .ref (xad X (o + 1))) hL.1 inX4_isInOrder_4 1 (by decide) (List.mem_of_getElem? (i := 2) rfl) rfl dX4_isInOrder_13 ?_
      refine k_iload_n (q := 3) dX4_isInOrder_16 rfl rfl ?_
      refine k_iald (n := 20) hL.2.1 dX4_isInOrder_17 h (fun h => ?_)
      refine k_iload_n (q := 1) dX4_isInOrder_18 rfl rfl ?_
      refine k_icmp_ne (tgt := 41) dX4_isInOrder_19 (by decide) h (fun h => ?_) (fun h => ?_)
      · refine k_iinc (q := 3) (v := (x3 + (nI 1))) (lv' := [(3, .int (x3 + (nI 1))), (0, .ref (xad X o)), (1, .int x1), (2, .int x2)]) dX4_isInOrder_41 rfl rfl (Nat.le_of_ble_eq_true rfl) rfl ?_
        refine k_goto (tgt := 4) dX4_isInOrder_44 (by decide) ?_
        refine k_sub (ks' := [1, 2, 3, 0]) rfl ?_
        exact ih σ x1 x2 (x3 + (nI 1)) h
      · refine k_aload_n (q := 0) dX4_isInOrder_22 rfl rfl ?_
        refine kg_4 (v := .ref (xad X (o + 2))) hL.1 inX4_isInOrder_4 2 (by decide) (List.mem_of_getElem? (i := 3) rfl) rfl dX4_isInOrder_23 ?_
        refine k_iload_n (q := 3) dX4_isInOrder_26 rfl rfl ?_
        refine k_iald (n := 20) hL.2.2.1 dX4_isInOrder_27 h (fun h => ?_)
        refine k_iload_n (q := 2) dX4_isInOrder_28 rfl rfl ?_
        refine k_icmp_ge (tgt := 34) dX4_isInOrder_29 (by decide) h (fun h => ?_) (fun h => ?_)
        · refine k_aload_n (q := 0) dX4_isInOrder_34 rfl rfl ?_
          refine kg_4 (v := .ref (xad X (o + 3))) hL.1 inX4_isInOrder_4 3 (by decide) (List.mem_of_getElem? (i := 4) rfl) rfl dX4_isInOrder_35 ?_
          refine k_iload_n (q := 3) dX4_isInOrder_38 rfl rfl ?_
          refine k_iald (n := 20) hL.2.2.2.1 dX4_isInOrder_39 h (fun h => ?_)
          refine k_istore_n (lv' := [(2, .int (σ (o + 3) x3.toNatClampNeg)), (0, .ref (xad X o)), (1, .int x1), (3, .int x3)]) dX4_isInOrder_40 rfl (Nat.le_of_ble_eq_true rfl) rfl ?_
          refine k_iinc (q := 3) (v := (x3 + (nI 1))) (lv' := [(3, .int (x3 + (nI 1))), (2, .int (σ (o + 3) x3.toNatClampNeg)), (0, .ref (xad X o)), (1, .int x1)]) dX4_isInOrder_41 rfl rfl (Nat.le_of_ble_eq_true rfl) rfl ?_
          refine k_goto (tgt := 4) dX4_isInOrder_44 (by decide) ?_
          refine k_sub (ks' := [2, 3, 1, 0]) rfl ?_
          exact ih σ x1 (σ (o + 3) x3.toNatClampNeg) (x3 + (nI 1)) h
        · refine k_iconst (v := (nI 0)) dX4_isInOrder_32 (by decide) ?_
          exact k_zretR rfl dX4_isInOrder_33 rfl h
set_option maxHeartbeats 4000000 in
set_option maxRecDepth 100000 in
theorem cm_X4_isInOrder (l : Launch) {X : XT} (hX : XD X) (g : Nat) (σ : Mem) (o : Nat) (hL : L4 o) (p1 : Int32) {r : Int32} (h : fX4_isInOrder g σ o p1 = some r) : Met l yX4_isInOrder wsX4_isInOrder rmX4_isInOrder (va_Pc [.ref (xad X o), .int p1] (WW X σ)) (QI X r σ) 0 0 (XA X) := by
  refine met_x (M := mX4_isInOrder) (lv := [(0, .ref (xad X o)), (1, .int p1)]) hX (by decide) rfl rfl (Nat.le_of_ble_eq_true rfl) rfl ?_
  unfold fX4_isInOrder at h
  refine k_iconst (v := (nN 1)) dX4_isInOrder_0 (by decide) ?_
  refine k_istore_n (lv' := [(2, .int (nN 1)), (0, .ref (xad X o)), (1, .int p1)]) dX4_isInOrder_1 rfl (Nat.le_of_ble_eq_true rfl) rfl ?_
  refine k_iconst (v := (nI 0)) dX4_isInOrder_2 (by decide) ?_
  refine k_istore_n (lv' := [(3, .int (nI 0)), (2, .int (nN 1)), (0, .ref (xad X o)), (1, .int p1)]) dX4_isInOrder_3 rfl (Nat.le_of_ble_eq_true rfl) rfl ?_
  refine k_sub (ks' := [2, 3, 1, 0]) rfl ?_
  exact wX4_isInOrder_4 l hX g o hL g σ p1 (nN 1) (nI 0) h
abbrev rmX4_splicesFrom : Room := { frames := 0, cells := 0, slots := 0, locals := 0 }
abbrev mX4_splicesFrom : MT := (rmX4_splicesFrom, wsX4_splicesFrom, cX4_splicesFrom, 4, RX4, some .int)
theorem hd_X4_splicesFrom : yX4_splicesFrom.cls = RX4 ∧ yX4_splicesFrom.cls ≠ "java/lang/invoke/MethodHandle" ∧ yX4_splicesFrom.cls ≠ "java/lang/invoke/VarHandle" ∧ (parseMethodDescriptor yX4_splicesFrom.desc).map (fun d => d.parameters.length) = some 1 := by decide +kernel
theorem inX4_splicesFrom_4 : ∀ w ∈ wsX40, w ∈ wsX4_splicesFrom := fun w h => List.mem_cons_of_mem _ (List.mem_append_right _ h)
set_option maxHeartbeats 4000000 in
set_option maxRecDepth 100000 in
theorem wX4_splicesFrom_4 (l : Launch) {X : XT} (hX : XD X) (g : Nat) (o : Nat) (hL : L4 o) {r : Int32} : ∀ (n : Nat) (σ : Mem) (x1 : Int32) (x2 : Int32) (x3 : Int32), fX4_splicesFrom_4 g o n σ x1 x2 x3 = some r → WG X l mX4_splicesFrom (fun _ _ => True) 0 0 (QM X (QI X r σ)) 4 σ [(0, .ref (xad X o)), (1, .int x1), (2, .int x2), (3, .int x3)] [] := by
  intro n
  induction n with
  | zero => intro σ x1 x2 x3 h; exact nomatch (show (none : Option _) = some _ from h)
  | succ n ih =>
    intro σ x1 x2 x3 h
    rw [fX4_splicesFrom_4] at h
    refine k_iload_n (q := 3) dX4_splicesFrom_4 rfl rfl ?_
    refine k_aload_n (q := 0) dX4_splicesFrom_5 rfl rfl ?_
    refine kg_4 (v := .int (σ o 0)) hL.1 inX4_splicesFrom_4 0 (by decide) (List.mem_of_getElem? (i := 1) rfl) rfl dX4_splicesFrom_6 ?_
    refine k_icmp_ge (tgt := 36) dX4_splicesFrom_9 (by decide) h (fun h => ?_) (fun h => ?_)
    · refine k_iload_n (q := 2) dX4_splicesFrom_36 rfl rfl ?_
      exact k_iretR rfl dX4_splicesFrom_37 h
    · refine k_iload_n (q := 2) dX4_splicesFrom_12 rfl rfl ?_
      refine k_aload_n (q := 0) dX4_splicesFrom_13 rfl rfl ?_
      refine kg_4 (v := .ref (xad X (o + 4))) hL.1 inX4_splicesFrom_4 4 (by decide) (List.mem_of_getElem? (i := 2) rfl) rfl dX4_splicesFrom_14 ?_
      refine k_iload_n (q := 3) dX4_splicesFrom_17 rfl rfl ?_
      refine k_iald (n := 20) hL.2.2.2.2 dX4_splicesFrom_18 h (fun h => ?_)
      refine k_iload_n (q := 1) dX4_splicesFrom_19 rfl rfl ?_
      have key : WG X l mX4_splicesFrom (fun _ _ => True) 0 0 (QM X (QI X r σ)) 28 σ [(0, .ref (xad X o)), (1, .int x1), (2, .int x2), (3, .int x3)] [.int (if (σ (o + 4) x3.toNatClampNeg) < x1 then (nI 0) else (nI 1)), .int x2] := by
        refine k_iadd dX4_splicesFrom_28 ?_
        refine k_istore_n (lv' := [(2, .int (x2 + (if (σ (o + 4) x3.toNatClampNeg) < x1 then (nI 0) else (nI 1)))), (0, .ref (xad X o)), (1, .int x1), (3, .int x3)]) dX4_splicesFrom_29 rfl (Nat.le_of_ble_eq_true rfl) rfl ?_
        refine k_iinc (q := 3) (v := (x3 + (nI 1))) (lv' := [(3, .int (x3 + (nI 1))), (2, .int (x2 + (if (σ (o + 4) x3.toNatClampNeg) < x1 then (nI 0) else (nI 1)))), (0, .ref (xad X o)), (1, .int x1)]) dX4_splicesFrom_30 rfl rfl (Nat.le_of_ble_eq_true rfl) rfl ?_
        refine k_goto (tgt := 4) dX4_splicesFrom_33 (by decide) ?_
        refine k_sub (ks' := [2, 3, 1, 0]) rfl ?_
        exact ih σ x1 (x2 + (if (σ (o + 4) x3.toNatClampNeg) < x1 then (nI 0) else (nI 1))) (x3 + (nI 1)) h
      refine k_icmpc_lt (tgt := 27) dX4_splicesFrom_20 (by decide) (fun hq => ?_) (fun hq => ?_)
      · rw [if_pos hq] at key
        refine k_iconst (v := (nI 0)) dX4_splicesFrom_27 (by decide) ?_
        exact key
      · rw [if_neg hq] at key
        refine k_iconst (v := (nI 1)) dX4_splicesFrom_23 (by decide) ?_
        refine k_goto (tgt := 28) dX4_splicesFrom_24 (by decide) ?_
        exact key
set_option maxHeartbeats 4000000 in
set_option maxRecDepth 100000 in
theorem cm_X4_splicesFrom (l : Launch) {X : XT} (hX : XD X) (g : Nat) (σ : Mem) (o : Nat) (hL : L4 o) (p1 : Int32) {r : Int32} (h : fX4_splicesFrom g σ o p1 = some r) : Met l yX4_splicesFrom wsX4_splicesFrom rmX4_splicesFrom (va_Pc [.ref (xad X o), .int p1] (WW X σ)) (QI X r σ) 0 0 (XA X) := by
  refine met_x (M := mX4_splicesFrom) (lv := [(0, .ref (xad X o)), (1, .int p1)]) hX (by decide) rfl rfl (Nat.le_of_ble_eq_true rfl) rfl ?_
  unfold fX4_splicesFrom at h
  refine k_iconst (v := (nI 0)) dX4_splicesFrom_0 (by decide) ?_
  refine k_istore_n (lv' := [(2, .int (nI 0)), (0, .ref (xad X o)), (1, .int p1)]) dX4_splicesFrom_1 rfl (Nat.le_of_ble_eq_true rfl) rfl ?_
  refine k_iconst (v := (nI 1)) dX4_splicesFrom_2 (by decide) ?_
  refine k_istore_n (lv' := [(3, .int (nI 1)), (2, .int (nI 0)), (0, .ref (xad X o)), (1, .int p1)]) dX4_splicesFrom_3 rfl (Nat.le_of_ble_eq_true rfl) rfl ?_
  refine k_sub (ks' := [2, 3, 1, 0]) rfl ?_
  exact wX4_splicesFrom_4 l hX g o hL g σ p1 (nI 0) (nI 1) h
abbrev rmX5_hasUnit : Room := { frames := 0, cells := 0, slots := 0, locals := 0 }
abbrev mX5_hasUnit : MT := (rmX5_hasUnit, wsX5_hasUnit, cX5_hasUnit, 2, RX5, some .boolean)
theorem hd_X5_hasUnit : yX5_hasUnit.cls = RX5 ∧ yX5_hasUnit.cls ≠ "java/lang/invoke/MethodHandle" ∧ yX5_hasUnit.cls ≠ "java/lang/invoke/VarHandle" ∧ (parseMethodDescriptor yX5_hasUnit.desc).map (fun d => d.parameters.length) = some 1 := by decide +kernel
theorem inX5_hasUnit_5 : ∀ w ∈ wsX50, w ∈ wsX5_hasUnit := fun w h => List.mem_cons_of_mem _ (List.mem_append_right _ h)
set_option maxHeartbeats 4000000 in
set_option maxRecDepth 100000 in
theorem cm_X5_hasUnit (l : Launch) {X : XT} (hX : XD X) (g : Nat) (σ : Mem) (o : Nat) (hL : L5 o) (p1 : Int32) {r : Int32} (h : fX5_hasUnit g σ o p1 = some r) : Met l yX5_hasUnit wsX5_hasUnit rmX5_hasUnit (va_Pc [.ref (xad X o), .int p1] (WW X σ)) (QI X r σ) 0 0 (XA X) := by
  refine met_x (M := mX5_hasUnit) (lv := [(0, .ref (xad X o)), (1, .int p1)]) hX (by decide) rfl rfl (Nat.le_of_ble_eq_true rfl) rfl ?_
  unfold fX5_hasUnit at h
  refine k_iload_n (q := 1) dX5_hasUnit_0 rfl rfl ?_
  refine k_if_lt (tgt := 25) dX5_hasUnit_1 (by decide) h (fun h => ?_) (fun h => ?_)
  · refine k_iconst (v := (nI 0)) dX5_hasUnit_25 (by decide) ?_
    exact k_zretR rfl dX5_hasUnit_26 rfl h
  · refine k_iload_n (q := 1) dX5_hasUnit_4 rfl rfl ?_
    refine k_aload_n (q := 0) dX5_hasUnit_5 rfl rfl ?_
    refine kg_5 (v := .ref (xad X (o + 1))) hL.1 inX5_hasUnit_5 0 (by decide) (List.mem_of_getElem? (i := 1) rfl) rfl dX5_hasUnit_6 ?_
    refine k_iconst (v := (nI 0)) dX5_hasUnit_9 (by decide) ?_
    refine k_iald (n := 8) hL.2.1 dX5_hasUnit_10 h (fun h => ?_)
    refine k_icmp_ge (tgt := 25) dX5_hasUnit_11 (by decide) h (fun h => ?_) (fun h => ?_)
    · refine k_iconst (v := (nI 0)) dX5_hasUnit_25 (by decide) ?_
      exact k_zretR rfl dX5_hasUnit_26 rfl h
    · refine k_iload_n (q := 1) dX5_hasUnit_14 rfl rfl ?_
      refine k_sipush (v := (nI 480)) dX5_hasUnit_15 (by decide) ?_
      refine k_icmp_ge (tgt := 25) dX5_hasUnit_18 (by decide) h (fun h => ?_) (fun h => ?_)
      · refine k_iconst (v := (nI 0)) dX5_hasUnit_25 (by decide) ?_
        exact k_zretR rfl dX5_hasUnit_26 rfl h
      · refine k_iconst (v := (nI 1)) dX5_hasUnit_21 (by decide) ?_
        refine k_goto (tgt := 26) dX5_hasUnit_22 (by decide) ?_
        exact k_zretR rfl dX5_hasUnit_26 rfl h
abbrev rmX5_shownWithin : Room := { frames := 1, cells := 0, slots := 0, locals := 21 }
abbrev mX5_shownWithin : MT := (rmX5_shownWithin, wsX5_shownWithin, cX5_shownWithin, 5, RX5, some .int)
theorem hd_X5_shownWithin : yX5_shownWithin.cls = RX5 ∧ yX5_shownWithin.cls ≠ "java/lang/invoke/MethodHandle" ∧ yX5_shownWithin.cls ≠ "java/lang/invoke/VarHandle" ∧ (parseMethodDescriptor yX5_shownWithin.desc).map (fun d => d.parameters.length) = some 2 := by decide +kernel
theorem inX5_shownWithin_5 : ∀ w ∈ wsX50, w ∈ wsX5_shownWithin := fun w h => List.mem_cons_of_mem _ (List.mem_append_right _ h)
set_option maxHeartbeats 4000000 in
set_option maxRecDepth 100000 in
theorem wX5_shownWithin_5 (l : Launch) {X : XT} (hX : XD X) (g : Nat) (o : Nat) (hL : L5 o) {r : Int32} : ∀ (n : Nat) (σ : Mem) (x2 : Int32) (x3 : Int32) (x4 : Int32), fX5_shownWithin_5 g o n σ x2 x3 x4 = some r → WG X l mX5_shownWithin (fun _ _ => True) 0 0 (QM X (QI X r σ)) 5 σ [(0, .ref (xad X o)), (2, .int x2), (3, .int x3), (4, .int x4)] [] := by
  intro n
  induction n with
  | zero => intro σ x2 x3 x4 h; exact nomatch (show (none : Option _) = some _ from h)
  | succ n ih =>
    intro σ x2 x3 x4 h
    rw [fX5_shownWithin_5] at h
    refine k_iload (q := 3) dX5_shownWithin_5 rfl ?_
    refine k_iload_n (q := 1) dX5_shownWithin_7 rfl rfl ?_
    refine k_icmp_ge (tgt := 46) dX5_shownWithin_8 (by decide) h (fun h => ?_) (fun h => ?_)
    · refine k_iload_n (q := 2) dX5_shownWithin_46 rfl rfl ?_
      exact k_iretR rfl dX5_shownWithin_47 h
    · refine k_aload_n (q := 0) dX5_shownWithin_11 rfl rfl ?_
      refine k_iload (q := 3) dX5_shownWithin_12 rfl ?_
      obtain ⟨r2, hc1, h⟩ := bnd_e h
      refine k_cv (q := (RX5, TX5, 2)) (As := [.int x4]) 1 (cm_X5_hasUnit l hX g σ o hL x4 hc1) gX5_shownWithin_X5_hasUnit rfl ⟨rfl, rfl⟩ hd_X5_hasUnit ⟨Nat.le_of_ble_eq_true rfl, Nat.le_of_ble_eq_true rfl⟩ ⟨Nat.le_refl _, Nat.le_refl _⟩ (lay_lt hL.1 (by decide)) (ce_of hL.1) rfl rfl (Nat.le_of_ble_eq_true rfl) rfl dX5_shownWithin_14 ?_
      refine k_if_eq (tgt := 46) dX5_shownWithin_17 (by decide) h (fun h => ?_) (fun h => ?_)
      · refine k_iload_n (q := 2) dX5_shownWithin_46 rfl rfl ?_
        exact k_iretR rfl dX5_shownWithin_47 h
      · refine k_iload_n (q := 2) dX5_shownWithin_20 rfl rfl ?_
        refine k_aload_n (q := 0) dX5_shownWithin_21 rfl rfl ?_
        refine kg_5 (v := .ref (xad X (o + 2))) hL.1 inX5_shownWithin_5 1 (by decide) (List.mem_of_getElem? (i := 1) rfl) rfl dX5_shownWithin_22 ?_
        refine k_iload (q := 3) dX5_shownWithin_25 rfl ?_
        refine k_iald (n := 480) hL.2.2 dX5_shownWithin_27 h (fun h => ?_)
        refine k_bipush (v := (nN 5)) dX5_shownWithin_28 (by decide) ?_
        have key : WG X l mX5_shownWithin (fun _ _ => True) 0 0 (QM X (QI X r σ)) 38 σ [(0, .ref (xad X o)), (2, .int x2), (3, .int x3), (4, .int x4)] [.int (if (σ (o + 2) x4.toNatClampNeg) = (nN 5) then (nI 0) else (nI 1)), .int x3] := by
          refine k_iadd dX5_shownWithin_38 ?_
          refine k_istore_n (lv' := [(3, .int (x3 + (if (σ (o + 2) x4.toNatClampNeg) = (nN 5) then (nI 0) else (nI 1)))), (0, .ref (xad X o)), (2, .int x2), (4, .int x4)]) dX5_shownWithin_39 rfl (Nat.le_of_ble_eq_true rfl) rfl ?_
          refine k_iinc (q := 3) (v := (x4 + (nI 1))) (lv' := [(4, .int (x4 + (nI 1))), (3, .int (x3 + (if (σ (o + 2) x4.toNatClampNeg) = (nN 5) then (nI 0) else (nI 1)))), (0, .ref (xad X o)), (2, .int x2)]) dX5_shownWithin_40 rfl rfl (Nat.le_of_ble_eq_true rfl) rfl ?_
          refine k_goto (tgt := 5) dX5_shownWithin_43 (by decide) ?_
          refine k_sub (ks' := [2, 3, 1, 0]) rfl ?_
          exact ih σ x2 (x3 + (if (σ (o + 2) x4.toNatClampNeg) = (nN 5) then (nI 0) else (nI 1))) (x4 + (nI 1)) h
        refine k_icmpc_eq (tgt := 37) dX5_shownWithin_30 (by decide) (fun hq => ?_) (fun hq => ?_)
        · rw [if_pos hq] at key
          refine k_iconst (v := (nI 0)) dX5_shownWithin_37 (by decide) ?_
          exact key
        · rw [if_neg hq] at key
          refine k_iconst (v := (nI 1)) dX5_shownWithin_33 (by decide) ?_
          refine k_goto (tgt := 38) dX5_shownWithin_34 (by decide) ?_
          exact key
set_option maxHeartbeats 4000000 in
set_option maxRecDepth 100000 in
theorem cm_X5_shownWithin (l : Launch) {X : XT} (hX : XD X) (g : Nat) (σ : Mem) (o : Nat) (hL : L5 o) (p1 : Int32) (p2 : Int32) {r : Int32} (h : fX5_shownWithin g σ o p1 p2 = some r) : Met l yX5_shownWithin wsX5_shownWithin rmX5_shownWithin (va_Pc [.ref (xad X o), .int p1, .int p2] (WW X σ)) (QI X r σ) 0 0 (XA X) := by
  refine met_x (M := mX5_shownWithin) (lv := [(0, .ref (xad X o)), (1, .int p1), (2, .int p2)]) hX (by decide) rfl rfl (Nat.le_of_ble_eq_true rfl) rfl ?_
  unfold fX5_shownWithin at h
  refine k_iconst (v := (nI 0)) dX5_shownWithin_0 (by decide) ?_
  refine k_istore_n (lv' := [(3, .int (nI 0)), (0, .ref (xad X o)), (1, .int p1), (2, .int p2)]) dX5_shownWithin_1 rfl (Nat.le_of_ble_eq_true rfl) rfl ?_
  refine k_iload_n (q := 2) dX5_shownWithin_2 rfl rfl ?_
  refine k_istore (lv' := [(4, .int p1), (3, .int (nI 0)), (0, .ref (xad X o)), (1, .int p1), (2, .int p2)]) dX5_shownWithin_3 (Nat.le_of_ble_eq_true rfl) rfl ?_
  refine k_sub (ks' := [2, 4, 1, 0]) rfl ?_
  exact wX5_shownWithin_5 l hX g o hL g σ p2 (nI 0) p1 h
abbrev rmX5_framesWithin : Room := { frames := 1, cells := 0, slots := 0, locals := 21 }
abbrev mX5_framesWithin : MT := (rmX5_framesWithin, wsX5_framesWithin, cX5_framesWithin, 6, RX5, some .int)
theorem hd_X5_framesWithin : yX5_framesWithin.cls = RX5 ∧ yX5_framesWithin.cls ≠ "java/lang/invoke/MethodHandle" ∧ yX5_framesWithin.cls ≠ "java/lang/invoke/VarHandle" ∧ (parseMethodDescriptor yX5_framesWithin.desc).map (fun d => d.parameters.length) = some 3 := by decide +kernel
theorem inX5_framesWithin_5 : ∀ w ∈ wsX50, w ∈ wsX5_framesWithin := fun w h => List.mem_cons_of_mem _ (List.mem_append_right _ h)
set_option maxHeartbeats 4000000 in
set_option maxRecDepth 100000 in
theorem wX5_framesWithin_6 (l : Launch) {X : XT} (hX : XD X) (g : Nat) (o : Nat) (hL : L5 o) {r : Int32} : ∀ (n : Nat) (σ : Mem) (x1 : Int32) (x3 : Int32) (x4 : Int32) (x5 : Int32), fX5_framesWithin_6 g o n σ x1 x3 x4 x5 = some r → WG X l mX5_framesWithin (fun _ _ => True) 0 0 (QM X (QI X r σ)) 6 σ [(0, .ref (xad X o)), (1, .int x1), (3, .int x3), (4, .int x4), (5, .int x5)] [] := by
  intro n
  induction n with
  | zero => intro σ x1 x3 x4 x5 h; exact nomatch (show (none : Option _) = some _ from h)
  | succ n ih =>
    intro σ x1 x3 x4 x5 h
    rw [fX5_framesWithin_6] at h
    refine k_iload (q := 4) dX5_framesWithin_6 rfl ?_
    refine k_iload_n (q := 2) dX5_framesWithin_8 rfl rfl ?_
    refine k_icmp_ge (tgt := 63) dX5_framesWithin_9 (by decide) h (fun h => ?_) (fun h => ?_)
    · refine k_iload (q := 3) dX5_framesWithin_63 rfl ?_
      exact k_iretR rfl dX5_framesWithin_65 h
    · refine k_aload_n (q := 0) dX5_framesWithin_12 rfl rfl ?_
      refine k_iload (q := 4) dX5_framesWithin_13 rfl ?_
      obtain ⟨r2, hc1, h⟩ := bnd_e h
      refine k_cv (q := (RX5, TX5, 2)) (As := [.int x5]) 1 (cm_X5_hasUnit l hX g σ o hL x5 hc1) gX5_framesWithin_X5_hasUnit rfl ⟨rfl, rfl⟩ hd_X5_hasUnit ⟨Nat.le_of_ble_eq_true rfl, Nat.le_of_ble_eq_true rfl⟩ ⟨Nat.le_refl _, Nat.le_refl _⟩ (lay_lt hL.1 (by decide)) (ce_of hL.1) rfl rfl (Nat.le_of_ble_eq_true rfl) rfl dX5_framesWithin_15 ?_
      refine k_if_eq (tgt := 63) dX5_framesWithin_18 (by decide) h (fun h => ?_) (fun h => ?_)
      · refine k_iload (q := 3) dX5_framesWithin_63 rfl ?_
        exact k_iretR rfl dX5_framesWithin_65 h
      · refine k_iload (q := 3) dX5_framesWithin_21 rfl ?_
        refine k_aload_n (q := 0) dX5_framesWithin_23 rfl rfl ?_
        refine kg_5 (v := .ref (xad X (o + 2))) hL.1 inX5_framesWithin_5 1 (by decide) (List.mem_of_getElem? (i := 1) rfl) rfl dX5_framesWithin_24 ?_
        refine k_iload (q := 4) dX5_framesWithin_27 rfl ?_
        refine k_iald (n := 480) hL.2.2 dX5_framesWithin_29 h (fun h => ?_)
        refine k_bipush (v := (nN 5)) dX5_framesWithin_30 (by decide) ?_
        refine k_icmp_eq (tgt := 53) dX5_framesWithin_32 (by decide) h (fun h => ?_) (fun h => ?_)
        · refine k_iconst (v := (nI 0)) dX5_framesWithin_53 (by decide) ?_
          refine k_iadd dX5_framesWithin_54 ?_
          refine k_istore (lv' := [(4, .int (x4 + (nI 0))), (0, .ref (xad X o)), (1, .int x1), (3, .int x3), (5, .int x5)]) dX5_framesWithin_55 (Nat.le_of_ble_eq_true rfl) rfl ?_
          refine k_iinc (q := 4) (v := (x5 + (nI 1))) (lv' := [(5, .int (x5 + (nI 1))), (4, .int (x4 + (nI 0))), (0, .ref (xad X o)), (1, .int x1), (3, .int x3)]) dX5_framesWithin_57 rfl rfl (Nat.le_of_ble_eq_true rfl) rfl ?_
          refine k_goto (tgt := 6) dX5_framesWithin_60 (by decide) ?_
          refine k_sub (ks' := [2, 3, 4, 1, 0]) rfl ?_
          exact ih σ x1 x3 (x4 + (nI 0)) (x5 + (nI 1)) h
        · refine k_aload_n (q := 0) dX5_framesWithin_35 rfl rfl ?_
          refine kg_5 (v := .ref (xad X (o + 2))) hL.1 inX5_framesWithin_5 1 (by decide) (List.mem_of_getElem? (i := 1) rfl) rfl dX5_framesWithin_36 ?_
          refine k_iload (q := 4) dX5_framesWithin_39 rfl ?_
          refine k_iald (n := 480) hL.2.2 dX5_framesWithin_41 h (fun h => ?_)
          refine k_bipush (v := (nI 100)) dX5_framesWithin_42 (by decide) ?_
          refine k_idiv dX5_framesWithin_44 (by decide) ?_
          refine k_iload_n (q := 1) dX5_framesWithin_45 rfl rfl ?_
          refine k_icmp_ne (tgt := 53) dX5_framesWithin_46 (by decide) h (fun h => ?_) (fun h => ?_)
          · refine k_iconst (v := (nI 0)) dX5_framesWithin_53 (by decide) ?_
            refine k_iadd dX5_framesWithin_54 ?_
            refine k_istore (lv' := [(4, .int (x4 + (nI 0))), (0, .ref (xad X o)), (1, .int x1), (3, .int x3), (5, .int x5)]) dX5_framesWithin_55 (Nat.le_of_ble_eq_true rfl) rfl ?_
            refine k_iinc (q := 4) (v := (x5 + (nI 1))) (lv' := [(5, .int (x5 + (nI 1))), (4, .int (x4 + (nI 0))), (0, .ref (xad X o)), (1, .int x1), (3, .int x3)]) dX5_framesWithin_57 rfl rfl (Nat.le_of_ble_eq_true rfl) rfl ?_
            refine k_goto (tgt := 6) dX5_framesWithin_60 (by decide) ?_
            refine k_sub (ks' := [2, 3, 4, 1, 0]) rfl ?_
            exact ih σ x1 x3 (x4 + (nI 0)) (x5 + (nI 1)) h
          · refine k_iconst (v := (nI 1)) dX5_framesWithin_49 (by decide) ?_
            refine k_goto (tgt := 54) dX5_framesWithin_50 (by decide) ?_
            refine k_iadd dX5_framesWithin_54 ?_
            refine k_istore (lv' := [(4, .int (x4 + (nI 1))), (0, .ref (xad X o)), (1, .int x1), (3, .int x3), (5, .int x5)]) dX5_framesWithin_55 (Nat.le_of_ble_eq_true rfl) rfl ?_
            refine k_iinc (q := 4) (v := (x5 + (nI 1))) (lv' := [(5, .int (x5 + (nI 1))), (4, .int (x4 + (nI 1))), (0, .ref (xad X o)), (1, .int x1), (3, .int x3)]) dX5_framesWithin_57 rfl rfl (Nat.le_of_ble_eq_true rfl) rfl ?_
            refine k_goto (tgt := 6) dX5_framesWithin_60 (by decide) ?_
            refine k_sub (ks' := [2, 3, 4, 1, 0]) rfl ?_
            exact ih σ x1 x3 (x4 + (nI 1)) (x5 + (nI 1)) h
set_option maxHeartbeats 4000000 in
set_option maxRecDepth 100000 in
theorem cm_X5_framesWithin (l : Launch) {X : XT} (hX : XD X) (g : Nat) (σ : Mem) (o : Nat) (hL : L5 o) (p1 : Int32) (p2 : Int32) (p3 : Int32) {r : Int32} (h : fX5_framesWithin g σ o p1 p2 p3 = some r) : Met l yX5_framesWithin wsX5_framesWithin rmX5_framesWithin (va_Pc [.ref (xad X o), .int p1, .int p2, .int p3] (WW X σ)) (QI X r σ) 0 0 (XA X) := by
  refine met_x (M := mX5_framesWithin) (lv := [(0, .ref (xad X o)), (1, .int p1), (2, .int p2), (3, .int p3)]) hX (by decide) rfl rfl (Nat.le_of_ble_eq_true rfl) rfl ?_
  unfold fX5_framesWithin at h
  refine k_iconst (v := (nI 0)) dX5_framesWithin_0 (by decide) ?_
  refine k_istore (lv' := [(4, .int (nI 0)), (0, .ref (xad X o)), (1, .int p1), (2, .int p2), (3, .int p3)]) dX5_framesWithin_1 (Nat.le_of_ble_eq_true rfl) rfl ?_
  refine k_iload_n (q := 3) dX5_framesWithin_3 rfl rfl ?_
  refine k_istore (lv' := [(5, .int p2), (4, .int (nI 0)), (0, .ref (xad X o)), (1, .int p1), (2, .int p2), (3, .int p3)]) dX5_framesWithin_4 (Nat.le_of_ble_eq_true rfl) rfl ?_
  refine k_sub (ks' := [2, 3, 5, 1, 0]) rfl ?_
  exact wX5_framesWithin_6 l hX g o hL g σ p1 p3 (nI 0) p2 h
abbrev rmX5_scenesWithin : Room := { frames := 1, cells := 0, slots := 0, locals := 21 }
abbrev mX5_scenesWithin : MT := (rmX5_scenesWithin, wsX5_scenesWithin, cX5_scenesWithin, 5, RX5, some .int)
theorem hd_X5_scenesWithin : yX5_scenesWithin.cls = RX5 ∧ yX5_scenesWithin.cls ≠ "java/lang/invoke/MethodHandle" ∧ yX5_scenesWithin.cls ≠ "java/lang/invoke/VarHandle" ∧ (parseMethodDescriptor yX5_scenesWithin.desc).map (fun d => d.parameters.length) = some 2 := by decide +kernel
theorem inX5_scenesWithin_5 : ∀ w ∈ wsX50, w ∈ wsX5_scenesWithin := fun w h => List.mem_cons_of_mem _ (List.mem_append_right _ h)
set_option maxHeartbeats 4000000 in
set_option maxRecDepth 100000 in
theorem wX5_scenesWithin_5 (l : Launch) {X : XT} (hX : XD X) (g : Nat) (o : Nat) (hL : L5 o) {r : Int32} : ∀ (n : Nat) (σ : Mem) (x2 : Int32) (x3 : Int32) (x4 : Int32), fX5_scenesWithin_5 g o n σ x2 x3 x4 = some r → WG X l mX5_scenesWithin (fun _ _ => True) 0 0 (QM X (QI X r σ)) 5 σ [(0, .ref (xad X o)), (2, .int x2), (3, .int x3), (4, .int x4)] [] := by
  intro n
  induction n with
  | zero => intro σ x2 x3 x4 h; exact nomatch (show (none : Option _) = some _ from h)
  | succ n ih =>
    intro σ x2 x3 x4 h
    rw [fX5_scenesWithin_5] at h
    refine k_iload (q := 3) dX5_scenesWithin_5 rfl ?_
    refine k_iload_n (q := 1) dX5_scenesWithin_7 rfl rfl ?_
    refine k_icmp_ge (tgt := 53) dX5_scenesWithin_8 (by decide) h (fun h => ?_) (fun h => ?_)
    · refine k_iload_n (q := 2) dX5_scenesWithin_53 rfl rfl ?_
      exact k_iretR rfl dX5_scenesWithin_54 h
    · refine k_aload_n (q := 0) dX5_scenesWithin_11 rfl rfl ?_
      refine k_iload (q := 3) dX5_scenesWithin_12 rfl ?_
      obtain ⟨r2, hc1, h⟩ := bnd_e h
      refine k_cv (q := (RX5, TX5, 2)) (As := [.int x4]) 1 (cm_X5_hasUnit l hX g σ o hL x4 hc1) gX5_scenesWithin_X5_hasUnit rfl ⟨rfl, rfl⟩ hd_X5_hasUnit ⟨Nat.le_of_ble_eq_true rfl, Nat.le_of_ble_eq_true rfl⟩ ⟨Nat.le_refl _, Nat.le_refl _⟩ (lay_lt hL.1 (by decide)) (ce_of hL.1) rfl rfl (Nat.le_of_ble_eq_true rfl) rfl dX5_scenesWithin_14 ?_
      refine k_if_eq (tgt := 53) dX5_scenesWithin_17 (by decide) h (fun h => ?_) (fun h => ?_)
      · refine k_iload_n (q := 2) dX5_scenesWithin_53 rfl rfl ?_
        exact k_iretR rfl dX5_scenesWithin_54 h
      · refine k_aload_n (q := 0) dX5_scenesWithin_20 rfl rfl ?_
        refine kg_5 (v := .ref (xad X (o + 2))) hL.1 inX5_scenesWithin_5 1 (by decide) (List.mem_of_getElem? (i := 1) rfl) rfl dX5_scenesWithin_21 ?_
        refine k_iload (q := 3) dX5_scenesWithin_24 rfl ?_
        refine k_iald (n := 480) hL.2.2 dX5_scenesWithin_26 h (fun h => ?_)
        refine k_bipush (v := (nN 5)) dX5_scenesWithin_27 (by decide) ?_
        refine k_icmp_eq (tgt := 47) dX5_scenesWithin_29 (by decide) h (fun h => ?_) (fun h => ?_)
        · refine k_iinc (q := 3) (v := (x4 + (nI 1))) (lv' := [(4, .int (x4 + (nI 1))), (0, .ref (xad X o)), (2, .int x2), (3, .int x3)]) dX5_scenesWithin_47 rfl rfl (Nat.le_of_ble_eq_true rfl) rfl ?_
          refine k_goto (tgt := 5) dX5_scenesWithin_50 (by decide) ?_
          refine k_sub (ks' := [1, 2, 3, 0]) rfl ?_
          exact ih σ x2 x3 (x4 + (nI 1)) h
        · refine k_iload_n (q := 2) dX5_scenesWithin_32 rfl rfl ?_
          refine k_iconst (v := (nI 1)) dX5_scenesWithin_33 (by decide) ?_
          refine k_aload_n (q := 0) dX5_scenesWithin_34 rfl rfl ?_
          refine kg_5 (v := .ref (xad X (o + 2))) hL.1 inX5_scenesWithin_5 1 (by decide) (List.mem_of_getElem? (i := 1) rfl) rfl dX5_scenesWithin_35 ?_
          refine k_iload (q := 3) dX5_scenesWithin_38 rfl ?_
          refine k_iald (n := 480) hL.2.2 dX5_scenesWithin_40 h (fun h => ?_)
          refine k_bipush (v := (nI 100)) dX5_scenesWithin_41 (by decide) ?_
          refine k_idiv dX5_scenesWithin_43 (by decide) ?_
          refine k_ishl dX5_scenesWithin_44 ?_
          refine k_ior dX5_scenesWithin_45 ?_
          refine k_istore_n (lv' := [(3, .int (x3 ||| ((nI 1) <<< (((σ (o + 2) x4.toNatClampNeg) / (nI 100)) &&& 31)))), (0, .ref (xad X o)), (2, .int x2), (4, .int x4)]) dX5_scenesWithin_46 rfl (Nat.le_of_ble_eq_true rfl) rfl ?_
          refine k_iinc (q := 3) (v := (x4 + (nI 1))) (lv' := [(4, .int (x4 + (nI 1))), (3, .int (x3 ||| ((nI 1) <<< (((σ (o + 2) x4.toNatClampNeg) / (nI 100)) &&& 31)))), (0, .ref (xad X o)), (2, .int x2)]) dX5_scenesWithin_47 rfl rfl (Nat.le_of_ble_eq_true rfl) rfl ?_
          refine k_goto (tgt := 5) dX5_scenesWithin_50 (by decide) ?_
          refine k_sub (ks' := [2, 3, 1, 0]) rfl ?_
          exact ih σ x2 (x3 ||| ((nI 1) <<< (((σ (o + 2) x4.toNatClampNeg) / (nI 100)) &&& 31))) (x4 + (nI 1)) h
set_option maxHeartbeats 4000000 in
set_option maxRecDepth 100000 in
theorem cm_X5_scenesWithin (l : Launch) {X : XT} (hX : XD X) (g : Nat) (σ : Mem) (o : Nat) (hL : L5 o) (p1 : Int32) (p2 : Int32) {r : Int32} (h : fX5_scenesWithin g σ o p1 p2 = some r) : Met l yX5_scenesWithin wsX5_scenesWithin rmX5_scenesWithin (va_Pc [.ref (xad X o), .int p1, .int p2] (WW X σ)) (QI X r σ) 0 0 (XA X) := by
  refine met_x (M := mX5_scenesWithin) (lv := [(0, .ref (xad X o)), (1, .int p1), (2, .int p2)]) hX (by decide) rfl rfl (Nat.le_of_ble_eq_true rfl) rfl ?_
  unfold fX5_scenesWithin at h
  refine k_iconst (v := (nI 0)) dX5_scenesWithin_0 (by decide) ?_
  refine k_istore_n (lv' := [(3, .int (nI 0)), (0, .ref (xad X o)), (1, .int p1), (2, .int p2)]) dX5_scenesWithin_1 rfl (Nat.le_of_ble_eq_true rfl) rfl ?_
  refine k_iload_n (q := 2) dX5_scenesWithin_2 rfl rfl ?_
  refine k_istore (lv' := [(4, .int p1), (3, .int (nI 0)), (0, .ref (xad X o)), (1, .int p1), (2, .int p2)]) dX5_scenesWithin_3 (Nat.le_of_ble_eq_true rfl) rfl ?_
  refine k_sub (ks' := [2, 4, 1, 0]) rfl ?_
  exact wX5_scenesWithin_5 l hX g o hL g σ p2 (nI 0) p1 h
abbrev rmX6_hasScene : Room := { frames := 0, cells := 0, slots := 0, locals := 0 }
abbrev mX6_hasScene : MT := (rmX6_hasScene, wsX6_hasScene, cX6_hasScene, 2, RX6, some .boolean)
theorem hd_X6_hasScene : yX6_hasScene.cls = RX6 ∧ yX6_hasScene.cls ≠ "java/lang/invoke/MethodHandle" ∧ yX6_hasScene.cls ≠ "java/lang/invoke/VarHandle" ∧ (parseMethodDescriptor yX6_hasScene.desc).map (fun d => d.parameters.length) = some 1 := by decide +kernel
theorem inX6_hasScene_6 : ∀ w ∈ wsX60, w ∈ wsX6_hasScene := fun w h => List.mem_cons_of_mem _ (List.mem_append_right _ h)
set_option maxHeartbeats 4000000 in
set_option maxRecDepth 100000 in
theorem cm_X6_hasScene (l : Launch) {X : XT} (hX : XD X) (g : Nat) (σ : Mem) (o : Nat) (hL : L6 o) (p1 : Int32) {r : Int32} (h : fX6_hasScene g σ o p1 = some r) : Met l yX6_hasScene wsX6_hasScene rmX6_hasScene (va_Pc [.ref (xad X o), .int p1] (WW X σ)) (QI X r σ) 0 0 (XA X) := by
  refine met_x (M := mX6_hasScene) (lv := [(0, .ref (xad X o)), (1, .int p1)]) hX (by decide) rfl rfl (Nat.le_of_ble_eq_true rfl) rfl ?_
  unfold fX6_hasScene at h
  refine k_iload_n (q := 1) dX6_hasScene_0 rfl rfl ?_
  refine k_if_lt (tgt := 16) dX6_hasScene_1 (by decide) h (fun h => ?_) (fun h => ?_)
  · refine k_iconst (v := (nI 0)) dX6_hasScene_16 (by decide) ?_
    exact k_zretR rfl dX6_hasScene_17 rfl h
  · refine k_iload_n (q := 1) dX6_hasScene_4 rfl rfl ?_
    refine k_aload_n (q := 0) dX6_hasScene_5 rfl rfl ?_
    refine kg_6 (v := .int (σ o 0)) hL.1 inX6_hasScene_6 0 (by decide) (List.mem_of_getElem? (i := 1) rfl) rfl dX6_hasScene_6 ?_
    refine k_icmp_ge (tgt := 16) dX6_hasScene_9 (by decide) h (fun h => ?_) (fun h => ?_)
    · refine k_iconst (v := (nI 0)) dX6_hasScene_16 (by decide) ?_
      exact k_zretR rfl dX6_hasScene_17 rfl h
    · refine k_iconst (v := (nI 1)) dX6_hasScene_12 (by decide) ?_
      refine k_goto (tgt := 17) dX6_hasScene_13 (by decide) ?_
      exact k_zretR rfl dX6_hasScene_17 rfl h
abbrev rmX6_hasFrame : Room := { frames := 1, cells := 0, slots := 0, locals := 21 }
abbrev mX6_hasFrame : MT := (rmX6_hasFrame, wsX6_hasFrame, cX6_hasFrame, 3, RX6, some .boolean)
theorem hd_X6_hasFrame : yX6_hasFrame.cls = RX6 ∧ yX6_hasFrame.cls ≠ "java/lang/invoke/MethodHandle" ∧ yX6_hasFrame.cls ≠ "java/lang/invoke/VarHandle" ∧ (parseMethodDescriptor yX6_hasFrame.desc).map (fun d => d.parameters.length) = some 2 := by decide +kernel
theorem inX6_hasFrame_6 : ∀ w ∈ wsX60, w ∈ wsX6_hasFrame := fun w h => List.mem_cons_of_mem _ (List.mem_append_right _ h)
set_option maxHeartbeats 4000000 in
set_option maxRecDepth 100000 in
theorem cm_X6_hasFrame (l : Launch) {X : XT} (hX : XD X) (g : Nat) (σ : Mem) (o : Nat) (hL : L6 o) (p1 : Int32) (p2 : Int32) {r : Int32} (h : fX6_hasFrame g σ o p1 p2 = some r) : Met l yX6_hasFrame wsX6_hasFrame rmX6_hasFrame (va_Pc [.ref (xad X o), .int p1, .int p2] (WW X σ)) (QI X r σ) 0 0 (XA X) := by
  refine met_x (M := mX6_hasFrame) (lv := [(0, .ref (xad X o)), (1, .int p1), (2, .int p2)]) hX (by decide) rfl rfl (Nat.le_of_ble_eq_true rfl) rfl ?_
  unfold fX6_hasFrame at h
  refine k_aload_n (q := 0) dX6_hasFrame_0 rfl rfl ?_
  refine k_iload_n (q := 1) dX6_hasFrame_1 rfl rfl ?_
  obtain ⟨r2, hc1, h⟩ := bnd_e h
  refine k_cv (q := (RX6, TX6, 5)) (As := [.int p1]) 1 (cm_X6_hasScene l hX g σ o hL p1 hc1) gX6_hasFrame_X6_hasScene rfl ⟨rfl, rfl⟩ hd_X6_hasScene ⟨Nat.le_of_ble_eq_true rfl, Nat.le_of_ble_eq_true rfl⟩ ⟨Nat.le_refl _, Nat.le_refl _⟩ (lay_lt hL.1 (by decide)) (ce_of hL.1) rfl rfl (Nat.le_of_ble_eq_true rfl) rfl dX6_hasFrame_2 ?_
  refine k_if_eq (tgt := 26) dX6_hasFrame_5 (by decide) h (fun h => ?_) (fun h => ?_)
  · refine k_iconst (v := (nI 0)) dX6_hasFrame_26 (by decide) ?_
    exact k_zretR rfl dX6_hasFrame_27 rfl h
  · refine k_iload_n (q := 2) dX6_hasFrame_8 rfl rfl ?_
    refine k_if_lt (tgt := 26) dX6_hasFrame_9 (by decide) h (fun h => ?_) (fun h => ?_)
    · refine k_iconst (v := (nI 0)) dX6_hasFrame_26 (by decide) ?_
      exact k_zretR rfl dX6_hasFrame_27 rfl h
    · refine k_iload_n (q := 2) dX6_hasFrame_12 rfl rfl ?_
      refine k_aload_n (q := 0) dX6_hasFrame_13 rfl rfl ?_
      refine kg_6 (v := .ref (xad X (o + 2))) hL.1 inX6_hasFrame_6 2 (by decide) (List.mem_of_getElem? (i := 1) rfl) rfl dX6_hasFrame_14 ?_
      refine k_iload_n (q := 1) dX6_hasFrame_17 rfl rfl ?_
      refine k_iald (n := 12) hL.2.2.1 dX6_hasFrame_18 h (fun h => ?_)
      refine k_icmp_ge (tgt := 26) dX6_hasFrame_19 (by decide) h (fun h => ?_) (fun h => ?_)
      · refine k_iconst (v := (nI 0)) dX6_hasFrame_26 (by decide) ?_
        exact k_zretR rfl dX6_hasFrame_27 rfl h
      · refine k_iconst (v := (nI 1)) dX6_hasFrame_22 (by decide) ?_
        refine k_goto (tgt := 27) dX6_hasFrame_23 (by decide) ?_
        exact k_zretR rfl dX6_hasFrame_27 rfl h
abbrev rmX6_append : Room := { frames := 0, cells := 0, slots := 0, locals := 0 }
abbrev mX6_append : MT := (rmX6_append, wsX6_append, cX6_append, 4, RX6, some .int)
theorem hd_X6_append : yX6_append.cls = RX6 ∧ yX6_append.cls ≠ "java/lang/invoke/MethodHandle" ∧ yX6_append.cls ≠ "java/lang/invoke/VarHandle" ∧ (parseMethodDescriptor yX6_append.desc).map (fun d => d.parameters.length) = some 2 := by decide +kernel
theorem inX6_append_6 : ∀ w ∈ wsX60, w ∈ wsX6_append := fun w h => List.mem_cons_of_mem _ (List.mem_append_right _ h)
set_option maxHeartbeats 4000000 in
set_option maxRecDepth 100000 in
theorem cm_X6_append (l : Launch) {X : XT} (hX : XD X) (g : Nat) (σ : Mem) (o : Nat) (hL : L6 o) (p1 : Int32) (p2 : Int32) {r : Int32} {σ' : Mem} (h : fX6_append g σ o p1 p2 = some (r, σ')) : Met l yX6_append wsX6_append rmX6_append (va_Pc [.ref (xad X o), .int p1, .int p2] (WW X σ)) (QI X r σ') 0 0 (XA X) := by
  refine met_x (M := mX6_append) (lv := [(0, .ref (xad X o)), (1, .int p1), (2, .int p2)]) hX (by decide) rfl rfl (Nat.le_of_ble_eq_true rfl) rfl ?_
  unfold fX6_append at h
  refine k_aload_n (q := 0) dX6_append_0 rfl rfl ?_
  refine kg_6 (v := .int (σ o 0)) hL.1 inX6_append_6 0 (by decide) (List.mem_of_getElem? (i := 1) rfl) rfl dX6_append_1 ?_
  refine k_istore_n (lv' := [(3, .int (σ o 0)), (0, .ref (xad X o)), (1, .int p1), (2, .int p2)]) dX6_append_4 rfl (Nat.le_of_ble_eq_true rfl) rfl ?_
  refine k_iload_n (q := 0) dX6_append_5 rfl rfl ?_
  refine k_bipush (v := (nI 12)) dX6_append_6 (by decide) ?_
  refine k_icmp_ge (tgt := 35) dX6_append_8 (by decide) h (fun h => ?_) (fun h => ?_)
  · refine k_iload_n (q := 0) dX6_append_35 rfl rfl ?_
    exact k_iret rfl dX6_append_36 h
  · refine k_aload_n (q := 1) dX6_append_11 rfl rfl ?_
    refine kg_6 (v := .ref (xad X (o + 1))) hL.1 inX6_append_6 1 (by decide) (List.mem_of_getElem? (i := 2) rfl) rfl dX6_append_12 ?_
    refine k_iload_n (q := 0) dX6_append_15 rfl rfl ?_
    refine k_iload_n (q := 2) dX6_append_16 rfl rfl ?_
    refine k_iast (n := 12) hL.2.1 dX6_append_17 h (fun σ1 h => ?_)
    refine k_aload_n (q := 1) dX6_append_18 rfl rfl ?_
    refine kg_6 (v := .ref (xad X (o + 2))) hL.1 inX6_append_6 2 (by decide) (List.mem_of_getElem? (i := 3) rfl) rfl dX6_append_19 ?_
    refine k_iload_n (q := 0) dX6_append_22 rfl rfl ?_
    refine k_iload_n (q := 3) dX6_append_23 rfl rfl ?_
    refine k_iast (n := 12) hL.2.2.1 dX6_append_24 h (fun σ2 h => ?_)
    refine k_aload_n (q := 1) dX6_append_25 rfl rfl ?_
    refine k_dup dX6_append_26 rfl ?_
    refine kg_6 (v := .int (σ2 o 0)) hL.1 inX6_append_6 0 (by decide) (List.mem_of_getElem? (i := 1) rfl) rfl dX6_append_27 ?_
    refine k_iconst (v := (nI 1)) dX6_append_30 (by decide) ?_
    refine k_iadd dX6_append_31 ?_
    refine kp_6_0 hL.1 inX6_append_6 (List.mem_of_getElem? (i := 1) rfl) dX6_append_32 h (fun σ3 h => ?_)
    refine k_iload_n (q := 0) dX6_append_35 rfl rfl ?_
    exact k_iret rfl dX6_append_36 h
abbrev rmX6_tornHolesOf : Room := { frames := 1, cells := 0, slots := 0, locals := 21 }
abbrev mX6_tornHolesOf : MT := (rmX6_tornHolesOf, wsX6_tornHolesOf, cX6_tornHolesOf, 4, RX6, some .int)
theorem hd_X6_tornHolesOf : yX6_tornHolesOf.cls = RX6 ∧ yX6_tornHolesOf.cls ≠ "java/lang/invoke/MethodHandle" ∧ yX6_tornHolesOf.cls ≠ "java/lang/invoke/VarHandle" ∧ (parseMethodDescriptor yX6_tornHolesOf.desc).map (fun d => d.parameters.length) = some 1 := by decide +kernel
theorem inX6_tornHolesOf_6 : ∀ w ∈ wsX60, w ∈ wsX6_tornHolesOf := fun w h => List.mem_cons_of_mem _ (List.mem_append_right _ h)
set_option maxHeartbeats 4000000 in
set_option maxRecDepth 100000 in
theorem wX6_tornHolesOf_4 (l : Launch) {X : XT} (hX : XD X) (g : Nat) (o : Nat) (hL : L6 o) {r : Int32} : ∀ (n : Nat) (σ : Mem) (x1 : Int32) (x2 : Int32) (x3 : Int32), fX6_tornHolesOf_4 g o n σ x1 x2 x3 = some r → WG X l mX6_tornHolesOf (fun _ _ => True) 0 0 (QM X (QI X r σ)) 4 σ [(0, .ref (xad X o)), (1, .int x1), (2, .int x2), (3, .int x3)] [] := by
  intro n
  induction n with
  | zero => intro σ x1 x2 x3 h; exact nomatch (show (none : Option _) = some _ from h)
  | succ n ih =>
    intro σ x1 x2 x3 h
    rw [fX6_tornHolesOf_4] at h
    refine k_iload_n (q := 3) dX6_tornHolesOf_4 rfl rfl ?_
    refine k_aload_n (q := 0) dX6_tornHolesOf_5 rfl rfl ?_
    refine kg_6 (v := .ref (xad X (o + 2))) hL.1 inX6_tornHolesOf_6 2 (by decide) (List.mem_of_getElem? (i := 1) rfl) rfl dX6_tornHolesOf_6 ?_
    refine k_iload_n (q := 1) dX6_tornHolesOf_9 rfl rfl ?_
    refine k_iald (n := 12) hL.2.2.1 dX6_tornHolesOf_10 h (fun h => ?_)
    refine k_icmp_ge (tgt := 36) dX6_tornHolesOf_11 (by decide) h (fun h => ?_) (fun h => ?_)
    · refine k_iload_n (q := 2) dX6_tornHolesOf_36 rfl rfl ?_
      exact k_iretR rfl dX6_tornHolesOf_37 h
    · refine k_iload_n (q := 2) dX6_tornHolesOf_14 rfl rfl ?_
      refine k_aload_n (q := 0) dX6_tornHolesOf_15 rfl rfl ?_
      refine kg_6 (v := .ref (xad X (o + 3))) hL.1 inX6_tornHolesOf_6 3 (by decide) (List.mem_of_getElem? (i := 2) rfl) rfl dX6_tornHolesOf_16 ?_
      refine k_iload_n (q := 1) dX6_tornHolesOf_19 rfl rfl ?_
      refine k_iload_n (q := 3) dX6_tornHolesOf_20 rfl rfl ?_
      obtain ⟨r2, hc1, h⟩ := bnd_e h
      refine k_csN (host := "HoleReel") (As := [.int x1, .int x3]) 2 (cm_X8_slotOf l hX g σ x1 x3 hc1) gX6_tornHolesOf_X8_slotOf_n44 rfl ⟨rfl, rfl⟩ (fun _ hN => hN.2.2.2.2.2) (List.mem_of_getElem? (i := 4) rfl) (List.mem_of_getElem? (i := 3) rfl) hd_X8_slotOf ⟨Nat.le_of_ble_eq_true rfl, Nat.le_of_ble_eq_true rfl⟩ ⟨Nat.le_refl _, Nat.le_refl _⟩ rfl (Nat.le_of_ble_eq_true rfl) rfl dX6_tornHolesOf_21 ?_
      refine k_iald (n := 480) hL.2.2.2.1 dX6_tornHolesOf_24 h (fun h => ?_)
      obtain ⟨r4, hc3, h⟩ := bnd_e h
      refine k_cs (As := [.int (σ (o + 3) r2.toNatClampNeg)]) 1 (cm_J6_bitCount_0f7a4 l hX g σ (σ (o + 3) r2.toNatClampNeg) hc3) gX6_tornHolesOf_J6_bitCount_0f7a4 rfl ⟨rfl, rfl⟩ hd_J6_bitCount_0f7a4 ⟨Nat.le_of_ble_eq_true rfl, Nat.le_of_ble_eq_true rfl⟩ ⟨Nat.le_refl _, Nat.le_refl _⟩ rfl (Nat.le_of_ble_eq_true rfl) rfl dX6_tornHolesOf_25 ?_
      refine k_iadd dX6_tornHolesOf_28 ?_
      refine k_istore_n (lv' := [(2, .int (x2 + r4)), (0, .ref (xad X o)), (1, .int x1), (3, .int x3)]) dX6_tornHolesOf_29 rfl (Nat.le_of_ble_eq_true rfl) rfl ?_
      refine k_iinc (q := 3) (v := (x3 + (nI 1))) (lv' := [(3, .int (x3 + (nI 1))), (2, .int (x2 + r4)), (0, .ref (xad X o)), (1, .int x1)]) dX6_tornHolesOf_30 rfl rfl (Nat.le_of_ble_eq_true rfl) rfl ?_
      refine k_goto (tgt := 4) dX6_tornHolesOf_33 (by decide) ?_
      refine k_sub (ks' := [2, 3, 1, 0]) rfl ?_
      exact ih σ x1 (x2 + r4) (x3 + (nI 1)) h
set_option maxHeartbeats 4000000 in
set_option maxRecDepth 100000 in
theorem cm_X6_tornHolesOf (l : Launch) {X : XT} (hX : XD X) (g : Nat) (σ : Mem) (o : Nat) (hL : L6 o) (p1 : Int32) {r : Int32} (h : fX6_tornHolesOf g σ o p1 = some r) : Met l yX6_tornHolesOf wsX6_tornHolesOf rmX6_tornHolesOf (va_Pc [.ref (xad X o), .int p1] (WW X σ)) (QI X r σ) 0 0 (XA X) := by
  refine met_x (M := mX6_tornHolesOf) (lv := [(0, .ref (xad X o)), (1, .int p1)]) hX (by decide) rfl rfl (Nat.le_of_ble_eq_true rfl) rfl ?_
  unfold fX6_tornHolesOf at h
  refine k_iconst (v := (nI 0)) dX6_tornHolesOf_0 (by decide) ?_
  refine k_istore_n (lv' := [(2, .int (nI 0)), (0, .ref (xad X o)), (1, .int p1)]) dX6_tornHolesOf_1 rfl (Nat.le_of_ble_eq_true rfl) rfl ?_
  refine k_iconst (v := (nI 0)) dX6_tornHolesOf_2 (by decide) ?_
  refine k_istore_n (lv' := [(3, .int (nI 0)), (2, .int (nI 0)), (0, .ref (xad X o)), (1, .int p1)]) dX6_tornHolesOf_3 rfl (Nat.le_of_ble_eq_true rfl) rfl ?_
  refine k_sub (ks' := [2, 3, 1, 0]) rfl ?_
  exact wX6_tornHolesOf_4 l hX g o hL g σ p1 (nI 0) (nI 0) h
abbrev rmX6_allTornHoles : Room := { frames := 2, cells := 0, slots := 0, locals := 44 }
abbrev mX6_allTornHoles : MT := (rmX6_allTornHoles, wsX6_allTornHoles, cX6_allTornHoles, 3, RX6, some .int)
theorem hd_X6_allTornHoles : yX6_allTornHoles.cls = RX6 ∧ yX6_allTornHoles.cls ≠ "java/lang/invoke/MethodHandle" ∧ yX6_allTornHoles.cls ≠ "java/lang/invoke/VarHandle" ∧ (parseMethodDescriptor yX6_allTornHoles.desc).map (fun d => d.parameters.length) = some 0 := by decide +kernel
theorem inX6_allTornHoles_6 : ∀ w ∈ wsX60, w ∈ wsX6_allTornHoles := fun w h => List.mem_cons_of_mem _ (List.mem_append_right _ h)
set_option maxHeartbeats 4000000 in
set_option maxRecDepth 100000 in
theorem wX6_allTornHoles_4 (l : Launch) {X : XT} (hX : XD X) (g : Nat) (o : Nat) (hL : L6 o) {r : Int32} : ∀ (n : Nat) (σ : Mem) (x1 : Int32) (x2 : Int32), fX6_allTornHoles_4 g o n σ x1 x2 = some r → WG X l mX6_allTornHoles (fun _ _ => True) 0 0 (QM X (QI X r σ)) 4 σ [(0, .ref (xad X o)), (1, .int x1), (2, .int x2)] [] := by
  intro n
  induction n with
  | zero => intro σ x1 x2 h; exact nomatch (show (none : Option _) = some _ from h)
  | succ n ih =>
    intro σ x1 x2 h
    rw [fX6_allTornHoles_4] at h
    refine k_iload_n (q := 2) dX6_allTornHoles_4 rfl rfl ?_
    refine k_aload_n (q := 0) dX6_allTornHoles_5 rfl rfl ?_
    refine kg_6 (v := .int (σ o 0)) hL.1 inX6_allTornHoles_6 0 (by decide) (List.mem_of_getElem? (i := 1) rfl) rfl dX6_allTornHoles_6 ?_
    refine k_icmp_ge (tgt := 26) dX6_allTornHoles_9 (by decide) h (fun h => ?_) (fun h => ?_)
    · refine k_iload_n (q := 1) dX6_allTornHoles_26 rfl rfl ?_
      exact k_iretR rfl dX6_allTornHoles_27 h
    · refine k_iload_n (q := 1) dX6_allTornHoles_12 rfl rfl ?_
      refine k_aload_n (q := 0) dX6_allTornHoles_13 rfl rfl ?_
      refine k_iload_n (q := 2) dX6_allTornHoles_14 rfl rfl ?_
      obtain ⟨r2, hc1, h⟩ := bnd_e h
      refine k_cv (q := (RX6, TX6, 5)) (As := [.int x2]) 1 (cm_X6_tornHolesOf l hX g σ o hL x2 hc1) gX6_allTornHoles_X6_tornHolesOf rfl ⟨rfl, rfl⟩ hd_X6_tornHolesOf ⟨Nat.le_of_ble_eq_true rfl, Nat.le_of_ble_eq_true rfl⟩ ⟨Nat.le_refl _, Nat.le_refl _⟩ (lay_lt hL.1 (by decide)) (ce_of hL.1) rfl rfl (Nat.le_of_ble_eq_true rfl) rfl dX6_allTornHoles_15 ?_
      refine k_iadd dX6_allTornHoles_18 ?_
      refine k_istore_n (lv' := [(1, .int (x1 + r2)), (0, .ref (xad X o)), (2, .int x2)]) dX6_allTornHoles_19 rfl (Nat.le_of_ble_eq_true rfl) rfl ?_
      refine k_iinc (q := 2) (v := (x2 + (nI 1))) (lv' := [(2, .int (x2 + (nI 1))), (1, .int (x1 + r2)), (0, .ref (xad X o))]) dX6_allTornHoles_20 rfl rfl (Nat.le_of_ble_eq_true rfl) rfl ?_
      refine k_goto (tgt := 4) dX6_allTornHoles_23 (by decide) ?_
      refine k_sub (ks' := [2, 1, 0]) rfl ?_
      exact ih σ (x1 + r2) (x2 + (nI 1)) h
set_option maxHeartbeats 4000000 in
set_option maxRecDepth 100000 in
theorem cm_X6_allTornHoles (l : Launch) {X : XT} (hX : XD X) (g : Nat) (σ : Mem) (o : Nat) (hL : L6 o) {r : Int32} (h : fX6_allTornHoles g σ o = some r) : Met l yX6_allTornHoles wsX6_allTornHoles rmX6_allTornHoles (va_Pc [.ref (xad X o)] (WW X σ)) (QI X r σ) 0 0 (XA X) := by
  refine met_x (M := mX6_allTornHoles) (lv := [(0, .ref (xad X o))]) hX (by decide) rfl rfl (Nat.le_of_ble_eq_true rfl) rfl ?_
  unfold fX6_allTornHoles at h
  refine k_iconst (v := (nI 0)) dX6_allTornHoles_0 (by decide) ?_
  refine k_istore_n (lv' := [(1, .int (nI 0)), (0, .ref (xad X o))]) dX6_allTornHoles_1 rfl (Nat.le_of_ble_eq_true rfl) rfl ?_
  refine k_iconst (v := (nI 0)) dX6_allTornHoles_2 (by decide) ?_
  refine k_istore_n (lv' := [(2, .int (nI 0)), (1, .int (nI 0)), (0, .ref (xad X o))]) dX6_allTornHoles_3 rfl (Nat.le_of_ble_eq_true rfl) rfl ?_
  refine k_sub (ks' := [2, 1, 0]) rfl ?_
  exact wX6_allTornHoles_4 l hX g o hL g σ (nI 0) (nI 0) h
abbrev rmX7_has : Room := { frames := 0, cells := 0, slots := 0, locals := 0 }
abbrev mX7_has : MT := (rmX7_has, wsX7_has, cX7_has, 2, RX7, some .boolean)
theorem hd_X7_has : yX7_has.cls = RX7 ∧ yX7_has.cls ≠ "java/lang/invoke/MethodHandle" ∧ yX7_has.cls ≠ "java/lang/invoke/VarHandle" ∧ (parseMethodDescriptor yX7_has.desc).map (fun d => d.parameters.length) = some 1 := by decide +kernel
theorem inX7_has_7 : ∀ w ∈ wsX70, w ∈ wsX7_has := fun w h => List.mem_cons_of_mem _ (List.mem_append_right _ h)
set_option maxHeartbeats 4000000 in
set_option maxRecDepth 100000 in
theorem cm_X7_has (l : Launch) {X : XT} (hX : XD X) (g : Nat) (σ : Mem) (o : Nat) (hL : L7 o) (p1 : Int32) {r : Int32} (h : fX7_has g σ o p1 = some r) : Met l yX7_has wsX7_has rmX7_has (va_Pc [.ref (xad X o), .int p1] (WW X σ)) (QI X r σ) 0 0 (XA X) := by
  refine met_x (M := mX7_has) (lv := [(0, .ref (xad X o)), (1, .int p1)]) hX (by decide) rfl rfl (Nat.le_of_ble_eq_true rfl) rfl ?_
  unfold fX7_has at h
  refine k_iload_n (q := 1) dX7_has_0 rfl rfl ?_
  refine k_if_lt (tgt := 16) dX7_has_1 (by decide) h (fun h => ?_) (fun h => ?_)
  · refine k_iconst (v := (nI 0)) dX7_has_16 (by decide) ?_
    exact k_zretR rfl dX7_has_17 rfl h
  · refine k_iload_n (q := 1) dX7_has_4 rfl rfl ?_
    refine k_aload_n (q := 0) dX7_has_5 rfl rfl ?_
    refine kg_7 (v := .int (σ o 0)) hL.1 inX7_has_7 0 (by decide) (List.mem_of_getElem? (i := 1) rfl) rfl dX7_has_6 ?_
    refine k_icmp_ge (tgt := 16) dX7_has_9 (by decide) h (fun h => ?_) (fun h => ?_)
    · refine k_iconst (v := (nI 0)) dX7_has_16 (by decide) ?_
      exact k_zretR rfl dX7_has_17 rfl h
    · refine k_iconst (v := (nI 1)) dX7_has_12 (by decide) ?_
      refine k_goto (tgt := 17) dX7_has_13 (by decide) ?_
      exact k_zretR rfl dX7_has_17 rfl h
abbrev rmX7_append : Room := { frames := 0, cells := 0, slots := 0, locals := 0 }
abbrev mX7_append : MT := (rmX7_append, wsX7_append, cX7_append, 5, RX7, some .int)
theorem hd_X7_append : yX7_append.cls = RX7 ∧ yX7_append.cls ≠ "java/lang/invoke/MethodHandle" ∧ yX7_append.cls ≠ "java/lang/invoke/VarHandle" ∧ (parseMethodDescriptor yX7_append.desc).map (fun d => d.parameters.length) = some 3 := by decide +kernel
theorem inX7_append_7 : ∀ w ∈ wsX70, w ∈ wsX7_append := fun w h => List.mem_cons_of_mem _ (List.mem_append_right _ h)
set_option maxHeartbeats 4000000 in
set_option maxRecDepth 100000 in
theorem cm_X7_append (l : Launch) {X : XT} (hX : XD X) (g : Nat) (σ : Mem) (o : Nat) (hL : L7 o) (p1 : Int32) (p2 : Int32) (p3 : Int32) {r : Int32} {σ' : Mem} (h : fX7_append g σ o p1 p2 p3 = some (r, σ')) : Met l yX7_append wsX7_append rmX7_append (va_Pc [.ref (xad X o), .int p1, .int p2, .int p3] (WW X σ)) (QI X r σ') 0 0 (XA X) := by
  refine met_x (M := mX7_append) (lv := [(0, .ref (xad X o)), (1, .int p1), (2, .int p2), (3, .int p3)]) hX (by decide) rfl rfl (Nat.le_of_ble_eq_true rfl) rfl ?_
  unfold fX7_append at h
  refine k_aload_n (q := 0) dX7_append_0 rfl rfl ?_
  refine kg_7 (v := .int (σ o 0)) hL.1 inX7_append_7 0 (by decide) (List.mem_of_getElem? (i := 1) rfl) rfl dX7_append_1 ?_
  refine k_istore (lv' := [(4, .int (σ o 0)), (0, .ref (xad X o)), (1, .int p1), (2, .int p2), (3, .int p3)]) dX7_append_4 (Nat.le_of_ble_eq_true rfl) rfl ?_
  refine k_iload (q := 0) dX7_append_6 rfl ?_
  refine k_bipush (v := (nI 8)) dX7_append_8 (by decide) ?_
  refine k_icmp_ge (tgt := 47) dX7_append_10 (by decide) h (fun h => ?_) (fun h => ?_)
  · refine k_iload (q := 0) dX7_append_47 rfl ?_
    exact k_iret rfl dX7_append_49 h
  · refine k_aload_n (q := 1) dX7_append_13 rfl rfl ?_
    refine kg_7 (v := .ref (xad X (o + 1))) hL.1 inX7_append_7 1 (by decide) (List.mem_of_getElem? (i := 2) rfl) rfl dX7_append_14 ?_
    refine k_iload (q := 0) dX7_append_17 rfl ?_
    refine k_iload_n (q := 2) dX7_append_19 rfl rfl ?_
    refine k_iast (n := 8) hL.2.1 dX7_append_20 h (fun σ1 h => ?_)
    refine k_aload_n (q := 1) dX7_append_21 rfl rfl ?_
    refine kg_7 (v := .ref (xad X (o + 2))) hL.1 inX7_append_7 2 (by decide) (List.mem_of_getElem? (i := 3) rfl) rfl dX7_append_22 ?_
    refine k_iload (q := 0) dX7_append_25 rfl ?_
    refine k_iload_n (q := 3) dX7_append_27 rfl rfl ?_
    refine k_iast (n := 8) hL.2.2.1 dX7_append_28 h (fun σ2 h => ?_)
    refine k_aload_n (q := 1) dX7_append_29 rfl rfl ?_
    refine kg_7 (v := .ref (xad X (o + 3))) hL.1 inX7_append_7 3 (by decide) (List.mem_of_getElem? (i := 4) rfl) rfl dX7_append_30 ?_
    refine k_iload (q := 0) dX7_append_33 rfl ?_
    refine k_iload_n (q := 4) dX7_append_35 rfl rfl ?_
    refine k_iast (n := 8) hL.2.2.2 dX7_append_36 h (fun σ3 h => ?_)
    refine k_aload_n (q := 1) dX7_append_37 rfl rfl ?_
    refine k_dup dX7_append_38 rfl ?_
    refine kg_7 (v := .int (σ3 o 0)) hL.1 inX7_append_7 0 (by decide) (List.mem_of_getElem? (i := 1) rfl) rfl dX7_append_39 ?_
    refine k_iconst (v := (nI 1)) dX7_append_42 (by decide) ?_
    refine k_iadd dX7_append_43 ?_
    refine kp_7_0 hL.1 inX7_append_7 (List.mem_of_getElem? (i := 1) rfl) dX7_append_44 h (fun σ4 h => ?_)
    refine k_iload (q := 0) dX7_append_47 rfl ?_
    exact k_iret rfl dX7_append_49 h
