/-! THE WALKS (laid by wip/whole/gen_walk.py) -/
abbrev rmX0_copyFrom : Room := { frames := 2, cells := 0, slots := 0, locals := 47 }
abbrev mX0_copyFrom : MT := (rmX0_copyFrom, wsX0_copyFrom, cX0_copyFrom, 2, RX0, none)
theorem hd_X0_copyFrom : yX0_copyFrom.cls = RX0 ∧ yX0_copyFrom.cls ≠ "java/lang/invoke/MethodHandle" ∧ yX0_copyFrom.cls ≠ "java/lang/invoke/VarHandle" ∧ (parseMethodDescriptor yX0_copyFrom.desc).map (fun d => d.parameters.length) = some 1 := by decide +kernel
theorem inX0_copyFrom_0 : ∀ w ∈ wsX00, w ∈ wsX0_copyFrom := fun w h => List.mem_cons_of_mem _ (List.mem_append_left _ (List.mem_append_right _ h))
theorem inX0_copyFrom_4 : ∀ w ∈ wsX40, w ∈ wsX0_copyFrom := fun w h => List.mem_cons_of_mem _ (List.mem_append_right _ h)
set_option maxHeartbeats 4000000 in
set_option maxRecDepth 100000 in
theorem cm_X0_copyFrom (l : Launch) {X : XT} (hX : XD X) (g : Nat) (σ : Mem) (o : Nat) (hL : L0 o) (o1 : Nat) (hLo1 : L0 o1) {σ' : Mem} (h : fX0_copyFrom g σ o o1 = some σ') : Met l yX0_copyFrom wsX0_copyFrom rmX0_copyFrom (va_Pc [.ref (xad X o), .ref (xad X o1)] (WW X σ)) (QV X σ') 0 0 (XA X) := by
  refine met_x (M := mX0_copyFrom) (lv := [(0, .ref (xad X o)), (1, .ref (xad X o1))]) hX (by decide) rfl rfl (Nat.le_of_ble_eq_true rfl) rfl ?_
  unfold fX0_copyFrom at h
  refine k_aload_n (q := 0) dX0_copyFrom_0 rfl rfl ?_
  refine kg_0 (v := .ref (xad X (o + 1))) hL.1 inX0_copyFrom_0 0 (by decide) (List.mem_of_getElem? (i := 1) rfl) rfl dX0_copyFrom_1 ?_
  refine k_aload_n (q := 1) dX0_copyFrom_4 rfl rfl ?_
  refine kg_0 (v := .ref (xad X (o1 + 1))) hLo1.1 inX0_copyFrom_0 0 (by decide) (List.mem_of_getElem? (i := 1) rfl) rfl dX0_copyFrom_5 ?_
  obtain ⟨σ2, hc1, h⟩ := bnd_e h
  refine k_cvv (q := (RX4, TX4, 5)) (As := [.ref (xad X (o1 + 1))]) 1 (cm_X4_copyFrom l hX g σ (o + 1) hL.2.1 (o1 + 1) hLo1.2.1 hc1) gX0_copyFrom_X4_copyFrom rfl ⟨rfl, rfl⟩ hd_X4_copyFrom ⟨Nat.le_of_ble_eq_true rfl, Nat.le_of_ble_eq_true rfl⟩ ⟨Nat.le_refl _, Nat.le_refl _⟩ (lay_lt hL.2.1.1 (by decide)) (ce_of hL.2.1.1) rfl rfl (Nat.le_of_ble_eq_true rfl) rfl dX0_copyFrom_8 ?_
  refine k_aload_n (q := 0) dX0_copyFrom_11 rfl rfl ?_
  refine kg_0 (v := .ref (xad X (o + 6))) hL.1 inX0_copyFrom_0 1 (by decide) (List.mem_of_getElem? (i := 2) rfl) rfl dX0_copyFrom_12 ?_
  refine k_aload_n (q := 1) dX0_copyFrom_15 rfl rfl ?_
  refine kg_0 (v := .ref (xad X (o1 + 6))) hLo1.1 inX0_copyFrom_0 1 (by decide) (List.mem_of_getElem? (i := 2) rfl) rfl dX0_copyFrom_16 ?_
  obtain ⟨σ4, hc3, h⟩ := bnd_e h
  refine k_cvv (q := (RX4, TX4, 5)) (As := [.ref (xad X (o1 + 6))]) 1 (cm_X4_copyFrom l hX g σ2 (o + 6) hL.2.2 (o1 + 6) hLo1.2.2 hc3) gX0_copyFrom_X4_copyFrom rfl ⟨rfl, rfl⟩ hd_X4_copyFrom ⟨Nat.le_of_ble_eq_true rfl, Nat.le_of_ble_eq_true rfl⟩ ⟨Nat.le_refl _, Nat.le_refl _⟩ (lay_lt hL.2.2.1 (by decide)) (ce_of hL.2.2.1) rfl rfl (Nat.le_of_ble_eq_true rfl) rfl dX0_copyFrom_19 ?_
  exact k_vret rfl dX0_copyFrom_22 h
abbrev rmX0_cutAhead : Room := { frames := 2, cells := 0, slots := 0, locals := 47 }
abbrev mX0_cutAhead : MT := (rmX0_cutAhead, wsX0_cutAhead, cX0_cutAhead, 5, RX0, some .int)
theorem hd_X0_cutAhead : yX0_cutAhead.cls = RX0 ∧ yX0_cutAhead.cls ≠ "java/lang/invoke/MethodHandle" ∧ yX0_cutAhead.cls ≠ "java/lang/invoke/VarHandle" ∧ (parseMethodDescriptor yX0_cutAhead.desc).map (fun d => d.parameters.length) = some 1 := by decide +kernel
theorem inX0_cutAhead_0 : ∀ w ∈ wsX00, w ∈ wsX0_cutAhead := fun w h => List.mem_cons_of_mem _ (List.mem_append_left _ (List.mem_append_right _ h))
theorem inX0_cutAhead_4 : ∀ w ∈ wsX40, w ∈ wsX0_cutAhead := fun w h => List.mem_cons_of_mem _ (List.mem_append_right _ h)
set_option maxHeartbeats 4000000 in
set_option maxRecDepth 100000 in
theorem cm_X0_cutAhead (l : Launch) {X : XT} (hX : XD X) (g : Nat) (σ : Mem) (o : Nat) (hL : L0 o) (p1 : Int32) {r : Int32} {σ' : Mem} (h : fX0_cutAhead g σ o p1 = some (r, σ')) : Met l yX0_cutAhead wsX0_cutAhead rmX0_cutAhead (va_Pc [.ref (xad X o), .int p1] (WW X σ)) (QI X r σ') 0 0 (XA X) := by
  refine met_x (M := mX0_cutAhead) (lv := [(0, .ref (xad X o)), (1, .int p1)]) hX (by decide) rfl rfl (Nat.le_of_ble_eq_true rfl) rfl ?_
  unfold fX0_cutAhead at h
  refine k_iload_n (q := 1) dX0_cutAhead_0 rfl rfl ?_
  refine k_if_ge (tgt := 7) dX0_cutAhead_1 (by decide) h (fun h => ?_) (fun h => ?_)
  · refine k_aload_n (q := 0) dX0_cutAhead_7 rfl rfl ?_
    refine kg_0 (v := .ref (xad X (o + 1))) hL.1 inX0_cutAhead_0 0 (by decide) (List.mem_of_getElem? (i := 1) rfl) rfl dX0_cutAhead_8 ?_
    refine k_iload_n (q := 1) dX0_cutAhead_11 rfl rfl ?_
    obtain ⟨r2, hc1, h⟩ := bnd_e h
    refine k_cv (q := (RX4, TX4, 5)) (As := [.int p1]) 1 (cm_X4_pieceAt l hX g σ (o + 1) hL.2.1 p1 hc1) gX0_cutAhead_X4_pieceAt rfl ⟨rfl, rfl⟩ hd_X4_pieceAt ⟨Nat.le_of_ble_eq_true rfl, Nat.le_of_ble_eq_true rfl⟩ ⟨Nat.le_refl _, Nat.le_refl _⟩ (lay_lt hL.2.1.1 (by decide)) (ce_of hL.2.1.1) rfl rfl (Nat.le_of_ble_eq_true rfl) rfl dX0_cutAhead_12 ?_
    refine k_istore_n (lv' := [(2, .int r2), (0, .ref (xad X o)), (1, .int p1)]) dX0_cutAhead_15 rfl (Nat.le_of_ble_eq_true rfl) rfl ?_
    refine k_aload_n (q := 1) dX0_cutAhead_16 rfl rfl ?_
    refine kg_0 (v := .ref (xad X (o + 1))) hL.1 inX0_cutAhead_0 0 (by decide) (List.mem_of_getElem? (i := 1) rfl) rfl dX0_cutAhead_17 ?_
    refine k_iload_n (q := 0) dX0_cutAhead_20 rfl rfl ?_
    obtain ⟨r4, hc3, h⟩ := bnd_e h
    refine k_cv (q := (RX4, TX4, 5)) (As := [.int r2]) 1 (cm_X4_has l hX g σ (o + 1) hL.2.1 r2 hc3) gX0_cutAhead_X4_has rfl ⟨rfl, rfl⟩ hd_X4_has ⟨Nat.le_of_ble_eq_true rfl, Nat.le_of_ble_eq_true rfl⟩ ⟨Nat.le_refl _, Nat.le_refl _⟩ (lay_lt hL.2.1.1 (by decide)) (ce_of hL.2.1.1) rfl rfl (Nat.le_of_ble_eq_true rfl) rfl dX0_cutAhead_21 ?_
    refine k_if_ne (tgt := 30) dX0_cutAhead_24 (by decide) h (fun h => ?_) (fun h => ?_)
    · refine k_iload_n (q := 2) dX0_cutAhead_30 rfl rfl ?_
      refine k_aload_n (q := 1) dX0_cutAhead_31 rfl rfl ?_
      refine kg_0 (v := .ref (xad X (o + 1))) hL.1 inX0_cutAhead_0 0 (by decide) (List.mem_of_getElem? (i := 1) rfl) rfl dX0_cutAhead_32 ?_
      refine k_iload_n (q := 0) dX0_cutAhead_35 rfl rfl ?_
      obtain ⟨r6, hc5, h⟩ := bnd_e h
      refine k_cv (q := (RX4, TX4, 5)) (As := [.int r2]) 1 (cm_X4_startOf l hX g σ (o + 1) hL.2.1 r2 hc5) gX0_cutAhead_X4_startOf rfl ⟨rfl, rfl⟩ hd_X4_startOf ⟨Nat.le_of_ble_eq_true rfl, Nat.le_of_ble_eq_true rfl⟩ ⟨Nat.le_refl _, Nat.le_refl _⟩ (lay_lt hL.2.1.1 (by decide)) (ce_of hL.2.1.1) rfl rfl (Nat.le_of_ble_eq_true rfl) rfl dX0_cutAhead_36 ?_
      refine k_isub dX0_cutAhead_39 ?_
      refine k_istore_n (lv' := [(3, .int (p1 - r6)), (2, .int r2), (0, .ref (xad X o)), (1, .int p1)]) dX0_cutAhead_40 rfl (Nat.le_of_ble_eq_true rfl) rfl ?_
      refine k_iload_n (q := 0) dX0_cutAhead_41 rfl rfl ?_
      refine k_if_ne (tgt := 48) dX0_cutAhead_42 (by decide) h (fun h => ?_) (fun h => ?_)
      · refine k_aload_n (q := 2) dX0_cutAhead_48 rfl rfl ?_
        refine kg_0 (v := .ref (xad X (o + 1))) hL.1 inX0_cutAhead_0 0 (by decide) (List.mem_of_getElem? (i := 1) rfl) rfl dX0_cutAhead_49 ?_
        obtain ⟨r8, hc7, h⟩ := bnd_e h
        refine k_cv (q := (RX4, TX4, 5)) (As := []) 0 (cm_X4_isFull l hX g σ (o + 1) hL.2.1 hc7) gX0_cutAhead_X4_isFull rfl ⟨rfl, rfl⟩ hd_X4_isFull ⟨Nat.le_of_ble_eq_true rfl, Nat.le_of_ble_eq_true rfl⟩ ⟨Nat.le_refl _, Nat.le_refl _⟩ (lay_lt hL.2.1.1 (by decide)) (ce_of hL.2.1.1) rfl rfl (Nat.le_of_ble_eq_true rfl) rfl dX0_cutAhead_52 ?_
        refine k_if_eq (tgt := 61) dX0_cutAhead_55 (by decide) h (fun h => ?_) (fun h => ?_)
        · refine k_aload_n (q := 2) dX0_cutAhead_61 rfl rfl ?_
          refine kg_0 (v := .ref (xad X (o + 1))) hL.1 inX0_cutAhead_0 0 (by decide) (List.mem_of_getElem? (i := 1) rfl) rfl dX0_cutAhead_62 ?_
          refine kg_4 (v := .ref (xad X (o + 3))) hL.2.1.1 inX0_cutAhead_4 2 (by decide) (List.mem_of_getElem? (i := 2) rfl) rfl dX0_cutAhead_65 ?_
          refine k_iload_n (q := 1) dX0_cutAhead_68 rfl rfl ?_
          refine k_iald (n := 20) hL.2.1.2.2.1 dX0_cutAhead_69 h (fun h => ?_)
          refine k_iload_n (q := 0) dX0_cutAhead_70 rfl rfl ?_
          refine k_iadd dX0_cutAhead_71 ?_
          refine k_istore (lv' := [(4, .int ((σ (o + 3) r2.toNatClampNeg) + (p1 - r6))), (3, .int (p1 - r6)), (2, .int r2), (0, .ref (xad X o)), (1, .int p1)]) dX0_cutAhead_72 (Nat.le_of_ble_eq_true rfl) rfl ?_
          refine k_aload_n (q := 3) dX0_cutAhead_74 rfl rfl ?_
          refine kg_0 (v := .ref (xad X (o + 1))) hL.1 inX0_cutAhead_0 0 (by decide) (List.mem_of_getElem? (i := 1) rfl) rfl dX0_cutAhead_75 ?_
          refine k_iload_n (q := 2) dX0_cutAhead_78 rfl rfl ?_
          refine k_iconst (v := (nI 1)) dX0_cutAhead_79 (by decide) ?_
          refine k_iadd dX0_cutAhead_80 ?_
          refine k_aload_n (q := 3) dX0_cutAhead_81 rfl rfl ?_
          refine kg_0 (v := .ref (xad X (o + 1))) hL.1 inX0_cutAhead_0 0 (by decide) (List.mem_of_getElem? (i := 1) rfl) rfl dX0_cutAhead_82 ?_
          refine kg_4 (v := .ref (xad X (o + 2))) hL.2.1.1 inX0_cutAhead_4 1 (by decide) (List.mem_of_getElem? (i := 3) rfl) rfl dX0_cutAhead_85 ?_
          refine k_iload_n (q := 2) dX0_cutAhead_88 rfl rfl ?_
          refine k_iald (n := 20) hL.2.1.2.1 dX0_cutAhead_89 h (fun h => ?_)
          refine k_iload (q := 0) dX0_cutAhead_90 rfl ?_
          refine k_aload_n (q := 3) dX0_cutAhead_92 rfl rfl ?_
          refine kg_0 (v := .ref (xad X (o + 1))) hL.1 inX0_cutAhead_0 0 (by decide) (List.mem_of_getElem? (i := 1) rfl) rfl dX0_cutAhead_93 ?_
          refine kg_4 (v := .ref (xad X (o + 4))) hL.2.1.1 inX0_cutAhead_4 3 (by decide) (List.mem_of_getElem? (i := 4) rfl) rfl dX0_cutAhead_96 ?_
          refine k_iload_n (q := 2) dX0_cutAhead_99 rfl rfl ?_
          refine k_iald (n := 20) hL.2.1.2.2.2.1 dX0_cutAhead_100 h (fun h => ?_)
          obtain ⟨σ10, hc9, h⟩ := bnd_e h
          refine k_cvv (q := (RX4, TX4, 5)) (As := [.int (r2 + (nI 1)), .int (σ (o + 2) r2.toNatClampNeg), .int ((σ (o + 3) r2.toNatClampNeg) + (p1 - r6)), .int (σ (o + 4) r2.toNatClampNeg)]) 4 (cm_X4_insert l hX g σ (o + 1) hL.2.1 (r2 + (nI 1)) (σ (o + 2) r2.toNatClampNeg) ((σ (o + 3) r2.toNatClampNeg) + (p1 - r6)) (σ (o + 4) r2.toNatClampNeg) hc9) gX0_cutAhead_X4_insert rfl ⟨rfl, rfl⟩ hd_X4_insert ⟨Nat.le_of_ble_eq_true rfl, Nat.le_of_ble_eq_true rfl⟩ ⟨Nat.le_refl _, Nat.le_refl _⟩ (lay_lt hL.2.1.1 (by decide)) (ce_of hL.2.1.1) rfl rfl (Nat.le_of_ble_eq_true rfl) rfl dX0_cutAhead_101 ?_
          refine k_aload_n (q := 3) dX0_cutAhead_104 rfl rfl ?_
          refine kg_0 (v := .ref (xad X (o + 1))) hL.1 inX0_cutAhead_0 0 (by decide) (List.mem_of_getElem? (i := 1) rfl) rfl dX0_cutAhead_105 ?_
          refine kg_4 (v := .ref (xad X (o + 4))) hL.2.1.1 inX0_cutAhead_4 3 (by decide) (List.mem_of_getElem? (i := 4) rfl) rfl dX0_cutAhead_108 ?_
          refine k_iload_n (q := 2) dX0_cutAhead_111 rfl rfl ?_
          refine k_iload (q := 0) dX0_cutAhead_112 rfl ?_
          refine k_iconst (v := (nI 1)) dX0_cutAhead_114 (by decide) ?_
          refine k_isub dX0_cutAhead_115 ?_
          refine k_iast (n := 20) hL.2.1.2.2.2.1 dX0_cutAhead_116 h (fun σ11 h => ?_)
          refine k_iload_n (q := 2) dX0_cutAhead_117 rfl rfl ?_
          refine k_iconst (v := (nI 1)) dX0_cutAhead_118 (by decide) ?_
          refine k_iadd dX0_cutAhead_119 ?_
          exact k_iret rfl dX0_cutAhead_120 h
        · refine k_bipush (v := (nN 3)) dX0_cutAhead_58 (by decide) ?_
          exact k_iret rfl dX0_cutAhead_60 h
      · refine k_bipush (v := (nN 5)) dX0_cutAhead_45 (by decide) ?_
        exact k_iret rfl dX0_cutAhead_47 h
    · refine k_bipush (v := (nN 2)) dX0_cutAhead_27 (by decide) ?_
      exact k_iret rfl dX0_cutAhead_29 h
  · refine k_bipush (v := (nN 2)) dX0_cutAhead_4 (by decide) ?_
    exact k_iret rfl dX0_cutAhead_6 h
abbrev rmX0_joinBehind : Room := { frames := 2, cells := 0, slots := 0, locals := 44 }
abbrev mX0_joinBehind : MT := (rmX0_joinBehind, wsX0_joinBehind, cX0_joinBehind, 2, RX0, some .int)
theorem hd_X0_joinBehind : yX0_joinBehind.cls = RX0 ∧ yX0_joinBehind.cls ≠ "java/lang/invoke/MethodHandle" ∧ yX0_joinBehind.cls ≠ "java/lang/invoke/VarHandle" ∧ (parseMethodDescriptor yX0_joinBehind.desc).map (fun d => d.parameters.length) = some 1 := by decide +kernel
theorem inX0_joinBehind_0 : ∀ w ∈ wsX00, w ∈ wsX0_joinBehind := fun w h => List.mem_cons_of_mem _ (List.mem_append_left _ (List.mem_append_right _ h))
theorem inX0_joinBehind_4 : ∀ w ∈ wsX40, w ∈ wsX0_joinBehind := fun w h => List.mem_cons_of_mem _ (List.mem_append_right _ h)
set_option maxHeartbeats 4000000 in
set_option maxRecDepth 100000 in
theorem cm_X0_joinBehind (l : Launch) {X : XT} (hX : XD X) (g : Nat) (σ : Mem) (o : Nat) (hL : L0 o) (p1 : Int32) {r : Int32} {σ' : Mem} (h : fX0_joinBehind g σ o p1 = some (r, σ')) : Met l yX0_joinBehind wsX0_joinBehind rmX0_joinBehind (va_Pc [.ref (xad X o), .int p1] (WW X σ)) (QI X r σ') 0 0 (XA X) := by
  refine met_x (M := mX0_joinBehind) (lv := [(0, .ref (xad X o)), (1, .int p1)]) hX (by decide) rfl rfl (Nat.le_of_ble_eq_true rfl) rfl ?_
  unfold fX0_joinBehind at h
  refine k_aload_n (q := 0) dX0_joinBehind_0 rfl rfl ?_
  refine kg_0 (v := .ref (xad X (o + 1))) hL.1 inX0_joinBehind_0 0 (by decide) (List.mem_of_getElem? (i := 1) rfl) rfl dX0_joinBehind_1 ?_
  refine k_iload_n (q := 1) dX0_joinBehind_4 rfl rfl ?_
  obtain ⟨r2, hc1, h⟩ := bnd_e h
  refine k_cv (q := (RX4, TX4, 5)) (As := [.int p1]) 1 (cm_X4_has l hX g σ (o + 1) hL.2.1 p1 hc1) gX0_joinBehind_X4_has rfl ⟨rfl, rfl⟩ hd_X4_has ⟨Nat.le_of_ble_eq_true rfl, Nat.le_of_ble_eq_true rfl⟩ ⟨Nat.le_refl _, Nat.le_refl _⟩ (lay_lt hL.2.1.1 (by decide)) (ce_of hL.2.1.1) rfl rfl (Nat.le_of_ble_eq_true rfl) rfl dX0_joinBehind_5 ?_
  refine k_if_ne (tgt := 13) dX0_joinBehind_8 (by decide) h (fun h => ?_) (fun h => ?_)
  · refine k_aload_n (q := 0) dX0_joinBehind_13 rfl rfl ?_
    refine kg_0 (v := .ref (xad X (o + 1))) hL.1 inX0_joinBehind_0 0 (by decide) (List.mem_of_getElem? (i := 1) rfl) rfl dX0_joinBehind_14 ?_
    refine k_iload_n (q := 1) dX0_joinBehind_17 rfl rfl ?_
    obtain ⟨r4, hc3, h⟩ := bnd_e h
    refine k_cv (q := (RX4, TX4, 5)) (As := [.int p1]) 1 (cm_X4_goesOn l hX g σ (o + 1) hL.2.1 p1 hc3) gX0_joinBehind_X4_goesOn rfl ⟨rfl, rfl⟩ hd_X4_goesOn ⟨Nat.le_of_ble_eq_true rfl, Nat.le_of_ble_eq_true rfl⟩ ⟨Nat.le_refl _, Nat.le_refl _⟩ (lay_lt hL.2.1.1 (by decide)) (ce_of hL.2.1.1) rfl rfl (Nat.le_of_ble_eq_true rfl) rfl dX0_joinBehind_18 ?_
    refine k_if_ne (tgt := 27) dX0_joinBehind_21 (by decide) h (fun h => ?_) (fun h => ?_)
    · refine k_aload_n (q := 0) dX0_joinBehind_27 rfl rfl ?_
      refine kg_0 (v := .ref (xad X (o + 1))) hL.1 inX0_joinBehind_0 0 (by decide) (List.mem_of_getElem? (i := 1) rfl) rfl dX0_joinBehind_28 ?_
      refine kg_4 (v := .ref (xad X (o + 4))) hL.2.1.1 inX0_joinBehind_4 3 (by decide) (List.mem_of_getElem? (i := 2) rfl) rfl dX0_joinBehind_31 ?_
      refine k_iload_n (q := 1) dX0_joinBehind_34 rfl rfl ?_
      refine k_aload_n (q := 0) dX0_joinBehind_35 rfl rfl ?_
      refine kg_0 (v := .ref (xad X (o + 1))) hL.1 inX0_joinBehind_0 0 (by decide) (List.mem_of_getElem? (i := 1) rfl) rfl dX0_joinBehind_36 ?_
      refine kg_4 (v := .ref (xad X (o + 4))) hL.2.1.1 inX0_joinBehind_4 3 (by decide) (List.mem_of_getElem? (i := 2) rfl) rfl dX0_joinBehind_39 ?_
      refine k_iload_n (q := 1) dX0_joinBehind_42 rfl rfl ?_
      refine k_iconst (v := (nI 1)) dX0_joinBehind_43 (by decide) ?_
      refine k_iadd dX0_joinBehind_44 ?_
      refine k_iald (n := 20) hL.2.1.2.2.2.1 dX0_joinBehind_45 h (fun h => ?_)
      refine k_iast (n := 20) hL.2.1.2.2.2.1 dX0_joinBehind_46 h (fun σ5 h => ?_)
      refine k_aload_n (q := 0) dX0_joinBehind_47 rfl rfl ?_
      refine kg_0 (v := .ref (xad X (o + 1))) hL.1 inX0_joinBehind_0 0 (by decide) (List.mem_of_getElem? (i := 1) rfl) rfl dX0_joinBehind_48 ?_
      refine k_iload_n (q := 1) dX0_joinBehind_51 rfl rfl ?_
      refine k_iconst (v := (nI 1)) dX0_joinBehind_52 (by decide) ?_
      refine k_iadd dX0_joinBehind_53 ?_
      obtain ⟨σ7, hc6, h⟩ := bnd_e h
      refine k_cvv (q := (RX4, TX4, 5)) (As := [.int (p1 + (nI 1))]) 1 (cm_X4_drop l hX g σ5 (o + 1) hL.2.1 (p1 + (nI 1)) hc6) gX0_joinBehind_X4_drop rfl ⟨rfl, rfl⟩ hd_X4_drop ⟨Nat.le_of_ble_eq_true rfl, Nat.le_of_ble_eq_true rfl⟩ ⟨Nat.le_refl _, Nat.le_refl _⟩ (lay_lt hL.2.1.1 (by decide)) (ce_of hL.2.1.1) rfl rfl (Nat.le_of_ble_eq_true rfl) rfl dX0_joinBehind_54 ?_
      refine k_aload_n (q := 0) dX0_joinBehind_57 rfl rfl ?_
      refine kg_0 (v := .ref (xad X (o + 1))) hL.1 inX0_joinBehind_0 0 (by decide) (List.mem_of_getElem? (i := 1) rfl) rfl dX0_joinBehind_58 ?_
      refine k_iload_n (q := 1) dX0_joinBehind_61 rfl rfl ?_
      obtain ⟨r9, hc8, h⟩ := bnd_e h
      refine k_cv (q := (RX4, TX4, 5)) (As := [.int p1]) 1 (cm_X4_lengthOf l hX g σ7 (o + 1) hL.2.1 p1 hc8) gX0_joinBehind_X4_lengthOf rfl ⟨rfl, rfl⟩ hd_X4_lengthOf ⟨Nat.le_of_ble_eq_true rfl, Nat.le_of_ble_eq_true rfl⟩ ⟨Nat.le_refl _, Nat.le_refl _⟩ (lay_lt hL.2.1.1 (by decide)) (ce_of hL.2.1.1) rfl rfl (Nat.le_of_ble_eq_true rfl) rfl dX0_joinBehind_62 ?_
      exact k_iret rfl dX0_joinBehind_65 h
    · refine k_bipush (v := (nN 4)) dX0_joinBehind_24 (by decide) ?_
      exact k_iret rfl dX0_joinBehind_26 h
  · refine k_iconst (v := (nN 1)) dX0_joinBehind_11 (by decide) ?_
    exact k_iret rfl dX0_joinBehind_12 h
abbrev rmX0_toCan : Room := { frames := 3, cells := 0, slots := 0, locals := 65 }
abbrev mX0_toCan : MT := (rmX0_toCan, wsX0_toCan, cX0_toCan, 2, RX0, some .int)
theorem hd_X0_toCan : yX0_toCan.cls = RX0 ∧ yX0_toCan.cls ≠ "java/lang/invoke/MethodHandle" ∧ yX0_toCan.cls ≠ "java/lang/invoke/VarHandle" ∧ (parseMethodDescriptor yX0_toCan.desc).map (fun d => d.parameters.length) = some 1 := by decide +kernel
theorem inX0_toCan_0 : ∀ w ∈ wsX00, w ∈ wsX0_toCan := fun w h => List.mem_cons_of_mem _ (List.mem_append_left _ (List.mem_append_right _ h))
theorem inX0_toCan_4 : ∀ w ∈ wsX40, w ∈ wsX0_toCan := fun w h => List.mem_cons_of_mem _ (List.mem_append_right _ h)
set_option maxHeartbeats 4000000 in
set_option maxRecDepth 100000 in
theorem cm_X0_toCan (l : Launch) {X : XT} (hX : XD X) (g : Nat) (σ : Mem) (o : Nat) (hL : L0 o) (p1 : Int32) {r : Int32} {σ' : Mem} (h : fX0_toCan g σ o p1 = some (r, σ')) : Met l yX0_toCan wsX0_toCan rmX0_toCan (va_Pc [.ref (xad X o), .int p1] (WW X σ)) (QI X r σ') 0 0 (XA X) := by
  refine met_x (M := mX0_toCan) (lv := [(0, .ref (xad X o)), (1, .int p1)]) hX (by decide) rfl rfl (Nat.le_of_ble_eq_true rfl) rfl ?_
  unfold fX0_toCan at h
  refine k_aload_n (q := 0) dX0_toCan_0 rfl rfl ?_
  refine kg_0 (v := .ref (xad X (o + 1))) hL.1 inX0_toCan_0 0 (by decide) (List.mem_of_getElem? (i := 1) rfl) rfl dX0_toCan_1 ?_
  refine k_iload_n (q := 1) dX0_toCan_4 rfl rfl ?_
  obtain ⟨r2, hc1, h⟩ := bnd_e h
  refine k_cv (q := (RX4, TX4, 5)) (As := [.int p1]) 1 (cm_X4_has l hX g σ (o + 1) hL.2.1 p1 hc1) gX0_toCan_X4_has rfl ⟨rfl, rfl⟩ hd_X4_has ⟨Nat.le_of_ble_eq_true rfl, Nat.le_of_ble_eq_true rfl⟩ ⟨Nat.le_refl _, Nat.le_refl _⟩ (lay_lt hL.2.1.1 (by decide)) (ce_of hL.2.1.1) rfl rfl (Nat.le_of_ble_eq_true rfl) rfl dX0_toCan_5 ?_
  refine k_if_ne (tgt := 13) dX0_toCan_8 (by decide) h (fun h => ?_) (fun h => ?_)
  · refine k_aload_n (q := 0) dX0_toCan_13 rfl rfl ?_
    refine kg_0 (v := .ref (xad X (o + 6))) hL.1 inX0_toCan_0 1 (by decide) (List.mem_of_getElem? (i := 2) rfl) rfl dX0_toCan_14 ?_
    obtain ⟨r4, hc3, h⟩ := bnd_e h
    refine k_cv (q := (RX4, TX4, 5)) (As := []) 0 (cm_X4_isFull l hX g σ (o + 6) hL.2.2 hc3) gX0_toCan_X4_isFull rfl ⟨rfl, rfl⟩ hd_X4_isFull ⟨Nat.le_of_ble_eq_true rfl, Nat.le_of_ble_eq_true rfl⟩ ⟨Nat.le_refl _, Nat.le_refl _⟩ (lay_lt hL.2.2.1 (by decide)) (ce_of hL.2.2.1) rfl rfl (Nat.le_of_ble_eq_true rfl) rfl dX0_toCan_17 ?_
    refine k_if_eq (tgt := 26) dX0_toCan_20 (by decide) h (fun h => ?_) (fun h => ?_)
    · refine k_aload_n (q := 0) dX0_toCan_26 rfl rfl ?_
      refine kg_0 (v := .ref (xad X (o + 6))) hL.1 inX0_toCan_0 1 (by decide) (List.mem_of_getElem? (i := 2) rfl) rfl dX0_toCan_27 ?_
      refine k_aload_n (q := 0) dX0_toCan_30 rfl rfl ?_
      refine kg_0 (v := .ref (xad X (o + 6))) hL.1 inX0_toCan_0 1 (by decide) (List.mem_of_getElem? (i := 2) rfl) rfl dX0_toCan_31 ?_
      refine kg_4 (v := .int (σ (o + 6) 0)) hL.2.2.1 inX0_toCan_4 0 (by decide) (List.mem_of_getElem? (i := 3) rfl) rfl dX0_toCan_34 ?_
      refine k_aload_n (q := 0) dX0_toCan_37 rfl rfl ?_
      refine kg_0 (v := .ref (xad X (o + 1))) hL.1 inX0_toCan_0 0 (by decide) (List.mem_of_getElem? (i := 1) rfl) rfl dX0_toCan_38 ?_
      refine kg_4 (v := .ref (xad X (o + 2))) hL.2.1.1 inX0_toCan_4 1 (by decide) (List.mem_of_getElem? (i := 4) rfl) rfl dX0_toCan_41 ?_
      refine k_iload_n (q := 1) dX0_toCan_44 rfl rfl ?_
      refine k_iald (n := 20) hL.2.1.2.1 dX0_toCan_45 h (fun h => ?_)
      refine k_aload_n (q := 0) dX0_toCan_46 rfl rfl ?_
      refine kg_0 (v := .ref (xad X (o + 1))) hL.1 inX0_toCan_0 0 (by decide) (List.mem_of_getElem? (i := 1) rfl) rfl dX0_toCan_47 ?_
      refine kg_4 (v := .ref (xad X (o + 3))) hL.2.1.1 inX0_toCan_4 2 (by decide) (List.mem_of_getElem? (i := 5) rfl) rfl dX0_toCan_50 ?_
      refine k_iload_n (q := 1) dX0_toCan_53 rfl rfl ?_
      refine k_iald (n := 20) hL.2.1.2.2.1 dX0_toCan_54 h (fun h => ?_)
      refine k_aload_n (q := 0) dX0_toCan_55 rfl rfl ?_
      refine kg_0 (v := .ref (xad X (o + 1))) hL.1 inX0_toCan_0 0 (by decide) (List.mem_of_getElem? (i := 1) rfl) rfl dX0_toCan_56 ?_
      refine kg_4 (v := .ref (xad X (o + 4))) hL.2.1.1 inX0_toCan_4 3 (by decide) (List.mem_of_getElem? (i := 6) rfl) rfl dX0_toCan_59 ?_
      refine k_iload_n (q := 1) dX0_toCan_62 rfl rfl ?_
      refine k_iald (n := 20) hL.2.1.2.2.2.1 dX0_toCan_63 h (fun h => ?_)
      obtain ⟨σ6, hc5, h⟩ := bnd_e h
      refine k_cvv (q := (RX4, TX4, 5)) (As := [.int (σ (o + 6) 0), .int (σ (o + 2) p1.toNatClampNeg), .int (σ (o + 3) p1.toNatClampNeg), .int (σ (o + 4) p1.toNatClampNeg)]) 4 (cm_X4_insert l hX g σ (o + 6) hL.2.2 (σ (o + 6) 0) (σ (o + 2) p1.toNatClampNeg) (σ (o + 3) p1.toNatClampNeg) (σ (o + 4) p1.toNatClampNeg) hc5) gX0_toCan_X4_insert rfl ⟨rfl, rfl⟩ hd_X4_insert ⟨Nat.le_of_ble_eq_true rfl, Nat.le_of_ble_eq_true rfl⟩ ⟨Nat.le_refl _, Nat.le_refl _⟩ (lay_lt hL.2.2.1 (by decide)) (ce_of hL.2.2.1) rfl rfl (Nat.le_of_ble_eq_true rfl) rfl dX0_toCan_64 ?_
      refine k_aload_n (q := 0) dX0_toCan_67 rfl rfl ?_
      refine kg_0 (v := .ref (xad X (o + 1))) hL.1 inX0_toCan_0 0 (by decide) (List.mem_of_getElem? (i := 1) rfl) rfl dX0_toCan_68 ?_
      refine k_iload_n (q := 1) dX0_toCan_71 rfl rfl ?_
      obtain ⟨σ8, hc7, h⟩ := bnd_e h
      refine k_cvv (q := (RX4, TX4, 5)) (As := [.int p1]) 1 (cm_X4_pullFrom l hX g σ6 (o + 1) hL.2.1 p1 hc7) gX0_toCan_X4_pullFrom rfl ⟨rfl, rfl⟩ hd_X4_pullFrom ⟨Nat.le_of_ble_eq_true rfl, Nat.le_of_ble_eq_true rfl⟩ ⟨Nat.le_refl _, Nat.le_refl _⟩ (lay_lt hL.2.1.1 (by decide)) (ce_of hL.2.1.1) rfl rfl (Nat.le_of_ble_eq_true rfl) rfl dX0_toCan_72 ?_
      refine k_aload_n (q := 0) dX0_toCan_75 rfl rfl ?_
      refine kg_0 (v := .ref (xad X (o + 1))) hL.1 inX0_toCan_0 0 (by decide) (List.mem_of_getElem? (i := 1) rfl) rfl dX0_toCan_76 ?_
      refine kg_4 (v := .int (σ8 (o + 1) 0)) hL.2.1.1 inX0_toCan_4 0 (by decide) (List.mem_of_getElem? (i := 3) rfl) rfl dX0_toCan_79 ?_
      exact k_iret rfl dX0_toCan_82 h
    · refine k_bipush (v := (nN 3)) dX0_toCan_23 (by decide) ?_
      exact k_iret rfl dX0_toCan_25 h
  · refine k_iconst (v := (nN 1)) dX0_toCan_11 (by decide) ?_
    exact k_iret rfl dX0_toCan_12 h
abbrev rmX0_fromCan : Room := { frames := 3, cells := 0, slots := 0, locals := 71 }
abbrev mX0_fromCan : MT := (rmX0_fromCan, wsX0_fromCan, cX0_fromCan, 3, RX0, some .int)
theorem hd_X0_fromCan : yX0_fromCan.cls = RX0 ∧ yX0_fromCan.cls ≠ "java/lang/invoke/MethodHandle" ∧ yX0_fromCan.cls ≠ "java/lang/invoke/VarHandle" ∧ (parseMethodDescriptor yX0_fromCan.desc).map (fun d => d.parameters.length) = some 2 := by decide +kernel
theorem inX0_fromCan_0 : ∀ w ∈ wsX00, w ∈ wsX0_fromCan := fun w h => List.mem_cons_of_mem _ (List.mem_append_left _ (List.mem_append_right _ h))
theorem inX0_fromCan_4 : ∀ w ∈ wsX40, w ∈ wsX0_fromCan := fun w h => List.mem_cons_of_mem _ (List.mem_append_right _ h)
set_option maxHeartbeats 4000000 in
set_option maxRecDepth 100000 in
theorem cm_X0_fromCan (l : Launch) {X : XT} (hX : XD X) (g : Nat) (σ : Mem) (o : Nat) (hL : L0 o) (p1 : Int32) (p2 : Int32) {r : Int32} {σ' : Mem} (h : fX0_fromCan g σ o p1 p2 = some (r, σ')) : Met l yX0_fromCan wsX0_fromCan rmX0_fromCan (va_Pc [.ref (xad X o), .int p1, .int p2] (WW X σ)) (QI X r σ') 0 0 (XA X) := by
  refine met_x (M := mX0_fromCan) (lv := [(0, .ref (xad X o)), (1, .int p1), (2, .int p2)]) hX (by decide) rfl rfl (Nat.le_of_ble_eq_true rfl) rfl ?_
  unfold fX0_fromCan at h
  refine k_aload_n (q := 0) dX0_fromCan_0 rfl rfl ?_
  refine kg_0 (v := .ref (xad X (o + 6))) hL.1 inX0_fromCan_0 1 (by decide) (List.mem_of_getElem? (i := 1) rfl) rfl dX0_fromCan_1 ?_
  refine k_iload_n (q := 1) dX0_fromCan_4 rfl rfl ?_
  obtain ⟨r2, hc1, h⟩ := bnd_e h
  refine k_cv (q := (RX4, TX4, 5)) (As := [.int p1]) 1 (cm_X4_has l hX g σ (o + 6) hL.2.2 p1 hc1) gX0_fromCan_X4_has rfl ⟨rfl, rfl⟩ hd_X4_has ⟨Nat.le_of_ble_eq_true rfl, Nat.le_of_ble_eq_true rfl⟩ ⟨Nat.le_refl _, Nat.le_refl _⟩ (lay_lt hL.2.2.1 (by decide)) (ce_of hL.2.2.1) rfl rfl (Nat.le_of_ble_eq_true rfl) rfl dX0_fromCan_5 ?_
  refine k_if_ne (tgt := 13) dX0_fromCan_8 (by decide) h (fun h => ?_) (fun h => ?_)
  · refine k_iload_n (q := 2) dX0_fromCan_13 rfl rfl ?_
    refine k_iconst (v := (nI 0)) dX0_fromCan_14 (by decide) ?_
    refine k_aload_n (q := 0) dX0_fromCan_15 rfl rfl ?_
    refine kg_0 (v := .ref (xad X (o + 1))) hL.1 inX0_fromCan_0 0 (by decide) (List.mem_of_getElem? (i := 2) rfl) rfl dX0_fromCan_16 ?_
    refine kg_4 (v := .int (σ (o + 1) 0)) hL.2.1.1 inX0_fromCan_4 0 (by decide) (List.mem_of_getElem? (i := 3) rfl) rfl dX0_fromCan_19 ?_
    obtain ⟨r4, hc3, h⟩ := bnd_e h
    refine k_csN (host := "HoleReel") (As := [.int p2, .int (nI 0), .int (σ (o + 1) 0)]) 3 (cm_X8_isWithin l hX g σ p2 (nI 0) (σ (o + 1) 0) hc3) gX0_fromCan_X8_isWithin_n87 rfl ⟨rfl, rfl⟩ (fun _ hN => hN.1) (List.mem_of_getElem? (i := 14) rfl) (List.mem_of_getElem? (i := 13) rfl) hd_X8_isWithin ⟨Nat.le_of_ble_eq_true rfl, Nat.le_of_ble_eq_true rfl⟩ ⟨Nat.le_refl _, Nat.le_refl _⟩ rfl (Nat.le_of_ble_eq_true rfl) rfl dX0_fromCan_22 ?_
    refine k_if_ne (tgt := 31) dX0_fromCan_25 (by decide) h (fun h => ?_) (fun h => ?_)
    · refine k_aload_n (q := 0) dX0_fromCan_31 rfl rfl ?_
      refine kg_0 (v := .ref (xad X (o + 1))) hL.1 inX0_fromCan_0 0 (by decide) (List.mem_of_getElem? (i := 2) rfl) rfl dX0_fromCan_32 ?_
      obtain ⟨r6, hc5, h⟩ := bnd_e h
      refine k_cv (q := (RX4, TX4, 5)) (As := []) 0 (cm_X4_isFull l hX g σ (o + 1) hL.2.1 hc5) gX0_fromCan_X4_isFull rfl ⟨rfl, rfl⟩ hd_X4_isFull ⟨Nat.le_of_ble_eq_true rfl, Nat.le_of_ble_eq_true rfl⟩ ⟨Nat.le_refl _, Nat.le_refl _⟩ (lay_lt hL.2.1.1 (by decide)) (ce_of hL.2.1.1) rfl rfl (Nat.le_of_ble_eq_true rfl) rfl dX0_fromCan_35 ?_
      refine k_if_eq (tgt := 44) dX0_fromCan_38 (by decide) h (fun h => ?_) (fun h => ?_)
      · refine k_aload_n (q := 0) dX0_fromCan_44 rfl rfl ?_
        refine kg_0 (v := .ref (xad X (o + 1))) hL.1 inX0_fromCan_0 0 (by decide) (List.mem_of_getElem? (i := 2) rfl) rfl dX0_fromCan_45 ?_
        refine k_iload_n (q := 2) dX0_fromCan_48 rfl rfl ?_
        refine k_aload_n (q := 0) dX0_fromCan_49 rfl rfl ?_
        refine kg_0 (v := .ref (xad X (o + 6))) hL.1 inX0_fromCan_0 1 (by decide) (List.mem_of_getElem? (i := 1) rfl) rfl dX0_fromCan_50 ?_
        refine kg_4 (v := .ref (xad X (o + 7))) hL.2.2.1 inX0_fromCan_4 1 (by decide) (List.mem_of_getElem? (i := 4) rfl) rfl dX0_fromCan_53 ?_
        refine k_iload_n (q := 1) dX0_fromCan_56 rfl rfl ?_
        refine k_iald (n := 20) hL.2.2.2.1 dX0_fromCan_57 h (fun h => ?_)
        refine k_aload_n (q := 0) dX0_fromCan_58 rfl rfl ?_
        refine kg_0 (v := .ref (xad X (o + 6))) hL.1 inX0_fromCan_0 1 (by decide) (List.mem_of_getElem? (i := 1) rfl) rfl dX0_fromCan_59 ?_
        refine kg_4 (v := .ref (xad X (o + 8))) hL.2.2.1 inX0_fromCan_4 2 (by decide) (List.mem_of_getElem? (i := 5) rfl) rfl dX0_fromCan_62 ?_
        refine k_iload_n (q := 1) dX0_fromCan_65 rfl rfl ?_
        refine k_iald (n := 20) hL.2.2.2.2.1 dX0_fromCan_66 h (fun h => ?_)
        refine k_aload_n (q := 0) dX0_fromCan_67 rfl rfl ?_
        refine kg_0 (v := .ref (xad X (o + 6))) hL.1 inX0_fromCan_0 1 (by decide) (List.mem_of_getElem? (i := 1) rfl) rfl dX0_fromCan_68 ?_
        refine kg_4 (v := .ref (xad X (o + 9))) hL.2.2.1 inX0_fromCan_4 3 (by decide) (List.mem_of_getElem? (i := 6) rfl) rfl dX0_fromCan_71 ?_
        refine k_iload_n (q := 1) dX0_fromCan_74 rfl rfl ?_
        refine k_iald (n := 20) hL.2.2.2.2.2.1 dX0_fromCan_75 h (fun h => ?_)
        obtain ⟨σ8, hc7, h⟩ := bnd_e h
        refine k_cvv (q := (RX4, TX4, 5)) (As := [.int p2, .int (σ (o + 7) p1.toNatClampNeg), .int (σ (o + 8) p1.toNatClampNeg), .int (σ (o + 9) p1.toNatClampNeg)]) 4 (cm_X4_putAt l hX g σ (o + 1) hL.2.1 p2 (σ (o + 7) p1.toNatClampNeg) (σ (o + 8) p1.toNatClampNeg) (σ (o + 9) p1.toNatClampNeg) hc7) gX0_fromCan_X4_putAt rfl ⟨rfl, rfl⟩ hd_X4_putAt ⟨Nat.le_of_ble_eq_true rfl, Nat.le_of_ble_eq_true rfl⟩ ⟨Nat.le_refl _, Nat.le_refl _⟩ (lay_lt hL.2.1.1 (by decide)) (ce_of hL.2.1.1) rfl rfl (Nat.le_of_ble_eq_true rfl) rfl dX0_fromCan_76 ?_
        refine k_aload_n (q := 0) dX0_fromCan_79 rfl rfl ?_
        refine kg_0 (v := .ref (xad X (o + 6))) hL.1 inX0_fromCan_0 1 (by decide) (List.mem_of_getElem? (i := 1) rfl) rfl dX0_fromCan_80 ?_
        refine k_iload_n (q := 1) dX0_fromCan_83 rfl rfl ?_
        obtain ⟨σ10, hc9, h⟩ := bnd_e h
        refine k_cvv (q := (RX4, TX4, 5)) (As := [.int p1]) 1 (cm_X4_drop l hX g σ8 (o + 6) hL.2.2 p1 hc9) gX0_fromCan_X4_drop rfl ⟨rfl, rfl⟩ hd_X4_drop ⟨Nat.le_of_ble_eq_true rfl, Nat.le_of_ble_eq_true rfl⟩ ⟨Nat.le_refl _, Nat.le_refl _⟩ (lay_lt hL.2.2.1 (by decide)) (ce_of hL.2.2.1) rfl rfl (Nat.le_of_ble_eq_true rfl) rfl dX0_fromCan_84 ?_
        refine k_aload_n (q := 0) dX0_fromCan_87 rfl rfl ?_
        refine kg_0 (v := .ref (xad X (o + 6))) hL.1 inX0_fromCan_0 1 (by decide) (List.mem_of_getElem? (i := 1) rfl) rfl dX0_fromCan_88 ?_
        refine kg_4 (v := .int (σ10 (o + 6) 0)) hL.2.2.1 inX0_fromCan_4 0 (by decide) (List.mem_of_getElem? (i := 3) rfl) rfl dX0_fromCan_91 ?_
        exact k_iret rfl dX0_fromCan_94 h
      · refine k_bipush (v := (nN 3)) dX0_fromCan_41 (by decide) ?_
        exact k_iret rfl dX0_fromCan_43 h
    · refine k_bipush (v := (nN 2)) dX0_fromCan_28 (by decide) ?_
      exact k_iret rfl dX0_fromCan_30 h
  · refine k_iconst (v := (nN 1)) dX0_fromCan_11 (by decide) ?_
    exact k_iret rfl dX0_fromCan_12 h
abbrev rmX0_renumber : Room := { frames := 3, cells := 0, slots := 0, locals := 71 }
abbrev mX0_renumber : MT := (rmX0_renumber, wsX0_renumber, cX0_renumber, 6, RX0, some .int)
theorem hd_X0_renumber : yX0_renumber.cls = RX0 ∧ yX0_renumber.cls ≠ "java/lang/invoke/MethodHandle" ∧ yX0_renumber.cls ≠ "java/lang/invoke/VarHandle" ∧ (parseMethodDescriptor yX0_renumber.desc).map (fun d => d.parameters.length) = some 2 := by decide +kernel
theorem inX0_renumber_0 : ∀ w ∈ wsX00, w ∈ wsX0_renumber := fun w h => List.mem_cons_of_mem _ (List.mem_append_left _ (List.mem_append_right _ h))
theorem inX0_renumber_4 : ∀ w ∈ wsX40, w ∈ wsX0_renumber := fun w h => List.mem_cons_of_mem _ (List.mem_append_right _ h)
set_option maxHeartbeats 4000000 in
set_option maxRecDepth 100000 in
theorem cm_X0_renumber (l : Launch) {X : XT} (hX : XD X) (g : Nat) (σ : Mem) (o : Nat) (hL : L0 o) (p1 : Int32) (p2 : Int32) {r : Int32} {σ' : Mem} (h : fX0_renumber g σ o p1 p2 = some (r, σ')) : Met l yX0_renumber wsX0_renumber rmX0_renumber (va_Pc [.ref (xad X o), .int p1, .int p2] (WW X σ)) (QI X r σ') 0 0 (XA X) := by
  refine met_x (M := mX0_renumber) (lv := [(0, .ref (xad X o)), (1, .int p1), (2, .int p2)]) hX (by decide) rfl rfl (Nat.le_of_ble_eq_true rfl) rfl ?_
  unfold fX0_renumber at h
  refine k_aload_n (q := 0) dX0_renumber_0 rfl rfl ?_
  refine kg_0 (v := .ref (xad X (o + 1))) hL.1 inX0_renumber_0 0 (by decide) (List.mem_of_getElem? (i := 1) rfl) rfl dX0_renumber_1 ?_
  refine k_iload_n (q := 1) dX0_renumber_4 rfl rfl ?_
  obtain ⟨r2, hc1, h⟩ := bnd_e h
  refine k_cv (q := (RX4, TX4, 5)) (As := [.int p1]) 1 (cm_X4_has l hX g σ (o + 1) hL.2.1 p1 hc1) gX0_renumber_X4_has rfl ⟨rfl, rfl⟩ hd_X4_has ⟨Nat.le_of_ble_eq_true rfl, Nat.le_of_ble_eq_true rfl⟩ ⟨Nat.le_refl _, Nat.le_refl _⟩ (lay_lt hL.2.1.1 (by decide)) (ce_of hL.2.1.1) rfl rfl (Nat.le_of_ble_eq_true rfl) rfl dX0_renumber_5 ?_
  refine k_if_eq (tgt := 22) dX0_renumber_8 (by decide) h (fun h => ?_) (fun h => ?_)
  · refine k_iconst (v := (nN 1)) dX0_renumber_22 (by decide) ?_
    exact k_iret rfl dX0_renumber_23 h
  · refine k_aload_n (q := 0) dX0_renumber_11 rfl rfl ?_
    refine kg_0 (v := .ref (xad X (o + 1))) hL.1 inX0_renumber_0 0 (by decide) (List.mem_of_getElem? (i := 1) rfl) rfl dX0_renumber_12 ?_
    refine k_iload_n (q := 2) dX0_renumber_15 rfl rfl ?_
    obtain ⟨r4, hc3, h⟩ := bnd_e h
    refine k_cv (q := (RX4, TX4, 5)) (As := [.int p2]) 1 (cm_X4_has l hX g σ (o + 1) hL.2.1 p2 hc3) gX0_renumber_X4_has rfl ⟨rfl, rfl⟩ hd_X4_has ⟨Nat.le_of_ble_eq_true rfl, Nat.le_of_ble_eq_true rfl⟩ ⟨Nat.le_refl _, Nat.le_refl _⟩ (lay_lt hL.2.1.1 (by decide)) (ce_of hL.2.1.1) rfl rfl (Nat.le_of_ble_eq_true rfl) rfl dX0_renumber_16 ?_
    refine k_if_ne (tgt := 24) dX0_renumber_19 (by decide) h (fun h => ?_) (fun h => ?_)
    · refine k_iload_n (q := 1) dX0_renumber_24 rfl rfl ?_
      refine k_iload_n (q := 2) dX0_renumber_25 rfl rfl ?_
      refine k_icmp_ne (tgt := 32) dX0_renumber_26 (by decide) h (fun h => ?_) (fun h => ?_)
      · refine k_aload_n (q := 0) dX0_renumber_32 rfl rfl ?_
        refine kg_0 (v := .ref (xad X (o + 1))) hL.1 inX0_renumber_0 0 (by decide) (List.mem_of_getElem? (i := 1) rfl) rfl dX0_renumber_33 ?_
        refine kg_4 (v := .ref (xad X (o + 2))) hL.2.1.1 inX0_renumber_4 1 (by decide) (List.mem_of_getElem? (i := 2) rfl) rfl dX0_renumber_36 ?_
        refine k_iload_n (q := 1) dX0_renumber_39 rfl rfl ?_
        refine k_iald (n := 20) hL.2.1.2.1 dX0_renumber_40 h (fun h => ?_)
        refine k_istore_n (lv' := [(3, .int (σ (o + 2) p1.toNatClampNeg)), (0, .ref (xad X o)), (1, .int p1), (2, .int p2)]) dX0_renumber_41 rfl (Nat.le_of_ble_eq_true rfl) rfl ?_
        refine k_aload_n (q := 1) dX0_renumber_42 rfl rfl ?_
        refine kg_0 (v := .ref (xad X (o + 1))) hL.1 inX0_renumber_0 0 (by decide) (List.mem_of_getElem? (i := 1) rfl) rfl dX0_renumber_43 ?_
        refine kg_4 (v := .ref (xad X (o + 3))) hL.2.1.1 inX0_renumber_4 2 (by decide) (List.mem_of_getElem? (i := 3) rfl) rfl dX0_renumber_46 ?_
        refine k_iload_n (q := 2) dX0_renumber_49 rfl rfl ?_
        refine k_iald (n := 20) hL.2.1.2.2.1 dX0_renumber_50 h (fun h => ?_)
        refine k_istore (lv' := [(4, .int (σ (o + 3) p1.toNatClampNeg)), (3, .int (σ (o + 2) p1.toNatClampNeg)), (0, .ref (xad X o)), (1, .int p1), (2, .int p2)]) dX0_renumber_51 (Nat.le_of_ble_eq_true rfl) rfl ?_
        refine k_aload_n (q := 2) dX0_renumber_53 rfl rfl ?_
        refine kg_0 (v := .ref (xad X (o + 1))) hL.1 inX0_renumber_0 0 (by decide) (List.mem_of_getElem? (i := 1) rfl) rfl dX0_renumber_54 ?_
        refine kg_4 (v := .ref (xad X (o + 4))) hL.2.1.1 inX0_renumber_4 3 (by decide) (List.mem_of_getElem? (i := 4) rfl) rfl dX0_renumber_57 ?_
        refine k_iload_n (q := 3) dX0_renumber_60 rfl rfl ?_
        refine k_iald (n := 20) hL.2.1.2.2.2.1 dX0_renumber_61 h (fun h => ?_)
        refine k_istore (lv' := [(5, .int (σ (o + 4) p1.toNatClampNeg)), (4, .int (σ (o + 3) p1.toNatClampNeg)), (3, .int (σ (o + 2) p1.toNatClampNeg)), (0, .ref (xad X o)), (1, .int p1), (2, .int p2)]) dX0_renumber_62 (Nat.le_of_ble_eq_true rfl) rfl ?_
        refine k_aload_n (q := 3) dX0_renumber_64 rfl rfl ?_
        refine kg_0 (v := .ref (xad X (o + 1))) hL.1 inX0_renumber_0 0 (by decide) (List.mem_of_getElem? (i := 1) rfl) rfl dX0_renumber_65 ?_
        refine k_iload_n (q := 4) dX0_renumber_68 rfl rfl ?_
        obtain ⟨σ6, hc5, h⟩ := bnd_e h
        refine k_cvv (q := (RX4, TX4, 5)) (As := [.int p1]) 1 (cm_X4_pullFrom l hX g σ (o + 1) hL.2.1 p1 hc5) gX0_renumber_X4_pullFrom rfl ⟨rfl, rfl⟩ hd_X4_pullFrom ⟨Nat.le_of_ble_eq_true rfl, Nat.le_of_ble_eq_true rfl⟩ ⟨Nat.le_refl _, Nat.le_refl _⟩ (lay_lt hL.2.1.1 (by decide)) (ce_of hL.2.1.1) rfl rfl (Nat.le_of_ble_eq_true rfl) rfl dX0_renumber_69 ?_
        refine k_aload_n (q := 3) dX0_renumber_72 rfl rfl ?_
        refine kg_0 (v := .ref (xad X (o + 1))) hL.1 inX0_renumber_0 0 (by decide) (List.mem_of_getElem? (i := 1) rfl) rfl dX0_renumber_73 ?_
        refine k_iload_n (q := 5) dX0_renumber_76 rfl rfl ?_
        refine k_iload_n (q := 2) dX0_renumber_77 rfl rfl ?_
        refine k_iload (q := 1) dX0_renumber_78 rfl ?_
        refine k_iload (q := 0) dX0_renumber_80 rfl ?_
        obtain ⟨σ8, hc7, h⟩ := bnd_e h
        refine k_cvv (q := (RX4, TX4, 5)) (As := [.int p2, .int (σ (o + 2) p1.toNatClampNeg), .int (σ (o + 3) p1.toNatClampNeg), .int (σ (o + 4) p1.toNatClampNeg)]) 4 (cm_X4_putAt l hX g σ6 (o + 1) hL.2.1 p2 (σ (o + 2) p1.toNatClampNeg) (σ (o + 3) p1.toNatClampNeg) (σ (o + 4) p1.toNatClampNeg) hc7) gX0_renumber_X4_putAt rfl ⟨rfl, rfl⟩ hd_X4_putAt ⟨Nat.le_of_ble_eq_true rfl, Nat.le_of_ble_eq_true rfl⟩ ⟨Nat.le_refl _, Nat.le_refl _⟩ (lay_lt hL.2.1.1 (by decide)) (ce_of hL.2.1.1) rfl rfl (Nat.le_of_ble_eq_true rfl) rfl dX0_renumber_82 ?_
        refine k_aload_n (q := 3) dX0_renumber_85 rfl rfl ?_
        refine kg_0 (v := .ref (xad X (o + 1))) hL.1 inX0_renumber_0 0 (by decide) (List.mem_of_getElem? (i := 1) rfl) rfl dX0_renumber_86 ?_
        refine k_iload_n (q := 5) dX0_renumber_89 rfl rfl ?_
        obtain ⟨r10, hc9, h⟩ := bnd_e h
        refine k_cv (q := (RX4, TX4, 5)) (As := [.int p2]) 1 (cm_X4_startOf l hX g σ8 (o + 1) hL.2.1 p2 hc9) gX0_renumber_X4_startOf rfl ⟨rfl, rfl⟩ hd_X4_startOf ⟨Nat.le_of_ble_eq_true rfl, Nat.le_of_ble_eq_true rfl⟩ ⟨Nat.le_refl _, Nat.le_refl _⟩ (lay_lt hL.2.1.1 (by decide)) (ce_of hL.2.1.1) rfl rfl (Nat.le_of_ble_eq_true rfl) rfl dX0_renumber_90 ?_
        exact k_iret rfl dX0_renumber_93 h
      · refine k_bipush (v := (nN 5)) dX0_renumber_29 (by decide) ?_
        exact k_iret rfl dX0_renumber_31 h
    · refine k_iconst (v := (nN 1)) dX0_renumber_22 (by decide) ?_
      exact k_iret rfl dX0_renumber_23 h
abbrev rmX0_perform : Room := { frames := 4, cells := 0, slots := 0, locals := 96 }
abbrev mX0_perform : MT := (rmX0_perform, wsX0_perform, cX0_perform, 4, RX0, some .int)
theorem hd_X0_perform : yX0_perform.cls = RX0 ∧ yX0_perform.cls ≠ "java/lang/invoke/MethodHandle" ∧ yX0_perform.cls ≠ "java/lang/invoke/VarHandle" ∧ (parseMethodDescriptor yX0_perform.desc).map (fun d => d.parameters.length) = some 3 := by decide +kernel
theorem inX0_perform_0 : ∀ w ∈ wsX00, w ∈ wsX0_perform := fun w h => List.mem_cons_of_mem _ (List.mem_append_left _ (List.mem_append_right _ h))
theorem inX0_perform_4 : ∀ w ∈ wsX40, w ∈ wsX0_perform := fun w h => List.mem_cons_of_mem _ (List.mem_append_right _ h)
set_option maxHeartbeats 4000000 in
set_option maxRecDepth 100000 in
theorem cm_X0_perform (l : Launch) {X : XT} (hX : XD X) (g : Nat) (σ : Mem) (o : Nat) (hL : L0 o) (p1 : Int32) (p2 : Int32) (p3 : Int32) {r : Int32} {σ' : Mem} (h : fX0_perform g σ o p1 p2 p3 = some (r, σ')) : Met l yX0_perform wsX0_perform rmX0_perform (va_Pc [.ref (xad X o), .int p1, .int p2, .int p3] (WW X σ)) (QI X r σ') 0 0 (XA X) := by
  refine met_x (M := mX0_perform) (lv := [(0, .ref (xad X o)), (1, .int p1), (2, .int p2), (3, .int p3)]) hX (by decide) rfl rfl (Nat.le_of_ble_eq_true rfl) rfl ?_
  unfold fX0_perform at h
  refine k_iload_n (q := 1) dX0_perform_0 rfl rfl ?_
  refine k_if h (fun c0 h => ?_) (fun c0 h => ?_)
  · refine k_look (off := 43) (tgt := 44) dX0_perform_1 (by decide) (by rw [c0]; rfl) (by decide) ?_
    refine k_aload_n (q := 0) dX0_perform_44 rfl rfl ?_
    refine k_iload_n (q := 2) dX0_perform_45 rfl rfl ?_
    obtain ⟨r2, σ3, hc1, h⟩ := bnd2_e h
    refine k_cv (q := (RX0, TX0, 2)) (As := [.int p2]) 1 (cm_X0_cutAhead l hX g σ o hL p2 hc1) gX0_perform_X0_cutAhead rfl ⟨rfl, rfl⟩ hd_X0_cutAhead ⟨Nat.le_of_ble_eq_true rfl, Nat.le_of_ble_eq_true rfl⟩ ⟨Nat.le_refl _, Nat.le_refl _⟩ (lay_lt hL.1 (by decide)) (ce_of hL.1) rfl rfl (Nat.le_of_ble_eq_true rfl) rfl dX0_perform_46 ?_
    exact k_iret rfl dX0_perform_49 h
  · refine k_if h (fun c1 h => ?_) (fun c1 h => ?_)
    · refine k_look (off := 61) (tgt := 62) dX0_perform_1 (by decide) (by rw [c1]; rfl) (by decide) ?_
      refine k_aload_n (q := 0) dX0_perform_62 rfl rfl ?_
      refine k_iload_n (q := 2) dX0_perform_63 rfl rfl ?_
      refine k_iload_n (q := 3) dX0_perform_64 rfl rfl ?_
      obtain ⟨r5, σ6, hc4, h⟩ := bnd2_e h
      refine k_cv (q := (RX0, TX0, 2)) (As := [.int p2, .int p3]) 2 (cm_X0_fromCan l hX g σ o hL p2 p3 hc4) gX0_perform_X0_fromCan rfl ⟨rfl, rfl⟩ hd_X0_fromCan ⟨Nat.le_of_ble_eq_true rfl, Nat.le_of_ble_eq_true rfl⟩ ⟨Nat.le_refl _, Nat.le_refl _⟩ (lay_lt hL.1 (by decide)) (ce_of hL.1) rfl rfl (Nat.le_of_ble_eq_true rfl) rfl dX0_perform_65 ?_
      exact k_iret rfl dX0_perform_68 h
    · refine k_if h (fun c2 h => ?_) (fun c2 h => ?_)
      · refine k_look (off := 49) (tgt := 50) dX0_perform_1 (by decide) (by rw [c2]; rfl) (by decide) ?_
        refine k_aload_n (q := 0) dX0_perform_50 rfl rfl ?_
        refine k_iload_n (q := 2) dX0_perform_51 rfl rfl ?_
        obtain ⟨r8, σ9, hc7, h⟩ := bnd2_e h
        refine k_cv (q := (RX0, TX0, 2)) (As := [.int p2]) 1 (cm_X0_joinBehind l hX g σ o hL p2 hc7) gX0_perform_X0_joinBehind rfl ⟨rfl, rfl⟩ hd_X0_joinBehind ⟨Nat.le_of_ble_eq_true rfl, Nat.le_of_ble_eq_true rfl⟩ ⟨Nat.le_refl _, Nat.le_refl _⟩ (lay_lt hL.1 (by decide)) (ce_of hL.1) rfl rfl (Nat.le_of_ble_eq_true rfl) rfl dX0_perform_52 ?_
        exact k_iret rfl dX0_perform_55 h
      · refine k_if h (fun c3 h => ?_) (fun c3 h => ?_)
        · refine k_look (off := 55) (tgt := 56) dX0_perform_1 (by decide) (by rw [c3]; rfl) (by decide) ?_
          refine k_aload_n (q := 0) dX0_perform_56 rfl rfl ?_
          refine k_iload_n (q := 2) dX0_perform_57 rfl rfl ?_
          obtain ⟨r11, σ12, hc10, h⟩ := bnd2_e h
          refine k_cv (q := (RX0, TX0, 2)) (As := [.int p2]) 1 (cm_X0_toCan l hX g σ o hL p2 hc10) gX0_perform_X0_toCan rfl ⟨rfl, rfl⟩ hd_X0_toCan ⟨Nat.le_of_ble_eq_true rfl, Nat.le_of_ble_eq_true rfl⟩ ⟨Nat.le_refl _, Nat.le_refl _⟩ (lay_lt hL.1 (by decide)) (ce_of hL.1) rfl rfl (Nat.le_of_ble_eq_true rfl) rfl dX0_perform_58 ?_
          exact k_iret rfl dX0_perform_61 h
        · refine k_look (off := 68) (tgt := 69) dX0_perform_1 (by decide) ((lv_osw c0 (show Int32.toInt (nI 99) = 99 from rfl)).trans ((lv_osw c1 (show Int32.toInt (nI 105) = 105 from rfl)).trans ((lv_osw c2 (show Int32.toInt (nI 106) = 106 from rfl)).trans ((lv_osw c3 (show Int32.toInt (nI 111) = 111 from rfl)).trans (rfl))))) (by decide) ?_
          refine k_aload_n (q := 0) dX0_perform_69 rfl rfl ?_
          refine k_iload_n (q := 2) dX0_perform_70 rfl rfl ?_
          refine k_iload_n (q := 3) dX0_perform_71 rfl rfl ?_
          obtain ⟨r14, σ15, hc13, h⟩ := bnd2_e h
          refine k_cv (q := (RX0, TX0, 2)) (As := [.int p2, .int p3]) 2 (cm_X0_renumber l hX g σ o hL p2 p3 hc13) gX0_perform_X0_renumber rfl ⟨rfl, rfl⟩ hd_X0_renumber ⟨Nat.le_of_ble_eq_true rfl, Nat.le_of_ble_eq_true rfl⟩ ⟨Nat.le_refl _, Nat.le_refl _⟩ (lay_lt hL.1 (by decide)) (ce_of hL.1) rfl rfl (Nat.le_of_ble_eq_true rfl) rfl dX0_perform_72 ?_
          exact k_iret rfl dX0_perform_75 h
abbrev rmX1_append : Room := { frames := 0, cells := 0, slots := 0, locals := 0 }
abbrev mX1_append : MT := (rmX1_append, wsX1_append, cX1_append, 2, RX1, none)
theorem hd_X1_append : yX1_append.cls = RX1 ∧ yX1_append.cls ≠ "java/lang/invoke/MethodHandle" ∧ yX1_append.cls ≠ "java/lang/invoke/VarHandle" ∧ (parseMethodDescriptor yX1_append.desc).map (fun d => d.parameters.length) = some 1 := by decide +kernel
theorem inX1_append_1 : ∀ w ∈ wsX10, w ∈ wsX1_append := fun w h => List.mem_cons_of_mem _ (List.mem_append_right _ h)
set_option maxHeartbeats 4000000 in
set_option maxRecDepth 100000 in
theorem cm_X1_append (l : Launch) {X : XT} (hX : XD X) (g : Nat) (σ : Mem) (o : Nat) (hL : L1 o) (p1 : Int32) {σ' : Mem} (h : fX1_append g σ o p1 = some σ') : Met l yX1_append wsX1_append rmX1_append (va_Pc [.ref (xad X o), .int p1] (WW X σ)) (QV X σ') 0 0 (XA X) := by
  refine met_x (M := mX1_append) (lv := [(0, .ref (xad X o)), (1, .int p1)]) hX (by decide) rfl rfl (Nat.le_of_ble_eq_true rfl) rfl ?_
  unfold fX1_append at h
  refine k_aload_n (q := 0) dX1_append_0 rfl rfl ?_
  refine kg_1 (v := .int (σ o 0)) hL.1 inX1_append_1 0 (by decide) (List.mem_of_getElem? (i := 1) rfl) rfl dX1_append_1 ?_
  refine k_bipush (v := (nI 60)) dX1_append_4 (by decide) ?_
  refine k_icmp_ge (tgt := 29) dX1_append_6 (by decide) h (fun h => ?_) (fun h => ?_)
  · exact k_vret rfl dX1_append_29 h
  · refine k_aload_n (q := 0) dX1_append_9 rfl rfl ?_
    refine kg_1 (v := .ref (xad X (o + 4))) hL.1 inX1_append_1 5 (by decide) (List.mem_of_getElem? (i := 2) rfl) rfl dX1_append_10 ?_
    refine k_aload_n (q := 0) dX1_append_13 rfl rfl ?_
    refine kg_1 (v := .int (σ o 0)) hL.1 inX1_append_1 0 (by decide) (List.mem_of_getElem? (i := 1) rfl) rfl dX1_append_14 ?_
    refine k_iload_n (q := 1) dX1_append_17 rfl rfl ?_
    refine k_cast (n := 60) hL.2.2.2.2 dX1_append_18 h (fun σ1 h => ?_)
    refine k_aload_n (q := 0) dX1_append_19 rfl rfl ?_
    refine k_dup dX1_append_20 rfl ?_
    refine kg_1 (v := .int (σ1 o 0)) hL.1 inX1_append_1 0 (by decide) (List.mem_of_getElem? (i := 1) rfl) rfl dX1_append_21 ?_
    refine k_iconst (v := (nI 1)) dX1_append_24 (by decide) ?_
    refine k_iadd dX1_append_25 ?_
    refine kp_1_0 hL.1 inX1_append_1 (List.mem_of_getElem? (i := 1) rfl) dX1_append_26 h (fun σ2 h => ?_)
    exact k_vret rfl dX1_append_29 h
abbrev rmX1_signHere : Room := { frames := 0, cells := 0, slots := 0, locals := 0 }
abbrev mX1_signHere : MT := (rmX1_signHere, wsX1_signHere, cX1_signHere, 1, RX1, some .int)
theorem hd_X1_signHere : yX1_signHere.cls = RX1 ∧ yX1_signHere.cls ≠ "java/lang/invoke/MethodHandle" ∧ yX1_signHere.cls ≠ "java/lang/invoke/VarHandle" ∧ (parseMethodDescriptor yX1_signHere.desc).map (fun d => d.parameters.length) = some 0 := by decide +kernel
theorem inX1_signHere_1 : ∀ w ∈ wsX10, w ∈ wsX1_signHere := fun w h => List.mem_cons_of_mem _ (List.mem_append_right _ h)
set_option maxHeartbeats 4000000 in
set_option maxRecDepth 100000 in
theorem cm_X1_signHere (l : Launch) {X : XT} (hX : XD X) (g : Nat) (σ : Mem) (o : Nat) (hL : L1 o) {r : Int32} (h : fX1_signHere g σ o = some r) : Met l yX1_signHere wsX1_signHere rmX1_signHere (va_Pc [.ref (xad X o)] (WW X σ)) (QI X r σ) 0 0 (XA X) := by
  refine met_x (M := mX1_signHere) (lv := [(0, .ref (xad X o))]) hX (by decide) rfl rfl (Nat.le_of_ble_eq_true rfl) rfl ?_
  unfold fX1_signHere at h
  refine k_aload_n (q := 0) dX1_signHere_0 rfl rfl ?_
  refine kg_1 (v := .int (σ o 6)) hL.1 inX1_signHere_1 6 (by decide) (List.mem_of_getElem? (i := 1) rfl) rfl dX1_signHere_1 ?_
  refine k_aload_n (q := 0) dX1_signHere_4 rfl rfl ?_
  refine kg_1 (v := .int (σ o 0)) hL.1 inX1_signHere_1 0 (by decide) (List.mem_of_getElem? (i := 2) rfl) rfl dX1_signHere_5 ?_
  refine k_icmp_ge (tgt := 32) dX1_signHere_8 (by decide) h (fun h => ?_) (fun h => ?_)
  · refine k_bipush (v := (nN 5)) dX1_signHere_32 (by decide) ?_
    exact k_iretR rfl dX1_signHere_34 h
  · refine k_aload_n (q := 0) dX1_signHere_11 rfl rfl ?_
    refine kg_1 (v := .int (σ o 6)) hL.1 inX1_signHere_1 6 (by decide) (List.mem_of_getElem? (i := 1) rfl) rfl dX1_signHere_12 ?_
    refine k_bipush (v := (nI 60)) dX1_signHere_15 (by decide) ?_
    refine k_icmp_ge (tgt := 32) dX1_signHere_17 (by decide) h (fun h => ?_) (fun h => ?_)
    · refine k_bipush (v := (nN 5)) dX1_signHere_32 (by decide) ?_
      exact k_iretR rfl dX1_signHere_34 h
    · refine k_aload_n (q := 0) dX1_signHere_20 rfl rfl ?_
      refine kg_1 (v := .ref (xad X (o + 4))) hL.1 inX1_signHere_1 5 (by decide) (List.mem_of_getElem? (i := 3) rfl) rfl dX1_signHere_21 ?_
      refine k_aload_n (q := 0) dX1_signHere_24 rfl rfl ?_
      refine kg_1 (v := .int (σ o 6)) hL.1 inX1_signHere_1 6 (by decide) (List.mem_of_getElem? (i := 1) rfl) rfl dX1_signHere_25 ?_
      refine k_cald (n := 60) hL.2.2.2.2 dX1_signHere_28 h (fun h => ?_)
      refine k_goto (tgt := 34) dX1_signHere_29 (by decide) ?_
      exact k_iretR rfl dX1_signHere_34 h
abbrev rmX1_isDigitHere : Room := { frames := 1, cells := 0, slots := 0, locals := 22 }
abbrev mX1_isDigitHere : MT := (rmX1_isDigitHere, wsX1_isDigitHere, cX1_isDigitHere, 1, RX1, some .boolean)
theorem hd_X1_isDigitHere : yX1_isDigitHere.cls = RX1 ∧ yX1_isDigitHere.cls ≠ "java/lang/invoke/MethodHandle" ∧ yX1_isDigitHere.cls ≠ "java/lang/invoke/VarHandle" ∧ (parseMethodDescriptor yX1_isDigitHere.desc).map (fun d => d.parameters.length) = some 0 := by decide +kernel
theorem inX1_isDigitHere_1 : ∀ w ∈ wsX10, w ∈ wsX1_isDigitHere := fun w h => List.mem_cons_of_mem _ (List.mem_append_right _ h)
set_option maxHeartbeats 4000000 in
set_option maxRecDepth 100000 in
theorem cm_X1_isDigitHere (l : Launch) {X : XT} (hX : XD X) (g : Nat) (σ : Mem) (o : Nat) (hL : L1 o) {r : Int32} (h : fX1_isDigitHere g σ o = some r) : Met l yX1_isDigitHere wsX1_isDigitHere rmX1_isDigitHere (va_Pc [.ref (xad X o)] (WW X σ)) (QI X r σ) 0 0 (XA X) := by
  refine met_x (M := mX1_isDigitHere) (lv := [(0, .ref (xad X o))]) hX (by decide) rfl rfl (Nat.le_of_ble_eq_true rfl) rfl ?_
  unfold fX1_isDigitHere at h
  refine k_aload_n (q := 0) dX1_isDigitHere_0 rfl rfl ?_
  obtain ⟨r2, hc1, h⟩ := bnd_e h
  refine k_cv (q := (RX1, TX1, 8)) (As := []) 0 (cm_X1_signHere l hX g σ o hL hc1) gX1_isDigitHere_X1_signHere rfl ⟨rfl, rfl⟩ hd_X1_signHere ⟨Nat.le_of_ble_eq_true rfl, Nat.le_of_ble_eq_true rfl⟩ ⟨Nat.le_refl _, Nat.le_refl _⟩ (lay_lt hL.1 (by decide)) (ce_of hL.1) rfl rfl (Nat.le_of_ble_eq_true rfl) rfl dX1_isDigitHere_1 ?_
  refine k_bipush (v := (nI 48)) dX1_isDigitHere_4 (by decide) ?_
  refine k_bipush (v := (nI 57)) dX1_isDigitHere_6 (by decide) ?_
  obtain ⟨r4, hc3, h⟩ := bnd_e h
  refine k_csN (host := "HoleReel") (As := [.int r2, .int (nI 48), .int (nI 57)]) 3 (cm_X8_isWithin l hX g σ r2 (nI 48) (nI 57) hc3) gX1_isDigitHere_X8_isWithin_n60 rfl ⟨rfl, rfl⟩ (fun _ hN => hN.2.1) (List.mem_of_getElem? (i := 10) rfl) (List.mem_of_getElem? (i := 9) rfl) hd_X8_isWithin ⟨Nat.le_of_ble_eq_true rfl, Nat.le_of_ble_eq_true rfl⟩ ⟨Nat.le_refl _, Nat.le_refl _⟩ rfl (Nat.le_of_ble_eq_true rfl) rfl dX1_isDigitHere_8 ?_
  exact k_zretR rfl dX1_isDigitHere_11 (isZ_n (chk_e h).1) (chk_e h).2
abbrev rmX1_readNumber : Room := { frames := 2, cells := 0, slots := 0, locals := 42 }
abbrev mX1_readNumber : MT := (rmX1_readNumber, wsX1_readNumber, cX1_readNumber, 3, RX1, some .boolean)
theorem hd_X1_readNumber : yX1_readNumber.cls = RX1 ∧ yX1_readNumber.cls ≠ "java/lang/invoke/MethodHandle" ∧ yX1_readNumber.cls ≠ "java/lang/invoke/VarHandle" ∧ (parseMethodDescriptor yX1_readNumber.desc).map (fun d => d.parameters.length) = some 0 := by decide +kernel
theorem inX1_readNumber_1 : ∀ w ∈ wsX10, w ∈ wsX1_readNumber := fun w h => List.mem_cons_of_mem _ (List.mem_append_right _ h)
set_option maxHeartbeats 4000000 in
set_option maxRecDepth 100000 in
theorem wX1_readNumber_31 (l : Launch) {X : XT} (hX : XD X) (g : Nat) (o : Nat) (hL : L1 o) {r : Int32} {σ' : Mem} : ∀ (n : Nat) (σ : Mem) (x1 : Int32) (x2 : Int32), fX1_readNumber_31 g o n σ x1 x2 = some (r, σ') → WG X l mX1_readNumber (fun _ _ => True) 0 0 (QM X (QI X r σ')) 31 σ [(0, .ref (xad X o)), (1, .int x1), (2, .int x2)] [] := by
  intro n
  induction n with
  | zero => intro σ x1 x2 h; exact nomatch (show (none : Option _) = some _ from h)
  | succ n ih =>
    intro σ x1 x2 h
    rw [fX1_readNumber_31] at h
    refine k_iload_n (q := 2) dX1_readNumber_31 rfl rfl ?_
    refine k_iload_n (q := 1) dX1_readNumber_32 rfl rfl ?_
    refine k_icmp_ge (tgt := 78) dX1_readNumber_33 (by decide) h (fun h => ?_) (fun h => ?_)
    · refine k_iconst (v := (nI 1)) dX1_readNumber_78 (by decide) ?_
      exact k_zret rfl dX1_readNumber_79 rfl h
    · refine k_aload_n (q := 0) dX1_readNumber_36 rfl rfl ?_
      obtain ⟨r7, hc6, h⟩ := bnd_e h
      refine k_cv (q := (RX1, TX1, 8)) (As := []) 0 (cm_X1_isDigitHere l hX g σ o hL hc6) gX1_readNumber_X1_isDigitHere rfl ⟨rfl, rfl⟩ hd_X1_isDigitHere ⟨Nat.le_of_ble_eq_true rfl, Nat.le_of_ble_eq_true rfl⟩ ⟨Nat.le_refl _, Nat.le_refl _⟩ (lay_lt hL.1 (by decide)) (ce_of hL.1) rfl rfl (Nat.le_of_ble_eq_true rfl) rfl dX1_readNumber_37 ?_
      refine k_if_eq (tgt := 78) dX1_readNumber_40 (by decide) h (fun h => ?_) (fun h => ?_)
      · refine k_iconst (v := (nI 1)) dX1_readNumber_78 (by decide) ?_
        exact k_zret rfl dX1_readNumber_79 rfl h
      · refine k_aload_n (q := 0) dX1_readNumber_43 rfl rfl ?_
        refine k_aload_n (q := 0) dX1_readNumber_44 rfl rfl ?_
        refine kg_1 (v := .int (σ o 7)) hL.1 inX1_readNumber_1 7 (by decide) (List.mem_of_getElem? (i := 1) rfl) rfl dX1_readNumber_45 ?_
        refine k_bipush (v := (nI 10)) dX1_readNumber_48 (by decide) ?_
        refine k_imul dX1_readNumber_50 ?_
        refine k_aload_n (q := 0) dX1_readNumber_51 rfl rfl ?_
        obtain ⟨r9, hc8, h⟩ := bnd_e h
        refine k_cv (q := (RX1, TX1, 8)) (As := []) 0 (cm_X1_signHere l hX g σ o hL hc8) gX1_readNumber_X1_signHere rfl ⟨rfl, rfl⟩ hd_X1_signHere ⟨Nat.le_of_ble_eq_true rfl, Nat.le_of_ble_eq_true rfl⟩ ⟨Nat.le_refl _, Nat.le_refl _⟩ (lay_lt hL.1 (by decide)) (ce_of hL.1) rfl rfl (Nat.le_of_ble_eq_true rfl) rfl dX1_readNumber_52 ?_
        refine k_iadd dX1_readNumber_55 ?_
        refine k_bipush (v := (nI 48)) dX1_readNumber_56 (by decide) ?_
        refine k_isub dX1_readNumber_58 ?_
        refine kp_1_7 hL.1 inX1_readNumber_1 (List.mem_of_getElem? (i := 1) rfl) dX1_readNumber_59 h (fun σ10 h => ?_)
        refine k_aload_n (q := 0) dX1_readNumber_62 rfl rfl ?_
        refine k_dup dX1_readNumber_63 rfl ?_
        refine kg_1 (v := .int (σ10 o 6)) hL.1 inX1_readNumber_1 6 (by decide) (List.mem_of_getElem? (i := 2) rfl) rfl dX1_readNumber_64 ?_
        refine k_iconst (v := (nI 1)) dX1_readNumber_67 (by decide) ?_
        refine k_iadd dX1_readNumber_68 ?_
        refine kp_1_6 hL.1 inX1_readNumber_1 (List.mem_of_getElem? (i := 2) rfl) dX1_readNumber_69 h (fun σ11 h => ?_)
        refine k_iinc (q := 2) (v := (x2 + (nI 1))) (lv' := [(2, .int (x2 + (nI 1))), (0, .ref (xad X o)), (1, .int x1)]) dX1_readNumber_72 rfl rfl (Nat.le_of_ble_eq_true rfl) rfl ?_
        refine k_goto (tgt := 31) dX1_readNumber_75 (by decide) ?_
        refine k_sub (ks' := [1, 2, 0]) rfl ?_
        exact ih σ11 x1 (x2 + (nI 1)) h
set_option maxHeartbeats 4000000 in
set_option maxRecDepth 100000 in
theorem cm_X1_readNumber (l : Launch) {X : XT} (hX : XD X) (g : Nat) (σ : Mem) (o : Nat) (hL : L1 o) {r : Int32} {σ' : Mem} (h : fX1_readNumber g σ o = some (r, σ')) : Met l yX1_readNumber wsX1_readNumber rmX1_readNumber (va_Pc [.ref (xad X o)] (WW X σ)) (QI X r σ') 0 0 (XA X) := by
  refine met_x (M := mX1_readNumber) (lv := [(0, .ref (xad X o))]) hX (by decide) rfl rfl (Nat.le_of_ble_eq_true rfl) rfl ?_
  unfold fX1_readNumber at h
  refine k_aload_n (q := 0) dX1_readNumber_0 rfl rfl ?_
  obtain ⟨r2, hc1, h⟩ := bnd_e h
  refine k_cv (q := (RX1, TX1, 8)) (As := []) 0 (cm_X1_isDigitHere l hX g σ o hL hc1) gX1_readNumber_X1_isDigitHere rfl ⟨rfl, rfl⟩ hd_X1_isDigitHere ⟨Nat.le_of_ble_eq_true rfl, Nat.le_of_ble_eq_true rfl⟩ ⟨Nat.le_refl _, Nat.le_refl _⟩ (lay_lt hL.1 (by decide)) (ce_of hL.1) rfl rfl (Nat.le_of_ble_eq_true rfl) rfl dX1_readNumber_1 ?_
  refine k_if_ne (tgt := 9) dX1_readNumber_4 (by decide) h (fun h => ?_) (fun h => ?_)
  · refine k_aload_n (q := 0) dX1_readNumber_9 rfl rfl ?_
    refine k_iconst (v := (nI 0)) dX1_readNumber_10 (by decide) ?_
    refine kp_1_7 hL.1 inX1_readNumber_1 (List.mem_of_getElem? (i := 1) rfl) dX1_readNumber_11 h (fun σ3 h => ?_)
    refine k_aload_n (q := 0) dX1_readNumber_14 rfl rfl ?_
    obtain ⟨r5, hc4, h⟩ := bnd_e h
    refine k_cv (q := (RX1, TX1, 8)) (As := []) 0 (cm_X1_signHere l hX g σ3 o hL hc4) gX1_readNumber_X1_signHere rfl ⟨rfl, rfl⟩ hd_X1_signHere ⟨Nat.le_of_ble_eq_true rfl, Nat.le_of_ble_eq_true rfl⟩ ⟨Nat.le_refl _, Nat.le_refl _⟩ (lay_lt hL.1 (by decide)) (ce_of hL.1) rfl rfl (Nat.le_of_ble_eq_true rfl) rfl dX1_readNumber_15 ?_
    refine k_bipush (v := (nI 48)) dX1_readNumber_18 (by decide) ?_
    have key : WG X l mX1_readNumber (fun _ _ => True) 0 0 (QM X (QI X r σ')) 28 σ3 [(0, .ref (xad X o))] [.int (if r5 = (nI 48) then (nI 1) else (nI 3))] := by
      refine k_istore_n (lv' := [(1, .int (if r5 = (nI 48) then (nI 1) else (nI 3))), (0, .ref (xad X o))]) dX1_readNumber_28 rfl (Nat.le_of_ble_eq_true rfl) rfl ?_
      refine k_iconst (v := (nI 0)) dX1_readNumber_29 (by decide) ?_
      refine k_istore_n (lv' := [(2, .int (nI 0)), (1, .int (if r5 = (nI 48) then (nI 1) else (nI 3))), (0, .ref (xad X o))]) dX1_readNumber_30 rfl (Nat.le_of_ble_eq_true rfl) rfl ?_
      refine k_sub (ks' := [2, 1, 0]) rfl ?_
      exact wX1_readNumber_31 l hX g o hL g σ3 (if r5 = (nI 48) then (nI 1) else (nI 3)) (nI 0) h
    refine k_icmpc_ne (tgt := 27) dX1_readNumber_20 (by decide) (fun hq => ?_) (fun hq => ?_)
    · rw [if_neg hq] at key
      refine k_iconst (v := (nI 3)) dX1_readNumber_27 (by decide) ?_
      exact key
    · rw [if_pos hq] at key
      refine k_iconst (v := (nI 1)) dX1_readNumber_23 (by decide) ?_
      refine k_goto (tgt := 28) dX1_readNumber_24 (by decide) ?_
      exact key
  · refine k_iconst (v := (nI 0)) dX1_readNumber_7 (by decide) ?_
    exact k_zret rfl dX1_readNumber_8 rfl h
abbrev rmX1_readSign : Room := { frames := 1, cells := 0, slots := 0, locals := 20 }
abbrev mX1_readSign : MT := (rmX1_readSign, wsX1_readSign, cX1_readSign, 2, RX1, some .boolean)
theorem hd_X1_readSign : yX1_readSign.cls = RX1 ∧ yX1_readSign.cls ≠ "java/lang/invoke/MethodHandle" ∧ yX1_readSign.cls ≠ "java/lang/invoke/VarHandle" ∧ (parseMethodDescriptor yX1_readSign.desc).map (fun d => d.parameters.length) = some 1 := by decide +kernel
theorem inX1_readSign_1 : ∀ w ∈ wsX10, w ∈ wsX1_readSign := fun w h => List.mem_cons_of_mem _ (List.mem_append_right _ h)
set_option maxHeartbeats 4000000 in
set_option maxRecDepth 100000 in
theorem cm_X1_readSign (l : Launch) {X : XT} (hX : XD X) (g : Nat) (σ : Mem) (o : Nat) (hL : L1 o) (p1 : Int32) {r : Int32} {σ' : Mem} (h : fX1_readSign g σ o p1 = some (r, σ')) : Met l yX1_readSign wsX1_readSign rmX1_readSign (va_Pc [.ref (xad X o), .int p1] (WW X σ)) (QI X r σ') 0 0 (XA X) := by
  refine met_x (M := mX1_readSign) (lv := [(0, .ref (xad X o)), (1, .int p1)]) hX (by decide) rfl rfl (Nat.le_of_ble_eq_true rfl) rfl ?_
  unfold fX1_readSign at h
  refine k_aload_n (q := 0) dX1_readSign_0 rfl rfl ?_
  obtain ⟨r2, hc1, h⟩ := bnd_e h
  refine k_cv (q := (RX1, TX1, 8)) (As := []) 0 (cm_X1_signHere l hX g σ o hL hc1) gX1_readSign_X1_signHere rfl ⟨rfl, rfl⟩ hd_X1_signHere ⟨Nat.le_of_ble_eq_true rfl, Nat.le_of_ble_eq_true rfl⟩ ⟨Nat.le_refl _, Nat.le_refl _⟩ (lay_lt hL.1 (by decide)) (ce_of hL.1) rfl rfl (Nat.le_of_ble_eq_true rfl) rfl dX1_readSign_1 ?_
  refine k_iload_n (q := 1) dX1_readSign_4 rfl rfl ?_
  refine k_icmp_eq (tgt := 10) dX1_readSign_5 (by decide) h (fun h => ?_) (fun h => ?_)
  · refine k_aload_n (q := 0) dX1_readSign_10 rfl rfl ?_
    refine k_dup dX1_readSign_11 rfl ?_
    refine kg_1 (v := .int (σ o 6)) hL.1 inX1_readSign_1 6 (by decide) (List.mem_of_getElem? (i := 1) rfl) rfl dX1_readSign_12 ?_
    refine k_iconst (v := (nI 1)) dX1_readSign_15 (by decide) ?_
    refine k_iadd dX1_readSign_16 ?_
    refine kp_1_6 hL.1 inX1_readSign_1 (List.mem_of_getElem? (i := 1) rfl) dX1_readSign_17 h (fun σ3 h => ?_)
    refine k_iconst (v := (nI 1)) dX1_readSign_20 (by decide) ?_
    exact k_zret rfl dX1_readSign_21 rfl h
  · refine k_iconst (v := (nI 0)) dX1_readSign_8 (by decide) ?_
    exact k_zret rfl dX1_readSign_9 rfl h
abbrev rmX1_addEdit : Room := { frames := 0, cells := 0, slots := 0, locals := 0 }
abbrev mX1_addEdit : MT := (rmX1_addEdit, wsX1_addEdit, cX1_addEdit, 4, RX1, none)
theorem hd_X1_addEdit : yX1_addEdit.cls = RX1 ∧ yX1_addEdit.cls ≠ "java/lang/invoke/MethodHandle" ∧ yX1_addEdit.cls ≠ "java/lang/invoke/VarHandle" ∧ (parseMethodDescriptor yX1_addEdit.desc).map (fun d => d.parameters.length) = some 3 := by decide +kernel
theorem inX1_addEdit_1 : ∀ w ∈ wsX10, w ∈ wsX1_addEdit := fun w h => List.mem_cons_of_mem _ (List.mem_append_right _ h)
set_option maxHeartbeats 4000000 in
set_option maxRecDepth 100000 in
theorem cm_X1_addEdit (l : Launch) {X : XT} (hX : XD X) (g : Nat) (σ : Mem) (o : Nat) (hL : L1 o) (p1 : Int32) (p2 : Int32) (p3 : Int32) {σ' : Mem} (h : fX1_addEdit g σ o p1 p2 p3 = some σ') : Met l yX1_addEdit wsX1_addEdit rmX1_addEdit (va_Pc [.ref (xad X o), .int p1, .int p2, .int p3] (WW X σ)) (QV X σ') 0 0 (XA X) := by
  refine met_x (M := mX1_addEdit) (lv := [(0, .ref (xad X o)), (1, .int p1), (2, .int p2), (3, .int p3)]) hX (by decide) rfl rfl (Nat.le_of_ble_eq_true rfl) rfl ?_
  unfold fX1_addEdit at h
  refine k_aload_n (q := 0) dX1_addEdit_0 rfl rfl ?_
  refine kg_1 (v := .int (σ o 1)) hL.1 inX1_addEdit_1 1 (by decide) (List.mem_of_getElem? (i := 1) rfl) rfl dX1_addEdit_1 ?_
  refine k_bipush (v := (nI 20)) dX1_addEdit_4 (by decide) ?_
  refine k_icmp_ge (tgt := 49) dX1_addEdit_6 (by decide) h (fun h => ?_) (fun h => ?_)
  · exact k_vret rfl dX1_addEdit_49 h
  · refine k_aload_n (q := 0) dX1_addEdit_9 rfl rfl ?_
    refine kg_1 (v := .ref (xad X (o + 1))) hL.1 inX1_addEdit_1 2 (by decide) (List.mem_of_getElem? (i := 2) rfl) rfl dX1_addEdit_10 ?_
    refine k_aload_n (q := 0) dX1_addEdit_13 rfl rfl ?_
    refine kg_1 (v := .int (σ o 1)) hL.1 inX1_addEdit_1 1 (by decide) (List.mem_of_getElem? (i := 1) rfl) rfl dX1_addEdit_14 ?_
    refine k_iload_n (q := 1) dX1_addEdit_17 rfl rfl ?_
    refine k_iast (n := 20) hL.2.1 dX1_addEdit_18 h (fun σ1 h => ?_)
    refine k_aload_n (q := 0) dX1_addEdit_19 rfl rfl ?_
    refine kg_1 (v := .ref (xad X (o + 2))) hL.1 inX1_addEdit_1 3 (by decide) (List.mem_of_getElem? (i := 3) rfl) rfl dX1_addEdit_20 ?_
    refine k_aload_n (q := 0) dX1_addEdit_23 rfl rfl ?_
    refine kg_1 (v := .int (σ1 o 1)) hL.1 inX1_addEdit_1 1 (by decide) (List.mem_of_getElem? (i := 1) rfl) rfl dX1_addEdit_24 ?_
    refine k_iload_n (q := 2) dX1_addEdit_27 rfl rfl ?_
    refine k_iast (n := 20) hL.2.2.1 dX1_addEdit_28 h (fun σ2 h => ?_)
    refine k_aload_n (q := 0) dX1_addEdit_29 rfl rfl ?_
    refine kg_1 (v := .ref (xad X (o + 3))) hL.1 inX1_addEdit_1 4 (by decide) (List.mem_of_getElem? (i := 4) rfl) rfl dX1_addEdit_30 ?_
    refine k_aload_n (q := 0) dX1_addEdit_33 rfl rfl ?_
    refine kg_1 (v := .int (σ2 o 1)) hL.1 inX1_addEdit_1 1 (by decide) (List.mem_of_getElem? (i := 1) rfl) rfl dX1_addEdit_34 ?_
    refine k_iload_n (q := 3) dX1_addEdit_37 rfl rfl ?_
    refine k_iast (n := 20) hL.2.2.2.1 dX1_addEdit_38 h (fun σ3 h => ?_)
    refine k_aload_n (q := 0) dX1_addEdit_39 rfl rfl ?_
    refine k_dup dX1_addEdit_40 rfl ?_
    refine kg_1 (v := .int (σ3 o 1)) hL.1 inX1_addEdit_1 1 (by decide) (List.mem_of_getElem? (i := 1) rfl) rfl dX1_addEdit_41 ?_
    refine k_iconst (v := (nI 1)) dX1_addEdit_44 (by decide) ?_
    refine k_iadd dX1_addEdit_45 ?_
    refine kp_1_1 hL.1 inX1_addEdit_1 (List.mem_of_getElem? (i := 1) rfl) dX1_addEdit_46 h (fun σ4 h => ?_)
    exact k_vret rfl dX1_addEdit_49 h
abbrev rmX1_readEdit : Room := { frames := 3, cells := 0, slots := 0, locals := 64 }
abbrev mX1_readEdit : MT := (rmX1_readEdit, wsX1_readEdit, cX1_readEdit, 4, RX1, some .boolean)
theorem hd_X1_readEdit : yX1_readEdit.cls = RX1 ∧ yX1_readEdit.cls ≠ "java/lang/invoke/MethodHandle" ∧ yX1_readEdit.cls ≠ "java/lang/invoke/VarHandle" ∧ (parseMethodDescriptor yX1_readEdit.desc).map (fun d => d.parameters.length) = some 0 := by decide +kernel
theorem inX1_readEdit_1 : ∀ w ∈ wsX10, w ∈ wsX1_readEdit := fun w h => List.mem_cons_of_mem _ (List.mem_append_right _ h)
set_option maxHeartbeats 4000000 in
set_option maxRecDepth 100000 in
theorem wX1_readEdit_47 (l : Launch) {X : XT} (hX : XD X) (g : Nat) (o : Nat) (hL : L1 o) {r : Int32} {σ' : Mem} (σ : Mem) (x1 : Int32) (x2 : Int32) (h : fX1_readEdit_47 g o σ x1 x2 = some (r, σ')) : WG X l mX1_readEdit (fun _ _ => True) 0 0 (QM X (QI X r σ')) 47 σ [(0, .ref (xad X o)), (1, .int x1), (2, .int x2)] [] := by
  unfold fX1_readEdit_47 at h
  refine k_aload_n (q := 0) dX1_readEdit_47 rfl rfl ?_
  refine k_dup dX1_readEdit_48 rfl ?_
  refine kg_1 (v := .int (σ o 6)) hL.1 inX1_readEdit_1 6 (by decide) (List.mem_of_getElem? (i := 1) rfl) rfl dX1_readEdit_49 ?_
  refine k_iconst (v := (nI 1)) dX1_readEdit_52 (by decide) ?_
  refine k_iadd dX1_readEdit_53 ?_
  refine kp_1_6 hL.1 inX1_readEdit_1 (List.mem_of_getElem? (i := 1) rfl) dX1_readEdit_54 h (fun σ3 h => ?_)
  refine k_aload_n (q := 0) dX1_readEdit_57 rfl rfl ?_
  obtain ⟨r5, σ6, hc4, h⟩ := bnd2_e h
  refine k_cv (q := (RX1, TX1, 8)) (As := []) 0 (cm_X1_readNumber l hX g σ3 o hL hc4) gX1_readEdit_X1_readNumber rfl ⟨rfl, rfl⟩ hd_X1_readNumber ⟨Nat.le_of_ble_eq_true rfl, Nat.le_of_ble_eq_true rfl⟩ ⟨Nat.le_refl _, Nat.le_refl _⟩ (lay_lt hL.1 (by decide)) (ce_of hL.1) rfl rfl (Nat.le_of_ble_eq_true rfl) rfl dX1_readEdit_58 ?_
  refine k_if_ne (tgt := 66) dX1_readEdit_61 (by decide) h (fun h => ?_) (fun h => ?_)
  · refine k_aload_n (q := 0) dX1_readEdit_66 rfl rfl ?_
    refine kg_1 (v := .int (σ6 o 7)) hL.1 inX1_readEdit_1 7 (by decide) (List.mem_of_getElem? (i := 2) rfl) rfl dX1_readEdit_67 ?_
    refine k_istore_n (lv' := [(3, .int (σ6 o 7)), (0, .ref (xad X o)), (1, .int x1), (2, .int x2)]) dX1_readEdit_70 rfl (Nat.le_of_ble_eq_true rfl) rfl ?_
    refine k_iload_n (q := 3) dX1_readEdit_71 rfl rfl ?_
    refine k_if_eq (tgt := 93) dX1_readEdit_72 (by decide) h (fun h => ?_) (fun h => ?_)
    · refine k_aload_n (q := 1) dX1_readEdit_93 rfl rfl ?_
      refine k_iload_n (q := 2) dX1_readEdit_94 rfl rfl ?_
      refine k_iload_n (q := 0) dX1_readEdit_95 rfl rfl ?_
      refine k_iload_n (q := 3) dX1_readEdit_96 rfl rfl ?_
      refine k_if_eq (tgt := 107) dX1_readEdit_97 (by decide) h (fun h => ?_) (fun h => ?_)
      · refine k_iconst (v := (nI 0)) dX1_readEdit_107 (by decide) ?_
        obtain ⟨σ8, hc7, h⟩ := bnd_e h
        refine k_cvv (q := (RX1, TX1, 8)) (As := [.int x1, .int (σ6 o 7), .int (nI 0)]) 3 (cm_X1_addEdit l hX g σ6 o hL x1 (σ6 o 7) (nI 0) hc7) gX1_readEdit_X1_addEdit rfl ⟨rfl, rfl⟩ hd_X1_addEdit ⟨Nat.le_of_ble_eq_true rfl, Nat.le_of_ble_eq_true rfl⟩ ⟨Nat.le_refl _, Nat.le_refl _⟩ (lay_lt hL.1 (by decide)) (ce_of hL.1) rfl rfl (Nat.le_of_ble_eq_true rfl) rfl dX1_readEdit_108 ?_
        refine k_iconst (v := (nI 1)) dX1_readEdit_111 (by decide) ?_
        exact k_zret rfl dX1_readEdit_112 rfl h
      · refine k_aload_n (q := 1) dX1_readEdit_100 rfl rfl ?_
        refine kg_1 (v := .int (σ6 o 7)) hL.1 inX1_readEdit_1 7 (by decide) (List.mem_of_getElem? (i := 2) rfl) rfl dX1_readEdit_101 ?_
        refine k_goto (tgt := 108) dX1_readEdit_104 (by decide) ?_
        obtain ⟨σ10, hc9, h⟩ := bnd_e h
        refine k_cvv (q := (RX1, TX1, 8)) (As := [.int x1, .int (σ6 o 7), .int (σ6 o 7)]) 3 (cm_X1_addEdit l hX g σ6 o hL x1 (σ6 o 7) (σ6 o 7) hc9) gX1_readEdit_X1_addEdit rfl ⟨rfl, rfl⟩ hd_X1_addEdit ⟨Nat.le_of_ble_eq_true rfl, Nat.le_of_ble_eq_true rfl⟩ ⟨Nat.le_refl _, Nat.le_refl _⟩ (lay_lt hL.1 (by decide)) (ce_of hL.1) rfl rfl (Nat.le_of_ble_eq_true rfl) rfl dX1_readEdit_108 ?_
        refine k_iconst (v := (nI 1)) dX1_readEdit_111 (by decide) ?_
        exact k_zret rfl dX1_readEdit_112 rfl h
    · refine k_aload_n (q := 1) dX1_readEdit_75 rfl rfl ?_
      refine k_bipush (v := (nI 44)) dX1_readEdit_76 (by decide) ?_
      obtain ⟨r12, σ13, hc11, h⟩ := bnd2_e h
      refine k_cv (q := (RX1, TX1, 8)) (As := [.int (nI 44)]) 1 (cm_X1_readSign l hX g σ6 o hL (nI 44) hc11) gX1_readEdit_X1_readSign rfl ⟨rfl, rfl⟩ hd_X1_readSign ⟨Nat.le_of_ble_eq_true rfl, Nat.le_of_ble_eq_true rfl⟩ ⟨Nat.le_refl _, Nat.le_refl _⟩ (lay_lt hL.1 (by decide)) (ce_of hL.1) rfl rfl (Nat.le_of_ble_eq_true rfl) rfl dX1_readEdit_78 ?_
      refine k_if_eq (tgt := 91) dX1_readEdit_81 (by decide) h (fun h => ?_) (fun h => ?_)
      · refine k_iconst (v := (nI 0)) dX1_readEdit_91 (by decide) ?_
        exact k_zret rfl dX1_readEdit_92 rfl h
      · refine k_aload_n (q := 1) dX1_readEdit_84 rfl rfl ?_
        obtain ⟨r15, σ16, hc14, h⟩ := bnd2_e h
        refine k_cv (q := (RX1, TX1, 8)) (As := []) 0 (cm_X1_readNumber l hX g σ13 o hL hc14) gX1_readEdit_X1_readNumber rfl ⟨rfl, rfl⟩ hd_X1_readNumber ⟨Nat.le_of_ble_eq_true rfl, Nat.le_of_ble_eq_true rfl⟩ ⟨Nat.le_refl _, Nat.le_refl _⟩ (lay_lt hL.1 (by decide)) (ce_of hL.1) rfl rfl (Nat.le_of_ble_eq_true rfl) rfl dX1_readEdit_85 ?_
        refine k_if_ne (tgt := 93) dX1_readEdit_88 (by decide) h (fun h => ?_) (fun h => ?_)
        · refine k_aload_n (q := 1) dX1_readEdit_93 rfl rfl ?_
          refine k_iload_n (q := 2) dX1_readEdit_94 rfl rfl ?_
          refine k_iload_n (q := 0) dX1_readEdit_95 rfl rfl ?_
          refine k_iload_n (q := 3) dX1_readEdit_96 rfl rfl ?_
          refine k_if_eq (tgt := 107) dX1_readEdit_97 (by decide) h (fun h => ?_) (fun h => ?_)
          · refine k_iconst (v := (nI 0)) dX1_readEdit_107 (by decide) ?_
            obtain ⟨σ18, hc17, h⟩ := bnd_e h
            refine k_cvv (q := (RX1, TX1, 8)) (As := [.int x1, .int (σ6 o 7), .int (nI 0)]) 3 (cm_X1_addEdit l hX g σ16 o hL x1 (σ6 o 7) (nI 0) hc17) gX1_readEdit_X1_addEdit rfl ⟨rfl, rfl⟩ hd_X1_addEdit ⟨Nat.le_of_ble_eq_true rfl, Nat.le_of_ble_eq_true rfl⟩ ⟨Nat.le_refl _, Nat.le_refl _⟩ (lay_lt hL.1 (by decide)) (ce_of hL.1) rfl rfl (Nat.le_of_ble_eq_true rfl) rfl dX1_readEdit_108 ?_
            refine k_iconst (v := (nI 1)) dX1_readEdit_111 (by decide) ?_
            exact k_zret rfl dX1_readEdit_112 rfl h
          · refine k_aload_n (q := 1) dX1_readEdit_100 rfl rfl ?_
            refine kg_1 (v := .int (σ16 o 7)) hL.1 inX1_readEdit_1 7 (by decide) (List.mem_of_getElem? (i := 2) rfl) rfl dX1_readEdit_101 ?_
            refine k_goto (tgt := 108) dX1_readEdit_104 (by decide) ?_
            obtain ⟨σ20, hc19, h⟩ := bnd_e h
            refine k_cvv (q := (RX1, TX1, 8)) (As := [.int x1, .int (σ6 o 7), .int (σ16 o 7)]) 3 (cm_X1_addEdit l hX g σ16 o hL x1 (σ6 o 7) (σ16 o 7) hc19) gX1_readEdit_X1_addEdit rfl ⟨rfl, rfl⟩ hd_X1_addEdit ⟨Nat.le_of_ble_eq_true rfl, Nat.le_of_ble_eq_true rfl⟩ ⟨Nat.le_refl _, Nat.le_refl _⟩ (lay_lt hL.1 (by decide)) (ce_of hL.1) rfl rfl (Nat.le_of_ble_eq_true rfl) rfl dX1_readEdit_108 ?_
            refine k_iconst (v := (nI 1)) dX1_readEdit_111 (by decide) ?_
            exact k_zret rfl dX1_readEdit_112 rfl h
        · refine k_iconst (v := (nI 0)) dX1_readEdit_91 (by decide) ?_
          exact k_zret rfl dX1_readEdit_92 rfl h
  · refine k_iconst (v := (nI 0)) dX1_readEdit_64 (by decide) ?_
    exact k_zret rfl dX1_readEdit_65 rfl h
set_option maxHeartbeats 4000000 in
set_option maxRecDepth 100000 in
theorem wX1_readEdit_22 (l : Launch) {X : XT} (hX : XD X) (g : Nat) (o : Nat) (hL : L1 o) {r : Int32} {σ' : Mem} (σ : Mem) (x1 : Int32) (s0 : Int32) (h : fX1_readEdit_22 g o σ x1 s0 = some (r, σ')) : WG X l mX1_readEdit (fun _ _ => True) 0 0 (QM X (QI X r σ')) 22 σ [(0, .ref (xad X o)), (1, .int x1)] [.int s0] := by
  unfold fX1_readEdit_22 at h
  refine k_istore_n (lv' := [(2, .int s0), (0, .ref (xad X o)), (1, .int x1)]) dX1_readEdit_22 rfl (Nat.le_of_ble_eq_true rfl) rfl ?_
  refine k_iload_n (q := 0) dX1_readEdit_23 rfl rfl ?_
  refine k_if_ne (tgt := 47) dX1_readEdit_24 (by decide) h (fun h => ?_) (fun h => ?_)
  · refine k_sub (ks' := [1, 2, 0]) rfl ?_
    exact wX1_readEdit_47 l hX g o hL σ x1 s0 h
  · refine k_iload_n (q := 2) dX1_readEdit_27 rfl rfl ?_
    refine k_bipush (v := (nI 99)) dX1_readEdit_28 (by decide) ?_
    refine k_icmp_eq (tgt := 47) dX1_readEdit_30 (by decide) h (fun h => ?_) (fun h => ?_)
    · refine k_sub (ks' := [1, 2, 0]) rfl ?_
      exact wX1_readEdit_47 l hX g o hL σ x1 s0 h
    · refine k_iload_n (q := 2) dX1_readEdit_33 rfl rfl ?_
      refine k_bipush (v := (nI 106)) dX1_readEdit_34 (by decide) ?_
      refine k_icmp_eq (tgt := 47) dX1_readEdit_36 (by decide) h (fun h => ?_) (fun h => ?_)
      · refine k_sub (ks' := [1, 2, 0]) rfl ?_
        exact wX1_readEdit_47 l hX g o hL σ x1 s0 h
      · refine k_iload_n (q := 2) dX1_readEdit_39 rfl rfl ?_
        refine k_bipush (v := (nI 111)) dX1_readEdit_40 (by decide) ?_
        refine k_icmp_eq (tgt := 47) dX1_readEdit_42 (by decide) h (fun h => ?_) (fun h => ?_)
        · refine k_sub (ks' := [1, 2, 0]) rfl ?_
          exact wX1_readEdit_47 l hX g o hL σ x1 s0 h
        · refine k_iconst (v := (nI 0)) dX1_readEdit_45 (by decide) ?_
          exact k_zret rfl dX1_readEdit_46 rfl h
set_option maxHeartbeats 4000000 in
set_option maxRecDepth 100000 in
theorem cm_X1_readEdit (l : Launch) {X : XT} (hX : XD X) (g : Nat) (σ : Mem) (o : Nat) (hL : L1 o) {r : Int32} {σ' : Mem} (h : fX1_readEdit g σ o = some (r, σ')) : Met l yX1_readEdit wsX1_readEdit rmX1_readEdit (va_Pc [.ref (xad X o)] (WW X σ)) (QI X r σ') 0 0 (XA X) := by
  refine met_x (M := mX1_readEdit) (lv := [(0, .ref (xad X o))]) hX (by decide) rfl rfl (Nat.le_of_ble_eq_true rfl) rfl ?_
  unfold fX1_readEdit at h
  refine k_aload_n (q := 0) dX1_readEdit_0 rfl rfl ?_
  obtain ⟨r2, hc1, h⟩ := bnd_e h
  refine k_cv (q := (RX1, TX1, 8)) (As := []) 0 (cm_X1_signHere l hX g σ o hL hc1) gX1_readEdit_X1_signHere rfl ⟨rfl, rfl⟩ hd_X1_signHere ⟨Nat.le_of_ble_eq_true rfl, Nat.le_of_ble_eq_true rfl⟩ ⟨Nat.le_refl _, Nat.le_refl _⟩ (lay_lt hL.1 (by decide)) (ce_of hL.1) rfl rfl (Nat.le_of_ble_eq_true rfl) rfl dX1_readEdit_1 ?_
  refine k_istore_n (lv' := [(1, .int r2), (0, .ref (xad X o))]) dX1_readEdit_4 rfl (Nat.le_of_ble_eq_true rfl) rfl ?_
  refine k_iload_n (q := 0) dX1_readEdit_5 rfl rfl ?_
  refine k_bipush (v := (nI 105)) dX1_readEdit_6 (by decide) ?_
  refine k_icmp_eq (tgt := 17) dX1_readEdit_8 (by decide) h (fun h => ?_) (fun h => ?_)
  · refine k_iconst (v := (nI 1)) dX1_readEdit_17 (by decide) ?_
    refine k_goto (tgt := 22) dX1_readEdit_18 (by decide) ?_
    refine k_sub (ks' := [1, 0]) rfl ?_
    exact wX1_readEdit_22 l hX g o hL σ r2 (nI 1) h
  · refine k_iload_n (q := 0) dX1_readEdit_11 rfl rfl ?_
    refine k_bipush (v := (nI 109)) dX1_readEdit_12 (by decide) ?_
    have key : WG X l mX1_readEdit (fun _ _ => True) 0 0 (QM X (QI X r σ')) 22 σ [(1, .int r2), (0, .ref (xad X o))] [.int (if r2 = (nI 109) then (nI 1) else (nI 0))] := by
      refine k_sub (ks' := [1, 0]) rfl ?_
      exact wX1_readEdit_22 l hX g o hL σ r2 (if r2 = (nI 109) then (nI 1) else (nI 0)) h
    refine k_icmpc_ne (tgt := 21) dX1_readEdit_14 (by decide) (fun hq => ?_) (fun hq => ?_)
    · rw [if_neg hq] at key
      refine k_iconst (v := (nI 0)) dX1_readEdit_21 (by decide) ?_
      exact key
    · rw [if_pos hq] at key
      refine k_iconst (v := (nI 1)) dX1_readEdit_17 (by decide) ?_
      refine k_goto (tgt := 22) dX1_readEdit_18 (by decide) ?_
      exact key
abbrev rmX1_readEdits : Room := { frames := 4, cells := 0, slots := 0, locals := 87 }
abbrev mX1_readEdits : MT := (rmX1_readEdits, wsX1_readEdits, cX1_readEdits, 3, RX1, some .int)
theorem hd_X1_readEdits : yX1_readEdits.cls = RX1 ∧ yX1_readEdits.cls ≠ "java/lang/invoke/MethodHandle" ∧ yX1_readEdits.cls ≠ "java/lang/invoke/VarHandle" ∧ (parseMethodDescriptor yX1_readEdits.desc).map (fun d => d.parameters.length) = some 0 := by decide +kernel
theorem inX1_readEdits_1 : ∀ w ∈ wsX10, w ∈ wsX1_readEdits := fun w h => List.mem_cons_of_mem _ (List.mem_append_right _ h)
set_option maxHeartbeats 4000000 in
set_option maxRecDepth 100000 in
theorem wX1_readEdits_17 (l : Launch) {X : XT} (hX : XD X) (g : Nat) (o : Nat) (hL : L1 o) {r : Int32} {σ' : Mem} : ∀ (n : Nat) (σ : Mem) (x1 : Int32) (x2 : Int32), fX1_readEdits_17 g o n σ x1 x2 = some (r, σ') → WG X l mX1_readEdits (fun _ _ => True) 0 0 (QM X (QI X r σ')) 17 σ [(0, .ref (xad X o)), (1, .int x1), (2, .int x2)] [] := by
  intro n
  induction n with
  | zero => intro σ x1 x2 h; exact nomatch (show (none : Option _) = some _ from h)
  | succ n ih =>
    intro σ x1 x2 h
    rw [fX1_readEdits_17] at h
    refine k_iload_n (q := 2) dX1_readEdits_17 rfl rfl ?_
    refine k_bipush (v := (nI 60)) dX1_readEdits_18 (by decide) ?_
    refine k_icmp_ge (tgt := 66) dX1_readEdits_20 (by decide) h (fun h => ?_) (fun h => ?_)
    · refine k_iload_n (q := 1) dX1_readEdits_66 rfl rfl ?_
      refine k_if_eq (tgt := 74) dX1_readEdits_67 (by decide) h (fun h => ?_) (fun h => ?_)
      · refine k_aload_n (q := 0) dX1_readEdits_74 rfl rfl ?_
        refine kg_1 (v := .int (σ o 6)) hL.1 inX1_readEdits_1 6 (by decide) (List.mem_of_getElem? (i := 2) rfl) rfl dX1_readEdits_75 ?_
        exact k_iret rfl dX1_readEdits_78 h
      · refine k_iconst (v := (nN 1)) dX1_readEdits_70 (by decide) ?_
        refine k_goto (tgt := 78) dX1_readEdits_71 (by decide) ?_
        exact k_iret rfl dX1_readEdits_78 h
    · refine k_iload_n (q := 1) dX1_readEdits_23 rfl rfl ?_
      refine k_if_eq (tgt := 66) dX1_readEdits_24 (by decide) h (fun h => ?_) (fun h => ?_)
      · refine k_iload_n (q := 1) dX1_readEdits_66 rfl rfl ?_
        refine k_if_eq (tgt := 74) dX1_readEdits_67 (by decide) h (fun h => ?_) (fun h => ?_)
        · refine k_aload_n (q := 0) dX1_readEdits_74 rfl rfl ?_
          refine kg_1 (v := .int (σ o 6)) hL.1 inX1_readEdits_1 6 (by decide) (List.mem_of_getElem? (i := 2) rfl) rfl dX1_readEdits_75 ?_
          exact k_iret rfl dX1_readEdits_78 h
        · refine k_iconst (v := (nN 1)) dX1_readEdits_70 (by decide) ?_
          refine k_goto (tgt := 78) dX1_readEdits_71 (by decide) ?_
          exact k_iret rfl dX1_readEdits_78 h
      · refine k_aload_n (q := 0) dX1_readEdits_27 rfl rfl ?_
        refine kg_1 (v := .int (σ o 6)) hL.1 inX1_readEdits_1 6 (by decide) (List.mem_of_getElem? (i := 2) rfl) rfl dX1_readEdits_28 ?_
        refine k_aload_n (q := 0) dX1_readEdits_31 rfl rfl ?_
        refine kg_1 (v := .int (σ o 0)) hL.1 inX1_readEdits_1 0 (by decide) (List.mem_of_getElem? (i := 3) rfl) rfl dX1_readEdits_32 ?_
        refine k_icmp_ge (tgt := 66) dX1_readEdits_35 (by decide) h (fun h => ?_) (fun h => ?_)
        · refine k_iload_n (q := 1) dX1_readEdits_66 rfl rfl ?_
          refine k_if_eq (tgt := 74) dX1_readEdits_67 (by decide) h (fun h => ?_) (fun h => ?_)
          · refine k_aload_n (q := 0) dX1_readEdits_74 rfl rfl ?_
            refine kg_1 (v := .int (σ o 6)) hL.1 inX1_readEdits_1 6 (by decide) (List.mem_of_getElem? (i := 2) rfl) rfl dX1_readEdits_75 ?_
            exact k_iret rfl dX1_readEdits_78 h
          · refine k_iconst (v := (nN 1)) dX1_readEdits_70 (by decide) ?_
            refine k_goto (tgt := 78) dX1_readEdits_71 (by decide) ?_
            exact k_iret rfl dX1_readEdits_78 h
        · refine k_aload_n (q := 0) dX1_readEdits_38 rfl rfl ?_
          refine k_bipush (v := (nI 59)) dX1_readEdits_39 (by decide) ?_
          obtain ⟨r7, σ8, hc6, h⟩ := bnd2_e h
          refine k_cv (q := (RX1, TX1, 8)) (As := [.int (nI 59)]) 1 (cm_X1_readSign l hX g σ o hL (nI 59) hc6) gX1_readEdits_X1_readSign rfl ⟨rfl, rfl⟩ hd_X1_readSign ⟨Nat.le_of_ble_eq_true rfl, Nat.le_of_ble_eq_true rfl⟩ ⟨Nat.le_refl _, Nat.le_refl _⟩ (lay_lt hL.1 (by decide)) (ce_of hL.1) rfl rfl (Nat.le_of_ble_eq_true rfl) rfl dX1_readEdits_41 ?_
          refine k_if_eq (tgt := 58) dX1_readEdits_44 (by decide) h (fun h => ?_) (fun h => ?_)
          · refine k_iconst (v := (nI 0)) dX1_readEdits_58 (by decide) ?_
            refine k_istore_n (lv' := [(1, .int (nI 0)), (0, .ref (xad X o)), (2, .int x2)]) dX1_readEdits_59 rfl (Nat.le_of_ble_eq_true rfl) rfl ?_
            refine k_iinc (q := 2) (v := (x2 + (nI 1))) (lv' := [(2, .int (x2 + (nI 1))), (1, .int (nI 0)), (0, .ref (xad X o))]) dX1_readEdits_60 rfl rfl (Nat.le_of_ble_eq_true rfl) rfl ?_
            refine k_goto (tgt := 17) dX1_readEdits_63 (by decide) ?_
            refine k_sub (ks' := [2, 1, 0]) rfl ?_
            exact ih σ8 (nI 0) (x2 + (nI 1)) h
          · refine k_aload_n (q := 0) dX1_readEdits_47 rfl rfl ?_
            obtain ⟨r10, σ11, hc9, h⟩ := bnd2_e h
            refine k_cv (q := (RX1, TX1, 8)) (As := []) 0 (cm_X1_readEdit l hX g σ8 o hL hc9) gX1_readEdits_X1_readEdit rfl ⟨rfl, rfl⟩ hd_X1_readEdit ⟨Nat.le_of_ble_eq_true rfl, Nat.le_of_ble_eq_true rfl⟩ ⟨Nat.le_refl _, Nat.le_refl _⟩ (lay_lt hL.1 (by decide)) (ce_of hL.1) rfl rfl (Nat.le_of_ble_eq_true rfl) rfl dX1_readEdits_48 ?_
            refine k_if_eq (tgt := 58) dX1_readEdits_51 (by decide) h (fun h => ?_) (fun h => ?_)
            · refine k_iconst (v := (nI 0)) dX1_readEdits_58 (by decide) ?_
              refine k_istore_n (lv' := [(1, .int (nI 0)), (0, .ref (xad X o)), (2, .int x2)]) dX1_readEdits_59 rfl (Nat.le_of_ble_eq_true rfl) rfl ?_
              refine k_iinc (q := 2) (v := (x2 + (nI 1))) (lv' := [(2, .int (x2 + (nI 1))), (1, .int (nI 0)), (0, .ref (xad X o))]) dX1_readEdits_60 rfl rfl (Nat.le_of_ble_eq_true rfl) rfl ?_
              refine k_goto (tgt := 17) dX1_readEdits_63 (by decide) ?_
              refine k_sub (ks' := [2, 1, 0]) rfl ?_
              exact ih σ11 (nI 0) (x2 + (nI 1)) h
            · refine k_iconst (v := (nI 1)) dX1_readEdits_54 (by decide) ?_
              refine k_goto (tgt := 59) dX1_readEdits_55 (by decide) ?_
              refine k_istore_n (lv' := [(1, .int (nI 1)), (0, .ref (xad X o)), (2, .int x2)]) dX1_readEdits_59 rfl (Nat.le_of_ble_eq_true rfl) rfl ?_
              refine k_iinc (q := 2) (v := (x2 + (nI 1))) (lv' := [(2, .int (x2 + (nI 1))), (1, .int (nI 1)), (0, .ref (xad X o))]) dX1_readEdits_60 rfl rfl (Nat.le_of_ble_eq_true rfl) rfl ?_
              refine k_goto (tgt := 17) dX1_readEdits_63 (by decide) ?_
              refine k_sub (ks' := [2, 1, 0]) rfl ?_
              exact ih σ11 (nI 1) (x2 + (nI 1)) h
set_option maxHeartbeats 4000000 in
set_option maxRecDepth 100000 in
theorem cm_X1_readEdits (l : Launch) {X : XT} (hX : XD X) (g : Nat) (σ : Mem) (o : Nat) (hL : L1 o) {r : Int32} {σ' : Mem} (h : fX1_readEdits g σ o = some (r, σ')) : Met l yX1_readEdits wsX1_readEdits rmX1_readEdits (va_Pc [.ref (xad X o)] (WW X σ)) (QI X r σ') 0 0 (XA X) := by
  refine met_x (M := mX1_readEdits) (lv := [(0, .ref (xad X o))]) hX (by decide) rfl rfl (Nat.le_of_ble_eq_true rfl) rfl ?_
  unfold fX1_readEdits at h
  refine k_aload_n (q := 0) dX1_readEdits_0 rfl rfl ?_
  refine k_iconst (v := (nI 0)) dX1_readEdits_1 (by decide) ?_
  refine kp_1_1 hL.1 inX1_readEdits_1 (List.mem_of_getElem? (i := 1) rfl) dX1_readEdits_2 h (fun σ1 h => ?_)
  refine k_aload_n (q := 0) dX1_readEdits_5 rfl rfl ?_
  refine k_iconst (v := (nI 0)) dX1_readEdits_6 (by decide) ?_
  refine kp_1_6 hL.1 inX1_readEdits_1 (List.mem_of_getElem? (i := 2) rfl) dX1_readEdits_7 h (fun σ2 h => ?_)
  refine k_aload_n (q := 0) dX1_readEdits_10 rfl rfl ?_
  obtain ⟨r4, σ5, hc3, h⟩ := bnd2_e h
  refine k_cv (q := (RX1, TX1, 8)) (As := []) 0 (cm_X1_readEdit l hX g σ2 o hL hc3) gX1_readEdits_X1_readEdit rfl ⟨rfl, rfl⟩ hd_X1_readEdit ⟨Nat.le_of_ble_eq_true rfl, Nat.le_of_ble_eq_true rfl⟩ ⟨Nat.le_refl _, Nat.le_refl _⟩ (lay_lt hL.1 (by decide)) (ce_of hL.1) rfl rfl (Nat.le_of_ble_eq_true rfl) rfl dX1_readEdits_11 ?_
  refine k_istore_n (lv' := [(1, .int r4), (0, .ref (xad X o))]) dX1_readEdits_14 rfl (Nat.le_of_ble_eq_true rfl) rfl ?_
  refine k_iconst (v := (nI 0)) dX1_readEdits_15 (by decide) ?_
  refine k_istore_n (lv' := [(2, .int (nI 0)), (1, .int r4), (0, .ref (xad X o))]) dX1_readEdits_16 rfl (Nat.le_of_ble_eq_true rfl) rfl ?_
  refine k_sub (ks' := [2, 1, 0]) rfl ?_
  exact wX1_readEdits_17 l hX g o hL g σ5 r4 (nI 0) h
abbrev rmX2_copyFrom : Room := { frames := 2, cells := 0, slots := 0, locals := 47 }
abbrev mX2_copyFrom : MT := (rmX2_copyFrom, wsX2_copyFrom, cX2_copyFrom, 3, RX2, none)
theorem hd_X2_copyFrom : yX2_copyFrom.cls = RX2 ∧ yX2_copyFrom.cls ≠ "java/lang/invoke/MethodHandle" ∧ yX2_copyFrom.cls ≠ "java/lang/invoke/VarHandle" ∧ (parseMethodDescriptor yX2_copyFrom.desc).map (fun d => d.parameters.length) = some 1 := by decide +kernel
theorem inX2_copyFrom_2 : ∀ w ∈ wsX20, w ∈ wsX2_copyFrom := fun w h => List.mem_cons_of_mem _ (List.mem_append_left _ (List.mem_append_left _ (List.mem_append_left _ (List.mem_append_left _ (List.mem_append_left _ (List.mem_append_right _ h))))))
theorem inX2_copyFrom_0 : ∀ w ∈ wsX00, w ∈ wsX2_copyFrom := fun w h => List.mem_cons_of_mem _ (List.mem_append_left _ (List.mem_append_left _ (List.mem_append_left _ (List.mem_append_left _ (List.mem_append_right _ h)))))
theorem inX2_copyFrom_6 : ∀ w ∈ wsX60, w ∈ wsX2_copyFrom := fun w h => List.mem_cons_of_mem _ (List.mem_append_left _ (List.mem_append_left _ (List.mem_append_left _ (List.mem_append_right _ h))))
theorem inX2_copyFrom_4 : ∀ w ∈ wsX40, w ∈ wsX2_copyFrom := fun w h => List.mem_cons_of_mem _ (List.mem_append_left _ (List.mem_append_left _ (List.mem_append_right _ h)))
theorem inX2_copyFrom_7 : ∀ w ∈ wsX70, w ∈ wsX2_copyFrom := fun w h => List.mem_cons_of_mem _ (List.mem_append_left _ (List.mem_append_right _ h))
theorem inX2_copyFrom_5 : ∀ w ∈ wsX50, w ∈ wsX2_copyFrom := fun w h => List.mem_cons_of_mem _ (List.mem_append_right _ h)
set_option maxHeartbeats 4000000 in
set_option maxRecDepth 100000 in
theorem wX2_copyFrom_90 (l : Launch) {X : XT} (hX : XD X) (g : Nat) (o : Nat) (hL : L2 o) (o1 : Nat) (hLo1 : L2 o1) {σ' : Mem} : ∀ (n : Nat) (σ : Mem) (x2 : Int32), fX2_copyFrom_90 g o o1 n σ x2 = some σ' → WG X l mX2_copyFrom (fun _ _ => True) 0 0 (QM X (QV X σ')) 90 σ [(0, .ref (xad X o)), (1, .ref (xad X o1)), (2, .int x2)] [] := by
  intro n
  induction n with
  | zero => intro σ x2 h; exact nomatch (show (none : Option _) = some _ from h)
  | succ n ih =>
    intro σ x2 h
    rw [fX2_copyFrom_90] at h
    refine k_iload_n (q := 2) dX2_copyFrom_90 rfl rfl ?_
    refine k_aload_n (q := 0) dX2_copyFrom_91 rfl rfl ?_
    refine kg_2 (v := .int (σ o 4)) hL.1 inX2_copyFrom_2 4 (by decide) (List.mem_of_getElem? (i := 6) rfl) rfl dX2_copyFrom_92 ?_
    refine k_icmp_ge (tgt := 125) dX2_copyFrom_95 (by decide) h (fun h => ?_) (fun h => ?_)
    · exact k_vret rfl dX2_copyFrom_125 h
    · refine k_iload_n (q := 2) dX2_copyFrom_98 rfl rfl ?_
      refine k_bipush (v := (nI 10)) dX2_copyFrom_99 (by decide) ?_
      refine k_icmp_ge (tgt := 125) dX2_copyFrom_101 (by decide) h (fun h => ?_) (fun h => ?_)
      · exact k_vret rfl dX2_copyFrom_125 h
      · refine k_aload_n (q := 0) dX2_copyFrom_104 rfl rfl ?_
        refine kg_2 (v := .ref (xad X (o + 17))) hL.1 inX2_copyFrom_2 2 (by decide) (List.mem_of_getElem? (i := 10) rfl) rfl dX2_copyFrom_105 ?_
        refine k_iload_n (q := 2) dX2_copyFrom_108 rfl rfl ?_
        refine k_aaldS (n := 10) hL.2.2.2.1 dX2_copyFrom_109 h (fun q13 j14 hj15 eq13 h => ?_)
        have hL16 : L5 q13 := by rw [eq13]; exact hL.2.2.2.2.2 j14 hj15
        clear eq13
        refine k_aload_n (q := 1) dX2_copyFrom_110 rfl rfl ?_
        refine kg_2 (v := .ref (xad X (o1 + 17))) hLo1.1 inX2_copyFrom_2 2 (by decide) (List.mem_of_getElem? (i := 10) rfl) rfl dX2_copyFrom_111 ?_
        refine k_iload_n (q := 2) dX2_copyFrom_114 rfl rfl ?_
        refine k_aaldS (n := 10) hLo1.2.2.2.1 dX2_copyFrom_115 h (fun q17 j18 hj19 eq17 h => ?_)
        have hL20 : L5 q17 := by rw [eq17]; exact hLo1.2.2.2.2.2 j18 hj19
        clear eq17
        obtain ⟨σ22, hc21, h⟩ := bnd_e h
        refine k_cvv (q := (RX5, TX5, 2)) (As := [.ref (xad X q17)]) 1 (cm_X5_copyFrom l hX g σ q13 hL16 q17 hL20 hc21) gX2_copyFrom_X5_copyFrom rfl ⟨rfl, rfl⟩ hd_X5_copyFrom ⟨Nat.le_of_ble_eq_true rfl, Nat.le_of_ble_eq_true rfl⟩ ⟨Nat.le_refl _, Nat.le_refl _⟩ (lay_lt hL16.1 (by decide)) (ce_of hL16.1) rfl rfl (Nat.le_of_ble_eq_true rfl) rfl dX2_copyFrom_116 ?_
        refine k_iinc (q := 2) (v := (x2 + (nI 1))) (lv' := [(2, .int (x2 + (nI 1))), (0, .ref (xad X o)), (1, .ref (xad X o1))]) dX2_copyFrom_119 rfl rfl (Nat.le_of_ble_eq_true rfl) rfl ?_
        refine k_goto (tgt := 90) dX2_copyFrom_122 (by decide) ?_
        refine k_sub (ks' := [1, 2, 0]) rfl ?_
        exact ih σ22 (x2 + (nI 1)) h
set_option maxHeartbeats 4000000 in
set_option maxRecDepth 100000 in
theorem cm_X2_copyFrom (l : Launch) {X : XT} (hX : XD X) (g : Nat) (σ : Mem) (o : Nat) (hL : L2 o) (o1 : Nat) (hLo1 : L2 o1) {σ' : Mem} (h : fX2_copyFrom g σ o o1 = some σ') : Met l yX2_copyFrom wsX2_copyFrom rmX2_copyFrom (va_Pc [.ref (xad X o), .ref (xad X o1)] (WW X σ)) (QV X σ') 0 0 (XA X) := by
  refine met_x (M := mX2_copyFrom) (lv := [(0, .ref (xad X o)), (1, .ref (xad X o1))]) hX (by decide) rfl rfl (Nat.le_of_ble_eq_true rfl) rfl ?_
  unfold fX2_copyFrom at h
  refine k_aload_n (q := 0) dX2_copyFrom_0 rfl rfl ?_
  refine kg_2 (v := .ref (xad X (o + 1))) hL.1 inX2_copyFrom_2 0 (by decide) (List.mem_of_getElem? (i := 1) rfl) rfl dX2_copyFrom_1 ?_
  refine k_aload_n (q := 1) dX2_copyFrom_4 rfl rfl ?_
  refine kg_2 (v := .ref (xad X (o1 + 1))) hLo1.1 inX2_copyFrom_2 0 (by decide) (List.mem_of_getElem? (i := 1) rfl) rfl dX2_copyFrom_5 ?_
  obtain ⟨σ2, hc1, h⟩ := bnd_e h
  refine k_cvv (q := (RX6, TX6, 5)) (As := [.ref (xad X (o1 + 1))]) 1 (cm_X6_copyFrom l hX g σ (o + 1) hL.2.1 (o1 + 1) hLo1.2.1 hc1) gX2_copyFrom_X6_copyFrom rfl ⟨rfl, rfl⟩ hd_X6_copyFrom ⟨Nat.le_of_ble_eq_true rfl, Nat.le_of_ble_eq_true rfl⟩ ⟨Nat.le_refl _, Nat.le_refl _⟩ (lay_lt hL.2.1.1 (by decide)) (ce_of hL.2.1.1) rfl rfl (Nat.le_of_ble_eq_true rfl) rfl dX2_copyFrom_8 ?_
  refine k_aload_n (q := 0) dX2_copyFrom_11 rfl rfl ?_
  refine kg_2 (v := .ref (xad X (o + 6))) hL.1 inX2_copyFrom_2 1 (by decide) (List.mem_of_getElem? (i := 2) rfl) rfl dX2_copyFrom_12 ?_
  refine kg_0 (v := .ref (xad X (o + 7))) hL.2.2.1.1 inX2_copyFrom_0 0 (by decide) (List.mem_of_getElem? (i := 3) rfl) rfl dX2_copyFrom_15 ?_
  refine k_aload_n (q := 1) dX2_copyFrom_18 rfl rfl ?_
  refine kg_2 (v := .ref (xad X (o1 + 6))) hLo1.1 inX2_copyFrom_2 1 (by decide) (List.mem_of_getElem? (i := 2) rfl) rfl dX2_copyFrom_19 ?_
  refine kg_0 (v := .ref (xad X (o1 + 7))) hLo1.2.2.1.1 inX2_copyFrom_0 0 (by decide) (List.mem_of_getElem? (i := 3) rfl) rfl dX2_copyFrom_22 ?_
  obtain ⟨σ4, hc3, h⟩ := bnd_e h
  refine k_cvv (q := (RX4, TX4, 5)) (As := [.ref (xad X (o1 + 7))]) 1 (cm_X4_copyFrom l hX g σ2 (o + 7) hL.2.2.1.2.1 (o1 + 7) hLo1.2.2.1.2.1 hc3) gX2_copyFrom_X4_copyFrom rfl ⟨rfl, rfl⟩ hd_X4_copyFrom ⟨Nat.le_of_ble_eq_true rfl, Nat.le_of_ble_eq_true rfl⟩ ⟨Nat.le_refl _, Nat.le_refl _⟩ (lay_lt hL.2.2.1.2.1.1 (by decide)) (ce_of hL.2.2.1.2.1.1) rfl rfl (Nat.le_of_ble_eq_true rfl) rfl dX2_copyFrom_25 ?_
  refine k_aload_n (q := 0) dX2_copyFrom_28 rfl rfl ?_
  refine kg_2 (v := .ref (xad X (o + 6))) hL.1 inX2_copyFrom_2 1 (by decide) (List.mem_of_getElem? (i := 2) rfl) rfl dX2_copyFrom_29 ?_
  refine kg_0 (v := .ref (xad X (o + 12))) hL.2.2.1.1 inX2_copyFrom_0 1 (by decide) (List.mem_of_getElem? (i := 4) rfl) rfl dX2_copyFrom_32 ?_
  refine k_aload_n (q := 1) dX2_copyFrom_35 rfl rfl ?_
  refine kg_2 (v := .ref (xad X (o1 + 6))) hLo1.1 inX2_copyFrom_2 1 (by decide) (List.mem_of_getElem? (i := 2) rfl) rfl dX2_copyFrom_36 ?_
  refine kg_0 (v := .ref (xad X (o1 + 12))) hLo1.2.2.1.1 inX2_copyFrom_0 1 (by decide) (List.mem_of_getElem? (i := 4) rfl) rfl dX2_copyFrom_39 ?_
  obtain ⟨σ6, hc5, h⟩ := bnd_e h
  refine k_cvv (q := (RX4, TX4, 5)) (As := [.ref (xad X (o1 + 12))]) 1 (cm_X4_copyFrom l hX g σ4 (o + 12) hL.2.2.1.2.2 (o1 + 12) hLo1.2.2.1.2.2 hc5) gX2_copyFrom_X4_copyFrom rfl ⟨rfl, rfl⟩ hd_X4_copyFrom ⟨Nat.le_of_ble_eq_true rfl, Nat.le_of_ble_eq_true rfl⟩ ⟨Nat.le_refl _, Nat.le_refl _⟩ (lay_lt hL.2.2.1.2.2.1 (by decide)) (ce_of hL.2.2.1.2.2.1) rfl rfl (Nat.le_of_ble_eq_true rfl) rfl dX2_copyFrom_42 ?_
  refine k_aload_n (q := 0) dX2_copyFrom_45 rfl rfl ?_
  refine kg_2 (v := .ref (xad X (o + 18))) hL.1 inX2_copyFrom_2 3 (by decide) (List.mem_of_getElem? (i := 5) rfl) rfl dX2_copyFrom_46 ?_
  refine k_aload_n (q := 1) dX2_copyFrom_49 rfl rfl ?_
  refine kg_2 (v := .ref (xad X (o1 + 18))) hLo1.1 inX2_copyFrom_2 3 (by decide) (List.mem_of_getElem? (i := 5) rfl) rfl dX2_copyFrom_50 ?_
  obtain ⟨σ8, hc7, h⟩ := bnd_e h
  refine k_cvv (q := (RX7, TX7, 4)) (As := [.ref (xad X (o1 + 18))]) 1 (cm_X7_copyFrom l hX g σ6 (o + 18) hL.2.2.2.2.1 (o1 + 18) hLo1.2.2.2.2.1 hc7) gX2_copyFrom_X7_copyFrom rfl ⟨rfl, rfl⟩ hd_X7_copyFrom ⟨Nat.le_of_ble_eq_true rfl, Nat.le_of_ble_eq_true rfl⟩ ⟨Nat.le_refl _, Nat.le_refl _⟩ (lay_lt hL.2.2.2.2.1.1 (by decide)) (ce_of hL.2.2.2.2.1.1) rfl rfl (Nat.le_of_ble_eq_true rfl) rfl dX2_copyFrom_53 ?_
  refine k_aload_n (q := 0) dX2_copyFrom_56 rfl rfl ?_
  refine k_aload_n (q := 1) dX2_copyFrom_57 rfl rfl ?_
  refine kg_2 (v := .int (σ8 o1 4)) hLo1.1 inX2_copyFrom_2 4 (by decide) (List.mem_of_getElem? (i := 6) rfl) rfl dX2_copyFrom_58 ?_
  refine kp_2_4 hL.1 inX2_copyFrom_2 (List.mem_of_getElem? (i := 6) rfl) dX2_copyFrom_61 h (fun σ9 h => ?_)
  refine k_aload_n (q := 0) dX2_copyFrom_64 rfl rfl ?_
  refine k_aload_n (q := 1) dX2_copyFrom_65 rfl rfl ?_
  refine kg_2 (v := .int (σ9 o1 5)) hLo1.1 inX2_copyFrom_2 5 (by decide) (List.mem_of_getElem? (i := 7) rfl) rfl dX2_copyFrom_66 ?_
  refine kp_2_5 hL.1 inX2_copyFrom_2 (List.mem_of_getElem? (i := 7) rfl) dX2_copyFrom_69 h (fun σ10 h => ?_)
  refine k_aload_n (q := 0) dX2_copyFrom_72 rfl rfl ?_
  refine k_aload_n (q := 1) dX2_copyFrom_73 rfl rfl ?_
  refine kg_2 (v := .int (σ10 o1 6)) hLo1.1 inX2_copyFrom_2 6 (by decide) (List.mem_of_getElem? (i := 8) rfl) rfl dX2_copyFrom_74 ?_
  refine kp_2_6 hL.1 inX2_copyFrom_2 (List.mem_of_getElem? (i := 8) rfl) dX2_copyFrom_77 h (fun σ11 h => ?_)
  refine k_aload_n (q := 0) dX2_copyFrom_80 rfl rfl ?_
  refine k_aload_n (q := 1) dX2_copyFrom_81 rfl rfl ?_
  refine kg_2 (v := .int (σ11 o1 7)) hLo1.1 inX2_copyFrom_2 7 (by decide) (List.mem_of_getElem? (i := 9) rfl) rfl dX2_copyFrom_82 ?_
  refine kp_2_7 hL.1 inX2_copyFrom_2 (List.mem_of_getElem? (i := 9) rfl) dX2_copyFrom_85 h (fun σ12 h => ?_)
  refine k_iconst (v := (nI 0)) dX2_copyFrom_88 (by decide) ?_
  refine k_istore_n (lv' := [(2, .int (nI 0)), (0, .ref (xad X o)), (1, .ref (xad X o1))]) dX2_copyFrom_89 rfl (Nat.le_of_ble_eq_true rfl) rfl ?_
  refine k_sub (ks' := [1, 2, 0]) rfl ?_
  exact wX2_copyFrom_90 l hX g o hL o1 hLo1 g σ12 (nI 0) h
abbrev rmX2_hasShow : Room := { frames := 0, cells := 0, slots := 0, locals := 0 }
abbrev mX2_hasShow : MT := (rmX2_hasShow, wsX2_hasShow, cX2_hasShow, 2, RX2, some .boolean)
theorem hd_X2_hasShow : yX2_hasShow.cls = RX2 ∧ yX2_hasShow.cls ≠ "java/lang/invoke/MethodHandle" ∧ yX2_hasShow.cls ≠ "java/lang/invoke/VarHandle" ∧ (parseMethodDescriptor yX2_hasShow.desc).map (fun d => d.parameters.length) = some 1 := by decide +kernel
theorem inX2_hasShow_2 : ∀ w ∈ wsX20, w ∈ wsX2_hasShow := fun w h => List.mem_cons_of_mem _ (List.mem_append_right _ h)
set_option maxHeartbeats 4000000 in
set_option maxRecDepth 100000 in
theorem cm_X2_hasShow (l : Launch) {X : XT} (hX : XD X) (g : Nat) (σ : Mem) (o : Nat) (hL : L2 o) (p1 : Int32) {r : Int32} (h : fX2_hasShow g σ o p1 = some r) : Met l yX2_hasShow wsX2_hasShow rmX2_hasShow (va_Pc [.ref (xad X o), .int p1] (WW X σ)) (QI X r σ) 0 0 (XA X) := by
  refine met_x (M := mX2_hasShow) (lv := [(0, .ref (xad X o)), (1, .int p1)]) hX (by decide) rfl rfl (Nat.le_of_ble_eq_true rfl) rfl ?_
  unfold fX2_hasShow at h
  refine k_iload_n (q := 1) dX2_hasShow_0 rfl rfl ?_
  refine k_if_lt (tgt := 16) dX2_hasShow_1 (by decide) h (fun h => ?_) (fun h => ?_)
  · refine k_iconst (v := (nI 0)) dX2_hasShow_16 (by decide) ?_
    exact k_zretR rfl dX2_hasShow_17 rfl h
  · refine k_iload_n (q := 1) dX2_hasShow_4 rfl rfl ?_
    refine k_aload_n (q := 0) dX2_hasShow_5 rfl rfl ?_
    refine kg_2 (v := .int (σ o 4)) hL.1 inX2_hasShow_2 4 (by decide) (List.mem_of_getElem? (i := 1) rfl) rfl dX2_hasShow_6 ?_
    refine k_icmp_ge (tgt := 16) dX2_hasShow_9 (by decide) h (fun h => ?_) (fun h => ?_)
    · refine k_iconst (v := (nI 0)) dX2_hasShow_16 (by decide) ?_
      exact k_zretR rfl dX2_hasShow_17 rfl h
    · refine k_iconst (v := (nI 1)) dX2_hasShow_12 (by decide) ?_
      refine k_goto (tgt := 17) dX2_hasShow_13 (by decide) ?_
      exact k_zretR rfl dX2_hasShow_17 rfl h
abbrev rmX2_dislikes : Room := { frames := 0, cells := 0, slots := 0, locals := 0 }
abbrev mX2_dislikes : MT := (rmX2_dislikes, wsX2_dislikes, cX2_dislikes, 2, RX2, some .boolean)
theorem hd_X2_dislikes : yX2_dislikes.cls = RX2 ∧ yX2_dislikes.cls ≠ "java/lang/invoke/MethodHandle" ∧ yX2_dislikes.cls ≠ "java/lang/invoke/VarHandle" ∧ (parseMethodDescriptor yX2_dislikes.desc).map (fun d => d.parameters.length) = some 1 := by decide +kernel
theorem inX2_dislikes_2 : ∀ w ∈ wsX20, w ∈ wsX2_dislikes := fun w h => List.mem_cons_of_mem _ (List.mem_append_right _ h)
set_option maxHeartbeats 4000000 in
set_option maxRecDepth 100000 in
theorem cm_X2_dislikes (l : Launch) {X : XT} (hX : XD X) (g : Nat) (σ : Mem) (o : Nat) (hL : L2 o) (p1 : Int32) {r : Int32} (h : fX2_dislikes g σ o p1 = some r) : Met l yX2_dislikes wsX2_dislikes rmX2_dislikes (va_Pc [.ref (xad X o), .int p1] (WW X σ)) (QI X r σ) 0 0 (XA X) := by
  refine met_x (M := mX2_dislikes) (lv := [(0, .ref (xad X o)), (1, .int p1)]) hX (by decide) rfl rfl (Nat.le_of_ble_eq_true rfl) rfl ?_
  unfold fX2_dislikes at h
  refine k_aload_n (q := 0) dX2_dislikes_0 rfl rfl ?_
  refine kg_2 (v := .int (σ o 5)) hL.1 inX2_dislikes_2 5 (by decide) (List.mem_of_getElem? (i := 1) rfl) rfl dX2_dislikes_1 ?_
  refine k_iload_n (q := 1) dX2_dislikes_4 rfl rfl ?_
  refine k_ishr dX2_dislikes_5 ?_
  refine k_iconst (v := (nI 1)) dX2_dislikes_6 (by decide) ?_
  refine k_iand dX2_dislikes_7 ?_
  refine k_iconst (v := (nI 1)) dX2_dislikes_8 (by decide) ?_
  refine k_icmp_ne (tgt := 16) dX2_dislikes_9 (by decide) h (fun h => ?_) (fun h => ?_)
  · refine k_iconst (v := (nI 0)) dX2_dislikes_16 (by decide) ?_
    exact k_zretR rfl dX2_dislikes_17 rfl h
  · refine k_iconst (v := (nI 1)) dX2_dislikes_12 (by decide) ?_
    refine k_goto (tgt := 17) dX2_dislikes_13 (by decide) ?_
    exact k_zretR rfl dX2_dislikes_17 rfl h
abbrev rmX2_wind : Room := { frames := 2, cells := 0, slots := 0, locals := 41 }
abbrev mX2_wind : MT := (rmX2_wind, wsX2_wind, cX2_wind, 6, RX2, none)
theorem hd_X2_wind : yX2_wind.cls = RX2 ∧ yX2_wind.cls ≠ "java/lang/invoke/MethodHandle" ∧ yX2_wind.cls ≠ "java/lang/invoke/VarHandle" ∧ (parseMethodDescriptor yX2_wind.desc).map (fun d => d.parameters.length) = some 2 := by decide +kernel
theorem inX2_wind_2 : ∀ w ∈ wsX20, w ∈ wsX2_wind := fun w h => List.mem_cons_of_mem _ (List.mem_append_left _ (List.mem_append_left _ (List.mem_append_left _ (List.mem_append_left _ (List.mem_append_right _ h)))))
theorem inX2_wind_0 : ∀ w ∈ wsX00, w ∈ wsX2_wind := fun w h => List.mem_cons_of_mem _ (List.mem_append_left _ (List.mem_append_left _ (List.mem_append_left _ (List.mem_append_right _ h))))
theorem inX2_wind_4 : ∀ w ∈ wsX40, w ∈ wsX2_wind := fun w h => List.mem_cons_of_mem _ (List.mem_append_left _ (List.mem_append_left _ (List.mem_append_right _ h)))
theorem inX2_wind_5 : ∀ w ∈ wsX50, w ∈ wsX2_wind := fun w h => List.mem_cons_of_mem _ (List.mem_append_left _ (List.mem_append_right _ h))
theorem inX2_wind_6 : ∀ w ∈ wsX60, w ∈ wsX2_wind := fun w h => List.mem_cons_of_mem _ (List.mem_append_right _ h)
set_option maxHeartbeats 4000000 in
set_option maxRecDepth 100000 in
theorem wX2_wind_87 (l : Launch) {X : XT} (hX : XD X) (g : Nat) (o : Nat) (hL : L2 o) (o1 : Nat) (hLo1 : L5 o1) {σ' : Mem} : ∀ (n : Nat) (σ : Mem) (x4 : Int32) (x5 : Int32), fX2_wind_87 g o o1 n σ x4 x5 = some σ' → WG X l mX2_wind (fun _ _ => True) 0 0 (QM X (QV X σ')) 87 σ [(1, .ref (xad X o1)), (4, .int x4), (5, .int x5)] [] := by
  intro n
  induction n with
  | zero => intro σ x4 x5 h; exact nomatch (show (none : Option _) = some _ from h)
  | succ n ih =>
    intro σ x4 x5 h
    rw [fX2_wind_87] at h
    refine k_iload (q := 2) dX2_wind_87 rfl ?_
    refine k_iload (q := 1) dX2_wind_89 rfl ?_
    refine k_icmp_ge (tgt := 106) dX2_wind_91 (by decide) h (fun h => ?_) (fun h => ?_)
    · refine k_aload_n (q := 0) dX2_wind_106 rfl rfl ?_
      refine kg_5 (v := .ref (xad X (o1 + 1))) hLo1.1 inX2_wind_5 0 (by decide) (List.mem_of_getElem? (i := 7) rfl) rfl dX2_wind_107 ?_
      refine k_bipush (v := (nI 7)) dX2_wind_110 (by decide) ?_
      refine k_dup2 dX2_wind_112 rfl rfl ?_
      refine k_iald (n := 8) hLo1.2.1 dX2_wind_113 h (fun h => ?_)
      refine k_iconst (v := (nI 1)) dX2_wind_114 (by decide) ?_
      refine k_iadd dX2_wind_115 ?_
      refine k_iast (n := 8) hLo1.2.1 dX2_wind_116 h (fun σ3 h => ?_)
      exact k_vret rfl dX2_wind_117 h
    · refine k_aload_n (q := 0) dX2_wind_94 rfl rfl ?_
      refine k_bipush (v := (nN 5)) dX2_wind_95 (by decide) ?_
      obtain ⟨σ5, hc4, h⟩ := bnd_e h
      refine k_cvv (q := (RX5, TX5, 2)) (As := [.int (nN 5)]) 1 (cm_X5_addUnit l hX g σ o1 hLo1 (nN 5) hc4) gX2_wind_X5_addUnit rfl ⟨rfl, rfl⟩ hd_X5_addUnit ⟨Nat.le_of_ble_eq_true rfl, Nat.le_of_ble_eq_true rfl⟩ ⟨Nat.le_refl _, Nat.le_refl _⟩ (lay_lt hLo1.1 (by decide)) (ce_of hLo1.1) rfl rfl (Nat.le_of_ble_eq_true rfl) rfl dX2_wind_97 ?_
      refine k_iinc (q := 2) (v := (x5 + (nI 1))) (lv' := [(5, .int (x5 + (nI 1))), (1, .ref (xad X o1)), (4, .int x4)]) dX2_wind_100 rfl rfl (Nat.le_of_ble_eq_true rfl) rfl ?_
      refine k_goto (tgt := 87) dX2_wind_103 (by decide) ?_
      refine k_sub (ks' := [1, 2, 0]) rfl ?_
      exact ih σ5 x4 (x5 + (nI 1)) h
set_option maxHeartbeats 4000000 in
set_option maxRecDepth 100000 in
theorem wX2_wind_16 (l : Launch) {X : XT} (hX : XD X) (g : Nat) (o : Nat) (hL : L2 o) (o1 : Nat) (hLo1 : L5 o1) {σ' : Mem} : ∀ (n : Nat) (σ : Mem) (x2 : Int32) (x4 : Int32), fX2_wind_16 g o o1 n σ x2 x4 = some σ' → WG X l mX2_wind (fun _ _ => True) 0 0 (QM X (QV X σ')) 16 σ [(0, .ref (xad X o)), (1, .ref (xad X o1)), (2, .int x2), (3, .ref (xad X (o + 7))), (4, .int x4)] [] := by
  intro n
  induction n with
  | zero => intro σ x2 x4 h; exact nomatch (show (none : Option _) = some _ from h)
  | succ n ih =>
    intro σ x2 x4 h
    rw [fX2_wind_16] at h
    refine k_iload (q := 4) dX2_wind_16 rfl ?_
    refine k_aload_n (q := 3) dX2_wind_18 rfl rfl ?_
    refine kg_4 (v := .ref (xad X (o + 10))) hL.2.2.1.2.1.1 inX2_wind_4 3 (by decide) (List.mem_of_getElem? (i := 4) rfl) rfl dX2_wind_19 ?_
    refine k_iload_n (q := 2) dX2_wind_22 rfl rfl ?_
    refine k_iald (n := 20) hL.2.2.1.2.1.2.2.2.1 dX2_wind_23 h (fun h => ?_)
    refine k_icmp_gt (tgt := 73) dX2_wind_24 (by decide) h (fun h => ?_) (fun h => ?_)
    · refine k_aload_n (q := 3) dX2_wind_73 rfl rfl ?_
      refine k_iload_n (q := 2) dX2_wind_74 rfl rfl ?_
      obtain ⟨r2, hc1, h⟩ := bnd_e h
      refine k_cv (q := (RX4, TX4, 5)) (As := [.int x2]) 1 (cm_X4_lengthOf l hX g σ (o + 7) hL.2.2.1.2.1 x2 hc1) gX2_wind_X4_lengthOf rfl ⟨rfl, rfl⟩ hd_X4_lengthOf ⟨Nat.le_of_ble_eq_true rfl, Nat.le_of_ble_eq_true rfl⟩ ⟨Nat.le_refl _, Nat.le_refl _⟩ (lay_lt hL.2.2.1.2.1.1 (by decide)) (ce_of hL.2.2.1.2.1.1) rfl rfl (Nat.le_of_ble_eq_true rfl) rfl dX2_wind_75 ?_
      refine k_iconst (v := (nI 3)) dX2_wind_78 (by decide) ?_
      refine k_iadd dX2_wind_79 ?_
      refine k_iconst (v := (nI 4)) dX2_wind_80 (by decide) ?_
      refine k_idiv dX2_wind_81 (by decide) ?_
      refine k_istore (lv' := [(4, .int ((r2 + (nI 3)) / (nI 4))), (0, .ref (xad X o)), (1, .ref (xad X o1)), (2, .int x2), (3, .ref (xad X (o + 7)))]) dX2_wind_82 (Nat.le_of_ble_eq_true rfl) rfl ?_
      refine k_iconst (v := (nI 0)) dX2_wind_84 (by decide) ?_
      refine k_istore (lv' := [(5, .int (nI 0)), (4, .int ((r2 + (nI 3)) / (nI 4))), (0, .ref (xad X o)), (1, .ref (xad X o1)), (2, .int x2), (3, .ref (xad X (o + 7)))]) dX2_wind_85 (Nat.le_of_ble_eq_true rfl) rfl ?_
      refine k_sub (ks' := [3, 1, 0]) rfl ?_
      exact wX2_wind_87 l hX g o hL o1 hLo1 g σ ((r2 + (nI 3)) / (nI 4)) (nI 0) h
    · refine k_aload_n (q := 0) dX2_wind_27 rfl rfl ?_
      refine kg_2 (v := .ref (xad X (o + 1))) hL.1 inX2_wind_2 0 (by decide) (List.mem_of_getElem? (i := 5) rfl) rfl dX2_wind_28 ?_
      refine k_aload_n (q := 3) dX2_wind_31 rfl rfl ?_
      refine kg_4 (v := .ref (xad X (o + 8))) hL.2.2.1.2.1.1 inX2_wind_4 1 (by decide) (List.mem_of_getElem? (i := 6) rfl) rfl dX2_wind_32 ?_
      refine k_iload_n (q := 2) dX2_wind_35 rfl rfl ?_
      refine k_iald (n := 20) hL.2.2.1.2.1.2.1 dX2_wind_36 h (fun h => ?_)
      refine k_iload (q := 4) dX2_wind_37 rfl ?_
      obtain ⟨r7, hc6, h⟩ := bnd_e h
      refine k_csN (host := "HoleReel") (As := [.int (σ (o + 8) x2.toNatClampNeg), .int x4]) 2 (cm_X8_slotOf l hX g σ (σ (o + 8) x2.toNatClampNeg) x4 hc6) gX2_wind_X8_slotOf_n117 rfl ⟨rfl, rfl⟩ (fun _ hN => hN.2.2.1) (List.mem_of_getElem? (i := 9) rfl) (List.mem_of_getElem? (i := 8) rfl) hd_X8_slotOf ⟨Nat.le_of_ble_eq_true rfl, Nat.le_of_ble_eq_true rfl⟩ ⟨Nat.le_refl _, Nat.le_refl _⟩ rfl (Nat.le_of_ble_eq_true rfl) rfl dX2_wind_39 ?_
      obtain ⟨r9, hc8, h⟩ := bnd_e h
      refine k_cv (q := (RX6, TX6, 5)) (As := [.int r7]) 1 (cm_X6_goodHoles l hX g σ (o + 1) hL.2.1 r7 hc8) gX2_wind_X6_goodHoles rfl ⟨rfl, rfl⟩ hd_X6_goodHoles ⟨Nat.le_of_ble_eq_true rfl, Nat.le_of_ble_eq_true rfl⟩ ⟨Nat.le_refl _, Nat.le_refl _⟩ (lay_lt hL.2.1.1 (by decide)) (ce_of hL.2.1.1) rfl rfl (Nat.le_of_ble_eq_true rfl) rfl dX2_wind_42 ?_
      refine k_istore (lv' := [(5, .int r9), (0, .ref (xad X o)), (1, .ref (xad X o1)), (2, .int x2), (3, .ref (xad X (o + 7))), (4, .int x4)]) dX2_wind_45 (Nat.le_of_ble_eq_true rfl) rfl ?_
      refine k_aload_n (q := 2) dX2_wind_47 rfl rfl ?_
      refine k_iload (q := 0) dX2_wind_48 rfl ?_
      refine k_iload (q := 0) dX2_wind_50 rfl ?_
      refine k_iconst (v := (nI 2)) dX2_wind_52 (by decide) ?_
      refine k_idiv dX2_wind_53 (by decide) ?_
      obtain ⟨σ11, hc10, h⟩ := bnd_e h
      refine k_cvv (q := (RX5, TX5, 2)) (As := [.int r9, .int (r9 / (nI 2))]) 2 (cm_X5_countHoles l hX g σ o1 hLo1 r9 (r9 / (nI 2)) hc10) gX2_wind_X5_countHoles rfl ⟨rfl, rfl⟩ hd_X5_countHoles ⟨Nat.le_of_ble_eq_true rfl, Nat.le_of_ble_eq_true rfl⟩ ⟨Nat.le_refl _, Nat.le_refl _⟩ (lay_lt hLo1.1 (by decide)) (ce_of hLo1.1) rfl rfl (Nat.le_of_ble_eq_true rfl) rfl dX2_wind_54 ?_
      refine k_aload_n (q := 2) dX2_wind_57 rfl rfl ?_
      refine kg_5 (v := .ref (xad X (o1 + 1))) hLo1.1 inX2_wind_5 0 (by decide) (List.mem_of_getElem? (i := 7) rfl) rfl dX2_wind_58 ?_
      refine k_iconst (v := (nI 3)) dX2_wind_61 (by decide) ?_
      refine k_dup2 dX2_wind_62 rfl rfl ?_
      refine k_iald (n := 8) hLo1.2.1 dX2_wind_63 h (fun h => ?_)
      refine k_iconst (v := (nI 1)) dX2_wind_64 (by decide) ?_
      refine k_iadd dX2_wind_65 ?_
      refine k_iast (n := 8) hLo1.2.1 dX2_wind_66 h (fun σ12 h => ?_)
      refine k_iinc (q := 5) (v := (x4 + (nI 1))) (lv' := [(4, .int (x4 + (nI 1))), (5, .int r9), (0, .ref (xad X o)), (1, .ref (xad X o1)), (2, .int x2), (3, .ref (xad X (o + 7)))]) dX2_wind_67 rfl rfl (Nat.le_of_ble_eq_true rfl) rfl ?_
      refine k_goto (tgt := 16) dX2_wind_70 (by decide) ?_
      refine k_sub (ks' := [2, 3, 4, 5, 0]) rfl ?_
      exact ih σ12 x2 (x4 + (nI 1)) h
set_option maxHeartbeats 4000000 in
set_option maxRecDepth 100000 in
theorem cm_X2_wind (l : Launch) {X : XT} (hX : XD X) (g : Nat) (σ : Mem) (o : Nat) (hL : L2 o) (o1 : Nat) (hLo1 : L5 o1) (p2 : Int32) {σ' : Mem} (h : fX2_wind g σ o o1 p2 = some σ') : Met l yX2_wind wsX2_wind rmX2_wind (va_Pc [.ref (xad X o), .ref (xad X o1), .int p2] (WW X σ)) (QV X σ') 0 0 (XA X) := by
  refine met_x (M := mX2_wind) (lv := [(0, .ref (xad X o)), (1, .ref (xad X o1)), (2, .int p2)]) hX (by decide) rfl rfl (Nat.le_of_ble_eq_true rfl) rfl ?_
  unfold fX2_wind at h
  refine k_aload_n (q := 0) dX2_wind_0 rfl rfl ?_
  refine kg_2 (v := .ref (xad X (o + 6))) hL.1 inX2_wind_2 1 (by decide) (List.mem_of_getElem? (i := 1) rfl) rfl dX2_wind_1 ?_
  refine kg_0 (v := .ref (xad X (o + 7))) hL.2.2.1.1 inX2_wind_0 0 (by decide) (List.mem_of_getElem? (i := 2) rfl) rfl dX2_wind_4 ?_
  refine k_astore_n (lv' := [(3, .ref (xad X (o + 7))), (0, .ref (xad X o)), (1, .ref (xad X o1)), (2, .int p2)]) dX2_wind_7 rfl (Nat.le_of_ble_eq_true rfl) rfl ?_
  refine k_aload_n (q := 0) dX2_wind_8 rfl rfl ?_
  refine kg_4 (v := .ref (xad X (o + 9))) hL.2.2.1.2.1.1 inX2_wind_4 2 (by decide) (List.mem_of_getElem? (i := 3) rfl) rfl dX2_wind_9 ?_
  refine k_iload_n (q := 3) dX2_wind_12 rfl rfl ?_
  refine k_iald (n := 20) hL.2.2.1.2.1.2.2.1 dX2_wind_13 h (fun h => ?_)
  refine k_istore (lv' := [(4, .int (σ (o + 9) p2.toNatClampNeg)), (3, .ref (xad X (o + 7))), (0, .ref (xad X o)), (1, .ref (xad X o1)), (2, .int p2)]) dX2_wind_14 (Nat.le_of_ble_eq_true rfl) rfl ?_
  refine k_sub (ks' := [2, 3, 4, 1, 0]) rfl ?_
  exact wX2_wind_16 l hX g o hL o1 hLo1 g σ p2 (σ (o + 9) p2.toNatClampNeg) h
abbrev rmX2_play : Room := { frames := 2, cells := 0, slots := 0, locals := 41 }
abbrev mX2_play : MT := (rmX2_play, wsX2_play, cX2_play, 8, RX2, none)
theorem hd_X2_play : yX2_play.cls = RX2 ∧ yX2_play.cls ≠ "java/lang/invoke/MethodHandle" ∧ yX2_play.cls ≠ "java/lang/invoke/VarHandle" ∧ (parseMethodDescriptor yX2_play.desc).map (fun d => d.parameters.length) = some 2 := by decide +kernel
theorem inX2_play_2 : ∀ w ∈ wsX20, w ∈ wsX2_play := fun w h => List.mem_cons_of_mem _ (List.mem_append_left _ (List.mem_append_left _ (List.mem_append_left _ (List.mem_append_left _ (List.mem_append_right _ h)))))
theorem inX2_play_0 : ∀ w ∈ wsX00, w ∈ wsX2_play := fun w h => List.mem_cons_of_mem _ (List.mem_append_left _ (List.mem_append_left _ (List.mem_append_left _ (List.mem_append_right _ h))))
theorem inX2_play_4 : ∀ w ∈ wsX40, w ∈ wsX2_play := fun w h => List.mem_cons_of_mem _ (List.mem_append_left _ (List.mem_append_left _ (List.mem_append_right _ h)))
theorem inX2_play_5 : ∀ w ∈ wsX50, w ∈ wsX2_play := fun w h => List.mem_cons_of_mem _ (List.mem_append_left _ (List.mem_append_right _ h))
theorem inX2_play_6 : ∀ w ∈ wsX60, w ∈ wsX2_play := fun w h => List.mem_cons_of_mem _ (List.mem_append_right _ h)
set_option maxHeartbeats 4000000 in
set_option maxRecDepth 100000 in
theorem wX2_play_24 (l : Launch) {X : XT} (hX : XD X) (g : Nat) (o : Nat) (hL : L2 o) (o1 : Nat) (hLo1 : L5 o1) {σ' : Mem} : ∀ (n : Nat) (σ : Mem) (x2 : Int32) (x4 : Int32) (x5 : Int32), fX2_play_24 g o o1 n σ x2 x4 x5 = some σ' → WG X l mX2_play (fun _ _ => True) 0 0 (QM X (QV X σ')) 24 σ [(0, .ref (xad X o)), (1, .ref (xad X o1)), (2, .int x2), (3, .ref (xad X (o + 7))), (4, .int x4), (5, .int x5)] [] := by
  intro n
  induction n with
  | zero => intro σ x2 x4 x5 h; exact nomatch (show (none : Option _) = some _ from h)
  | succ n ih =>
    intro σ x2 x4 x5 h
    rw [fX2_play_24] at h
    refine k_iload (q := 5) dX2_play_24 rfl ?_
    refine k_aload_n (q := 3) dX2_play_26 rfl rfl ?_
    refine kg_4 (v := .ref (xad X (o + 10))) hL.2.2.1.2.1.1 inX2_play_4 3 (by decide) (List.mem_of_getElem? (i := 5) rfl) rfl dX2_play_27 ?_
    refine k_iload_n (q := 2) dX2_play_30 rfl rfl ?_
    refine k_iald (n := 20) hL.2.2.1.2.1.2.2.2.1 dX2_play_31 h (fun h => ?_)
    refine k_icmp_gt (tgt := 118) dX2_play_32 (by decide) h (fun h => ?_) (fun h => ?_)
    · exact k_vret rfl dX2_play_118 h
    · refine k_aload_n (q := 0) dX2_play_35 rfl rfl ?_
      refine kg_2 (v := .ref (xad X (o + 1))) hL.1 inX2_play_2 0 (by decide) (List.mem_of_getElem? (i := 6) rfl) rfl dX2_play_36 ?_
      refine k_iload (q := 4) dX2_play_39 rfl ?_
      refine k_iload (q := 5) dX2_play_41 rfl ?_
      obtain ⟨r2, hc1, h⟩ := bnd_e h
      refine k_csN (host := "HoleReel") (As := [.int x4, .int x5]) 2 (cm_X8_slotOf l hX g σ x4 x5 hc1) gX2_play_X8_slotOf_n117 rfl ⟨rfl, rfl⟩ (fun _ hN => hN.2.2.1) (List.mem_of_getElem? (i := 9) rfl) (List.mem_of_getElem? (i := 8) rfl) hd_X8_slotOf ⟨Nat.le_of_ble_eq_true rfl, Nat.le_of_ble_eq_true rfl⟩ ⟨Nat.le_refl _, Nat.le_refl _⟩ rfl (Nat.le_of_ble_eq_true rfl) rfl dX2_play_43 ?_
      obtain ⟨r4, hc3, h⟩ := bnd_e h
      refine k_cv (q := (RX6, TX6, 5)) (As := [.int r2]) 1 (cm_X6_goodHoles l hX g σ (o + 1) hL.2.1 r2 hc3) gX2_play_X6_goodHoles rfl ⟨rfl, rfl⟩ hd_X6_goodHoles ⟨Nat.le_of_ble_eq_true rfl, Nat.le_of_ble_eq_true rfl⟩ ⟨Nat.le_refl _, Nat.le_refl _⟩ (lay_lt hL.2.1.1 (by decide)) (ce_of hL.2.1.1) rfl rfl (Nat.le_of_ble_eq_true rfl) rfl dX2_play_46 ?_
      refine k_istore (lv' := [(6, .int r4), (0, .ref (xad X o)), (1, .ref (xad X o1)), (2, .int x2), (3, .ref (xad X (o + 7))), (4, .int x4), (5, .int x5)]) dX2_play_49 (Nat.le_of_ble_eq_true rfl) rfl ?_
      refine k_iload (q := 0) dX2_play_51 rfl ?_
      refine k_iconst (v := (nI 2)) dX2_play_53 (by decide) ?_
      have key : WG X l mX2_play (fun _ _ => True) 0 0 (QM X (QV X σ')) 62 σ [(6, .int r4), (0, .ref (xad X o)), (1, .ref (xad X o1)), (2, .int x2), (3, .ref (xad X (o + 7))), (4, .int x4), (5, .int x5)] [.int (if r4 < (nI 2) then (nI 0) else (nI 1))] := by
        refine k_istore (lv' := [(7, .int (if r4 < (nI 2) then (nI 0) else (nI 1))), (6, .int r4), (0, .ref (xad X o)), (1, .ref (xad X o1)), (2, .int x2), (3, .ref (xad X (o + 7))), (4, .int x4), (5, .int x5)]) dX2_play_62 (Nat.le_of_ble_eq_true rfl) rfl ?_
        refine k_aload_n (q := 3) dX2_play_64 rfl rfl ?_
        refine k_iload (q := 1) dX2_play_65 rfl ?_
        refine k_iload (q := 1) dX2_play_67 rfl ?_
        obtain ⟨σ6, hc5, h⟩ := bnd_e h
        refine k_cvv (q := (RX5, TX5, 2)) (As := [.int r4, .int r4]) 2 (cm_X5_countHoles l hX g σ o1 hLo1 r4 r4 hc5) gX2_play_X5_countHoles rfl ⟨rfl, rfl⟩ hd_X5_countHoles ⟨Nat.le_of_ble_eq_true rfl, Nat.le_of_ble_eq_true rfl⟩ ⟨Nat.le_refl _, Nat.le_refl _⟩ (lay_lt hLo1.1 (by decide)) (ce_of hLo1.1) rfl rfl (Nat.le_of_ble_eq_true rfl) rfl dX2_play_69 ?_
        refine k_aload_n (q := 3) dX2_play_72 rfl rfl ?_
        refine kg_5 (v := .ref (xad X (o1 + 1))) hLo1.1 inX2_play_5 0 (by decide) (List.mem_of_getElem? (i := 7) rfl) rfl dX2_play_73 ?_
        refine k_iload (q := 0) dX2_play_76 rfl ?_
        have key : WG X l mX2_play (fun _ _ => True) 0 0 (QM X (QV X σ')) 86 σ6 [(7, .int (if r4 < (nI 2) then (nI 0) else (nI 1))), (6, .int r4), (0, .ref (xad X o)), (1, .ref (xad X o1)), (2, .int x2), (3, .ref (xad X (o + 7))), (4, .int x4), (5, .int x5)] [.int (if (if r4 < (nI 2) then (nI 0) else (nI 1)) = 0 then (nI 2) else (nI 1)), .ref (xad X (o1 + 1))] := by
          refine k_dup2 dX2_play_86 rfl rfl ?_
          refine k_iald (n := 8) hLo1.2.1 dX2_play_87 h (fun h => ?_)
          refine k_iconst (v := (nI 1)) dX2_play_88 (by decide) ?_
          refine k_iadd dX2_play_89 ?_
          refine k_iast (n := 8) hLo1.2.1 dX2_play_90 h (fun σ7 h => ?_)
          refine k_aload_n (q := 3) dX2_play_91 rfl rfl ?_
          refine k_iload (q := 0) dX2_play_92 rfl ?_
          refine k_if_eq (tgt := 107) dX2_play_94 (by decide) h (fun h => ?_) (fun h => ?_)
          · refine k_bipush (v := (nN 5)) dX2_play_107 (by decide) ?_
            obtain ⟨σ9, hc8, h⟩ := bnd_e h
            refine k_cvv (q := (RX5, TX5, 2)) (As := [.int (nN 5)]) 1 (cm_X5_addUnit l hX g σ7 o1 hLo1 (nN 5) hc8) gX2_play_X5_addUnit rfl ⟨rfl, rfl⟩ hd_X5_addUnit ⟨Nat.le_of_ble_eq_true rfl, Nat.le_of_ble_eq_true rfl⟩ ⟨Nat.le_refl _, Nat.le_refl _⟩ (lay_lt hLo1.1 (by decide)) (ce_of hLo1.1) rfl rfl (Nat.le_of_ble_eq_true rfl) rfl dX2_play_109 ?_
            refine k_iinc (q := 7) (v := (x5 + (nI 1))) (lv' := [(5, .int (x5 + (nI 1))), (7, .int (if r4 < (nI 2) then (nI 0) else (nI 1))), (6, .int r4), (0, .ref (xad X o)), (1, .ref (xad X o1)), (2, .int x2), (3, .ref (xad X (o + 7))), (4, .int x4)]) dX2_play_112 rfl rfl (Nat.le_of_ble_eq_true rfl) rfl ?_
            refine k_goto (tgt := 24) dX2_play_115 (by decide) ?_
            refine k_sub (ks' := [3, 4, 5, 6, 7, 0]) rfl ?_
            exact ih σ9 x2 x4 (x5 + (nI 1)) h
          · refine k_iload (q := 6) dX2_play_97 rfl ?_
            refine k_iload (q := 7) dX2_play_99 rfl ?_
            obtain ⟨r11, hc10, h⟩ := bnd_e h
            refine k_csN (host := "HoleReel") (As := [.int x4, .int x5]) 2 (cm_X8_codeOf l hX g σ7 x4 x5 hc10) gX2_play_X8_codeOf_n135 rfl ⟨rfl, rfl⟩ (fun _ hN => hN.2.2.2.1) (List.mem_of_getElem? (i := 9) rfl) (List.mem_of_getElem? (i := 30) rfl) hd_X8_codeOf ⟨Nat.le_of_ble_eq_true rfl, Nat.le_of_ble_eq_true rfl⟩ ⟨Nat.le_refl _, Nat.le_refl _⟩ rfl (Nat.le_of_ble_eq_true rfl) rfl dX2_play_101 ?_
            refine k_goto (tgt := 109) dX2_play_104 (by decide) ?_
            obtain ⟨σ13, hc12, h⟩ := bnd_e h
            refine k_cvv (q := (RX5, TX5, 2)) (As := [.int r11]) 1 (cm_X5_addUnit l hX g σ7 o1 hLo1 r11 hc12) gX2_play_X5_addUnit rfl ⟨rfl, rfl⟩ hd_X5_addUnit ⟨Nat.le_of_ble_eq_true rfl, Nat.le_of_ble_eq_true rfl⟩ ⟨Nat.le_refl _, Nat.le_refl _⟩ (lay_lt hLo1.1 (by decide)) (ce_of hLo1.1) rfl rfl (Nat.le_of_ble_eq_true rfl) rfl dX2_play_109 ?_
            refine k_iinc (q := 7) (v := (x5 + (nI 1))) (lv' := [(5, .int (x5 + (nI 1))), (7, .int (if r4 < (nI 2) then (nI 0) else (nI 1))), (6, .int r4), (0, .ref (xad X o)), (1, .ref (xad X o1)), (2, .int x2), (3, .ref (xad X (o + 7))), (4, .int x4)]) dX2_play_112 rfl rfl (Nat.le_of_ble_eq_true rfl) rfl ?_
            refine k_goto (tgt := 24) dX2_play_115 (by decide) ?_
            refine k_sub (ks' := [3, 4, 5, 6, 7, 0]) rfl ?_
            exact ih σ13 x2 x4 (x5 + (nI 1)) h
        refine k_ifc_eq (tgt := 85) dX2_play_78 (by decide) (fun hq => ?_) (fun hq => ?_)
        · rw [if_pos hq] at key
          refine k_iconst (v := (nI 2)) dX2_play_85 (by decide) ?_
          exact key
        · rw [if_neg hq] at key
          refine k_iconst (v := (nI 1)) dX2_play_81 (by decide) ?_
          refine k_goto (tgt := 86) dX2_play_82 (by decide) ?_
          exact key
      refine k_icmpc_lt (tgt := 61) dX2_play_54 (by decide) (fun hq => ?_) (fun hq => ?_)
      · rw [if_pos hq] at key
        refine k_iconst (v := (nI 0)) dX2_play_61 (by decide) ?_
        exact key
      · rw [if_neg hq] at key
        refine k_iconst (v := (nI 1)) dX2_play_57 (by decide) ?_
        refine k_goto (tgt := 62) dX2_play_58 (by decide) ?_
        exact key
set_option maxHeartbeats 4000000 in
set_option maxRecDepth 100000 in
theorem cm_X2_play (l : Launch) {X : XT} (hX : XD X) (g : Nat) (σ : Mem) (o : Nat) (hL : L2 o) (o1 : Nat) (hLo1 : L5 o1) (p2 : Int32) {σ' : Mem} (h : fX2_play g σ o o1 p2 = some σ') : Met l yX2_play wsX2_play rmX2_play (va_Pc [.ref (xad X o), .ref (xad X o1), .int p2] (WW X σ)) (QV X σ') 0 0 (XA X) := by
  refine met_x (M := mX2_play) (lv := [(0, .ref (xad X o)), (1, .ref (xad X o1)), (2, .int p2)]) hX (by decide) rfl rfl (Nat.le_of_ble_eq_true rfl) rfl ?_
  unfold fX2_play at h
  refine k_aload_n (q := 0) dX2_play_0 rfl rfl ?_
  refine kg_2 (v := .ref (xad X (o + 6))) hL.1 inX2_play_2 1 (by decide) (List.mem_of_getElem? (i := 1) rfl) rfl dX2_play_1 ?_
  refine kg_0 (v := .ref (xad X (o + 7))) hL.2.2.1.1 inX2_play_0 0 (by decide) (List.mem_of_getElem? (i := 2) rfl) rfl dX2_play_4 ?_
  refine k_astore_n (lv' := [(3, .ref (xad X (o + 7))), (0, .ref (xad X o)), (1, .ref (xad X o1)), (2, .int p2)]) dX2_play_7 rfl (Nat.le_of_ble_eq_true rfl) rfl ?_
  refine k_aload_n (q := 0) dX2_play_8 rfl rfl ?_
  refine kg_4 (v := .ref (xad X (o + 8))) hL.2.2.1.2.1.1 inX2_play_4 1 (by decide) (List.mem_of_getElem? (i := 3) rfl) rfl dX2_play_9 ?_
  refine k_iload_n (q := 3) dX2_play_12 rfl rfl ?_
  refine k_iald (n := 20) hL.2.2.1.2.1.2.1 dX2_play_13 h (fun h => ?_)
  refine k_istore (lv' := [(4, .int (σ (o + 8) p2.toNatClampNeg)), (3, .ref (xad X (o + 7))), (0, .ref (xad X o)), (1, .ref (xad X o1)), (2, .int p2)]) dX2_play_14 (Nat.le_of_ble_eq_true rfl) rfl ?_
  refine k_aload_n (q := 1) dX2_play_16 rfl rfl ?_
  refine kg_4 (v := .ref (xad X (o + 9))) hL.2.2.1.2.1.1 inX2_play_4 2 (by decide) (List.mem_of_getElem? (i := 4) rfl) rfl dX2_play_17 ?_
  refine k_iload_n (q := 4) dX2_play_20 rfl rfl ?_
  refine k_iald (n := 20) hL.2.2.1.2.1.2.2.1 dX2_play_21 h (fun h => ?_)
  refine k_istore (lv' := [(5, .int (σ (o + 9) p2.toNatClampNeg)), (4, .int (σ (o + 8) p2.toNatClampNeg)), (3, .ref (xad X (o + 7))), (0, .ref (xad X o)), (1, .ref (xad X o1)), (2, .int p2)]) dX2_play_22 (Nat.le_of_ble_eq_true rfl) rfl ?_
  refine k_sub (ks' := [3, 4, 5, 2, 1, 0]) rfl ?_
  exact wX2_play_24 l hX g o hL o1 hLo1 g σ p2 (σ (o + 8) p2.toNatClampNeg) (σ (o + 9) p2.toNatClampNeg) h
abbrev rmX2_project : Room := { frames := 3, cells := 0, slots := 0, locals := 68 }
abbrev mX2_project : MT := (rmX2_project, wsX2_project, cX2_project, 4, RX2, none)
theorem hd_X2_project : yX2_project.cls = RX2 ∧ yX2_project.cls ≠ "java/lang/invoke/MethodHandle" ∧ yX2_project.cls ≠ "java/lang/invoke/VarHandle" ∧ (parseMethodDescriptor yX2_project.desc).map (fun d => d.parameters.length) = some 1 := by decide +kernel
theorem inX2_project_2 : ∀ w ∈ wsX20, w ∈ wsX2_project := fun w h => List.mem_cons_of_mem _ (List.mem_append_left _ (List.mem_append_left _ (List.mem_append_left _ (List.mem_append_left _ (List.mem_append_right _ h)))))
theorem inX2_project_0 : ∀ w ∈ wsX00, w ∈ wsX2_project := fun w h => List.mem_cons_of_mem _ (List.mem_append_left _ (List.mem_append_left _ (List.mem_append_left _ (List.mem_append_right _ h))))
theorem inX2_project_4 : ∀ w ∈ wsX40, w ∈ wsX2_project := fun w h => List.mem_cons_of_mem _ (List.mem_append_left _ (List.mem_append_left _ (List.mem_append_right _ h)))
theorem inX2_project_5 : ∀ w ∈ wsX50, w ∈ wsX2_project := fun w h => List.mem_cons_of_mem _ (List.mem_append_left _ (List.mem_append_right _ h))
theorem inX2_project_6 : ∀ w ∈ wsX60, w ∈ wsX2_project := fun w h => List.mem_cons_of_mem _ (List.mem_append_right _ h)
set_option maxHeartbeats 4000000 in
set_option maxRecDepth 100000 in
theorem wX2_project_11 (l : Launch) {X : XT} (hX : XD X) (g : Nat) (o : Nat) (hL : L2 o) (o1 : Nat) (hLo1 : L5 o1) {σ' : Mem} : ∀ (n : Nat) (σ : Mem) (x2 : Int32) (x3 : Int32), fX2_project_11 g o o1 n σ x2 x3 = some σ' → WG X l mX2_project (fun _ _ => True) 0 0 (QM X (QV X σ')) 11 σ [(0, .ref (xad X o)), (1, .ref (xad X o1)), (2, .int x2), (3, .int x3)] [] := by
  intro n
  induction n with
  | zero => intro σ x2 x3 h; exact nomatch (show (none : Option _) = some _ from h)
  | succ n ih =>
    intro σ x2 x3 h
    rw [fX2_project_11] at h
    refine k_iload_n (q := 3) dX2_project_11 rfl rfl ?_
    refine k_aload_n (q := 0) dX2_project_12 rfl rfl ?_
    refine kg_2 (v := .ref (xad X (o + 6))) hL.1 inX2_project_2 1 (by decide) (List.mem_of_getElem? (i := 2) rfl) rfl dX2_project_13 ?_
    refine kg_0 (v := .ref (xad X (o + 7))) hL.2.2.1.1 inX2_project_0 0 (by decide) (List.mem_of_getElem? (i := 3) rfl) rfl dX2_project_16 ?_
    refine kg_4 (v := .int (σ (o + 7) 0)) hL.2.2.1.2.1.1 inX2_project_4 0 (by decide) (List.mem_of_getElem? (i := 4) rfl) rfl dX2_project_19 ?_
    refine k_icmp_ge (tgt := 112) dX2_project_22 (by decide) h (fun h => ?_) (fun h => ?_)
    · exact k_vret rfl dX2_project_112 h
    · refine k_iload_n (q := 3) dX2_project_25 rfl rfl ?_
      refine k_if_le (tgt := 57) dX2_project_26 (by decide) h (fun h => ?_) (fun h => ?_)
      · refine k_iload_n (q := 2) dX2_project_57 rfl rfl ?_
        refine k_if_le (tgt := 100) dX2_project_58 (by decide) h (fun h => ?_) (fun h => ?_)
        · refine k_aload_n (q := 0) dX2_project_100 rfl rfl ?_
          refine k_aload_n (q := 1) dX2_project_101 rfl rfl ?_
          refine k_iload_n (q := 3) dX2_project_102 rfl rfl ?_
          obtain ⟨σ4, hc3, h⟩ := bnd_e h
          refine k_cvv (q := (RX2, TX2, 8)) (As := [.ref (xad X o1), .int x3]) 2 (cm_X2_play l hX g σ o hL o1 hLo1 x3 hc3) gX2_project_X2_play rfl ⟨rfl, rfl⟩ hd_X2_play ⟨Nat.le_of_ble_eq_true rfl, Nat.le_of_ble_eq_true rfl⟩ ⟨Nat.le_refl _, Nat.le_refl _⟩ (lay_lt hL.1 (by decide)) (ce_of hL.1) rfl rfl (Nat.le_of_ble_eq_true rfl) rfl dX2_project_103 ?_
          refine k_iinc (q := 3) (v := (x3 + (nI 1))) (lv' := [(3, .int (x3 + (nI 1))), (0, .ref (xad X o)), (1, .ref (xad X o1)), (2, .int x2)]) dX2_project_106 rfl rfl (Nat.le_of_ble_eq_true rfl) rfl ?_
          refine k_goto (tgt := 11) dX2_project_109 (by decide) ?_
          refine k_sub (ks' := [1, 2, 3, 0]) rfl ?_
          exact ih σ4 x2 (x3 + (nI 1)) h
        · refine k_aload_n (q := 0) dX2_project_61 rfl rfl ?_
          refine k_aload_n (q := 0) dX2_project_62 rfl rfl ?_
          refine kg_2 (v := .ref (xad X (o + 1))) hL.1 inX2_project_2 0 (by decide) (List.mem_of_getElem? (i := 8) rfl) rfl dX2_project_63 ?_
          refine kg_6 (v := .ref (xad X (o + 2))) hL.2.1.1 inX2_project_6 1 (by decide) (List.mem_of_getElem? (i := 9) rfl) rfl dX2_project_66 ?_
          refine k_aload_n (q := 0) dX2_project_69 rfl rfl ?_
          refine kg_2 (v := .ref (xad X (o + 6))) hL.1 inX2_project_2 1 (by decide) (List.mem_of_getElem? (i := 2) rfl) rfl dX2_project_70 ?_
          refine kg_0 (v := .ref (xad X (o + 7))) hL.2.2.1.1 inX2_project_0 0 (by decide) (List.mem_of_getElem? (i := 3) rfl) rfl dX2_project_73 ?_
          refine kg_4 (v := .ref (xad X (o + 8))) hL.2.2.1.2.1.1 inX2_project_4 1 (by decide) (List.mem_of_getElem? (i := 10) rfl) rfl dX2_project_76 ?_
          refine k_iload_n (q := 3) dX2_project_79 rfl rfl ?_
          refine k_iald (n := 20) hL.2.2.1.2.1.2.1 dX2_project_80 h (fun h => ?_)
          refine k_iald (n := 12) hL.2.1.2.1 dX2_project_81 h (fun h => ?_)
          obtain ⟨r6, hc5, h⟩ := bnd_e h
          refine k_cv (q := (RX2, TX2, 8)) (As := [.int (σ (o + 2) (σ (o + 8) x3.toNatClampNeg).toNatClampNeg)]) 1 (cm_X2_dislikes l hX g σ o hL (σ (o + 2) (σ (o + 8) x3.toNatClampNeg).toNatClampNeg) hc5) gX2_project_X2_dislikes rfl ⟨rfl, rfl⟩ hd_X2_dislikes ⟨Nat.le_of_ble_eq_true rfl, Nat.le_of_ble_eq_true rfl⟩ ⟨Nat.le_refl _, Nat.le_refl _⟩ (lay_lt hL.1 (by decide)) (ce_of hL.1) rfl rfl (Nat.le_of_ble_eq_true rfl) rfl dX2_project_82 ?_
          refine k_if_eq (tgt := 100) dX2_project_85 (by decide) h (fun h => ?_) (fun h => ?_)
          · refine k_aload_n (q := 0) dX2_project_100 rfl rfl ?_
            refine k_aload_n (q := 1) dX2_project_101 rfl rfl ?_
            refine k_iload_n (q := 3) dX2_project_102 rfl rfl ?_
            obtain ⟨σ8, hc7, h⟩ := bnd_e h
            refine k_cvv (q := (RX2, TX2, 8)) (As := [.ref (xad X o1), .int x3]) 2 (cm_X2_play l hX g σ o hL o1 hLo1 x3 hc7) gX2_project_X2_play rfl ⟨rfl, rfl⟩ hd_X2_play ⟨Nat.le_of_ble_eq_true rfl, Nat.le_of_ble_eq_true rfl⟩ ⟨Nat.le_refl _, Nat.le_refl _⟩ (lay_lt hL.1 (by decide)) (ce_of hL.1) rfl rfl (Nat.le_of_ble_eq_true rfl) rfl dX2_project_103 ?_
            refine k_iinc (q := 3) (v := (x3 + (nI 1))) (lv' := [(3, .int (x3 + (nI 1))), (0, .ref (xad X o)), (1, .ref (xad X o1)), (2, .int x2)]) dX2_project_106 rfl rfl (Nat.le_of_ble_eq_true rfl) rfl ?_
            refine k_goto (tgt := 11) dX2_project_109 (by decide) ?_
            refine k_sub (ks' := [1, 2, 3, 0]) rfl ?_
            exact ih σ8 x2 (x3 + (nI 1)) h
          · refine k_iinc (q := 2) (v := (x2 + (nN 1))) (lv' := [(2, .int (x2 + (nN 1))), (0, .ref (xad X o)), (1, .ref (xad X o1)), (3, .int x3)]) dX2_project_88 rfl rfl (Nat.le_of_ble_eq_true rfl) rfl ?_
            refine k_aload_n (q := 1) dX2_project_91 rfl rfl ?_
            refine k_aload_n (q := 2) dX2_project_92 rfl rfl ?_
            refine k_iload_n (q := 3) dX2_project_93 rfl rfl ?_
            obtain ⟨σ10, hc9, h⟩ := bnd_e h
            refine k_cvv (q := (RX2, TX2, 8)) (As := [.ref (xad X o1), .int x3]) 2 (cm_X2_wind l hX g σ o hL o1 hLo1 x3 hc9) gX2_project_X2_wind rfl ⟨rfl, rfl⟩ hd_X2_wind ⟨Nat.le_of_ble_eq_true rfl, Nat.le_of_ble_eq_true rfl⟩ ⟨Nat.le_refl _, Nat.le_refl _⟩ (lay_lt hL.1 (by decide)) (ce_of hL.1) rfl rfl (Nat.le_of_ble_eq_true rfl) rfl dX2_project_94 ?_
            refine k_goto (tgt := 106) dX2_project_97 (by decide) ?_
            refine k_iinc (q := 3) (v := (x3 + (nI 1))) (lv' := [(3, .int (x3 + (nI 1))), (2, .int (x2 + (nN 1))), (0, .ref (xad X o)), (1, .ref (xad X o1))]) dX2_project_106 rfl rfl (Nat.le_of_ble_eq_true rfl) rfl ?_
            refine k_goto (tgt := 11) dX2_project_109 (by decide) ?_
            refine k_sub (ks' := [2, 3, 1, 0]) rfl ?_
            exact ih σ10 (x2 + (nN 1)) (x3 + (nI 1)) h
      · refine k_aload_n (q := 0) dX2_project_29 rfl rfl ?_
        refine kg_2 (v := .ref (xad X (o + 6))) hL.1 inX2_project_2 1 (by decide) (List.mem_of_getElem? (i := 2) rfl) rfl dX2_project_30 ?_
        refine kg_0 (v := .ref (xad X (o + 7))) hL.2.2.1.1 inX2_project_0 0 (by decide) (List.mem_of_getElem? (i := 3) rfl) rfl dX2_project_33 ?_
        refine kg_4 (v := .ref (xad X (o + 11))) hL.2.2.1.2.1.1 inX2_project_4 4 (by decide) (List.mem_of_getElem? (i := 5) rfl) rfl dX2_project_36 ?_
        refine k_iload_n (q := 3) dX2_project_39 rfl rfl ?_
        refine k_iald (n := 20) hL.2.2.1.2.1.2.2.2.2 dX2_project_40 h (fun h => ?_)
        refine k_aload_n (q := 0) dX2_project_41 rfl rfl ?_
        refine kg_2 (v := .int (σ o 7)) hL.1 inX2_project_2 7 (by decide) (List.mem_of_getElem? (i := 6) rfl) rfl dX2_project_42 ?_
        refine k_icmp_lt (tgt := 57) dX2_project_45 (by decide) h (fun h => ?_) (fun h => ?_)
        · refine k_iload_n (q := 2) dX2_project_57 rfl rfl ?_
          refine k_if_le (tgt := 100) dX2_project_58 (by decide) h (fun h => ?_) (fun h => ?_)
          · refine k_aload_n (q := 0) dX2_project_100 rfl rfl ?_
            refine k_aload_n (q := 1) dX2_project_101 rfl rfl ?_
            refine k_iload_n (q := 3) dX2_project_102 rfl rfl ?_
            obtain ⟨σ12, hc11, h⟩ := bnd_e h
            refine k_cvv (q := (RX2, TX2, 8)) (As := [.ref (xad X o1), .int x3]) 2 (cm_X2_play l hX g σ o hL o1 hLo1 x3 hc11) gX2_project_X2_play rfl ⟨rfl, rfl⟩ hd_X2_play ⟨Nat.le_of_ble_eq_true rfl, Nat.le_of_ble_eq_true rfl⟩ ⟨Nat.le_refl _, Nat.le_refl _⟩ (lay_lt hL.1 (by decide)) (ce_of hL.1) rfl rfl (Nat.le_of_ble_eq_true rfl) rfl dX2_project_103 ?_
            refine k_iinc (q := 3) (v := (x3 + (nI 1))) (lv' := [(3, .int (x3 + (nI 1))), (0, .ref (xad X o)), (1, .ref (xad X o1)), (2, .int x2)]) dX2_project_106 rfl rfl (Nat.le_of_ble_eq_true rfl) rfl ?_
            refine k_goto (tgt := 11) dX2_project_109 (by decide) ?_
            refine k_sub (ks' := [1, 2, 3, 0]) rfl ?_
            exact ih σ12 x2 (x3 + (nI 1)) h
          · refine k_aload_n (q := 0) dX2_project_61 rfl rfl ?_
            refine k_aload_n (q := 0) dX2_project_62 rfl rfl ?_
            refine kg_2 (v := .ref (xad X (o + 1))) hL.1 inX2_project_2 0 (by decide) (List.mem_of_getElem? (i := 8) rfl) rfl dX2_project_63 ?_
            refine kg_6 (v := .ref (xad X (o + 2))) hL.2.1.1 inX2_project_6 1 (by decide) (List.mem_of_getElem? (i := 9) rfl) rfl dX2_project_66 ?_
            refine k_aload_n (q := 0) dX2_project_69 rfl rfl ?_
            refine kg_2 (v := .ref (xad X (o + 6))) hL.1 inX2_project_2 1 (by decide) (List.mem_of_getElem? (i := 2) rfl) rfl dX2_project_70 ?_
            refine kg_0 (v := .ref (xad X (o + 7))) hL.2.2.1.1 inX2_project_0 0 (by decide) (List.mem_of_getElem? (i := 3) rfl) rfl dX2_project_73 ?_
            refine kg_4 (v := .ref (xad X (o + 8))) hL.2.2.1.2.1.1 inX2_project_4 1 (by decide) (List.mem_of_getElem? (i := 10) rfl) rfl dX2_project_76 ?_
            refine k_iload_n (q := 3) dX2_project_79 rfl rfl ?_
            refine k_iald (n := 20) hL.2.2.1.2.1.2.1 dX2_project_80 h (fun h => ?_)
            refine k_iald (n := 12) hL.2.1.2.1 dX2_project_81 h (fun h => ?_)
            obtain ⟨r14, hc13, h⟩ := bnd_e h
            refine k_cv (q := (RX2, TX2, 8)) (As := [.int (σ (o + 2) (σ (o + 8) x3.toNatClampNeg).toNatClampNeg)]) 1 (cm_X2_dislikes l hX g σ o hL (σ (o + 2) (σ (o + 8) x3.toNatClampNeg).toNatClampNeg) hc13) gX2_project_X2_dislikes rfl ⟨rfl, rfl⟩ hd_X2_dislikes ⟨Nat.le_of_ble_eq_true rfl, Nat.le_of_ble_eq_true rfl⟩ ⟨Nat.le_refl _, Nat.le_refl _⟩ (lay_lt hL.1 (by decide)) (ce_of hL.1) rfl rfl (Nat.le_of_ble_eq_true rfl) rfl dX2_project_82 ?_
            refine k_if_eq (tgt := 100) dX2_project_85 (by decide) h (fun h => ?_) (fun h => ?_)
            · refine k_aload_n (q := 0) dX2_project_100 rfl rfl ?_
              refine k_aload_n (q := 1) dX2_project_101 rfl rfl ?_
              refine k_iload_n (q := 3) dX2_project_102 rfl rfl ?_
              obtain ⟨σ16, hc15, h⟩ := bnd_e h
              refine k_cvv (q := (RX2, TX2, 8)) (As := [.ref (xad X o1), .int x3]) 2 (cm_X2_play l hX g σ o hL o1 hLo1 x3 hc15) gX2_project_X2_play rfl ⟨rfl, rfl⟩ hd_X2_play ⟨Nat.le_of_ble_eq_true rfl, Nat.le_of_ble_eq_true rfl⟩ ⟨Nat.le_refl _, Nat.le_refl _⟩ (lay_lt hL.1 (by decide)) (ce_of hL.1) rfl rfl (Nat.le_of_ble_eq_true rfl) rfl dX2_project_103 ?_
              refine k_iinc (q := 3) (v := (x3 + (nI 1))) (lv' := [(3, .int (x3 + (nI 1))), (0, .ref (xad X o)), (1, .ref (xad X o1)), (2, .int x2)]) dX2_project_106 rfl rfl (Nat.le_of_ble_eq_true rfl) rfl ?_
              refine k_goto (tgt := 11) dX2_project_109 (by decide) ?_
              refine k_sub (ks' := [1, 2, 3, 0]) rfl ?_
              exact ih σ16 x2 (x3 + (nI 1)) h
            · refine k_iinc (q := 2) (v := (x2 + (nN 1))) (lv' := [(2, .int (x2 + (nN 1))), (0, .ref (xad X o)), (1, .ref (xad X o1)), (3, .int x3)]) dX2_project_88 rfl rfl (Nat.le_of_ble_eq_true rfl) rfl ?_
              refine k_aload_n (q := 1) dX2_project_91 rfl rfl ?_
              refine k_aload_n (q := 2) dX2_project_92 rfl rfl ?_
              refine k_iload_n (q := 3) dX2_project_93 rfl rfl ?_
              obtain ⟨σ18, hc17, h⟩ := bnd_e h
              refine k_cvv (q := (RX2, TX2, 8)) (As := [.ref (xad X o1), .int x3]) 2 (cm_X2_wind l hX g σ o hL o1 hLo1 x3 hc17) gX2_project_X2_wind rfl ⟨rfl, rfl⟩ hd_X2_wind ⟨Nat.le_of_ble_eq_true rfl, Nat.le_of_ble_eq_true rfl⟩ ⟨Nat.le_refl _, Nat.le_refl _⟩ (lay_lt hL.1 (by decide)) (ce_of hL.1) rfl rfl (Nat.le_of_ble_eq_true rfl) rfl dX2_project_94 ?_
              refine k_goto (tgt := 106) dX2_project_97 (by decide) ?_
              refine k_iinc (q := 3) (v := (x3 + (nI 1))) (lv' := [(3, .int (x3 + (nI 1))), (2, .int (x2 + (nN 1))), (0, .ref (xad X o)), (1, .ref (xad X o1))]) dX2_project_106 rfl rfl (Nat.le_of_ble_eq_true rfl) rfl ?_
              refine k_goto (tgt := 11) dX2_project_109 (by decide) ?_
              refine k_sub (ks' := [2, 3, 1, 0]) rfl ?_
              exact ih σ18 (x2 + (nN 1)) (x3 + (nI 1)) h
        · refine k_aload_n (q := 1) dX2_project_48 rfl rfl ?_
          refine kg_5 (v := .ref (xad X (o1 + 1))) hLo1.1 inX2_project_5 0 (by decide) (List.mem_of_getElem? (i := 7) rfl) rfl dX2_project_49 ?_
          refine k_bipush (v := (nI 6)) dX2_project_52 (by decide) ?_
          refine k_iload_n (q := 3) dX2_project_54 rfl rfl ?_
          refine k_iast (n := 8) hLo1.2.1 dX2_project_55 h (fun σ19 h => ?_)
          exact k_vret rfl dX2_project_56 h
set_option maxHeartbeats 4000000 in
set_option maxRecDepth 100000 in
theorem cm_X2_project (l : Launch) {X : XT} (hX : XD X) (g : Nat) (σ : Mem) (o : Nat) (hL : L2 o) (o1 : Nat) (hLo1 : L5 o1) {σ' : Mem} (h : fX2_project g σ o o1 = some σ') : Met l yX2_project wsX2_project rmX2_project (va_Pc [.ref (xad X o), .ref (xad X o1)] (WW X σ)) (QV X σ') 0 0 (XA X) := by
  refine met_x (M := mX2_project) (lv := [(0, .ref (xad X o)), (1, .ref (xad X o1))]) hX (by decide) rfl rfl (Nat.le_of_ble_eq_true rfl) rfl ?_
  unfold fX2_project at h
  refine k_aload_n (q := 1) dX2_project_0 rfl rfl ?_
  obtain ⟨σ2, hc1, h⟩ := bnd_e h
  refine k_cvv (q := (RX5, TX5, 2)) (As := []) 0 (cm_X5_begin l hX g σ o1 hLo1 hc1) gX2_project_X5_begin rfl ⟨rfl, rfl⟩ hd_X5_begin ⟨Nat.le_of_ble_eq_true rfl, Nat.le_of_ble_eq_true rfl⟩ ⟨Nat.le_refl _, Nat.le_refl _⟩ (lay_lt hLo1.1 (by decide)) (ce_of hLo1.1) rfl rfl (Nat.le_of_ble_eq_true rfl) rfl dX2_project_1 ?_
  refine k_aload_n (q := 0) dX2_project_4 rfl rfl ?_
  refine kg_2 (v := .int (σ2 o 6)) hL.1 inX2_project_2 6 (by decide) (List.mem_of_getElem? (i := 1) rfl) rfl dX2_project_5 ?_
  refine k_istore_n (lv' := [(2, .int (σ2 o 6)), (0, .ref (xad X o)), (1, .ref (xad X o1))]) dX2_project_8 rfl (Nat.le_of_ble_eq_true rfl) rfl ?_
  refine k_iconst (v := (nI 0)) dX2_project_9 (by decide) ?_
  refine k_istore_n (lv' := [(3, .int (nI 0)), (2, .int (σ2 o 6)), (0, .ref (xad X o)), (1, .ref (xad X o1))]) dX2_project_10 rfl (Nat.le_of_ble_eq_true rfl) rfl ?_
  refine k_sub (ks' := [2, 3, 1, 0]) rfl ?_
  exact wX2_project_11 l hX g o hL o1 hLo1 g σ2 (σ2 o 6) (nI 0) h
abbrev rmX2_wearDown : Room := { frames := 2, cells := 0, slots := 0, locals := 42 }
abbrev mX2_wearDown : MT := (rmX2_wearDown, wsX2_wearDown, cX2_wearDown, 6, RX2, none)
theorem hd_X2_wearDown : yX2_wearDown.cls = RX2 ∧ yX2_wearDown.cls ≠ "java/lang/invoke/MethodHandle" ∧ yX2_wearDown.cls ≠ "java/lang/invoke/VarHandle" ∧ (parseMethodDescriptor yX2_wearDown.desc).map (fun d => d.parameters.length) = some 1 := by decide +kernel
theorem inX2_wearDown_2 : ∀ w ∈ wsX20, w ∈ wsX2_wearDown := fun w h => List.mem_cons_of_mem _ (List.mem_append_left _ (List.mem_append_left _ (List.mem_append_left _ (List.mem_append_right _ h))))
theorem inX2_wearDown_0 : ∀ w ∈ wsX00, w ∈ wsX2_wearDown := fun w h => List.mem_cons_of_mem _ (List.mem_append_left _ (List.mem_append_left _ (List.mem_append_right _ h)))
theorem inX2_wearDown_4 : ∀ w ∈ wsX40, w ∈ wsX2_wearDown := fun w h => List.mem_cons_of_mem _ (List.mem_append_left _ (List.mem_append_right _ h))
theorem inX2_wearDown_6 : ∀ w ∈ wsX60, w ∈ wsX2_wearDown := fun w h => List.mem_cons_of_mem _ (List.mem_append_right _ h)
set_option maxHeartbeats 4000000 in
set_option maxRecDepth 100000 in
theorem wX2_wearDown_87 (l : Launch) {X : XT} (hX : XD X) (g : Nat) (o : Nat) (hL : L2 o) {σ' : Mem} : ∀ (n : Nat) (σ : Mem) (x3 : Int32) (x4 : Int32), fX2_wearDown_87 g o n σ x3 x4 = some σ' → WG X l mX2_wearDown (fun _ _ => True) 0 0 (QM X (QV X σ')) 87 σ [(2, .ref (xad X (o + 7))), (3, .int x3), (4, .int x4)] [] := by
  intro n
  induction n with
  | zero => intro σ x3 x4 h; exact nomatch (show (none : Option _) = some _ from h)
  | succ n ih =>
    intro σ x3 x4 h
    rw [fX2_wearDown_87] at h
    refine k_iload (q := 2) dX2_wearDown_87 rfl ?_
    refine k_iload_n (q := 1) dX2_wearDown_89 rfl rfl ?_
    refine k_icmp_gt (tgt := 119) dX2_wearDown_90 (by decide) h (fun h => ?_) (fun h => ?_)
    · exact k_vret rfl dX2_wearDown_119 h
    · refine k_iload (q := 2) dX2_wearDown_93 rfl ?_
      refine k_aload_n (q := 0) dX2_wearDown_95 rfl rfl ?_
      refine kg_4 (v := .int (σ (o + 7) 0)) hL.2.2.1.2.1.1 inX2_wearDown_4 0 (by decide) (List.mem_of_getElem? (i := 3) rfl) rfl dX2_wearDown_96 ?_
      refine k_icmp_ge (tgt := 119) dX2_wearDown_99 (by decide) h (fun h => ?_) (fun h => ?_)
      · exact k_vret rfl dX2_wearDown_119 h
      · refine k_aload_n (q := 0) dX2_wearDown_102 rfl rfl ?_
        refine kg_4 (v := .ref (xad X (o + 11))) hL.2.2.1.2.1.1 inX2_wearDown_4 4 (by decide) (List.mem_of_getElem? (i := 8) rfl) rfl dX2_wearDown_103 ?_
        refine k_iload (q := 2) dX2_wearDown_106 rfl ?_
        refine k_dup2 dX2_wearDown_108 rfl rfl ?_
        refine k_iald (n := 20) hL.2.2.1.2.1.2.2.2.2 dX2_wearDown_109 h (fun h => ?_)
        refine k_iconst (v := (nI 1)) dX2_wearDown_110 (by decide) ?_
        refine k_iadd dX2_wearDown_111 ?_
        refine k_iast (n := 20) hL.2.2.1.2.1.2.2.2.2 dX2_wearDown_112 h (fun σ1 h => ?_)
        refine k_iinc (q := 2) (v := (x4 + (nI 1))) (lv' := [(4, .int (x4 + (nI 1))), (2, .ref (xad X (o + 7))), (3, .int x3)]) dX2_wearDown_113 rfl rfl (Nat.le_of_ble_eq_true rfl) rfl ?_
        refine k_goto (tgt := 87) dX2_wearDown_116 (by decide) ?_
        refine k_sub (ks' := [1, 2, 0]) rfl ?_
        exact ih σ1 x3 (x4 + (nI 1)) h
set_option maxHeartbeats 4000000 in
set_option maxRecDepth 100000 in
theorem wX2_wearDown_41 (l : Launch) {X : XT} (hX : XD X) (g : Nat) (o : Nat) (hL : L2 o) {σ' : Mem} (K26 : Mem → Int32 → Int32 → Option (Mem)) (hK26 : ∀ (σ : Mem) (y3 y4 : Int32), K26 σ y3 y4 = some σ' → WG X l mX2_wearDown (fun _ _ => True) 0 0 (QM X (QV X σ')) 26 σ [(0, .ref (xad X o)), (2, .ref (xad X (o + 7))), (3, .int y3), (4, .int y4)] []) : ∀ (n : Nat) (σ : Mem) (x3 : Int32) (x4 : Int32) (x5 : Int32), fX2_wearDown_41 g o K26 n σ x3 x4 x5 = some σ' → WG X l mX2_wearDown (fun _ _ => True) 0 0 (QM X (QV X σ')) 41 σ [(0, .ref (xad X o)), (2, .ref (xad X (o + 7))), (3, .int x3), (4, .int x4), (5, .int x5)] [] := by
  intro n
  induction n with
  | zero => intro σ x3 x4 x5 h; exact nomatch (show (none : Option _) = some _ from h)
  | succ n ih =>
    intro σ x3 x4 x5 h
    rw [fX2_wearDown_41] at h
    refine k_iload (q := 4) dX2_wearDown_41 rfl ?_
    refine k_aload_n (q := 1) dX2_wearDown_43 rfl rfl ?_
    refine kg_4 (v := .ref (xad X (o + 10))) hL.2.2.1.2.1.1 inX2_wearDown_4 3 (by decide) (List.mem_of_getElem? (i := 5) rfl) rfl dX2_wearDown_44 ?_
    refine k_iload (q := 3) dX2_wearDown_47 rfl ?_
    refine k_iald (n := 20) hL.2.2.1.2.1.2.2.2.1 dX2_wearDown_49 h (fun h => ?_)
    refine k_icmp_gt (tgt := 78) dX2_wearDown_50 (by decide) h (fun h => ?_) (fun h => ?_)
    · refine k_iinc (q := 3) (v := (x4 + (nI 1))) (lv' := [(4, .int (x4 + (nI 1))), (0, .ref (xad X o)), (2, .ref (xad X (o + 7))), (3, .int x3), (5, .int x5)]) dX2_wearDown_78 rfl rfl (Nat.le_of_ble_eq_true rfl) rfl ?_
      refine k_goto (tgt := 26) dX2_wearDown_81 (by decide) ?_
      refine k_sub (ks' := [1, 2, 3, 0]) rfl ?_
      exact hK26 σ x3 (x4 + (nI 1)) h
    · refine k_aload_n (q := 0) dX2_wearDown_53 rfl rfl ?_
      refine kg_2 (v := .ref (xad X (o + 1))) hL.1 inX2_wearDown_2 0 (by decide) (List.mem_of_getElem? (i := 6) rfl) rfl dX2_wearDown_54 ?_
      refine k_aload_n (q := 1) dX2_wearDown_57 rfl rfl ?_
      refine kg_4 (v := .ref (xad X (o + 8))) hL.2.2.1.2.1.1 inX2_wearDown_4 1 (by decide) (List.mem_of_getElem? (i := 7) rfl) rfl dX2_wearDown_58 ?_
      refine k_iload (q := 3) dX2_wearDown_61 rfl ?_
      refine k_iald (n := 20) hL.2.2.1.2.1.2.1 dX2_wearDown_63 h (fun h => ?_)
      refine k_iload (q := 4) dX2_wearDown_64 rfl ?_
      obtain ⟨r3, hc2, h⟩ := bnd_e h
      refine k_csN (host := "HoleReel") (As := [.int (σ (o + 8) x4.toNatClampNeg), .int x5]) 2 (cm_X8_slotOf l hX g σ (σ (o + 8) x4.toNatClampNeg) x5 hc2) gX2_wearDown_X8_slotOf_n117 rfl ⟨rfl, rfl⟩ (fun _ hN => hN.2.2.1) (List.mem_of_getElem? (i := 10) rfl) (List.mem_of_getElem? (i := 9) rfl) hd_X8_slotOf ⟨Nat.le_of_ble_eq_true rfl, Nat.le_of_ble_eq_true rfl⟩ ⟨Nat.le_refl _, Nat.le_refl _⟩ rfl (Nat.le_of_ble_eq_true rfl) rfl dX2_wearDown_66 ?_
      obtain ⟨σ5, hc4, h⟩ := bnd_e h
      refine k_cvv (q := (RX6, TX6, 5)) (As := [.int r3]) 1 (cm_X6_wear l hX g σ (o + 1) hL.2.1 r3 hc4) gX2_wearDown_X6_wear rfl ⟨rfl, rfl⟩ hd_X6_wear ⟨Nat.le_of_ble_eq_true rfl, Nat.le_of_ble_eq_true rfl⟩ ⟨Nat.le_refl _, Nat.le_refl _⟩ (lay_lt hL.2.1.1 (by decide)) (ce_of hL.2.1.1) rfl rfl (Nat.le_of_ble_eq_true rfl) rfl dX2_wearDown_69 ?_
      refine k_iinc (q := 4) (v := (x5 + (nI 1))) (lv' := [(5, .int (x5 + (nI 1))), (0, .ref (xad X o)), (2, .ref (xad X (o + 7))), (3, .int x3), (4, .int x4)]) dX2_wearDown_72 rfl rfl (Nat.le_of_ble_eq_true rfl) rfl ?_
      refine k_goto (tgt := 41) dX2_wearDown_75 (by decide) ?_
      refine k_sub (ks' := [1, 2, 3, 4, 0]) rfl ?_
      exact ih σ5 x3 x4 (x5 + (nI 1)) h
set_option maxHeartbeats 4000000 in
set_option maxRecDepth 100000 in
theorem wX2_wearDown_26 (l : Launch) {X : XT} (hX : XD X) (g : Nat) (o : Nat) (hL : L2 o) {σ' : Mem} : ∀ (n : Nat) (σ : Mem) (x3 : Int32) (x4 : Int32), fX2_wearDown_26 g o n σ x3 x4 = some σ' → WG X l mX2_wearDown (fun _ _ => True) 0 0 (QM X (QV X σ')) 26 σ [(0, .ref (xad X o)), (2, .ref (xad X (o + 7))), (3, .int x3), (4, .int x4)] [] := by
  intro n
  induction n with
  | zero => intro σ x3 x4 h; exact nomatch (show (none : Option _) = some _ from h)
  | succ n ih =>
    intro σ x3 x4 h
    rw [fX2_wearDown_26] at h
    refine k_iload (q := 3) dX2_wearDown_26 rfl ?_
    refine k_iload_n (q := 2) dX2_wearDown_28 rfl rfl ?_
    refine k_icmp_ge (tgt := 84) dX2_wearDown_29 (by decide) h (fun h => ?_) (fun h => ?_)
    · refine k_iconst (v := (nI 1)) dX2_wearDown_84 (by decide) ?_
      refine k_istore (lv' := [(4, .int (nI 1)), (0, .ref (xad X o)), (2, .ref (xad X (o + 7))), (3, .int x3)]) dX2_wearDown_85 (Nat.le_of_ble_eq_true rfl) rfl ?_
      refine k_sub (ks' := [2, 3, 0]) rfl ?_
      exact wX2_wearDown_87 l hX g o hL g σ x3 (nI 1) h
    · refine k_aload_n (q := 1) dX2_wearDown_32 rfl rfl ?_
      refine kg_4 (v := .ref (xad X (o + 9))) hL.2.2.1.2.1.1 inX2_wearDown_4 2 (by decide) (List.mem_of_getElem? (i := 4) rfl) rfl dX2_wearDown_33 ?_
      refine k_iload (q := 3) dX2_wearDown_36 rfl ?_
      refine k_iald (n := 20) hL.2.2.1.2.1.2.2.1 dX2_wearDown_38 h (fun h => ?_)
      refine k_istore (lv' := [(5, .int (σ (o + 9) x4.toNatClampNeg)), (0, .ref (xad X o)), (2, .ref (xad X (o + 7))), (3, .int x3), (4, .int x4)]) dX2_wearDown_39 (Nat.le_of_ble_eq_true rfl) rfl ?_
      refine k_sub (ks' := [1, 2, 3, 4, 0]) rfl ?_
      exact wX2_wearDown_41 l hX g o hL (fun σ y3 y4 => fX2_wearDown_26 g o n σ y3 y4) (fun σ y3 y4 h => ih σ y3 y4 h) g σ x3 x4 (σ (o + 9) x4.toNatClampNeg) h
set_option maxHeartbeats 4000000 in
set_option maxRecDepth 100000 in
theorem cm_X2_wearDown (l : Launch) {X : XT} (hX : XD X) (g : Nat) (σ : Mem) (o : Nat) (hL : L2 o) (p1 : Int32) {σ' : Mem} (h : fX2_wearDown g σ o p1 = some σ') : Met l yX2_wearDown wsX2_wearDown rmX2_wearDown (va_Pc [.ref (xad X o), .int p1] (WW X σ)) (QV X σ') 0 0 (XA X) := by
  refine met_x (M := mX2_wearDown) (lv := [(0, .ref (xad X o)), (1, .int p1)]) hX (by decide) rfl rfl (Nat.le_of_ble_eq_true rfl) rfl ?_
  unfold fX2_wearDown at h
  refine k_aload_n (q := 0) dX2_wearDown_0 rfl rfl ?_
  refine kg_2 (v := .ref (xad X (o + 6))) hL.1 inX2_wearDown_2 1 (by decide) (List.mem_of_getElem? (i := 1) rfl) rfl dX2_wearDown_1 ?_
  refine kg_0 (v := .ref (xad X (o + 7))) hL.2.2.1.1 inX2_wearDown_0 0 (by decide) (List.mem_of_getElem? (i := 2) rfl) rfl dX2_wearDown_4 ?_
  refine k_astore_n (lv' := [(2, .ref (xad X (o + 7))), (0, .ref (xad X o)), (1, .int p1)]) dX2_wearDown_7 rfl (Nat.le_of_ble_eq_true rfl) rfl ?_
  refine k_iload_n (q := 2) dX2_wearDown_8 rfl rfl ?_
  refine k_bipush (v := (nN 5)) dX2_wearDown_9 (by decide) ?_
  refine k_icmp_ne (tgt := 21) dX2_wearDown_11 (by decide) h (fun h => ?_) (fun h => ?_)
  · refine k_iload_n (q := 2) dX2_wearDown_21 rfl rfl ?_
    refine k_istore_n (lv' := [(3, .int p1), (2, .ref (xad X (o + 7))), (0, .ref (xad X o)), (1, .int p1)]) dX2_wearDown_22 rfl (Nat.le_of_ble_eq_true rfl) rfl ?_
    refine k_iconst (v := (nI 0)) dX2_wearDown_23 (by decide) ?_
    refine k_istore (lv' := [(4, .int (nI 0)), (3, .int p1), (2, .ref (xad X (o + 7))), (0, .ref (xad X o)), (1, .int p1)]) dX2_wearDown_24 (Nat.le_of_ble_eq_true rfl) rfl ?_
    refine k_sub (ks' := [3, 2, 1, 0]) rfl ?_
    exact wX2_wearDown_26 l hX g o hL g σ p1 (nI 0) h
  · refine k_aload_n (q := 0) dX2_wearDown_14 rfl rfl ?_
    refine kg_4 (v := .int (σ (o + 7) 0)) hL.2.2.1.2.1.1 inX2_wearDown_4 0 (by decide) (List.mem_of_getElem? (i := 3) rfl) rfl dX2_wearDown_15 ?_
    refine k_goto (tgt := 22) dX2_wearDown_18 (by decide) ?_
    refine k_istore_n (lv' := [(3, .int (σ (o + 7) 0)), (2, .ref (xad X (o + 7))), (0, .ref (xad X o)), (1, .int p1)]) dX2_wearDown_22 rfl (Nat.le_of_ble_eq_true rfl) rfl ?_
    refine k_iconst (v := (nI 0)) dX2_wearDown_23 (by decide) ?_
    refine k_istore (lv' := [(4, .int (nI 0)), (3, .int (σ (o + 7) 0)), (2, .ref (xad X (o + 7))), (0, .ref (xad X o)), (1, .int p1)]) dX2_wearDown_24 (Nat.le_of_ble_eq_true rfl) rfl ?_
    refine k_sub (ks' := [3, 2, 1, 0]) rfl ?_
    exact wX2_wearDown_26 l hX g o hL g σ (σ (o + 7) 0) (nI 0) h
abbrev rmX2_giveShow : Room := { frames := 4, cells := 0, slots := 0, locals := 91 }
abbrev mX2_giveShow : MT := (rmX2_giveShow, wsX2_giveShow, cX2_giveShow, 2, RX2, some .int)
theorem hd_X2_giveShow : yX2_giveShow.cls = RX2 ∧ yX2_giveShow.cls ≠ "java/lang/invoke/MethodHandle" ∧ yX2_giveShow.cls ≠ "java/lang/invoke/VarHandle" ∧ (parseMethodDescriptor yX2_giveShow.desc).map (fun d => d.parameters.length) = some 0 := by decide +kernel
theorem inX2_giveShow_2 : ∀ w ∈ wsX20, w ∈ wsX2_giveShow := fun w h => List.mem_cons_of_mem _ (List.mem_append_left _ (List.mem_append_left _ (List.mem_append_left _ (List.mem_append_left _ (List.mem_append_right _ h)))))
theorem inX2_giveShow_5 : ∀ w ∈ wsX50, w ∈ wsX2_giveShow := fun w h => List.mem_cons_of_mem _ (List.mem_append_left _ (List.mem_append_left _ (List.mem_append_left _ (List.mem_append_right _ h))))
theorem inX2_giveShow_0 : ∀ w ∈ wsX00, w ∈ wsX2_giveShow := fun w h => List.mem_cons_of_mem _ (List.mem_append_left _ (List.mem_append_left _ (List.mem_append_right _ h)))
theorem inX2_giveShow_4 : ∀ w ∈ wsX40, w ∈ wsX2_giveShow := fun w h => List.mem_cons_of_mem _ (List.mem_append_left _ (List.mem_append_right _ h))
theorem inX2_giveShow_6 : ∀ w ∈ wsX60, w ∈ wsX2_giveShow := fun w h => List.mem_cons_of_mem _ (List.mem_append_right _ h)
set_option maxHeartbeats 4000000 in
set_option maxRecDepth 100000 in
theorem cm_X2_giveShow (l : Launch) {X : XT} (hX : XD X) (g : Nat) (σ : Mem) (o : Nat) (hL : L2 o) {r : Int32} {σ' : Mem} (h : fX2_giveShow g σ o = some (r, σ')) : Met l yX2_giveShow wsX2_giveShow rmX2_giveShow (va_Pc [.ref (xad X o)] (WW X σ)) (QI X r σ') 0 0 (XA X) := by
  refine met_x (M := mX2_giveShow) (lv := [(0, .ref (xad X o))]) hX (by decide) rfl rfl (Nat.le_of_ble_eq_true rfl) rfl ?_
  unfold fX2_giveShow at h
  refine k_aload_n (q := 0) dX2_giveShow_0 rfl rfl ?_
  refine kg_2 (v := .int (σ o 4)) hL.1 inX2_giveShow_2 4 (by decide) (List.mem_of_getElem? (i := 1) rfl) rfl dX2_giveShow_1 ?_
  refine k_istore_n (lv' := [(1, .int (σ o 4)), (0, .ref (xad X o))]) dX2_giveShow_4 rfl (Nat.le_of_ble_eq_true rfl) rfl ?_
  refine k_iload_n (q := 0) dX2_giveShow_5 rfl rfl ?_
  refine k_bipush (v := (nI 10)) dX2_giveShow_6 (by decide) ?_
  refine k_icmp_ge (tgt := 47) dX2_giveShow_8 (by decide) h (fun h => ?_) (fun h => ?_)
  · refine k_iload_n (q := 0) dX2_giveShow_47 rfl rfl ?_
    exact k_iret rfl dX2_giveShow_48 h
  · refine k_aload_n (q := 1) dX2_giveShow_11 rfl rfl ?_
    refine k_aload_n (q := 1) dX2_giveShow_12 rfl rfl ?_
    refine kg_2 (v := .ref (xad X (o + 17))) hL.1 inX2_giveShow_2 2 (by decide) (List.mem_of_getElem? (i := 2) rfl) rfl dX2_giveShow_13 ?_
    refine k_iload_n (q := 0) dX2_giveShow_16 rfl rfl ?_
    refine k_aaldS (n := 10) hL.2.2.2.1 dX2_giveShow_17 h (fun q1 j2 hj3 eq1 h => ?_)
    have hL4 : L5 q1 := by rw [eq1]; exact hL.2.2.2.2.2 j2 hj3
    clear eq1
    obtain ⟨σ6, hc5, h⟩ := bnd_e h
    refine k_cvv (q := (RX2, TX2, 8)) (As := [.ref (xad X q1)]) 1 (cm_X2_project l hX g σ o hL q1 hL4 hc5) gX2_giveShow_X2_project rfl ⟨rfl, rfl⟩ hd_X2_project ⟨Nat.le_of_ble_eq_true rfl, Nat.le_of_ble_eq_true rfl⟩ ⟨Nat.le_refl _, Nat.le_refl _⟩ (lay_lt hL.1 (by decide)) (ce_of hL.1) rfl rfl (Nat.le_of_ble_eq_true rfl) rfl dX2_giveShow_18 ?_
    refine k_aload_n (q := 1) dX2_giveShow_21 rfl rfl ?_
    refine k_aload_n (q := 1) dX2_giveShow_22 rfl rfl ?_
    refine kg_2 (v := .ref (xad X (o + 17))) hL.1 inX2_giveShow_2 2 (by decide) (List.mem_of_getElem? (i := 2) rfl) rfl dX2_giveShow_23 ?_
    refine k_iload_n (q := 0) dX2_giveShow_26 rfl rfl ?_
    refine k_aaldS (n := 10) hL.2.2.2.1 dX2_giveShow_27 h (fun q7 j8 hj9 eq7 h => ?_)
    have hL10 : L5 q7 := by rw [eq7]; exact hL.2.2.2.2.2 j8 hj9
    clear eq7
    refine kg_5 (v := .ref (xad X (q7 + 1))) hL10.1 inX2_giveShow_5 0 (by decide) (List.mem_of_getElem? (i := 3) rfl) rfl dX2_giveShow_28 ?_
    refine k_bipush (v := (nI 6)) dX2_giveShow_31 (by decide) ?_
    refine k_iald (n := 8) hL10.2.1 dX2_giveShow_33 h (fun h => ?_)
    obtain ⟨σ12, hc11, h⟩ := bnd_e h
    refine k_cvv (q := (RX2, TX2, 8)) (As := [.int (σ6 (q7 + 1) (nI 6).toNatClampNeg)]) 1 (cm_X2_wearDown l hX g σ6 o hL (σ6 (q7 + 1) (nI 6).toNatClampNeg) hc11) gX2_giveShow_X2_wearDown rfl ⟨rfl, rfl⟩ hd_X2_wearDown ⟨Nat.le_of_ble_eq_true rfl, Nat.le_of_ble_eq_true rfl⟩ ⟨Nat.le_refl _, Nat.le_refl _⟩ (lay_lt hL.1 (by decide)) (ce_of hL.1) rfl rfl (Nat.le_of_ble_eq_true rfl) rfl dX2_giveShow_34 ?_
    refine k_aload_n (q := 1) dX2_giveShow_37 rfl rfl ?_
    refine k_dup dX2_giveShow_38 rfl ?_
    refine kg_2 (v := .int (σ12 o 4)) hL.1 inX2_giveShow_2 4 (by decide) (List.mem_of_getElem? (i := 1) rfl) rfl dX2_giveShow_39 ?_
    refine k_iconst (v := (nI 1)) dX2_giveShow_42 (by decide) ?_
    refine k_iadd dX2_giveShow_43 ?_
    refine kp_2_4 hL.1 inX2_giveShow_2 (List.mem_of_getElem? (i := 1) rfl) dX2_giveShow_44 h (fun σ13 h => ?_)
    refine k_iload_n (q := 0) dX2_giveShow_47 rfl rfl ?_
    exact k_iret rfl dX2_giveShow_48 h
abbrev rmX3_record : Room := { frames := 3, cells := 0, slots := 0, locals := 69 }
abbrev mX3_record : MT := (rmX3_record, wsX3_record, cX3_record, 2, RX3, none)
theorem hd_X3_record : yX3_record.cls = RX3 ∧ yX3_record.cls ≠ "java/lang/invoke/MethodHandle" ∧ yX3_record.cls ≠ "java/lang/invoke/VarHandle" ∧ (parseMethodDescriptor yX3_record.desc).map (fun d => d.parameters.length) = some 1 := by decide +kernel
theorem inX3_record_3 : ∀ w ∈ wsX30, w ∈ wsX3_record := fun w h => List.mem_cons_of_mem _ (List.mem_append_left _ (List.mem_append_left _ (List.mem_append_left _ (List.mem_append_left _ (List.mem_append_left _ (List.mem_append_left _ (List.mem_append_right _ h)))))))
theorem inX3_record_2 : ∀ w ∈ wsX20, w ∈ wsX3_record := fun w h => List.mem_cons_of_mem _ (List.mem_append_left _ (List.mem_append_left _ (List.mem_append_left _ (List.mem_append_left _ (List.mem_append_left _ (List.mem_append_right _ h))))))
theorem inX3_record_0 : ∀ w ∈ wsX00, w ∈ wsX3_record := fun w h => List.mem_cons_of_mem _ (List.mem_append_left _ (List.mem_append_left _ (List.mem_append_left _ (List.mem_append_left _ (List.mem_append_right _ h)))))
theorem inX3_record_6 : ∀ w ∈ wsX60, w ∈ wsX3_record := fun w h => List.mem_cons_of_mem _ (List.mem_append_left _ (List.mem_append_left _ (List.mem_append_left _ (List.mem_append_right _ h))))
theorem inX3_record_4 : ∀ w ∈ wsX40, w ∈ wsX3_record := fun w h => List.mem_cons_of_mem _ (List.mem_append_left _ (List.mem_append_left _ (List.mem_append_right _ h)))
theorem inX3_record_7 : ∀ w ∈ wsX70, w ∈ wsX3_record := fun w h => List.mem_cons_of_mem _ (List.mem_append_left _ (List.mem_append_right _ h))
theorem inX3_record_5 : ∀ w ∈ wsX50, w ∈ wsX3_record := fun w h => List.mem_cons_of_mem _ (List.mem_append_right _ h)
set_option maxHeartbeats 4000000 in
set_option maxRecDepth 100000 in
theorem cm_X3_record (l : Launch) {X : XT} (hX : XD X) (g : Nat) (σ : Mem) (o : Nat) (hL : L3 o) (o1 : Nat) (hLo1 : L2 o1) {σ' : Mem} (h : fX3_record g σ o o1 = some σ') : Met l yX3_record wsX3_record rmX3_record (va_Pc [.ref (xad X o), .ref (xad X o1)] (WW X σ)) (QV X σ') 0 0 (XA X) := by
  refine met_x (M := mX3_record) (lv := [(0, .ref (xad X o)), (1, .ref (xad X o1))]) hX (by decide) rfl rfl (Nat.le_of_ble_eq_true rfl) rfl ?_
  unfold fX3_record at h
  refine k_aload_n (q := 0) dX3_record_0 rfl rfl ?_
  refine kg_3 (v := .ref (xad X (o + 1))) hL.1 inX3_record_3 2 (by decide) (List.mem_of_getElem? (i := 1) rfl) rfl dX3_record_1 ?_
  refine k_aload_n (q := 0) dX3_record_4 rfl rfl ?_
  refine kg_3 (v := .int (σ o 1)) hL.1 inX3_record_3 1 (by decide) (List.mem_of_getElem? (i := 2) rfl) rfl dX3_record_5 ?_
  refine k_aaldF (n := 4) hL.2.1 dX3_record_8 h (fun q1 j2 hj3 eq1 h => ?_)
  have hL4 : L2 q1 := by rw [eq1]; exact hL.2.2 j2 hj3
  clear eq1
  refine k_aload_n (q := 1) dX3_record_9 rfl rfl ?_
  obtain ⟨σ6, hc5, h⟩ := bnd_e h
  refine k_cvv (q := (RX2, TX2, 8)) (As := [.ref (xad X o1)]) 1 (cm_X2_copyFrom l hX g σ q1 hL4 o1 hLo1 hc5) gX3_record_X2_copyFrom rfl ⟨rfl, rfl⟩ hd_X2_copyFrom ⟨Nat.le_of_ble_eq_true rfl, Nat.le_of_ble_eq_true rfl⟩ ⟨Nat.le_refl _, Nat.le_refl _⟩ (lay_lt hL4.1 (by decide)) (ce_of hL4.1) rfl rfl (Nat.le_of_ble_eq_true rfl) rfl dX3_record_10 ?_
  refine k_aload_n (q := 0) dX3_record_13 rfl rfl ?_
  refine k_aload_n (q := 0) dX3_record_14 rfl rfl ?_
  refine kg_3 (v := .int (σ6 o 1)) hL.1 inX3_record_3 1 (by decide) (List.mem_of_getElem? (i := 2) rfl) rfl dX3_record_15 ?_
  refine k_iconst (v := (nI 1)) dX3_record_18 (by decide) ?_
  refine k_iadd dX3_record_19 ?_
  refine k_iconst (v := (nI 4)) dX3_record_20 (by decide) ?_
  refine k_irem dX3_record_21 (by decide) ?_
  refine kp_3_1 hL.1 inX3_record_3 (List.mem_of_getElem? (i := 2) rfl) dX3_record_22 h (fun σ7 h => ?_)
  refine k_aload_n (q := 0) dX3_record_25 rfl rfl ?_
  refine k_aload_n (q := 0) dX3_record_26 rfl rfl ?_
  refine kg_3 (v := .int (σ7 o 0)) hL.1 inX3_record_3 0 (by decide) (List.mem_of_getElem? (i := 3) rfl) rfl dX3_record_27 ?_
  refine k_iconst (v := (nI 1)) dX3_record_30 (by decide) ?_
  refine k_iadd dX3_record_31 ?_
  refine k_iconst (v := (nI 4)) dX3_record_32 (by decide) ?_
  refine k_min (List.mem_of_getElem? (i := 4) rfl) (List.mem_of_getElem? (i := 5) rfl) (List.mem_of_getElem? (i := 6) rfl) (List.mem_of_getElem? (i := 7) rfl) (Nat.le_of_ble_eq_true rfl) (Nat.le_of_ble_eq_true rfl) ⟨Nat.le_refl _, Nat.le_refl _⟩ dX3_record_33 ?_
  refine kp_3_0 hL.1 inX3_record_3 (List.mem_of_getElem? (i := 3) rfl) dX3_record_36 h (fun σ8 h => ?_)
  exact k_vret rfl dX3_record_39 h
abbrev rmX3_giveBack : Room := { frames := 3, cells := 0, slots := 0, locals := 69 }
abbrev mX3_giveBack : MT := (rmX3_giveBack, wsX3_giveBack, cX3_giveBack, 2, RX3, none)
theorem hd_X3_giveBack : yX3_giveBack.cls = RX3 ∧ yX3_giveBack.cls ≠ "java/lang/invoke/MethodHandle" ∧ yX3_giveBack.cls ≠ "java/lang/invoke/VarHandle" ∧ (parseMethodDescriptor yX3_giveBack.desc).map (fun d => d.parameters.length) = some 1 := by decide +kernel
theorem inX3_giveBack_3 : ∀ w ∈ wsX30, w ∈ wsX3_giveBack := fun w h => List.mem_cons_of_mem _ (List.mem_append_left _ (List.mem_append_left _ (List.mem_append_left _ (List.mem_append_left _ (List.mem_append_left _ (List.mem_append_left _ (List.mem_append_right _ h)))))))
theorem inX3_giveBack_2 : ∀ w ∈ wsX20, w ∈ wsX3_giveBack := fun w h => List.mem_cons_of_mem _ (List.mem_append_left _ (List.mem_append_left _ (List.mem_append_left _ (List.mem_append_left _ (List.mem_append_left _ (List.mem_append_right _ h))))))
theorem inX3_giveBack_0 : ∀ w ∈ wsX00, w ∈ wsX3_giveBack := fun w h => List.mem_cons_of_mem _ (List.mem_append_left _ (List.mem_append_left _ (List.mem_append_left _ (List.mem_append_left _ (List.mem_append_right _ h)))))
theorem inX3_giveBack_6 : ∀ w ∈ wsX60, w ∈ wsX3_giveBack := fun w h => List.mem_cons_of_mem _ (List.mem_append_left _ (List.mem_append_left _ (List.mem_append_left _ (List.mem_append_right _ h))))
theorem inX3_giveBack_4 : ∀ w ∈ wsX40, w ∈ wsX3_giveBack := fun w h => List.mem_cons_of_mem _ (List.mem_append_left _ (List.mem_append_left _ (List.mem_append_right _ h)))
theorem inX3_giveBack_7 : ∀ w ∈ wsX70, w ∈ wsX3_giveBack := fun w h => List.mem_cons_of_mem _ (List.mem_append_left _ (List.mem_append_right _ h))
theorem inX3_giveBack_5 : ∀ w ∈ wsX50, w ∈ wsX3_giveBack := fun w h => List.mem_cons_of_mem _ (List.mem_append_right _ h)
set_option maxHeartbeats 4000000 in
set_option maxRecDepth 100000 in
theorem cm_X3_giveBack (l : Launch) {X : XT} (hX : XD X) (g : Nat) (σ : Mem) (o : Nat) (hL : L3 o) (o1 : Nat) (hLo1 : L2 o1) {σ' : Mem} (h : fX3_giveBack g σ o o1 = some σ') : Met l yX3_giveBack wsX3_giveBack rmX3_giveBack (va_Pc [.ref (xad X o), .ref (xad X o1)] (WW X σ)) (QV X σ') 0 0 (XA X) := by
  refine met_x (M := mX3_giveBack) (lv := [(0, .ref (xad X o)), (1, .ref (xad X o1))]) hX (by decide) rfl rfl (Nat.le_of_ble_eq_true rfl) rfl ?_
  unfold fX3_giveBack at h
  refine k_aload_n (q := 0) dX3_giveBack_0 rfl rfl ?_
  refine kg_3 (v := .int (σ o 0)) hL.1 inX3_giveBack_3 0 (by decide) (List.mem_of_getElem? (i := 1) rfl) rfl dX3_giveBack_1 ?_
  refine k_if_le (tgt := 44) dX3_giveBack_4 (by decide) h (fun h => ?_) (fun h => ?_)
  · exact k_vret rfl dX3_giveBack_44 h
  · refine k_aload_n (q := 0) dX3_giveBack_7 rfl rfl ?_
    refine k_aload_n (q := 0) dX3_giveBack_8 rfl rfl ?_
    refine kg_3 (v := .int (σ o 1)) hL.1 inX3_giveBack_3 1 (by decide) (List.mem_of_getElem? (i := 2) rfl) rfl dX3_giveBack_9 ?_
    refine k_iconst (v := (nI 4)) dX3_giveBack_12 (by decide) ?_
    refine k_iadd dX3_giveBack_13 ?_
    refine k_iconst (v := (nI 1)) dX3_giveBack_14 (by decide) ?_
    refine k_isub dX3_giveBack_15 ?_
    refine k_iconst (v := (nI 4)) dX3_giveBack_16 (by decide) ?_
    refine k_irem dX3_giveBack_17 (by decide) ?_
    refine kp_3_1 hL.1 inX3_giveBack_3 (List.mem_of_getElem? (i := 2) rfl) dX3_giveBack_18 h (fun σ1 h => ?_)
    refine k_aload_n (q := 1) dX3_giveBack_21 rfl rfl ?_
    refine k_aload_n (q := 0) dX3_giveBack_22 rfl rfl ?_
    refine kg_3 (v := .ref (xad X (o + 1))) hL.1 inX3_giveBack_3 2 (by decide) (List.mem_of_getElem? (i := 3) rfl) rfl dX3_giveBack_23 ?_
    refine k_aload_n (q := 0) dX3_giveBack_26 rfl rfl ?_
    refine kg_3 (v := .int (σ1 o 1)) hL.1 inX3_giveBack_3 1 (by decide) (List.mem_of_getElem? (i := 2) rfl) rfl dX3_giveBack_27 ?_
    refine k_aaldF (n := 4) hL.2.1 dX3_giveBack_30 h (fun q2 j3 hj4 eq2 h => ?_)
    have hL5 : L2 q2 := by rw [eq2]; exact hL.2.2 j3 hj4
    clear eq2
    obtain ⟨σ7, hc6, h⟩ := bnd_e h
    refine k_cvv (q := (RX2, TX2, 8)) (As := [.ref (xad X q2)]) 1 (cm_X2_copyFrom l hX g σ1 o1 hLo1 q2 hL5 hc6) gX3_giveBack_X2_copyFrom rfl ⟨rfl, rfl⟩ hd_X2_copyFrom ⟨Nat.le_of_ble_eq_true rfl, Nat.le_of_ble_eq_true rfl⟩ ⟨Nat.le_refl _, Nat.le_refl _⟩ (lay_lt hLo1.1 (by decide)) (ce_of hLo1.1) rfl rfl (Nat.le_of_ble_eq_true rfl) rfl dX3_giveBack_31 ?_
    refine k_aload_n (q := 0) dX3_giveBack_34 rfl rfl ?_
    refine k_dup dX3_giveBack_35 rfl ?_
    refine kg_3 (v := .int (σ7 o 0)) hL.1 inX3_giveBack_3 0 (by decide) (List.mem_of_getElem? (i := 1) rfl) rfl dX3_giveBack_36 ?_
    refine k_iconst (v := (nI 1)) dX3_giveBack_39 (by decide) ?_
    refine k_isub dX3_giveBack_40 ?_
    refine kp_3_0 hL.1 inX3_giveBack_3 (List.mem_of_getElem? (i := 1) rfl) dX3_giveBack_41 h (fun σ8 h => ?_)
    exact k_vret rfl dX3_giveBack_44 h
