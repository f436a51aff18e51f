/-! THE WALKS (laid by wip/whole/gen_walk.py) -/
abbrev rmX8_addScene : Room := { frames := 4, cells := 0, slots := 0, locals := 90 }
abbrev mX8_addScene : MT := (rmX8_addScene, wsX8_addScene, cX8_addScene, 4, RX8, some .int)
theorem hd_X8_addScene : yX8_addScene.cls = RX8 ∧ yX8_addScene.cls ≠ "java/lang/invoke/MethodHandle" ∧ yX8_addScene.cls ≠ "java/lang/invoke/VarHandle" ∧ (parseMethodDescriptor yX8_addScene.desc).map (fun d => d.parameters.length) = some 2 := by decide +kernel
theorem inX8_addScene_8 : ∀ w ∈ wsX80, w ∈ wsX8_addScene := fun w h => List.mem_cons_of_mem _ (List.mem_append_left _ (List.mem_append_left _ (List.mem_append_left _ (List.mem_append_left _ (List.mem_append_left _ (List.mem_append_left _ (List.mem_append_left _ (List.mem_append_right _ h))))))))
theorem inX8_addScene_2 : ∀ w ∈ wsX20, w ∈ wsX8_addScene := fun w h => List.mem_cons_of_mem _ (List.mem_append_left _ (List.mem_append_left _ (List.mem_append_left _ (List.mem_append_left _ (List.mem_append_left _ (List.mem_append_left _ (List.mem_append_right _ h)))))))
theorem inX8_addScene_6 : ∀ w ∈ wsX60, w ∈ wsX8_addScene := fun w h => List.mem_cons_of_mem _ (List.mem_append_left _ (List.mem_append_left _ (List.mem_append_left _ (List.mem_append_left _ (List.mem_append_left _ (List.mem_append_right _ h))))))
theorem inX8_addScene_0 : ∀ w ∈ wsX00, w ∈ wsX8_addScene := fun w h => List.mem_cons_of_mem _ (List.mem_append_left _ (List.mem_append_left _ (List.mem_append_left _ (List.mem_append_left _ (List.mem_append_right _ h)))))
theorem inX8_addScene_4 : ∀ w ∈ wsX40, w ∈ wsX8_addScene := fun w h => List.mem_cons_of_mem _ (List.mem_append_left _ (List.mem_append_left _ (List.mem_append_left _ (List.mem_append_right _ h))))
theorem inX8_addScene_3 : ∀ w ∈ wsX30, w ∈ wsX8_addScene := fun w h => List.mem_cons_of_mem _ (List.mem_append_left _ (List.mem_append_left _ (List.mem_append_right _ h)))
theorem inX8_addScene_7 : ∀ w ∈ wsX70, w ∈ wsX8_addScene := fun w h => List.mem_cons_of_mem _ (List.mem_append_left _ (List.mem_append_right _ h))
theorem inX8_addScene_5 : ∀ w ∈ wsX50, w ∈ wsX8_addScene := fun w h => List.mem_cons_of_mem _ (List.mem_append_right _ h)
set_option maxHeartbeats 4000000 in
set_option maxRecDepth 100000 in
theorem cm_X8_addScene (l : Launch) {X : XT} (hX : XD X) (g : Nat) (σ : Mem) (o : Nat) (hL : L8 o) (p1 : Int32) (p2 : Int32) {r : Int32} {σ' : Mem} (h : fX8_addScene g σ o p1 p2 = some (r, σ')) : Met l yX8_addScene wsX8_addScene rmX8_addScene (va_Pc [.ref (xad X o), .int p1, .int p2] (WW X σ)) (QI X r σ') 0 0 (XA X) := by
  refine met_x (M := mX8_addScene) (lv := [(0, .ref (xad X o)), (1, .int p1), (2, .int p2)]) hX (by decide) rfl rfl (Nat.le_of_ble_eq_true rfl) rfl ?_
  unfold fX8_addScene at h
  refine k_iload_n (q := 1) dX8_addScene_0 rfl rfl ?_
  refine k_iconst (v := (nI 0)) dX8_addScene_1 (by decide) ?_
  refine k_iconst (v := (nI 5)) dX8_addScene_2 (by decide) ?_
  obtain ⟨r2, hc1, h⟩ := bnd_e h
  refine k_cs (As := [.int p1, .int (nI 0), .int (nI 5)]) 3 (cm_X8_isWithin l hX g σ p1 (nI 0) (nI 5) hc1) gX8_addScene_X8_isWithin rfl ⟨rfl, rfl⟩ hd_X8_isWithin ⟨Nat.le_of_ble_eq_true rfl, Nat.le_of_ble_eq_true rfl⟩ ⟨Nat.le_refl _, Nat.le_refl _⟩ rfl (Nat.le_of_ble_eq_true rfl) rfl dX8_addScene_3 ?_
  refine k_if_eq (tgt := 19) dX8_addScene_6 (by decide) h (fun h => ?_) (fun h => ?_)
  · refine k_bipush (v := (nN 2)) dX8_addScene_19 (by decide) ?_
    exact k_iret rfl dX8_addScene_21 h
  · refine k_iload_n (q := 2) dX8_addScene_9 rfl rfl ?_
    refine k_iconst (v := (nI 1)) dX8_addScene_10 (by decide) ?_
    refine k_bipush (v := (nI 40)) dX8_addScene_11 (by decide) ?_
    obtain ⟨r4, hc3, h⟩ := bnd_e h
    refine k_cs (As := [.int p2, .int (nI 1), .int (nI 40)]) 3 (cm_X8_isWithin l hX g σ p2 (nI 1) (nI 40) hc3) gX8_addScene_X8_isWithin rfl ⟨rfl, rfl⟩ hd_X8_isWithin ⟨Nat.le_of_ble_eq_true rfl, Nat.le_of_ble_eq_true rfl⟩ ⟨Nat.le_refl _, Nat.le_refl _⟩ rfl (Nat.le_of_ble_eq_true rfl) rfl dX8_addScene_13 ?_
    refine k_if_ne (tgt := 22) dX8_addScene_16 (by decide) h (fun h => ?_) (fun h => ?_)
    · refine k_aload_n (q := 0) dX8_addScene_22 rfl rfl ?_
      refine kg_8 (v := .ref (xad X (o + 1))) hL.1 inX8_addScene_8 0 (by decide) (List.mem_of_getElem? (i := 1) rfl) rfl dX8_addScene_23 ?_
      refine kg_2 (v := .ref (xad X (o + 2))) hL.2.1.1 inX8_addScene_2 0 (by decide) (List.mem_of_getElem? (i := 2) rfl) rfl dX8_addScene_26 ?_
      refine kg_6 (v := .int (σ (o + 2) 0)) hL.2.1.2.1.1 inX8_addScene_6 0 (by decide) (List.mem_of_getElem? (i := 3) rfl) rfl dX8_addScene_29 ?_
      refine k_bipush (v := (nI 12)) dX8_addScene_32 (by decide) ?_
      refine k_icmp_ge (tgt := 53) dX8_addScene_34 (by decide) h (fun h => ?_) (fun h => ?_)
      · refine k_bipush (v := (nN 3)) dX8_addScene_53 (by decide) ?_
        exact k_iret rfl dX8_addScene_55 h
      · refine k_aload_n (q := 0) dX8_addScene_37 rfl rfl ?_
        refine kg_8 (v := .ref (xad X (o + 1))) hL.1 inX8_addScene_8 0 (by decide) (List.mem_of_getElem? (i := 1) rfl) rfl dX8_addScene_38 ?_
        refine kg_2 (v := .ref (xad X (o + 7))) hL.2.1.1 inX8_addScene_2 1 (by decide) (List.mem_of_getElem? (i := 4) rfl) rfl dX8_addScene_41 ?_
        refine kg_0 (v := .ref (xad X (o + 8))) hL.2.1.2.2.1.1 inX8_addScene_0 0 (by decide) (List.mem_of_getElem? (i := 5) rfl) rfl dX8_addScene_44 ?_
        obtain ⟨r6, hc5, h⟩ := bnd_e h
        refine k_cv (q := (RX4, TX4, 5)) (As := []) 0 (cm_X4_isFull l hX g σ (o + 8) hL.2.1.2.2.1.2.1 hc5) gX8_addScene_X4_isFull rfl ⟨rfl, rfl⟩ hd_X4_isFull ⟨Nat.le_of_ble_eq_true rfl, Nat.le_of_ble_eq_true rfl⟩ ⟨Nat.le_refl _, Nat.le_refl _⟩ (lay_lt hL.2.1.2.2.1.2.1.1 (by decide)) (ce_of hL.2.1.2.2.1.2.1.1) rfl rfl (Nat.le_of_ble_eq_true rfl) rfl dX8_addScene_47 ?_
        refine k_if_eq (tgt := 56) dX8_addScene_50 (by decide) h (fun h => ?_) (fun h => ?_)
        · refine k_aload_n (q := 0) dX8_addScene_56 rfl rfl ?_
          refine kg_8 (v := .ref (xad X (o + 105))) hL.1 inX8_addScene_8 2 (by decide) (List.mem_of_getElem? (i := 6) rfl) rfl dX8_addScene_57 ?_
          refine k_aload_n (q := 0) dX8_addScene_60 rfl rfl ?_
          refine kg_8 (v := .ref (xad X (o + 1))) hL.1 inX8_addScene_8 0 (by decide) (List.mem_of_getElem? (i := 1) rfl) rfl dX8_addScene_61 ?_
          obtain ⟨σ8, hc7, h⟩ := bnd_e h
          refine k_cvv (q := (RX3, TX3, 3)) (As := [.ref (xad X (o + 1))]) 1 (cm_X3_record l hX g σ (o + 105) hL.2.2.2.1 (o + 1) hL.2.1 hc7) gX8_addScene_X3_record rfl ⟨rfl, rfl⟩ hd_X3_record ⟨Nat.le_of_ble_eq_true rfl, Nat.le_of_ble_eq_true rfl⟩ ⟨Nat.le_refl _, Nat.le_refl _⟩ (lay_lt hL.2.2.2.1.1 (by decide)) (ce_of hL.2.2.2.1.1) rfl rfl (Nat.le_of_ble_eq_true rfl) rfl dX8_addScene_64 ?_
          refine k_aload_n (q := 0) dX8_addScene_67 rfl rfl ?_
          refine kg_8 (v := .ref (xad X (o + 1))) hL.1 inX8_addScene_8 0 (by decide) (List.mem_of_getElem? (i := 1) rfl) rfl dX8_addScene_68 ?_
          refine kg_2 (v := .ref (xad X (o + 2))) hL.2.1.1 inX8_addScene_2 0 (by decide) (List.mem_of_getElem? (i := 2) rfl) rfl dX8_addScene_71 ?_
          refine k_iload_n (q := 1) dX8_addScene_74 rfl rfl ?_
          refine k_iload_n (q := 2) dX8_addScene_75 rfl rfl ?_
          obtain ⟨r10, σ11, hc9, h⟩ := bnd2_e h
          refine k_cv (q := (RX6, TX6, 5)) (As := [.int p1, .int p2]) 2 (cm_X6_append l hX g σ8 (o + 2) hL.2.1.2.1 p1 p2 hc9) gX8_addScene_X6_append rfl ⟨rfl, rfl⟩ hd_X6_append ⟨Nat.le_of_ble_eq_true rfl, Nat.le_of_ble_eq_true rfl⟩ ⟨Nat.le_refl _, Nat.le_refl _⟩ (lay_lt hL.2.1.2.1.1 (by decide)) (ce_of hL.2.1.2.1.1) rfl rfl (Nat.le_of_ble_eq_true rfl) rfl dX8_addScene_76 ?_
          refine k_istore_n (lv' := [(3, .int r10), (0, .ref (xad X o)), (1, .int p1), (2, .int p2)]) dX8_addScene_79 rfl (Nat.le_of_ble_eq_true rfl) rfl ?_
          refine k_aload_n (q := 1) dX8_addScene_80 rfl rfl ?_
          refine kg_8 (v := .ref (xad X (o + 1))) hL.1 inX8_addScene_8 0 (by decide) (List.mem_of_getElem? (i := 1) rfl) rfl dX8_addScene_81 ?_
          refine kg_2 (v := .ref (xad X (o + 7))) hL.2.1.1 inX8_addScene_2 1 (by decide) (List.mem_of_getElem? (i := 4) rfl) rfl dX8_addScene_84 ?_
          refine kg_0 (v := .ref (xad X (o + 8))) hL.2.1.2.2.1.1 inX8_addScene_0 0 (by decide) (List.mem_of_getElem? (i := 5) rfl) rfl dX8_addScene_87 ?_
          refine k_aload_n (q := 1) dX8_addScene_90 rfl rfl ?_
          refine kg_8 (v := .ref (xad X (o + 1))) hL.1 inX8_addScene_8 0 (by decide) (List.mem_of_getElem? (i := 1) rfl) rfl dX8_addScene_91 ?_
          refine kg_2 (v := .ref (xad X (o + 7))) hL.2.1.1 inX8_addScene_2 1 (by decide) (List.mem_of_getElem? (i := 4) rfl) rfl dX8_addScene_94 ?_
          refine kg_0 (v := .ref (xad X (o + 8))) hL.2.1.2.2.1.1 inX8_addScene_0 0 (by decide) (List.mem_of_getElem? (i := 5) rfl) rfl dX8_addScene_97 ?_
          refine kg_4 (v := .int (σ11 (o + 8) 0)) hL.2.1.2.2.1.2.1.1 inX8_addScene_4 0 (by decide) (List.mem_of_getElem? (i := 7) rfl) rfl dX8_addScene_100 ?_
          refine k_iload_n (q := 0) dX8_addScene_103 rfl rfl ?_
          refine k_iconst (v := (nI 0)) dX8_addScene_104 (by decide) ?_
          refine k_iload_n (q := 3) dX8_addScene_105 rfl rfl ?_
          refine k_iconst (v := (nI 1)) dX8_addScene_106 (by decide) ?_
          refine k_isub dX8_addScene_107 ?_
          obtain ⟨σ13, hc12, h⟩ := bnd_e h
          refine k_cvv (q := (RX4, TX4, 5)) (As := [.int (σ11 (o + 8) 0), .int r10, .int (nI 0), .int (p2 - (nI 1))]) 4 (cm_X4_putAt l hX g σ11 (o + 8) hL.2.1.2.2.1.2.1 (σ11 (o + 8) 0) r10 (nI 0) (p2 - (nI 1)) hc12) gX8_addScene_X4_putAt rfl ⟨rfl, rfl⟩ hd_X4_putAt ⟨Nat.le_of_ble_eq_true rfl, Nat.le_of_ble_eq_true rfl⟩ ⟨Nat.le_refl _, Nat.le_refl _⟩ (lay_lt hL.2.1.2.2.1.2.1.1 (by decide)) (ce_of hL.2.1.2.2.1.2.1.1) rfl rfl (Nat.le_of_ble_eq_true rfl) rfl dX8_addScene_108 ?_
          refine k_iload_n (q := 0) dX8_addScene_111 rfl rfl ?_
          exact k_iret rfl dX8_addScene_112 h
        · refine k_bipush (v := (nN 3)) dX8_addScene_53 (by decide) ?_
          exact k_iret rfl dX8_addScene_55 h
    · refine k_bipush (v := (nN 2)) dX8_addScene_19 (by decide) ?_
      exact k_iret rfl dX8_addScene_21 h
abbrev rmX8_takeOverTrial : Room := { frames := 4, cells := 0, slots := 0, locals := 90 }
abbrev mX8_takeOverTrial : MT := (rmX8_takeOverTrial, wsX8_takeOverTrial, cX8_takeOverTrial, 1, RX8, none)
theorem hd_X8_takeOverTrial : yX8_takeOverTrial.cls = RX8 ∧ yX8_takeOverTrial.cls ≠ "java/lang/invoke/MethodHandle" ∧ yX8_takeOverTrial.cls ≠ "java/lang/invoke/VarHandle" ∧ (parseMethodDescriptor yX8_takeOverTrial.desc).map (fun d => d.parameters.length) = some 0 := by decide +kernel
theorem inX8_takeOverTrial_8 : ∀ w ∈ wsX80, w ∈ wsX8_takeOverTrial := fun w h => List.mem_cons_of_mem _ (List.mem_append_left _ (List.mem_append_left _ (List.mem_append_left _ (List.mem_append_left _ (List.mem_append_left _ (List.mem_append_left _ (List.mem_append_left _ (List.mem_append_right _ h))))))))
theorem inX8_takeOverTrial_2 : ∀ w ∈ wsX20, w ∈ wsX8_takeOverTrial := fun w h => List.mem_cons_of_mem _ (List.mem_append_left _ (List.mem_append_left _ (List.mem_append_left _ (List.mem_append_left _ (List.mem_append_left _ (List.mem_append_left _ (List.mem_append_right _ h)))))))
theorem inX8_takeOverTrial_3 : ∀ w ∈ wsX30, w ∈ wsX8_takeOverTrial := fun w h => List.mem_cons_of_mem _ (List.mem_append_left _ (List.mem_append_left _ (List.mem_append_left _ (List.mem_append_left _ (List.mem_append_left _ (List.mem_append_right _ h))))))
theorem inX8_takeOverTrial_0 : ∀ w ∈ wsX00, w ∈ wsX8_takeOverTrial := fun w h => List.mem_cons_of_mem _ (List.mem_append_left _ (List.mem_append_left _ (List.mem_append_left _ (List.mem_append_left _ (List.mem_append_right _ h)))))
theorem inX8_takeOverTrial_6 : ∀ w ∈ wsX60, w ∈ wsX8_takeOverTrial := fun w h => List.mem_cons_of_mem _ (List.mem_append_left _ (List.mem_append_left _ (List.mem_append_left _ (List.mem_append_right _ h))))
theorem inX8_takeOverTrial_4 : ∀ w ∈ wsX40, w ∈ wsX8_takeOverTrial := fun w h => List.mem_cons_of_mem _ (List.mem_append_left _ (List.mem_append_left _ (List.mem_append_right _ h)))
theorem inX8_takeOverTrial_7 : ∀ w ∈ wsX70, w ∈ wsX8_takeOverTrial := fun w h => List.mem_cons_of_mem _ (List.mem_append_left _ (List.mem_append_right _ h))
theorem inX8_takeOverTrial_5 : ∀ w ∈ wsX50, w ∈ wsX8_takeOverTrial := fun w h => List.mem_cons_of_mem _ (List.mem_append_right _ h)
set_option maxHeartbeats 4000000 in
set_option maxRecDepth 100000 in
theorem cm_X8_takeOverTrial (l : Launch) {X : XT} (hX : XD X) (g : Nat) (σ : Mem) (o : Nat) (hL : L8 o) {σ' : Mem} (h : fX8_takeOverTrial g σ o = some σ') : Met l yX8_takeOverTrial wsX8_takeOverTrial rmX8_takeOverTrial (va_Pc [.ref (xad X o)] (WW X σ)) (QV X σ') 0 0 (XA X) := by
  refine met_x (M := mX8_takeOverTrial) (lv := [(0, .ref (xad X o))]) hX (by decide) rfl rfl (Nat.le_of_ble_eq_true rfl) rfl ?_
  unfold fX8_takeOverTrial at h
  refine k_aload_n (q := 0) dX8_takeOverTrial_0 rfl rfl ?_
  refine kg_8 (v := .ref (xad X (o + 105))) hL.1 inX8_takeOverTrial_8 2 (by decide) (List.mem_of_getElem? (i := 1) rfl) rfl dX8_takeOverTrial_1 ?_
  refine k_aload_n (q := 0) dX8_takeOverTrial_4 rfl rfl ?_
  refine kg_8 (v := .ref (xad X (o + 1))) hL.1 inX8_takeOverTrial_8 0 (by decide) (List.mem_of_getElem? (i := 2) rfl) rfl dX8_takeOverTrial_5 ?_
  obtain ⟨σ2, hc1, h⟩ := bnd_e h
  refine k_cvv (q := (RX3, TX3, 3)) (As := [.ref (xad X (o + 1))]) 1 (cm_X3_record l hX g σ (o + 105) hL.2.2.2.1 (o + 1) hL.2.1 hc1) gX8_takeOverTrial_X3_record rfl ⟨rfl, rfl⟩ hd_X3_record ⟨Nat.le_of_ble_eq_true rfl, Nat.le_of_ble_eq_true rfl⟩ ⟨Nat.le_refl _, Nat.le_refl _⟩ (lay_lt hL.2.2.2.1.1 (by decide)) (ce_of hL.2.2.2.1.1) rfl rfl (Nat.le_of_ble_eq_true rfl) rfl dX8_takeOverTrial_8 ?_
  refine k_aload_n (q := 0) dX8_takeOverTrial_11 rfl rfl ?_
  refine kg_8 (v := .ref (xad X (o + 1))) hL.1 inX8_takeOverTrial_8 0 (by decide) (List.mem_of_getElem? (i := 2) rfl) rfl dX8_takeOverTrial_12 ?_
  refine kg_2 (v := .ref (xad X (o + 7))) hL.2.1.1 inX8_takeOverTrial_2 1 (by decide) (List.mem_of_getElem? (i := 3) rfl) rfl dX8_takeOverTrial_15 ?_
  refine k_aload_n (q := 0) dX8_takeOverTrial_18 rfl rfl ?_
  refine kg_8 (v := .ref (xad X (o + 320))) hL.1 inX8_takeOverTrial_8 4 (by decide) (List.mem_of_getElem? (i := 4) rfl) rfl dX8_takeOverTrial_19 ?_
  obtain ⟨σ4, hc3, h⟩ := bnd_e h
  refine k_cvv (q := (RX0, TX0, 2)) (As := [.ref (xad X (o + 320))]) 1 (cm_X0_copyFrom l hX g σ2 (o + 7) hL.2.1.2.2.1 (o + 320) hL.2.2.2.2.2.1 hc3) gX8_takeOverTrial_X0_copyFrom rfl ⟨rfl, rfl⟩ hd_X0_copyFrom ⟨Nat.le_of_ble_eq_true rfl, Nat.le_of_ble_eq_true rfl⟩ ⟨Nat.le_refl _, Nat.le_refl _⟩ (lay_lt hL.2.1.2.2.1.1 (by decide)) (ce_of hL.2.1.2.2.1.1) rfl rfl (Nat.le_of_ble_eq_true rfl) rfl dX8_takeOverTrial_22 ?_
  exact k_vret rfl dX8_takeOverTrial_25 h
abbrev rmX8_editOnce : Room := { frames := 5, cells := 0, slots := 0, locals := 119 }
abbrev mX8_editOnce : MT := (rmX8_editOnce, wsX8_editOnce, cX8_editOnce, 5, RX8, some .int)
theorem hd_X8_editOnce : yX8_editOnce.cls = RX8 ∧ yX8_editOnce.cls ≠ "java/lang/invoke/MethodHandle" ∧ yX8_editOnce.cls ≠ "java/lang/invoke/VarHandle" ∧ (parseMethodDescriptor yX8_editOnce.desc).map (fun d => d.parameters.length) = some 3 := by decide +kernel
theorem inX8_editOnce_8 : ∀ w ∈ wsX80, w ∈ wsX8_editOnce := fun w h => List.mem_cons_of_mem _ (List.mem_append_left _ (List.mem_append_left _ (List.mem_append_left _ (List.mem_append_left _ (List.mem_append_left _ (List.mem_append_left _ (List.mem_append_left _ (List.mem_append_right _ h))))))))
theorem inX8_editOnce_2 : ∀ w ∈ wsX20, w ∈ wsX8_editOnce := fun w h => List.mem_cons_of_mem _ (List.mem_append_left _ (List.mem_append_left _ (List.mem_append_left _ (List.mem_append_left _ (List.mem_append_left _ (List.mem_append_left _ (List.mem_append_right _ h)))))))
theorem inX8_editOnce_0 : ∀ w ∈ wsX00, w ∈ wsX8_editOnce := fun w h => List.mem_cons_of_mem _ (List.mem_append_left _ (List.mem_append_left _ (List.mem_append_left _ (List.mem_append_left _ (List.mem_append_left _ (List.mem_append_right _ h))))))
theorem inX8_editOnce_4 : ∀ w ∈ wsX40, w ∈ wsX8_editOnce := fun w h => List.mem_cons_of_mem _ (List.mem_append_left _ (List.mem_append_left _ (List.mem_append_left _ (List.mem_append_left _ (List.mem_append_right _ h)))))
theorem inX8_editOnce_3 : ∀ w ∈ wsX30, w ∈ wsX8_editOnce := fun w h => List.mem_cons_of_mem _ (List.mem_append_left _ (List.mem_append_left _ (List.mem_append_left _ (List.mem_append_right _ h))))
theorem inX8_editOnce_6 : ∀ w ∈ wsX60, w ∈ wsX8_editOnce := fun w h => List.mem_cons_of_mem _ (List.mem_append_left _ (List.mem_append_left _ (List.mem_append_right _ h)))
theorem inX8_editOnce_7 : ∀ w ∈ wsX70, w ∈ wsX8_editOnce := fun w h => List.mem_cons_of_mem _ (List.mem_append_left _ (List.mem_append_right _ h))
theorem inX8_editOnce_5 : ∀ w ∈ wsX50, w ∈ wsX8_editOnce := fun w h => List.mem_cons_of_mem _ (List.mem_append_right _ h)
set_option maxHeartbeats 4000000 in
set_option maxRecDepth 100000 in
theorem cm_X8_editOnce (l : Launch) {X : XT} (hX : XD X) (g : Nat) (σ : Mem) (o : Nat) (hL : L8 o) (p1 : Int32) (p2 : Int32) (p3 : Int32) {r : Int32} {σ' : Mem} (h : fX8_editOnce g σ o p1 p2 p3 = some (r, σ')) : Met l yX8_editOnce wsX8_editOnce rmX8_editOnce (va_Pc [.ref (xad X o), .int p1, .int p2, .int p3] (WW X σ)) (QI X r σ') 0 0 (XA X) := by
  refine met_x (M := mX8_editOnce) (lv := [(0, .ref (xad X o)), (1, .int p1), (2, .int p2), (3, .int p3)]) hX (by decide) rfl rfl (Nat.le_of_ble_eq_true rfl) rfl ?_
  unfold fX8_editOnce at h
  refine k_aload_n (q := 0) dX8_editOnce_0 rfl rfl ?_
  refine kg_8 (v := .ref (xad X (o + 320))) hL.1 inX8_editOnce_8 4 (by decide) (List.mem_of_getElem? (i := 1) rfl) rfl dX8_editOnce_1 ?_
  refine k_aload_n (q := 0) dX8_editOnce_4 rfl rfl ?_
  refine kg_8 (v := .ref (xad X (o + 1))) hL.1 inX8_editOnce_8 0 (by decide) (List.mem_of_getElem? (i := 2) rfl) rfl dX8_editOnce_5 ?_
  refine kg_2 (v := .ref (xad X (o + 7))) hL.2.1.1 inX8_editOnce_2 1 (by decide) (List.mem_of_getElem? (i := 3) rfl) rfl dX8_editOnce_8 ?_
  obtain ⟨σ2, hc1, h⟩ := bnd_e h
  refine k_cvv (q := (RX0, TX0, 2)) (As := [.ref (xad X (o + 7))]) 1 (cm_X0_copyFrom l hX g σ (o + 320) hL.2.2.2.2.2.1 (o + 7) hL.2.1.2.2.1 hc1) gX8_editOnce_X0_copyFrom rfl ⟨rfl, rfl⟩ hd_X0_copyFrom ⟨Nat.le_of_ble_eq_true rfl, Nat.le_of_ble_eq_true rfl⟩ ⟨Nat.le_refl _, Nat.le_refl _⟩ (lay_lt hL.2.2.2.2.2.1.1 (by decide)) (ce_of hL.2.2.2.2.2.1.1) rfl rfl (Nat.le_of_ble_eq_true rfl) rfl dX8_editOnce_11 ?_
  refine k_aload_n (q := 0) dX8_editOnce_14 rfl rfl ?_
  refine kg_8 (v := .ref (xad X (o + 320))) hL.1 inX8_editOnce_8 4 (by decide) (List.mem_of_getElem? (i := 1) rfl) rfl dX8_editOnce_15 ?_
  refine k_iload_n (q := 1) dX8_editOnce_18 rfl rfl ?_
  refine k_iload_n (q := 2) dX8_editOnce_19 rfl rfl ?_
  refine k_iload_n (q := 3) dX8_editOnce_20 rfl rfl ?_
  obtain ⟨r4, σ5, hc3, h⟩ := bnd2_e h
  refine k_cv (q := (RX0, TX0, 2)) (As := [.int p1, .int p2, .int p3]) 3 (cm_X0_perform l hX g σ2 (o + 320) hL.2.2.2.2.2.1 p1 p2 p3 hc3) gX8_editOnce_X0_perform rfl ⟨rfl, rfl⟩ hd_X0_perform ⟨Nat.le_of_ble_eq_true rfl, Nat.le_of_ble_eq_true rfl⟩ ⟨Nat.le_refl _, Nat.le_refl _⟩ (lay_lt hL.2.2.2.2.2.1.1 (by decide)) (ce_of hL.2.2.2.2.2.1.1) rfl rfl (Nat.le_of_ble_eq_true rfl) rfl dX8_editOnce_21 ?_
  refine k_istore (lv' := [(4, .int r4), (0, .ref (xad X o)), (1, .int p1), (2, .int p2), (3, .int p3)]) dX8_editOnce_24 (Nat.le_of_ble_eq_true rfl) rfl ?_
  refine k_iload (q := 0) dX8_editOnce_26 rfl ?_
  refine k_if_lt (tgt := 35) dX8_editOnce_28 (by decide) h (fun h => ?_) (fun h => ?_)
  · refine k_iload (q := 0) dX8_editOnce_35 rfl ?_
    exact k_iret rfl dX8_editOnce_37 h
  · refine k_aload_n (q := 1) dX8_editOnce_31 rfl rfl ?_
    obtain ⟨σ7, hc6, h⟩ := bnd_e h
    refine k_cvv (q := (RX8, TX8, 7)) (As := []) 0 (cm_X8_takeOverTrial l hX g σ5 o hL hc6) gX8_editOnce_X8_takeOverTrial rfl ⟨rfl, rfl⟩ hd_X8_takeOverTrial ⟨Nat.le_of_ble_eq_true rfl, Nat.le_of_ble_eq_true rfl⟩ ⟨Nat.le_refl _, Nat.le_refl _⟩ (lay_lt hL.1 (by decide)) (ce_of hL.1) rfl rfl (Nat.le_of_ble_eq_true rfl) rfl dX8_editOnce_32 ?_
    refine k_iload (q := 0) dX8_editOnce_35 rfl ?_
    exact k_iret rfl dX8_editOnce_37 h
abbrev rmX8_cut : Room := { frames := 6, cells := 0, slots := 0, locals := 143 }
abbrev mX8_cut : MT := (rmX8_cut, wsX8_cut, cX8_cut, 2, RX8, some .int)
theorem hd_X8_cut : yX8_cut.cls = RX8 ∧ yX8_cut.cls ≠ "java/lang/invoke/MethodHandle" ∧ yX8_cut.cls ≠ "java/lang/invoke/VarHandle" ∧ (parseMethodDescriptor yX8_cut.desc).map (fun d => d.parameters.length) = some 1 := by decide +kernel
theorem inX8_cut_8 : ∀ w ∈ wsX80, w ∈ wsX8_cut := fun w h => List.mem_cons_of_mem _ (List.mem_append_left _ (List.mem_append_left _ (List.mem_append_left _ (List.mem_append_left _ (List.mem_append_left _ (List.mem_append_left _ (List.mem_append_left _ (List.mem_append_right _ h))))))))
theorem inX8_cut_2 : ∀ w ∈ wsX20, w ∈ wsX8_cut := fun w h => List.mem_cons_of_mem _ (List.mem_append_left _ (List.mem_append_left _ (List.mem_append_left _ (List.mem_append_left _ (List.mem_append_left _ (List.mem_append_left _ (List.mem_append_right _ h)))))))
theorem inX8_cut_0 : ∀ w ∈ wsX00, w ∈ wsX8_cut := fun w h => List.mem_cons_of_mem _ (List.mem_append_left _ (List.mem_append_left _ (List.mem_append_left _ (List.mem_append_left _ (List.mem_append_left _ (List.mem_append_right _ h))))))
theorem inX8_cut_4 : ∀ w ∈ wsX40, w ∈ wsX8_cut := fun w h => List.mem_cons_of_mem _ (List.mem_append_left _ (List.mem_append_left _ (List.mem_append_left _ (List.mem_append_left _ (List.mem_append_right _ h)))))
theorem inX8_cut_3 : ∀ w ∈ wsX30, w ∈ wsX8_cut := fun w h => List.mem_cons_of_mem _ (List.mem_append_left _ (List.mem_append_left _ (List.mem_append_left _ (List.mem_append_right _ h))))
theorem inX8_cut_6 : ∀ w ∈ wsX60, w ∈ wsX8_cut := fun w h => List.mem_cons_of_mem _ (List.mem_append_left _ (List.mem_append_left _ (List.mem_append_right _ h)))
theorem inX8_cut_7 : ∀ w ∈ wsX70, w ∈ wsX8_cut := fun w h => List.mem_cons_of_mem _ (List.mem_append_left _ (List.mem_append_right _ h))
theorem inX8_cut_5 : ∀ w ∈ wsX50, w ∈ wsX8_cut := fun w h => List.mem_cons_of_mem _ (List.mem_append_right _ h)
set_option maxHeartbeats 4000000 in
set_option maxRecDepth 100000 in
theorem cm_X8_cut (l : Launch) {X : XT} (hX : XD X) (g : Nat) (σ : Mem) (o : Nat) (hL : L8 o) (p1 : Int32) {r : Int32} {σ' : Mem} (h : fX8_cut g σ o p1 = some (r, σ')) : Met l yX8_cut wsX8_cut rmX8_cut (va_Pc [.ref (xad X o), .int p1] (WW X σ)) (QI X r σ') 0 0 (XA X) := by
  refine met_x (M := mX8_cut) (lv := [(0, .ref (xad X o)), (1, .int p1)]) hX (by decide) rfl rfl (Nat.le_of_ble_eq_true rfl) rfl ?_
  unfold fX8_cut at h
  refine k_aload_n (q := 0) dX8_cut_0 rfl rfl ?_
  refine k_bipush (v := (nI 99)) dX8_cut_1 (by decide) ?_
  refine k_iload_n (q := 1) dX8_cut_3 rfl rfl ?_
  refine k_iconst (v := (nI 0)) dX8_cut_4 (by decide) ?_
  obtain ⟨r2, σ3, hc1, h⟩ := bnd2_e h
  refine k_cv (q := (RX8, TX8, 7)) (As := [.int (nI 99), .int p1, .int (nI 0)]) 3 (cm_X8_editOnce l hX g σ o hL (nI 99) p1 (nI 0) hc1) gX8_cut_X8_editOnce rfl ⟨rfl, rfl⟩ hd_X8_editOnce ⟨Nat.le_of_ble_eq_true rfl, Nat.le_of_ble_eq_true rfl⟩ ⟨Nat.le_refl _, Nat.le_refl _⟩ (lay_lt hL.1 (by decide)) (ce_of hL.1) rfl rfl (Nat.le_of_ble_eq_true rfl) rfl dX8_cut_5 ?_
  exact k_iret rfl dX8_cut_8 h
abbrev rmX8_join : Room := { frames := 6, cells := 0, slots := 0, locals := 143 }
abbrev mX8_join : MT := (rmX8_join, wsX8_join, cX8_join, 2, RX8, some .int)
theorem hd_X8_join : yX8_join.cls = RX8 ∧ yX8_join.cls ≠ "java/lang/invoke/MethodHandle" ∧ yX8_join.cls ≠ "java/lang/invoke/VarHandle" ∧ (parseMethodDescriptor yX8_join.desc).map (fun d => d.parameters.length) = some 1 := by decide +kernel
theorem inX8_join_8 : ∀ w ∈ wsX80, w ∈ wsX8_join := fun w h => List.mem_cons_of_mem _ (List.mem_append_left _ (List.mem_append_left _ (List.mem_append_left _ (List.mem_append_left _ (List.mem_append_left _ (List.mem_append_left _ (List.mem_append_left _ (List.mem_append_right _ h))))))))
theorem inX8_join_2 : ∀ w ∈ wsX20, w ∈ wsX8_join := fun w h => List.mem_cons_of_mem _ (List.mem_append_left _ (List.mem_append_left _ (List.mem_append_left _ (List.mem_append_left _ (List.mem_append_left _ (List.mem_append_left _ (List.mem_append_right _ h)))))))
theorem inX8_join_0 : ∀ w ∈ wsX00, w ∈ wsX8_join := fun w h => List.mem_cons_of_mem _ (List.mem_append_left _ (List.mem_append_left _ (List.mem_append_left _ (List.mem_append_left _ (List.mem_append_left _ (List.mem_append_right _ h))))))
theorem inX8_join_4 : ∀ w ∈ wsX40, w ∈ wsX8_join := fun w h => List.mem_cons_of_mem _ (List.mem_append_left _ (List.mem_append_left _ (List.mem_append_left _ (List.mem_append_left _ (List.mem_append_right _ h)))))
theorem inX8_join_3 : ∀ w ∈ wsX30, w ∈ wsX8_join := fun w h => List.mem_cons_of_mem _ (List.mem_append_left _ (List.mem_append_left _ (List.mem_append_left _ (List.mem_append_right _ h))))
theorem inX8_join_6 : ∀ w ∈ wsX60, w ∈ wsX8_join := fun w h => List.mem_cons_of_mem _ (List.mem_append_left _ (List.mem_append_left _ (List.mem_append_right _ h)))
theorem inX8_join_7 : ∀ w ∈ wsX70, w ∈ wsX8_join := fun w h => List.mem_cons_of_mem _ (List.mem_append_left _ (List.mem_append_right _ h))
theorem inX8_join_5 : ∀ w ∈ wsX50, w ∈ wsX8_join := fun w h => List.mem_cons_of_mem _ (List.mem_append_right _ h)
set_option maxHeartbeats 4000000 in
set_option maxRecDepth 100000 in
theorem cm_X8_join (l : Launch) {X : XT} (hX : XD X) (g : Nat) (σ : Mem) (o : Nat) (hL : L8 o) (p1 : Int32) {r : Int32} {σ' : Mem} (h : fX8_join g σ o p1 = some (r, σ')) : Met l yX8_join wsX8_join rmX8_join (va_Pc [.ref (xad X o), .int p1] (WW X σ)) (QI X r σ') 0 0 (XA X) := by
  refine met_x (M := mX8_join) (lv := [(0, .ref (xad X o)), (1, .int p1)]) hX (by decide) rfl rfl (Nat.le_of_ble_eq_true rfl) rfl ?_
  unfold fX8_join at h
  refine k_aload_n (q := 0) dX8_join_0 rfl rfl ?_
  refine k_bipush (v := (nI 106)) dX8_join_1 (by decide) ?_
  refine k_iload_n (q := 1) dX8_join_3 rfl rfl ?_
  refine k_iconst (v := (nI 0)) dX8_join_4 (by decide) ?_
  obtain ⟨r2, σ3, hc1, h⟩ := bnd2_e h
  refine k_cv (q := (RX8, TX8, 7)) (As := [.int (nI 106), .int p1, .int (nI 0)]) 3 (cm_X8_editOnce l hX g σ o hL (nI 106) p1 (nI 0) hc1) gX8_join_X8_editOnce rfl ⟨rfl, rfl⟩ hd_X8_editOnce ⟨Nat.le_of_ble_eq_true rfl, Nat.le_of_ble_eq_true rfl⟩ ⟨Nat.le_refl _, Nat.le_refl _⟩ (lay_lt hL.1 (by decide)) (ce_of hL.1) rfl rfl (Nat.le_of_ble_eq_true rfl) rfl dX8_join_5 ?_
  exact k_iret rfl dX8_join_8 h
abbrev rmX8_takeOut : Room := { frames := 6, cells := 0, slots := 0, locals := 143 }
abbrev mX8_takeOut : MT := (rmX8_takeOut, wsX8_takeOut, cX8_takeOut, 2, RX8, some .int)
theorem hd_X8_takeOut : yX8_takeOut.cls = RX8 ∧ yX8_takeOut.cls ≠ "java/lang/invoke/MethodHandle" ∧ yX8_takeOut.cls ≠ "java/lang/invoke/VarHandle" ∧ (parseMethodDescriptor yX8_takeOut.desc).map (fun d => d.parameters.length) = some 1 := by decide +kernel
theorem inX8_takeOut_8 : ∀ w ∈ wsX80, w ∈ wsX8_takeOut := fun w h => List.mem_cons_of_mem _ (List.mem_append_left _ (List.mem_append_left _ (List.mem_append_left _ (List.mem_append_left _ (List.mem_append_left _ (List.mem_append_left _ (List.mem_append_left _ (List.mem_append_right _ h))))))))
theorem inX8_takeOut_2 : ∀ w ∈ wsX20, w ∈ wsX8_takeOut := fun w h => List.mem_cons_of_mem _ (List.mem_append_left _ (List.mem_append_left _ (List.mem_append_left _ (List.mem_append_left _ (List.mem_append_left _ (List.mem_append_left _ (List.mem_append_right _ h)))))))
theorem inX8_takeOut_0 : ∀ w ∈ wsX00, w ∈ wsX8_takeOut := fun w h => List.mem_cons_of_mem _ (List.mem_append_left _ (List.mem_append_left _ (List.mem_append_left _ (List.mem_append_left _ (List.mem_append_left _ (List.mem_append_right _ h))))))
theorem inX8_takeOut_4 : ∀ w ∈ wsX40, w ∈ wsX8_takeOut := fun w h => List.mem_cons_of_mem _ (List.mem_append_left _ (List.mem_append_left _ (List.mem_append_left _ (List.mem_append_left _ (List.mem_append_right _ h)))))
theorem inX8_takeOut_3 : ∀ w ∈ wsX30, w ∈ wsX8_takeOut := fun w h => List.mem_cons_of_mem _ (List.mem_append_left _ (List.mem_append_left _ (List.mem_append_left _ (List.mem_append_right _ h))))
theorem inX8_takeOut_6 : ∀ w ∈ wsX60, w ∈ wsX8_takeOut := fun w h => List.mem_cons_of_mem _ (List.mem_append_left _ (List.mem_append_left _ (List.mem_append_right _ h)))
theorem inX8_takeOut_7 : ∀ w ∈ wsX70, w ∈ wsX8_takeOut := fun w h => List.mem_cons_of_mem _ (List.mem_append_left _ (List.mem_append_right _ h))
theorem inX8_takeOut_5 : ∀ w ∈ wsX50, w ∈ wsX8_takeOut := fun w h => List.mem_cons_of_mem _ (List.mem_append_right _ h)
set_option maxHeartbeats 4000000 in
set_option maxRecDepth 100000 in
theorem cm_X8_takeOut (l : Launch) {X : XT} (hX : XD X) (g : Nat) (σ : Mem) (o : Nat) (hL : L8 o) (p1 : Int32) {r : Int32} {σ' : Mem} (h : fX8_takeOut g σ o p1 = some (r, σ')) : Met l yX8_takeOut wsX8_takeOut rmX8_takeOut (va_Pc [.ref (xad X o), .int p1] (WW X σ)) (QI X r σ') 0 0 (XA X) := by
  refine met_x (M := mX8_takeOut) (lv := [(0, .ref (xad X o)), (1, .int p1)]) hX (by decide) rfl rfl (Nat.le_of_ble_eq_true rfl) rfl ?_
  unfold fX8_takeOut at h
  refine k_aload_n (q := 0) dX8_takeOut_0 rfl rfl ?_
  refine k_bipush (v := (nI 111)) dX8_takeOut_1 (by decide) ?_
  refine k_iload_n (q := 1) dX8_takeOut_3 rfl rfl ?_
  refine k_iconst (v := (nI 0)) dX8_takeOut_4 (by decide) ?_
  obtain ⟨r2, σ3, hc1, h⟩ := bnd2_e h
  refine k_cv (q := (RX8, TX8, 7)) (As := [.int (nI 111), .int p1, .int (nI 0)]) 3 (cm_X8_editOnce l hX g σ o hL (nI 111) p1 (nI 0) hc1) gX8_takeOut_X8_editOnce rfl ⟨rfl, rfl⟩ hd_X8_editOnce ⟨Nat.le_of_ble_eq_true rfl, Nat.le_of_ble_eq_true rfl⟩ ⟨Nat.le_refl _, Nat.le_refl _⟩ (lay_lt hL.1 (by decide)) (ce_of hL.1) rfl rfl (Nat.le_of_ble_eq_true rfl) rfl dX8_takeOut_5 ?_
  exact k_iret rfl dX8_takeOut_8 h
abbrev rmX8_putIn : Room := { frames := 6, cells := 0, slots := 0, locals := 143 }
abbrev mX8_putIn : MT := (rmX8_putIn, wsX8_putIn, cX8_putIn, 3, RX8, some .int)
theorem hd_X8_putIn : yX8_putIn.cls = RX8 ∧ yX8_putIn.cls ≠ "java/lang/invoke/MethodHandle" ∧ yX8_putIn.cls ≠ "java/lang/invoke/VarHandle" ∧ (parseMethodDescriptor yX8_putIn.desc).map (fun d => d.parameters.length) = some 2 := by decide +kernel
theorem inX8_putIn_8 : ∀ w ∈ wsX80, w ∈ wsX8_putIn := fun w h => List.mem_cons_of_mem _ (List.mem_append_left _ (List.mem_append_left _ (List.mem_append_left _ (List.mem_append_left _ (List.mem_append_left _ (List.mem_append_left _ (List.mem_append_left _ (List.mem_append_right _ h))))))))
theorem inX8_putIn_2 : ∀ w ∈ wsX20, w ∈ wsX8_putIn := fun w h => List.mem_cons_of_mem _ (List.mem_append_left _ (List.mem_append_left _ (List.mem_append_left _ (List.mem_append_left _ (List.mem_append_left _ (List.mem_append_left _ (List.mem_append_right _ h)))))))
theorem inX8_putIn_0 : ∀ w ∈ wsX00, w ∈ wsX8_putIn := fun w h => List.mem_cons_of_mem _ (List.mem_append_left _ (List.mem_append_left _ (List.mem_append_left _ (List.mem_append_left _ (List.mem_append_left _ (List.mem_append_right _ h))))))
theorem inX8_putIn_4 : ∀ w ∈ wsX40, w ∈ wsX8_putIn := fun w h => List.mem_cons_of_mem _ (List.mem_append_left _ (List.mem_append_left _ (List.mem_append_left _ (List.mem_append_left _ (List.mem_append_right _ h)))))
theorem inX8_putIn_3 : ∀ w ∈ wsX30, w ∈ wsX8_putIn := fun w h => List.mem_cons_of_mem _ (List.mem_append_left _ (List.mem_append_left _ (List.mem_append_left _ (List.mem_append_right _ h))))
theorem inX8_putIn_6 : ∀ w ∈ wsX60, w ∈ wsX8_putIn := fun w h => List.mem_cons_of_mem _ (List.mem_append_left _ (List.mem_append_left _ (List.mem_append_right _ h)))
theorem inX8_putIn_7 : ∀ w ∈ wsX70, w ∈ wsX8_putIn := fun w h => List.mem_cons_of_mem _ (List.mem_append_left _ (List.mem_append_right _ h))
theorem inX8_putIn_5 : ∀ w ∈ wsX50, w ∈ wsX8_putIn := fun w h => List.mem_cons_of_mem _ (List.mem_append_right _ h)
set_option maxHeartbeats 4000000 in
set_option maxRecDepth 100000 in
theorem cm_X8_putIn (l : Launch) {X : XT} (hX : XD X) (g : Nat) (σ : Mem) (o : Nat) (hL : L8 o) (p1 : Int32) (p2 : Int32) {r : Int32} {σ' : Mem} (h : fX8_putIn g σ o p1 p2 = some (r, σ')) : Met l yX8_putIn wsX8_putIn rmX8_putIn (va_Pc [.ref (xad X o), .int p1, .int p2] (WW X σ)) (QI X r σ') 0 0 (XA X) := by
  refine met_x (M := mX8_putIn) (lv := [(0, .ref (xad X o)), (1, .int p1), (2, .int p2)]) hX (by decide) rfl rfl (Nat.le_of_ble_eq_true rfl) rfl ?_
  unfold fX8_putIn at h
  refine k_aload_n (q := 0) dX8_putIn_0 rfl rfl ?_
  refine k_bipush (v := (nI 105)) dX8_putIn_1 (by decide) ?_
  refine k_iload_n (q := 1) dX8_putIn_3 rfl rfl ?_
  refine k_iload_n (q := 2) dX8_putIn_4 rfl rfl ?_
  obtain ⟨r2, σ3, hc1, h⟩ := bnd2_e h
  refine k_cv (q := (RX8, TX8, 7)) (As := [.int (nI 105), .int p1, .int p2]) 3 (cm_X8_editOnce l hX g σ o hL (nI 105) p1 p2 hc1) gX8_putIn_X8_editOnce rfl ⟨rfl, rfl⟩ hd_X8_editOnce ⟨Nat.le_of_ble_eq_true rfl, Nat.le_of_ble_eq_true rfl⟩ ⟨Nat.le_refl _, Nat.le_refl _⟩ (lay_lt hL.1 (by decide)) (ce_of hL.1) rfl rfl (Nat.le_of_ble_eq_true rfl) rfl dX8_putIn_5 ?_
  exact k_iret rfl dX8_putIn_8 h
abbrev rmX8_move : Room := { frames := 6, cells := 0, slots := 0, locals := 143 }
abbrev mX8_move : MT := (rmX8_move, wsX8_move, cX8_move, 3, RX8, some .int)
theorem hd_X8_move : yX8_move.cls = RX8 ∧ yX8_move.cls ≠ "java/lang/invoke/MethodHandle" ∧ yX8_move.cls ≠ "java/lang/invoke/VarHandle" ∧ (parseMethodDescriptor yX8_move.desc).map (fun d => d.parameters.length) = some 2 := by decide +kernel
theorem inX8_move_8 : ∀ w ∈ wsX80, w ∈ wsX8_move := fun w h => List.mem_cons_of_mem _ (List.mem_append_left _ (List.mem_append_left _ (List.mem_append_left _ (List.mem_append_left _ (List.mem_append_left _ (List.mem_append_left _ (List.mem_append_left _ (List.mem_append_right _ h))))))))
theorem inX8_move_2 : ∀ w ∈ wsX20, w ∈ wsX8_move := fun w h => List.mem_cons_of_mem _ (List.mem_append_left _ (List.mem_append_left _ (List.mem_append_left _ (List.mem_append_left _ (List.mem_append_left _ (List.mem_append_left _ (List.mem_append_right _ h)))))))
theorem inX8_move_0 : ∀ w ∈ wsX00, w ∈ wsX8_move := fun w h => List.mem_cons_of_mem _ (List.mem_append_left _ (List.mem_append_left _ (List.mem_append_left _ (List.mem_append_left _ (List.mem_append_left _ (List.mem_append_right _ h))))))
theorem inX8_move_4 : ∀ w ∈ wsX40, w ∈ wsX8_move := fun w h => List.mem_cons_of_mem _ (List.mem_append_left _ (List.mem_append_left _ (List.mem_append_left _ (List.mem_append_left _ (List.mem_append_right _ h)))))
theorem inX8_move_3 : ∀ w ∈ wsX30, w ∈ wsX8_move := fun w h => List.mem_cons_of_mem _ (List.mem_append_left _ (List.mem_append_left _ (List.mem_append_left _ (List.mem_append_right _ h))))
theorem inX8_move_6 : ∀ w ∈ wsX60, w ∈ wsX8_move := fun w h => List.mem_cons_of_mem _ (List.mem_append_left _ (List.mem_append_left _ (List.mem_append_right _ h)))
theorem inX8_move_7 : ∀ w ∈ wsX70, w ∈ wsX8_move := fun w h => List.mem_cons_of_mem _ (List.mem_append_left _ (List.mem_append_right _ h))
theorem inX8_move_5 : ∀ w ∈ wsX50, w ∈ wsX8_move := fun w h => List.mem_cons_of_mem _ (List.mem_append_right _ h)
set_option maxHeartbeats 4000000 in
set_option maxRecDepth 100000 in
theorem cm_X8_move (l : Launch) {X : XT} (hX : XD X) (g : Nat) (σ : Mem) (o : Nat) (hL : L8 o) (p1 : Int32) (p2 : Int32) {r : Int32} {σ' : Mem} (h : fX8_move g σ o p1 p2 = some (r, σ')) : Met l yX8_move wsX8_move rmX8_move (va_Pc [.ref (xad X o), .int p1, .int p2] (WW X σ)) (QI X r σ') 0 0 (XA X) := by
  refine met_x (M := mX8_move) (lv := [(0, .ref (xad X o)), (1, .int p1), (2, .int p2)]) hX (by decide) rfl rfl (Nat.le_of_ble_eq_true rfl) rfl ?_
  unfold fX8_move at h
  refine k_aload_n (q := 0) dX8_move_0 rfl rfl ?_
  refine k_bipush (v := (nI 109)) dX8_move_1 (by decide) ?_
  refine k_iload_n (q := 1) dX8_move_3 rfl rfl ?_
  refine k_iload_n (q := 2) dX8_move_4 rfl rfl ?_
  obtain ⟨r2, σ3, hc1, h⟩ := bnd2_e h
  refine k_cv (q := (RX8, TX8, 7)) (As := [.int (nI 109), .int p1, .int p2]) 3 (cm_X8_editOnce l hX g σ o hL (nI 109) p1 p2 hc1) gX8_move_X8_editOnce rfl ⟨rfl, rfl⟩ hd_X8_editOnce ⟨Nat.le_of_ble_eq_true rfl, Nat.le_of_ble_eq_true rfl⟩ ⟨Nat.le_refl _, Nat.le_refl _⟩ (lay_lt hL.1 (by decide)) (ce_of hL.1) rfl rfl (Nat.le_of_ble_eq_true rfl) rfl dX8_move_5 ?_
  exact k_iret rfl dX8_move_8 h
abbrev rmX8_tear : Room := { frames := 4, cells := 0, slots := 0, locals := 90 }
abbrev mX8_tear : MT := (rmX8_tear, wsX8_tear, cX8_tear, 6, RX8, some .int)
theorem hd_X8_tear : yX8_tear.cls = RX8 ∧ yX8_tear.cls ≠ "java/lang/invoke/MethodHandle" ∧ yX8_tear.cls ≠ "java/lang/invoke/VarHandle" ∧ (parseMethodDescriptor yX8_tear.desc).map (fun d => d.parameters.length) = some 3 := by decide +kernel
theorem inX8_tear_8 : ∀ w ∈ wsX80, w ∈ wsX8_tear := fun w h => List.mem_cons_of_mem _ (List.mem_append_left _ (List.mem_append_left _ (List.mem_append_left _ (List.mem_append_left _ (List.mem_append_left _ (List.mem_append_left _ (List.mem_append_left _ (List.mem_append_right _ h))))))))
theorem inX8_tear_2 : ∀ w ∈ wsX20, w ∈ wsX8_tear := fun w h => List.mem_cons_of_mem _ (List.mem_append_left _ (List.mem_append_left _ (List.mem_append_left _ (List.mem_append_left _ (List.mem_append_left _ (List.mem_append_left _ (List.mem_append_right _ h)))))))
theorem inX8_tear_6 : ∀ w ∈ wsX60, w ∈ wsX8_tear := fun w h => List.mem_cons_of_mem _ (List.mem_append_left _ (List.mem_append_left _ (List.mem_append_left _ (List.mem_append_left _ (List.mem_append_left _ (List.mem_append_right _ h))))))
theorem inX8_tear_3 : ∀ w ∈ wsX30, w ∈ wsX8_tear := fun w h => List.mem_cons_of_mem _ (List.mem_append_left _ (List.mem_append_left _ (List.mem_append_left _ (List.mem_append_left _ (List.mem_append_right _ h)))))
theorem inX8_tear_0 : ∀ w ∈ wsX00, w ∈ wsX8_tear := fun w h => List.mem_cons_of_mem _ (List.mem_append_left _ (List.mem_append_left _ (List.mem_append_left _ (List.mem_append_right _ h))))
theorem inX8_tear_4 : ∀ w ∈ wsX40, w ∈ wsX8_tear := fun w h => List.mem_cons_of_mem _ (List.mem_append_left _ (List.mem_append_left _ (List.mem_append_right _ h)))
theorem inX8_tear_7 : ∀ w ∈ wsX70, w ∈ wsX8_tear := fun w h => List.mem_cons_of_mem _ (List.mem_append_left _ (List.mem_append_right _ h))
theorem inX8_tear_5 : ∀ w ∈ wsX50, w ∈ wsX8_tear := fun w h => List.mem_cons_of_mem _ (List.mem_append_right _ h)
set_option maxHeartbeats 4000000 in
set_option maxRecDepth 100000 in
theorem cm_X8_tear (l : Launch) {X : XT} (hX : XD X) (g : Nat) (σ : Mem) (o : Nat) (hL : L8 o) (p1 : Int32) (p2 : Int32) (p3 : Int32) {r : Int32} {σ' : Mem} (h : fX8_tear g σ o p1 p2 p3 = some (r, σ')) : Met l yX8_tear wsX8_tear rmX8_tear (va_Pc [.ref (xad X o), .int p1, .int p2, .int p3] (WW X σ)) (QI X r σ') 0 0 (XA X) := by
  refine met_x (M := mX8_tear) (lv := [(0, .ref (xad X o)), (1, .int p1), (2, .int p2), (3, .int p3)]) hX (by decide) rfl rfl (Nat.le_of_ble_eq_true rfl) rfl ?_
  unfold fX8_tear at h
  refine k_aload_n (q := 0) dX8_tear_0 rfl rfl ?_
  refine kg_8 (v := .ref (xad X (o + 1))) hL.1 inX8_tear_8 0 (by decide) (List.mem_of_getElem? (i := 1) rfl) rfl dX8_tear_1 ?_
  refine kg_2 (v := .ref (xad X (o + 2))) hL.2.1.1 inX8_tear_2 0 (by decide) (List.mem_of_getElem? (i := 2) rfl) rfl dX8_tear_4 ?_
  refine k_astore (lv' := [(4, .ref (xad X (o + 2))), (0, .ref (xad X o)), (1, .int p1), (2, .int p2), (3, .int p3)]) dX8_tear_7 (Nat.le_of_ble_eq_true rfl) rfl ?_
  refine k_aload (q := 0) dX8_tear_9 rfl ?_
  refine k_iload_n (q := 2) dX8_tear_11 rfl rfl ?_
  refine k_iload_n (q := 3) dX8_tear_12 rfl rfl ?_
  obtain ⟨r2, hc1, h⟩ := bnd_e h
  refine k_cv (q := (RX6, TX6, 5)) (As := [.int p1, .int p2]) 2 (cm_X6_hasFrame l hX g σ (o + 2) hL.2.1.2.1 p1 p2 hc1) gX8_tear_X6_hasFrame rfl ⟨rfl, rfl⟩ hd_X6_hasFrame ⟨Nat.le_of_ble_eq_true rfl, Nat.le_of_ble_eq_true rfl⟩ ⟨Nat.le_refl _, Nat.le_refl _⟩ (lay_lt hL.2.1.2.1.1 (by decide)) (ce_of hL.2.1.2.1.1) rfl rfl (Nat.le_of_ble_eq_true rfl) rfl dX8_tear_13 ?_
  refine k_if_ne (tgt := 21) dX8_tear_16 (by decide) h (fun h => ?_) (fun h => ?_)
  · refine k_iload_n (q := 4) dX8_tear_21 rfl rfl ?_
    refine k_iconst (v := (nI 0)) dX8_tear_22 (by decide) ?_
    refine k_iconst (v := (nI 3)) dX8_tear_23 (by decide) ?_
    obtain ⟨r4, hc3, h⟩ := bnd_e h
    refine k_cs (As := [.int p3, .int (nI 0), .int (nI 3)]) 3 (cm_X8_isWithin l hX g σ p3 (nI 0) (nI 3) hc3) gX8_tear_X8_isWithin rfl ⟨rfl, rfl⟩ hd_X8_isWithin ⟨Nat.le_of_ble_eq_true rfl, Nat.le_of_ble_eq_true rfl⟩ ⟨Nat.le_refl _, Nat.le_refl _⟩ rfl (Nat.le_of_ble_eq_true rfl) rfl dX8_tear_24 ?_
    refine k_if_ne (tgt := 33) dX8_tear_27 (by decide) h (fun h => ?_) (fun h => ?_)
    · refine k_iload_n (q := 2) dX8_tear_33 rfl rfl ?_
      refine k_iload_n (q := 3) dX8_tear_34 rfl rfl ?_
      obtain ⟨r6, hc5, h⟩ := bnd_e h
      refine k_cs (As := [.int p1, .int p2]) 2 (cm_X8_slotOf l hX g σ p1 p2 hc5) gX8_tear_X8_slotOf rfl ⟨rfl, rfl⟩ hd_X8_slotOf ⟨Nat.le_of_ble_eq_true rfl, Nat.le_of_ble_eq_true rfl⟩ ⟨Nat.le_refl _, Nat.le_refl _⟩ rfl (Nat.le_of_ble_eq_true rfl) rfl dX8_tear_35 ?_
      refine k_istore (lv' := [(5, .int r6), (4, .ref (xad X (o + 2))), (0, .ref (xad X o)), (1, .int p1), (2, .int p2), (3, .int p3)]) dX8_tear_38 (Nat.le_of_ble_eq_true rfl) rfl ?_
      refine k_aload (q := 1) dX8_tear_40 rfl ?_
      refine kg_6 (v := .ref (xad X (o + 5))) hL.2.1.2.1.1 inX8_tear_6 3 (by decide) (List.mem_of_getElem? (i := 3) rfl) rfl dX8_tear_42 ?_
      refine k_iload (q := 0) dX8_tear_45 rfl ?_
      refine k_iald (n := 480) hL.2.1.2.1.2.2.2.1 dX8_tear_47 h (fun h => ?_)
      refine k_iload_n (q := 5) dX8_tear_48 rfl rfl ?_
      refine k_ishr dX8_tear_49 ?_
      refine k_iconst (v := (nI 1)) dX8_tear_50 (by decide) ?_
      refine k_iand dX8_tear_51 ?_
      refine k_iconst (v := (nI 1)) dX8_tear_52 (by decide) ?_
      refine k_icmp_ne (tgt := 59) dX8_tear_53 (by decide) h (fun h => ?_) (fun h => ?_)
      · refine k_aload_n (q := 2) dX8_tear_59 rfl rfl ?_
        refine kg_8 (v := .ref (xad X (o + 105))) hL.1 inX8_tear_8 2 (by decide) (List.mem_of_getElem? (i := 4) rfl) rfl dX8_tear_60 ?_
        refine k_aload_n (q := 2) dX8_tear_63 rfl rfl ?_
        refine kg_8 (v := .ref (xad X (o + 1))) hL.1 inX8_tear_8 0 (by decide) (List.mem_of_getElem? (i := 1) rfl) rfl dX8_tear_64 ?_
        obtain ⟨σ8, hc7, h⟩ := bnd_e h
        refine k_cvv (q := (RX3, TX3, 3)) (As := [.ref (xad X (o + 1))]) 1 (cm_X3_record l hX g σ (o + 105) hL.2.2.2.1 (o + 1) hL.2.1 hc7) gX8_tear_X3_record rfl ⟨rfl, rfl⟩ hd_X3_record ⟨Nat.le_of_ble_eq_true rfl, Nat.le_of_ble_eq_true rfl⟩ ⟨Nat.le_refl _, Nat.le_refl _⟩ (lay_lt hL.2.2.2.1.1 (by decide)) (ce_of hL.2.2.2.1.1) rfl rfl (Nat.le_of_ble_eq_true rfl) rfl dX8_tear_67 ?_
        refine k_aload (q := 1) dX8_tear_70 rfl ?_
        refine kg_6 (v := .ref (xad X (o + 5))) hL.2.1.2.1.1 inX8_tear_6 3 (by decide) (List.mem_of_getElem? (i := 3) rfl) rfl dX8_tear_72 ?_
        refine k_iload (q := 0) dX8_tear_75 rfl ?_
        refine k_dup2 dX8_tear_77 rfl rfl ?_
        refine k_iald (n := 480) hL.2.1.2.1.2.2.2.1 dX8_tear_78 h (fun h => ?_)
        refine k_iconst (v := (nI 1)) dX8_tear_79 (by decide) ?_
        refine k_iload_n (q := 5) dX8_tear_80 rfl rfl ?_
        refine k_ishl dX8_tear_81 ?_
        refine k_ior dX8_tear_82 ?_
        refine k_iast (n := 480) hL.2.1.2.1.2.2.2.1 dX8_tear_83 h (fun σ9 h => ?_)
        refine k_aload (q := 1) dX8_tear_84 rfl ?_
        refine k_iload (q := 0) dX8_tear_86 rfl ?_
        obtain ⟨r11, hc10, h⟩ := bnd_e h
        refine k_cv (q := (RX6, TX6, 5)) (As := [.int r6]) 1 (cm_X6_goodHoles l hX g σ9 (o + 2) hL.2.1.2.1 r6 hc10) gX8_tear_X6_goodHoles rfl ⟨rfl, rfl⟩ hd_X6_goodHoles ⟨Nat.le_of_ble_eq_true rfl, Nat.le_of_ble_eq_true rfl⟩ ⟨Nat.le_refl _, Nat.le_refl _⟩ (lay_lt hL.2.1.2.1.1 (by decide)) (ce_of hL.2.1.2.1.1) rfl rfl (Nat.le_of_ble_eq_true rfl) rfl dX8_tear_88 ?_
        exact k_iret rfl dX8_tear_91 h
      · refine k_bipush (v := (nN 5)) dX8_tear_56 (by decide) ?_
        exact k_iret rfl dX8_tear_58 h
    · refine k_bipush (v := (nN 2)) dX8_tear_30 (by decide) ?_
      exact k_iret rfl dX8_tear_32 h
  · refine k_iconst (v := (nN 1)) dX8_tear_19 (by decide) ?_
    exact k_iret rfl dX8_tear_20 h
abbrev rmX8_patch : Room := { frames := 4, cells := 0, slots := 0, locals := 90 }
abbrev mX8_patch : MT := (rmX8_patch, wsX8_patch, cX8_patch, 6, RX8, some .int)
theorem hd_X8_patch : yX8_patch.cls = RX8 ∧ yX8_patch.cls ≠ "java/lang/invoke/MethodHandle" ∧ yX8_patch.cls ≠ "java/lang/invoke/VarHandle" ∧ (parseMethodDescriptor yX8_patch.desc).map (fun d => d.parameters.length) = some 2 := by decide +kernel
theorem inX8_patch_8 : ∀ w ∈ wsX80, w ∈ wsX8_patch := fun w h => List.mem_cons_of_mem _ (List.mem_append_left _ (List.mem_append_left _ (List.mem_append_left _ (List.mem_append_left _ (List.mem_append_left _ (List.mem_append_left _ (List.mem_append_left _ (List.mem_append_right _ h))))))))
theorem inX8_patch_2 : ∀ w ∈ wsX20, w ∈ wsX8_patch := fun w h => List.mem_cons_of_mem _ (List.mem_append_left _ (List.mem_append_left _ (List.mem_append_left _ (List.mem_append_left _ (List.mem_append_left _ (List.mem_append_left _ (List.mem_append_right _ h)))))))
theorem inX8_patch_6 : ∀ w ∈ wsX60, w ∈ wsX8_patch := fun w h => List.mem_cons_of_mem _ (List.mem_append_left _ (List.mem_append_left _ (List.mem_append_left _ (List.mem_append_left _ (List.mem_append_left _ (List.mem_append_right _ h))))))
theorem inX8_patch_3 : ∀ w ∈ wsX30, w ∈ wsX8_patch := fun w h => List.mem_cons_of_mem _ (List.mem_append_left _ (List.mem_append_left _ (List.mem_append_left _ (List.mem_append_left _ (List.mem_append_right _ h)))))
theorem inX8_patch_0 : ∀ w ∈ wsX00, w ∈ wsX8_patch := fun w h => List.mem_cons_of_mem _ (List.mem_append_left _ (List.mem_append_left _ (List.mem_append_left _ (List.mem_append_right _ h))))
theorem inX8_patch_4 : ∀ w ∈ wsX40, w ∈ wsX8_patch := fun w h => List.mem_cons_of_mem _ (List.mem_append_left _ (List.mem_append_left _ (List.mem_append_right _ h)))
theorem inX8_patch_7 : ∀ w ∈ wsX70, w ∈ wsX8_patch := fun w h => List.mem_cons_of_mem _ (List.mem_append_left _ (List.mem_append_right _ h))
theorem inX8_patch_5 : ∀ w ∈ wsX50, w ∈ wsX8_patch := fun w h => List.mem_cons_of_mem _ (List.mem_append_right _ h)
set_option maxHeartbeats 4000000 in
set_option maxRecDepth 100000 in
theorem cm_X8_patch (l : Launch) {X : XT} (hX : XD X) (g : Nat) (σ : Mem) (o : Nat) (hL : L8 o) (p1 : Int32) (p2 : Int32) {r : Int32} {σ' : Mem} (h : fX8_patch g σ o p1 p2 = some (r, σ')) : Met l yX8_patch wsX8_patch rmX8_patch (va_Pc [.ref (xad X o), .int p1, .int p2] (WW X σ)) (QI X r σ') 0 0 (XA X) := by
  refine met_x (M := mX8_patch) (lv := [(0, .ref (xad X o)), (1, .int p1), (2, .int p2)]) hX (by decide) rfl rfl (Nat.le_of_ble_eq_true rfl) rfl ?_
  unfold fX8_patch at h
  refine k_aload_n (q := 0) dX8_patch_0 rfl rfl ?_
  refine kg_8 (v := .ref (xad X (o + 1))) hL.1 inX8_patch_8 0 (by decide) (List.mem_of_getElem? (i := 1) rfl) rfl dX8_patch_1 ?_
  refine kg_2 (v := .ref (xad X (o + 2))) hL.2.1.1 inX8_patch_2 0 (by decide) (List.mem_of_getElem? (i := 2) rfl) rfl dX8_patch_4 ?_
  refine k_astore_n (lv' := [(3, .ref (xad X (o + 2))), (0, .ref (xad X o)), (1, .int p1), (2, .int p2)]) dX8_patch_7 rfl (Nat.le_of_ble_eq_true rfl) rfl ?_
  refine k_aload_n (q := 0) dX8_patch_8 rfl rfl ?_
  refine k_iload_n (q := 2) dX8_patch_9 rfl rfl ?_
  refine k_iload_n (q := 3) dX8_patch_10 rfl rfl ?_
  obtain ⟨r2, hc1, h⟩ := bnd_e h
  refine k_cv (q := (RX6, TX6, 5)) (As := [.int p1, .int p2]) 2 (cm_X6_hasFrame l hX g σ (o + 2) hL.2.1.2.1 p1 p2 hc1) gX8_patch_X6_hasFrame rfl ⟨rfl, rfl⟩ hd_X6_hasFrame ⟨Nat.le_of_ble_eq_true rfl, Nat.le_of_ble_eq_true rfl⟩ ⟨Nat.le_refl _, Nat.le_refl _⟩ (lay_lt hL.2.1.2.1.1 (by decide)) (ce_of hL.2.1.2.1.1) rfl rfl (Nat.le_of_ble_eq_true rfl) rfl dX8_patch_11 ?_
  refine k_if_ne (tgt := 19) dX8_patch_14 (by decide) h (fun h => ?_) (fun h => ?_)
  · refine k_iload_n (q := 2) dX8_patch_19 rfl rfl ?_
    refine k_iload_n (q := 3) dX8_patch_20 rfl rfl ?_
    obtain ⟨r4, hc3, h⟩ := bnd_e h
    refine k_cs (As := [.int p1, .int p2]) 2 (cm_X8_slotOf l hX g σ p1 p2 hc3) gX8_patch_X8_slotOf rfl ⟨rfl, rfl⟩ hd_X8_slotOf ⟨Nat.le_of_ble_eq_true rfl, Nat.le_of_ble_eq_true rfl⟩ ⟨Nat.le_refl _, Nat.le_refl _⟩ rfl (Nat.le_of_ble_eq_true rfl) rfl dX8_patch_21 ?_
    refine k_istore (lv' := [(4, .int r4), (3, .ref (xad X (o + 2))), (0, .ref (xad X o)), (1, .int p1), (2, .int p2)]) dX8_patch_24 (Nat.le_of_ble_eq_true rfl) rfl ?_
    refine k_aload_n (q := 1) dX8_patch_26 rfl rfl ?_
    refine kg_6 (v := .ref (xad X (o + 5))) hL.2.1.2.1.1 inX8_patch_6 3 (by decide) (List.mem_of_getElem? (i := 3) rfl) rfl dX8_patch_27 ?_
    refine k_iload (q := 0) dX8_patch_30 rfl ?_
    refine k_iald (n := 480) hL.2.1.2.1.2.2.2.1 dX8_patch_32 h (fun h => ?_)
    obtain ⟨r6, hc5, h⟩ := bnd_e h
    refine k_cs (As := [.int (σ (o + 5) r4.toNatClampNeg)]) 1 (cm_J6_bitCount_0f7a4 l hX g σ (σ (o + 5) r4.toNatClampNeg) hc5) gX8_patch_J6_bitCount_0f7a4 rfl ⟨rfl, rfl⟩ hd_J6_bitCount_0f7a4 ⟨Nat.le_of_ble_eq_true rfl, Nat.le_of_ble_eq_true rfl⟩ ⟨Nat.le_refl _, Nat.le_refl _⟩ rfl (Nat.le_of_ble_eq_true rfl) rfl dX8_patch_33 ?_
    refine k_istore (lv' := [(5, .int r6), (4, .int r4), (3, .ref (xad X (o + 2))), (0, .ref (xad X o)), (1, .int p1), (2, .int p2)]) dX8_patch_36 (Nat.le_of_ble_eq_true rfl) rfl ?_
    refine k_iload (q := 0) dX8_patch_38 rfl ?_
    refine k_if_ne (tgt := 46) dX8_patch_40 (by decide) h (fun h => ?_) (fun h => ?_)
    · refine k_aload_n (q := 3) dX8_patch_46 rfl rfl ?_
      refine kg_8 (v := .ref (xad X (o + 105))) hL.1 inX8_patch_8 2 (by decide) (List.mem_of_getElem? (i := 4) rfl) rfl dX8_patch_47 ?_
      refine k_aload_n (q := 3) dX8_patch_50 rfl rfl ?_
      refine kg_8 (v := .ref (xad X (o + 1))) hL.1 inX8_patch_8 0 (by decide) (List.mem_of_getElem? (i := 1) rfl) rfl dX8_patch_51 ?_
      obtain ⟨σ8, hc7, h⟩ := bnd_e h
      refine k_cvv (q := (RX3, TX3, 3)) (As := [.ref (xad X (o + 1))]) 1 (cm_X3_record l hX g σ (o + 105) hL.2.2.2.1 (o + 1) hL.2.1 hc7) gX8_patch_X3_record rfl ⟨rfl, rfl⟩ hd_X3_record ⟨Nat.le_of_ble_eq_true rfl, Nat.le_of_ble_eq_true rfl⟩ ⟨Nat.le_refl _, Nat.le_refl _⟩ (lay_lt hL.2.2.2.1.1 (by decide)) (ce_of hL.2.2.2.1.1) rfl rfl (Nat.le_of_ble_eq_true rfl) rfl dX8_patch_54 ?_
      refine k_aload_n (q := 2) dX8_patch_57 rfl rfl ?_
      refine kg_6 (v := .ref (xad X (o + 5))) hL.2.1.2.1.1 inX8_patch_6 3 (by decide) (List.mem_of_getElem? (i := 3) rfl) rfl dX8_patch_58 ?_
      refine k_iload (q := 1) dX8_patch_61 rfl ?_
      refine k_iconst (v := (nI 0)) dX8_patch_63 (by decide) ?_
      refine k_iast (n := 480) hL.2.1.2.1.2.2.2.1 dX8_patch_64 h (fun σ9 h => ?_)
      refine k_iload (q := 0) dX8_patch_65 rfl ?_
      exact k_iret rfl dX8_patch_67 h
    · refine k_bipush (v := (nN 5)) dX8_patch_43 (by decide) ?_
      exact k_iret rfl dX8_patch_45 h
  · refine k_iconst (v := (nN 1)) dX8_patch_17 (by decide) ?_
    exact k_iret rfl dX8_patch_18 h
abbrev rmX8_splice : Room := { frames := 4, cells := 0, slots := 0, locals := 90 }
abbrev mX8_splice : MT := (rmX8_splice, wsX8_splice, cX8_splice, 4, RX8, some .int)
theorem hd_X8_splice : yX8_splice.cls = RX8 ∧ yX8_splice.cls ≠ "java/lang/invoke/MethodHandle" ∧ yX8_splice.cls ≠ "java/lang/invoke/VarHandle" ∧ (parseMethodDescriptor yX8_splice.desc).map (fun d => d.parameters.length) = some 1 := by decide +kernel
theorem inX8_splice_8 : ∀ w ∈ wsX80, w ∈ wsX8_splice := fun w h => List.mem_cons_of_mem _ (List.mem_append_left _ (List.mem_append_left _ (List.mem_append_left _ (List.mem_append_left _ (List.mem_append_left _ (List.mem_append_left _ (List.mem_append_left _ (List.mem_append_right _ h))))))))
theorem inX8_splice_2 : ∀ w ∈ wsX20, w ∈ wsX8_splice := fun w h => List.mem_cons_of_mem _ (List.mem_append_left _ (List.mem_append_left _ (List.mem_append_left _ (List.mem_append_left _ (List.mem_append_left _ (List.mem_append_left _ (List.mem_append_right _ h)))))))
theorem inX8_splice_0 : ∀ w ∈ wsX00, w ∈ wsX8_splice := fun w h => List.mem_cons_of_mem _ (List.mem_append_left _ (List.mem_append_left _ (List.mem_append_left _ (List.mem_append_left _ (List.mem_append_left _ (List.mem_append_right _ h))))))
theorem inX8_splice_4 : ∀ w ∈ wsX40, w ∈ wsX8_splice := fun w h => List.mem_cons_of_mem _ (List.mem_append_left _ (List.mem_append_left _ (List.mem_append_left _ (List.mem_append_left _ (List.mem_append_right _ h)))))
theorem inX8_splice_3 : ∀ w ∈ wsX30, w ∈ wsX8_splice := fun w h => List.mem_cons_of_mem _ (List.mem_append_left _ (List.mem_append_left _ (List.mem_append_left _ (List.mem_append_right _ h))))
theorem inX8_splice_6 : ∀ w ∈ wsX60, w ∈ wsX8_splice := fun w h => List.mem_cons_of_mem _ (List.mem_append_left _ (List.mem_append_left _ (List.mem_append_right _ h)))
theorem inX8_splice_7 : ∀ w ∈ wsX70, w ∈ wsX8_splice := fun w h => List.mem_cons_of_mem _ (List.mem_append_left _ (List.mem_append_right _ h))
theorem inX8_splice_5 : ∀ w ∈ wsX50, w ∈ wsX8_splice := fun w h => List.mem_cons_of_mem _ (List.mem_append_right _ h)
set_option maxHeartbeats 4000000 in
set_option maxRecDepth 100000 in
theorem cm_X8_splice (l : Launch) {X : XT} (hX : XD X) (g : Nat) (σ : Mem) (o : Nat) (hL : L8 o) (p1 : Int32) {r : Int32} {σ' : Mem} (h : fX8_splice g σ o p1 = some (r, σ')) : Met l yX8_splice wsX8_splice rmX8_splice (va_Pc [.ref (xad X o), .int p1] (WW X σ)) (QI X r σ') 0 0 (XA X) := by
  refine met_x (M := mX8_splice) (lv := [(0, .ref (xad X o)), (1, .int p1)]) hX (by decide) rfl rfl (Nat.le_of_ble_eq_true rfl) rfl ?_
  unfold fX8_splice at h
  refine k_aload_n (q := 0) dX8_splice_0 rfl rfl ?_
  refine kg_8 (v := .ref (xad X (o + 1))) hL.1 inX8_splice_8 0 (by decide) (List.mem_of_getElem? (i := 1) rfl) rfl dX8_splice_1 ?_
  refine kg_2 (v := .ref (xad X (o + 7))) hL.2.1.1 inX8_splice_2 1 (by decide) (List.mem_of_getElem? (i := 2) rfl) rfl dX8_splice_4 ?_
  refine kg_0 (v := .ref (xad X (o + 8))) hL.2.1.2.2.1.1 inX8_splice_0 0 (by decide) (List.mem_of_getElem? (i := 3) rfl) rfl dX8_splice_7 ?_
  refine k_astore_n (lv' := [(2, .ref (xad X (o + 8))), (0, .ref (xad X o)), (1, .int p1)]) dX8_splice_10 rfl (Nat.le_of_ble_eq_true rfl) rfl ?_
  refine k_aload_n (q := 0) dX8_splice_11 rfl rfl ?_
  refine k_iload_n (q := 2) dX8_splice_12 rfl rfl ?_
  obtain ⟨r2, hc1, h⟩ := bnd_e h
  refine k_cv (q := (RX4, TX4, 5)) (As := [.int p1]) 1 (cm_X4_has l hX g σ (o + 8) hL.2.1.2.2.1.2.1 p1 hc1) gX8_splice_X4_has rfl ⟨rfl, rfl⟩ hd_X4_has ⟨Nat.le_of_ble_eq_true rfl, Nat.le_of_ble_eq_true rfl⟩ ⟨Nat.le_refl _, Nat.le_refl _⟩ (lay_lt hL.2.1.2.2.1.2.1.1 (by decide)) (ce_of hL.2.1.2.2.1.2.1.1) rfl rfl (Nat.le_of_ble_eq_true rfl) rfl dX8_splice_13 ?_
  refine k_if_ne (tgt := 21) dX8_splice_16 (by decide) h (fun h => ?_) (fun h => ?_)
  · refine k_aload_n (q := 0) dX8_splice_21 rfl rfl ?_
    refine kg_4 (v := .ref (xad X (o + 12))) hL.2.1.2.2.1.2.1.1 inX8_splice_4 4 (by decide) (List.mem_of_getElem? (i := 4) rfl) rfl dX8_splice_22 ?_
    refine k_iload_n (q := 2) dX8_splice_25 rfl rfl ?_
    refine k_iald (n := 20) hL.2.1.2.2.1.2.1.2.2.2.2 dX8_splice_26 h (fun h => ?_)
    refine k_istore_n (lv' := [(3, .int (σ (o + 12) p1.toNatClampNeg)), (2, .ref (xad X (o + 8))), (0, .ref (xad X o)), (1, .int p1)]) dX8_splice_27 rfl (Nat.le_of_ble_eq_true rfl) rfl ?_
    refine k_iload_n (q := 0) dX8_splice_28 rfl rfl ?_
    refine k_if_ne (tgt := 35) dX8_splice_29 (by decide) h (fun h => ?_) (fun h => ?_)
    · refine k_aload_n (q := 2) dX8_splice_35 rfl rfl ?_
      refine kg_8 (v := .ref (xad X (o + 105))) hL.1 inX8_splice_8 2 (by decide) (List.mem_of_getElem? (i := 5) rfl) rfl dX8_splice_36 ?_
      refine k_aload_n (q := 2) dX8_splice_39 rfl rfl ?_
      refine kg_8 (v := .ref (xad X (o + 1))) hL.1 inX8_splice_8 0 (by decide) (List.mem_of_getElem? (i := 1) rfl) rfl dX8_splice_40 ?_
      obtain ⟨σ4, hc3, h⟩ := bnd_e h
      refine k_cvv (q := (RX3, TX3, 3)) (As := [.ref (xad X (o + 1))]) 1 (cm_X3_record l hX g σ (o + 105) hL.2.2.2.1 (o + 1) hL.2.1 hc3) gX8_splice_X3_record rfl ⟨rfl, rfl⟩ hd_X3_record ⟨Nat.le_of_ble_eq_true rfl, Nat.le_of_ble_eq_true rfl⟩ ⟨Nat.le_refl _, Nat.le_refl _⟩ (lay_lt hL.2.2.2.1.1 (by decide)) (ce_of hL.2.2.2.1.1) rfl rfl (Nat.le_of_ble_eq_true rfl) rfl dX8_splice_43 ?_
      refine k_aload_n (q := 1) dX8_splice_46 rfl rfl ?_
      refine kg_4 (v := .ref (xad X (o + 12))) hL.2.1.2.2.1.2.1.1 inX8_splice_4 4 (by decide) (List.mem_of_getElem? (i := 4) rfl) rfl dX8_splice_47 ?_
      refine k_iload_n (q := 3) dX8_splice_50 rfl rfl ?_
      refine k_iconst (v := (nI 0)) dX8_splice_51 (by decide) ?_
      refine k_iast (n := 20) hL.2.1.2.2.1.2.1.2.2.2.2 dX8_splice_52 h (fun σ5 h => ?_)
      refine k_iload_n (q := 0) dX8_splice_53 rfl rfl ?_
      exact k_iret rfl dX8_splice_54 h
    · refine k_bipush (v := (nN 5)) dX8_splice_32 (by decide) ?_
      exact k_iret rfl dX8_splice_34 h
  · refine k_iconst (v := (nN 1)) dX8_splice_19 (by decide) ?_
    exact k_iret rfl dX8_splice_20 h
abbrev rmX8_dislike : Room := { frames := 4, cells := 0, slots := 0, locals := 90 }
abbrev mX8_dislike : MT := (rmX8_dislike, wsX8_dislike, cX8_dislike, 3, RX8, some .int)
theorem hd_X8_dislike : yX8_dislike.cls = RX8 ∧ yX8_dislike.cls ≠ "java/lang/invoke/MethodHandle" ∧ yX8_dislike.cls ≠ "java/lang/invoke/VarHandle" ∧ (parseMethodDescriptor yX8_dislike.desc).map (fun d => d.parameters.length) = some 2 := by decide +kernel
theorem inX8_dislike_8 : ∀ w ∈ wsX80, w ∈ wsX8_dislike := fun w h => List.mem_cons_of_mem _ (List.mem_append_left _ (List.mem_append_left _ (List.mem_append_left _ (List.mem_append_left _ (List.mem_append_left _ (List.mem_append_left _ (List.mem_append_left _ (List.mem_append_right _ h))))))))
theorem inX8_dislike_2 : ∀ w ∈ wsX20, w ∈ wsX8_dislike := fun w h => List.mem_cons_of_mem _ (List.mem_append_left _ (List.mem_append_left _ (List.mem_append_left _ (List.mem_append_left _ (List.mem_append_left _ (List.mem_append_left _ (List.mem_append_right _ h)))))))
theorem inX8_dislike_3 : ∀ w ∈ wsX30, w ∈ wsX8_dislike := fun w h => List.mem_cons_of_mem _ (List.mem_append_left _ (List.mem_append_left _ (List.mem_append_left _ (List.mem_append_left _ (List.mem_append_left _ (List.mem_append_right _ h))))))
theorem inX8_dislike_0 : ∀ w ∈ wsX00, w ∈ wsX8_dislike := fun w h => List.mem_cons_of_mem _ (List.mem_append_left _ (List.mem_append_left _ (List.mem_append_left _ (List.mem_append_left _ (List.mem_append_right _ h)))))
theorem inX8_dislike_6 : ∀ w ∈ wsX60, w ∈ wsX8_dislike := fun w h => List.mem_cons_of_mem _ (List.mem_append_left _ (List.mem_append_left _ (List.mem_append_left _ (List.mem_append_right _ h))))
theorem inX8_dislike_4 : ∀ w ∈ wsX40, w ∈ wsX8_dislike := fun w h => List.mem_cons_of_mem _ (List.mem_append_left _ (List.mem_append_left _ (List.mem_append_right _ h)))
theorem inX8_dislike_7 : ∀ w ∈ wsX70, w ∈ wsX8_dislike := fun w h => List.mem_cons_of_mem _ (List.mem_append_left _ (List.mem_append_right _ h))
theorem inX8_dislike_5 : ∀ w ∈ wsX50, w ∈ wsX8_dislike := fun w h => List.mem_cons_of_mem _ (List.mem_append_right _ h)
set_option maxHeartbeats 4000000 in
set_option maxRecDepth 100000 in
theorem cm_X8_dislike (l : Launch) {X : XT} (hX : XD X) (g : Nat) (σ : Mem) (o : Nat) (hL : L8 o) (p1 : Int32) (p2 : Int32) {r : Int32} {σ' : Mem} (h : fX8_dislike g σ o p1 p2 = some (r, σ')) : Met l yX8_dislike wsX8_dislike rmX8_dislike (va_Pc [.ref (xad X o), .int p1, .int p2] (WW X σ)) (QI X r σ') 0 0 (XA X) := by
  refine met_x (M := mX8_dislike) (lv := [(0, .ref (xad X o)), (1, .int p1), (2, .int p2)]) hX (by decide) rfl rfl (Nat.le_of_ble_eq_true rfl) rfl ?_
  unfold fX8_dislike at h
  refine k_iload_n (q := 1) dX8_dislike_0 rfl rfl ?_
  refine k_iconst (v := (nI 0)) dX8_dislike_1 (by decide) ?_
  refine k_iconst (v := (nI 5)) dX8_dislike_2 (by decide) ?_
  obtain ⟨r2, hc1, h⟩ := bnd_e h
  refine k_cs (As := [.int p1, .int (nI 0), .int (nI 5)]) 3 (cm_X8_isWithin l hX g σ p1 (nI 0) (nI 5) hc1) gX8_dislike_X8_isWithin rfl ⟨rfl, rfl⟩ hd_X8_isWithin ⟨Nat.le_of_ble_eq_true rfl, Nat.le_of_ble_eq_true rfl⟩ ⟨Nat.le_refl _, Nat.le_refl _⟩ rfl (Nat.le_of_ble_eq_true rfl) rfl dX8_dislike_3 ?_
  refine k_if_ne (tgt := 12) dX8_dislike_6 (by decide) h (fun h => ?_) (fun h => ?_)
  · refine k_aload_n (q := 0) dX8_dislike_12 rfl rfl ?_
    refine kg_8 (v := .ref (xad X (o + 1))) hL.1 inX8_dislike_8 0 (by decide) (List.mem_of_getElem? (i := 1) rfl) rfl dX8_dislike_13 ?_
    refine k_iload_n (q := 1) dX8_dislike_16 rfl rfl ?_
    obtain ⟨r4, hc3, h⟩ := bnd_e h
    refine k_cv (q := (RX2, TX2, 8)) (As := [.int p1]) 1 (cm_X2_dislikes l hX g σ (o + 1) hL.2.1 p1 hc3) gX8_dislike_X2_dislikes rfl ⟨rfl, rfl⟩ hd_X2_dislikes ⟨Nat.le_of_ble_eq_true rfl, Nat.le_of_ble_eq_true rfl⟩ ⟨Nat.le_refl _, Nat.le_refl _⟩ (lay_lt hL.2.1.1 (by decide)) (ce_of hL.2.1.1) rfl rfl (Nat.le_of_ble_eq_true rfl) rfl dX8_dislike_17 ?_
    refine k_iload_n (q := 2) dX8_dislike_20 rfl rfl ?_
    refine k_icmp_ne (tgt := 27) dX8_dislike_21 (by decide) h (fun h => ?_) (fun h => ?_)
    · refine k_aload_n (q := 0) dX8_dislike_27 rfl rfl ?_
      refine kg_8 (v := .ref (xad X (o + 105))) hL.1 inX8_dislike_8 2 (by decide) (List.mem_of_getElem? (i := 2) rfl) rfl dX8_dislike_28 ?_
      refine k_aload_n (q := 0) dX8_dislike_31 rfl rfl ?_
      refine kg_8 (v := .ref (xad X (o + 1))) hL.1 inX8_dislike_8 0 (by decide) (List.mem_of_getElem? (i := 1) rfl) rfl dX8_dislike_32 ?_
      obtain ⟨σ6, hc5, h⟩ := bnd_e h
      refine k_cvv (q := (RX3, TX3, 3)) (As := [.ref (xad X (o + 1))]) 1 (cm_X3_record l hX g σ (o + 105) hL.2.2.2.1 (o + 1) hL.2.1 hc5) gX8_dislike_X3_record rfl ⟨rfl, rfl⟩ hd_X3_record ⟨Nat.le_of_ble_eq_true rfl, Nat.le_of_ble_eq_true rfl⟩ ⟨Nat.le_refl _, Nat.le_refl _⟩ (lay_lt hL.2.2.2.1.1 (by decide)) (ce_of hL.2.2.2.1.1) rfl rfl (Nat.le_of_ble_eq_true rfl) rfl dX8_dislike_35 ?_
      refine k_aload_n (q := 0) dX8_dislike_38 rfl rfl ?_
      refine kg_8 (v := .ref (xad X (o + 1))) hL.1 inX8_dislike_8 0 (by decide) (List.mem_of_getElem? (i := 1) rfl) rfl dX8_dislike_39 ?_
      refine k_dup dX8_dislike_42 rfl ?_
      refine kg_2 (v := .int (σ6 (o + 1) 5)) hL.2.1.1 inX8_dislike_2 5 (by decide) (List.mem_of_getElem? (i := 3) rfl) rfl dX8_dislike_43 ?_
      refine k_iconst (v := (nI 1)) dX8_dislike_46 (by decide) ?_
      refine k_iload_n (q := 1) dX8_dislike_47 rfl rfl ?_
      refine k_ishl dX8_dislike_48 ?_
      refine k_ixor dX8_dislike_49 ?_
      refine kp_2_5 hL.2.1.1 inX8_dislike_2 (List.mem_of_getElem? (i := 3) rfl) dX8_dislike_50 h (fun σ7 h => ?_)
      refine k_aload_n (q := 0) dX8_dislike_53 rfl rfl ?_
      refine kg_8 (v := .ref (xad X (o + 1))) hL.1 inX8_dislike_8 0 (by decide) (List.mem_of_getElem? (i := 1) rfl) rfl dX8_dislike_54 ?_
      refine kg_2 (v := .int (σ7 (o + 1) 5)) hL.2.1.1 inX8_dislike_2 5 (by decide) (List.mem_of_getElem? (i := 3) rfl) rfl dX8_dislike_57 ?_
      obtain ⟨r9, hc8, h⟩ := bnd_e h
      refine k_cs (As := [.int (σ7 (o + 1) 5)]) 1 (cm_J6_bitCount_0f7a4 l hX g σ7 (σ7 (o + 1) 5) hc8) gX8_dislike_J6_bitCount_0f7a4 rfl ⟨rfl, rfl⟩ hd_J6_bitCount_0f7a4 ⟨Nat.le_of_ble_eq_true rfl, Nat.le_of_ble_eq_true rfl⟩ ⟨Nat.le_refl _, Nat.le_refl _⟩ rfl (Nat.le_of_ble_eq_true rfl) rfl dX8_dislike_60 ?_
      exact k_iret rfl dX8_dislike_63 h
    · refine k_bipush (v := (nN 5)) dX8_dislike_24 (by decide) ?_
      exact k_iret rfl dX8_dislike_26 h
  · refine k_bipush (v := (nN 2)) dX8_dislike_9 (by decide) ?_
    exact k_iret rfl dX8_dislike_11 h
abbrev rmX8_set : Room := { frames := 4, cells := 0, slots := 0, locals := 90 }
abbrev mX8_set : MT := (rmX8_set, wsX8_set, cX8_set, 5, RX8, some .int)
theorem hd_X8_set : yX8_set.cls = RX8 ∧ yX8_set.cls ≠ "java/lang/invoke/MethodHandle" ∧ yX8_set.cls ≠ "java/lang/invoke/VarHandle" ∧ (parseMethodDescriptor yX8_set.desc).map (fun d => d.parameters.length) = some 2 := by decide +kernel
theorem inX8_set_8 : ∀ w ∈ wsX80, w ∈ wsX8_set := fun w h => List.mem_cons_of_mem _ (List.mem_append_left _ (List.mem_append_left _ (List.mem_append_left _ (List.mem_append_left _ (List.mem_append_left _ (List.mem_append_left _ (List.mem_append_left _ (List.mem_append_right _ h))))))))
theorem inX8_set_2 : ∀ w ∈ wsX20, w ∈ wsX8_set := fun w h => List.mem_cons_of_mem _ (List.mem_append_left _ (List.mem_append_left _ (List.mem_append_left _ (List.mem_append_left _ (List.mem_append_left _ (List.mem_append_left _ (List.mem_append_right _ h)))))))
theorem inX8_set_3 : ∀ w ∈ wsX30, w ∈ wsX8_set := fun w h => List.mem_cons_of_mem _ (List.mem_append_left _ (List.mem_append_left _ (List.mem_append_left _ (List.mem_append_left _ (List.mem_append_left _ (List.mem_append_right _ h))))))
theorem inX8_set_0 : ∀ w ∈ wsX00, w ∈ wsX8_set := fun w h => List.mem_cons_of_mem _ (List.mem_append_left _ (List.mem_append_left _ (List.mem_append_left _ (List.mem_append_left _ (List.mem_append_right _ h)))))
theorem inX8_set_6 : ∀ w ∈ wsX60, w ∈ wsX8_set := fun w h => List.mem_cons_of_mem _ (List.mem_append_left _ (List.mem_append_left _ (List.mem_append_left _ (List.mem_append_right _ h))))
theorem inX8_set_4 : ∀ w ∈ wsX40, w ∈ wsX8_set := fun w h => List.mem_cons_of_mem _ (List.mem_append_left _ (List.mem_append_left _ (List.mem_append_right _ h)))
theorem inX8_set_7 : ∀ w ∈ wsX70, w ∈ wsX8_set := fun w h => List.mem_cons_of_mem _ (List.mem_append_left _ (List.mem_append_right _ h))
theorem inX8_set_5 : ∀ w ∈ wsX50, w ∈ wsX8_set := fun w h => List.mem_cons_of_mem _ (List.mem_append_right _ h)
set_option maxHeartbeats 4000000 in
set_option maxRecDepth 100000 in
theorem cm_X8_set (l : Launch) {X : XT} (hX : XD X) (g : Nat) (σ : Mem) (o : Nat) (hL : L8 o) (p1 : Int32) (p2 : Int32) {r : Int32} {σ' : Mem} (h : fX8_set g σ o p1 p2 = some (r, σ')) : Met l yX8_set wsX8_set rmX8_set (va_Pc [.ref (xad X o), .int p1, .int p2] (WW X σ)) (QI X r σ') 0 0 (XA X) := by
  refine met_x (M := mX8_set) (lv := [(0, .ref (xad X o)), (1, .int p1), (2, .int p2)]) hX (by decide) rfl rfl (Nat.le_of_ble_eq_true rfl) rfl ?_
  unfold fX8_set at h
  refine k_iload_n (q := 1) dX8_set_0 rfl rfl ?_
  refine k_if_eq (tgt := 12) dX8_set_1 (by decide) h (fun h => ?_) (fun h => ?_)
  · refine k_iload_n (q := 1) dX8_set_12 rfl rfl ?_
    have key : WG X l mX8_set (fun _ _ => True) 0 0 (QM X (QI X r σ')) 21 σ [(0, .ref (xad X o)), (1, .int p1), (2, .int p2)] [.int (if p1 = 0 then (nI 0) else (nI 1))] := by
      refine k_istore_n (lv' := [(3, .int (if p1 = 0 then (nI 0) else (nI 1))), (0, .ref (xad X o)), (1, .int p1), (2, .int p2)]) dX8_set_21 rfl (Nat.le_of_ble_eq_true rfl) rfl ?_
      refine k_iload_n (q := 3) dX8_set_22 rfl rfl ?_
      refine k_iload_n (q := 0) dX8_set_23 rfl rfl ?_
      refine k_bipush (v := (nI 20)) dX8_set_24 (by decide) ?_
      obtain ⟨r2, hc1, h⟩ := bnd_e h
      refine k_cs (As := [.int p2, .int (if p1 = 0 then (nI 0) else (nI 1)), .int (nI 20)]) 3 (cm_X8_isWithin l hX g σ p2 (if p1 = 0 then (nI 0) else (nI 1)) (nI 20) hc1) gX8_set_X8_isWithin rfl ⟨rfl, rfl⟩ hd_X8_isWithin ⟨Nat.le_of_ble_eq_true rfl, Nat.le_of_ble_eq_true rfl⟩ ⟨Nat.le_refl _, Nat.le_refl _⟩ rfl (Nat.le_of_ble_eq_true rfl) rfl dX8_set_26 ?_
      refine k_if_ne (tgt := 35) dX8_set_29 (by decide) h (fun h => ?_) (fun h => ?_)
      · refine k_iload_n (q := 2) dX8_set_35 rfl rfl ?_
        refine k_if_ne (tgt := 49) dX8_set_36 (by decide) h (fun h => ?_) (fun h => ?_)
        · refine k_aload_n (q := 1) dX8_set_49 rfl rfl ?_
          refine kg_8 (v := .ref (xad X (o + 1))) hL.1 inX8_set_8 0 (by decide) (List.mem_of_getElem? (i := 1) rfl) rfl dX8_set_50 ?_
          refine kg_2 (v := .int (σ (o + 1) 7)) hL.2.1.1 inX8_set_2 7 (by decide) (List.mem_of_getElem? (i := 3) rfl) rfl dX8_set_53 ?_
          refine k_istore (lv' := [(4, .int (σ (o + 1) 7)), (3, .int (if p1 = 0 then (nI 0) else (nI 1))), (0, .ref (xad X o)), (1, .int p1), (2, .int p2)]) dX8_set_56 (Nat.le_of_ble_eq_true rfl) rfl ?_
          refine k_iload (q := 0) dX8_set_58 rfl ?_
          refine k_iload_n (q := 4) dX8_set_60 rfl rfl ?_
          refine k_icmp_ne (tgt := 67) dX8_set_61 (by decide) h (fun h => ?_) (fun h => ?_)
          · refine k_aload_n (q := 2) dX8_set_67 rfl rfl ?_
            refine kg_8 (v := .ref (xad X (o + 105))) hL.1 inX8_set_8 2 (by decide) (List.mem_of_getElem? (i := 4) rfl) rfl dX8_set_68 ?_
            refine k_aload_n (q := 2) dX8_set_71 rfl rfl ?_
            refine kg_8 (v := .ref (xad X (o + 1))) hL.1 inX8_set_8 0 (by decide) (List.mem_of_getElem? (i := 1) rfl) rfl dX8_set_72 ?_
            obtain ⟨σ4, hc3, h⟩ := bnd_e h
            refine k_cvv (q := (RX3, TX3, 3)) (As := [.ref (xad X (o + 1))]) 1 (cm_X3_record l hX g σ (o + 105) hL.2.2.2.1 (o + 1) hL.2.1 hc3) gX8_set_X3_record rfl ⟨rfl, rfl⟩ hd_X3_record ⟨Nat.le_of_ble_eq_true rfl, Nat.le_of_ble_eq_true rfl⟩ ⟨Nat.le_refl _, Nat.le_refl _⟩ (lay_lt hL.2.2.2.1.1 (by decide)) (ce_of hL.2.2.2.1.1) rfl rfl (Nat.le_of_ble_eq_true rfl) rfl dX8_set_75 ?_
            refine k_iload_n (q := 3) dX8_set_78 rfl rfl ?_
            refine k_if_ne (tgt := 93) dX8_set_79 (by decide) h (fun h => ?_) (fun h => ?_)
            · refine k_aload_n (q := 2) dX8_set_93 rfl rfl ?_
              refine kg_8 (v := .ref (xad X (o + 1))) hL.1 inX8_set_8 0 (by decide) (List.mem_of_getElem? (i := 1) rfl) rfl dX8_set_94 ?_
              refine k_iload_n (q := 4) dX8_set_97 rfl rfl ?_
              refine kp_2_7 hL.2.1.1 inX8_set_2 (List.mem_of_getElem? (i := 3) rfl) dX8_set_98 h (fun σ5 h => ?_)
              refine k_iload (q := 0) dX8_set_101 rfl ?_
              exact k_iret rfl dX8_set_103 h
            · refine k_aload_n (q := 2) dX8_set_82 rfl rfl ?_
              refine kg_8 (v := .ref (xad X (o + 1))) hL.1 inX8_set_8 0 (by decide) (List.mem_of_getElem? (i := 1) rfl) rfl dX8_set_83 ?_
              refine k_iload_n (q := 4) dX8_set_86 rfl rfl ?_
              refine kp_2_6 hL.2.1.1 inX8_set_2 (List.mem_of_getElem? (i := 2) rfl) dX8_set_87 h (fun σ6 h => ?_)
              refine k_goto (tgt := 101) dX8_set_90 (by decide) ?_
              refine k_iload (q := 0) dX8_set_101 rfl ?_
              exact k_iret rfl dX8_set_103 h
          · refine k_bipush (v := (nN 5)) dX8_set_64 (by decide) ?_
            exact k_iret rfl dX8_set_66 h
        · refine k_aload_n (q := 1) dX8_set_39 rfl rfl ?_
          refine kg_8 (v := .ref (xad X (o + 1))) hL.1 inX8_set_8 0 (by decide) (List.mem_of_getElem? (i := 1) rfl) rfl dX8_set_40 ?_
          refine kg_2 (v := .int (σ (o + 1) 6)) hL.2.1.1 inX8_set_2 6 (by decide) (List.mem_of_getElem? (i := 2) rfl) rfl dX8_set_43 ?_
          refine k_goto (tgt := 56) dX8_set_46 (by decide) ?_
          refine k_istore (lv' := [(4, .int (σ (o + 1) 6)), (3, .int (if p1 = 0 then (nI 0) else (nI 1))), (0, .ref (xad X o)), (1, .int p1), (2, .int p2)]) dX8_set_56 (Nat.le_of_ble_eq_true rfl) rfl ?_
          refine k_iload (q := 0) dX8_set_58 rfl ?_
          refine k_iload_n (q := 4) dX8_set_60 rfl rfl ?_
          refine k_icmp_ne (tgt := 67) dX8_set_61 (by decide) h (fun h => ?_) (fun h => ?_)
          · refine k_aload_n (q := 2) dX8_set_67 rfl rfl ?_
            refine kg_8 (v := .ref (xad X (o + 105))) hL.1 inX8_set_8 2 (by decide) (List.mem_of_getElem? (i := 4) rfl) rfl dX8_set_68 ?_
            refine k_aload_n (q := 2) dX8_set_71 rfl rfl ?_
            refine kg_8 (v := .ref (xad X (o + 1))) hL.1 inX8_set_8 0 (by decide) (List.mem_of_getElem? (i := 1) rfl) rfl dX8_set_72 ?_
            obtain ⟨σ8, hc7, h⟩ := bnd_e h
            refine k_cvv (q := (RX3, TX3, 3)) (As := [.ref (xad X (o + 1))]) 1 (cm_X3_record l hX g σ (o + 105) hL.2.2.2.1 (o + 1) hL.2.1 hc7) gX8_set_X3_record rfl ⟨rfl, rfl⟩ hd_X3_record ⟨Nat.le_of_ble_eq_true rfl, Nat.le_of_ble_eq_true rfl⟩ ⟨Nat.le_refl _, Nat.le_refl _⟩ (lay_lt hL.2.2.2.1.1 (by decide)) (ce_of hL.2.2.2.1.1) rfl rfl (Nat.le_of_ble_eq_true rfl) rfl dX8_set_75 ?_
            refine k_iload_n (q := 3) dX8_set_78 rfl rfl ?_
            refine k_if_ne (tgt := 93) dX8_set_79 (by decide) h (fun h => ?_) (fun h => ?_)
            · refine k_aload_n (q := 2) dX8_set_93 rfl rfl ?_
              refine kg_8 (v := .ref (xad X (o + 1))) hL.1 inX8_set_8 0 (by decide) (List.mem_of_getElem? (i := 1) rfl) rfl dX8_set_94 ?_
              refine k_iload_n (q := 4) dX8_set_97 rfl rfl ?_
              refine kp_2_7 hL.2.1.1 inX8_set_2 (List.mem_of_getElem? (i := 3) rfl) dX8_set_98 h (fun σ9 h => ?_)
              refine k_iload (q := 0) dX8_set_101 rfl ?_
              exact k_iret rfl dX8_set_103 h
            · refine k_aload_n (q := 2) dX8_set_82 rfl rfl ?_
              refine kg_8 (v := .ref (xad X (o + 1))) hL.1 inX8_set_8 0 (by decide) (List.mem_of_getElem? (i := 1) rfl) rfl dX8_set_83 ?_
              refine k_iload_n (q := 4) dX8_set_86 rfl rfl ?_
              refine kp_2_6 hL.2.1.1 inX8_set_2 (List.mem_of_getElem? (i := 2) rfl) dX8_set_87 h (fun σ10 h => ?_)
              refine k_goto (tgt := 101) dX8_set_90 (by decide) ?_
              refine k_iload (q := 0) dX8_set_101 rfl ?_
              exact k_iret rfl dX8_set_103 h
          · refine k_bipush (v := (nN 5)) dX8_set_64 (by decide) ?_
            exact k_iret rfl dX8_set_66 h
      · refine k_bipush (v := (nN 2)) dX8_set_32 (by decide) ?_
        exact k_iret rfl dX8_set_34 h
    refine k_ifc_ne (tgt := 20) dX8_set_13 (by decide) (fun hq => ?_) (fun hq => ?_)
    · rw [if_neg hq] at key
      refine k_iconst (v := (nI 1)) dX8_set_20 (by decide) ?_
      exact key
    · rw [if_pos hq] at key
      refine k_iconst (v := (nI 0)) dX8_set_16 (by decide) ?_
      refine k_goto (tgt := 21) dX8_set_17 (by decide) ?_
      exact key
  · refine k_iload_n (q := 1) dX8_set_4 rfl rfl ?_
    refine k_iconst (v := (nI 1)) dX8_set_5 (by decide) ?_
    refine k_icmp_eq (tgt := 12) dX8_set_6 (by decide) h (fun h => ?_) (fun h => ?_)
    · refine k_iload_n (q := 1) dX8_set_12 rfl rfl ?_
      have key : WG X l mX8_set (fun _ _ => True) 0 0 (QM X (QI X r σ')) 21 σ [(0, .ref (xad X o)), (1, .int p1), (2, .int p2)] [.int (if p1 = 0 then (nI 0) else (nI 1))] := by
        refine k_istore_n (lv' := [(3, .int (if p1 = 0 then (nI 0) else (nI 1))), (0, .ref (xad X o)), (1, .int p1), (2, .int p2)]) dX8_set_21 rfl (Nat.le_of_ble_eq_true rfl) rfl ?_
        refine k_iload_n (q := 3) dX8_set_22 rfl rfl ?_
        refine k_iload_n (q := 0) dX8_set_23 rfl rfl ?_
        refine k_bipush (v := (nI 20)) dX8_set_24 (by decide) ?_
        obtain ⟨r12, hc11, h⟩ := bnd_e h
        refine k_cs (As := [.int p2, .int (if p1 = 0 then (nI 0) else (nI 1)), .int (nI 20)]) 3 (cm_X8_isWithin l hX g σ p2 (if p1 = 0 then (nI 0) else (nI 1)) (nI 20) hc11) gX8_set_X8_isWithin rfl ⟨rfl, rfl⟩ hd_X8_isWithin ⟨Nat.le_of_ble_eq_true rfl, Nat.le_of_ble_eq_true rfl⟩ ⟨Nat.le_refl _, Nat.le_refl _⟩ rfl (Nat.le_of_ble_eq_true rfl) rfl dX8_set_26 ?_
        refine k_if_ne (tgt := 35) dX8_set_29 (by decide) h (fun h => ?_) (fun h => ?_)
        · refine k_iload_n (q := 2) dX8_set_35 rfl rfl ?_
          refine k_if_ne (tgt := 49) dX8_set_36 (by decide) h (fun h => ?_) (fun h => ?_)
          · refine k_aload_n (q := 1) dX8_set_49 rfl rfl ?_
            refine kg_8 (v := .ref (xad X (o + 1))) hL.1 inX8_set_8 0 (by decide) (List.mem_of_getElem? (i := 1) rfl) rfl dX8_set_50 ?_
            refine kg_2 (v := .int (σ (o + 1) 7)) hL.2.1.1 inX8_set_2 7 (by decide) (List.mem_of_getElem? (i := 3) rfl) rfl dX8_set_53 ?_
            refine k_istore (lv' := [(4, .int (σ (o + 1) 7)), (3, .int (if p1 = 0 then (nI 0) else (nI 1))), (0, .ref (xad X o)), (1, .int p1), (2, .int p2)]) dX8_set_56 (Nat.le_of_ble_eq_true rfl) rfl ?_
            refine k_iload (q := 0) dX8_set_58 rfl ?_
            refine k_iload_n (q := 4) dX8_set_60 rfl rfl ?_
            refine k_icmp_ne (tgt := 67) dX8_set_61 (by decide) h (fun h => ?_) (fun h => ?_)
            · refine k_aload_n (q := 2) dX8_set_67 rfl rfl ?_
              refine kg_8 (v := .ref (xad X (o + 105))) hL.1 inX8_set_8 2 (by decide) (List.mem_of_getElem? (i := 4) rfl) rfl dX8_set_68 ?_
              refine k_aload_n (q := 2) dX8_set_71 rfl rfl ?_
              refine kg_8 (v := .ref (xad X (o + 1))) hL.1 inX8_set_8 0 (by decide) (List.mem_of_getElem? (i := 1) rfl) rfl dX8_set_72 ?_
              obtain ⟨σ14, hc13, h⟩ := bnd_e h
              refine k_cvv (q := (RX3, TX3, 3)) (As := [.ref (xad X (o + 1))]) 1 (cm_X3_record l hX g σ (o + 105) hL.2.2.2.1 (o + 1) hL.2.1 hc13) gX8_set_X3_record rfl ⟨rfl, rfl⟩ hd_X3_record ⟨Nat.le_of_ble_eq_true rfl, Nat.le_of_ble_eq_true rfl⟩ ⟨Nat.le_refl _, Nat.le_refl _⟩ (lay_lt hL.2.2.2.1.1 (by decide)) (ce_of hL.2.2.2.1.1) rfl rfl (Nat.le_of_ble_eq_true rfl) rfl dX8_set_75 ?_
              refine k_iload_n (q := 3) dX8_set_78 rfl rfl ?_
              refine k_if_ne (tgt := 93) dX8_set_79 (by decide) h (fun h => ?_) (fun h => ?_)
              · refine k_aload_n (q := 2) dX8_set_93 rfl rfl ?_
                refine kg_8 (v := .ref (xad X (o + 1))) hL.1 inX8_set_8 0 (by decide) (List.mem_of_getElem? (i := 1) rfl) rfl dX8_set_94 ?_
                refine k_iload_n (q := 4) dX8_set_97 rfl rfl ?_
                refine kp_2_7 hL.2.1.1 inX8_set_2 (List.mem_of_getElem? (i := 3) rfl) dX8_set_98 h (fun σ15 h => ?_)
                refine k_iload (q := 0) dX8_set_101 rfl ?_
                exact k_iret rfl dX8_set_103 h
              · refine k_aload_n (q := 2) dX8_set_82 rfl rfl ?_
                refine kg_8 (v := .ref (xad X (o + 1))) hL.1 inX8_set_8 0 (by decide) (List.mem_of_getElem? (i := 1) rfl) rfl dX8_set_83 ?_
                refine k_iload_n (q := 4) dX8_set_86 rfl rfl ?_
                refine kp_2_6 hL.2.1.1 inX8_set_2 (List.mem_of_getElem? (i := 2) rfl) dX8_set_87 h (fun σ16 h => ?_)
                refine k_goto (tgt := 101) dX8_set_90 (by decide) ?_
                refine k_iload (q := 0) dX8_set_101 rfl ?_
                exact k_iret rfl dX8_set_103 h
            · refine k_bipush (v := (nN 5)) dX8_set_64 (by decide) ?_
              exact k_iret rfl dX8_set_66 h
          · refine k_aload_n (q := 1) dX8_set_39 rfl rfl ?_
            refine kg_8 (v := .ref (xad X (o + 1))) hL.1 inX8_set_8 0 (by decide) (List.mem_of_getElem? (i := 1) rfl) rfl dX8_set_40 ?_
            refine kg_2 (v := .int (σ (o + 1) 6)) hL.2.1.1 inX8_set_2 6 (by decide) (List.mem_of_getElem? (i := 2) rfl) rfl dX8_set_43 ?_
            refine k_goto (tgt := 56) dX8_set_46 (by decide) ?_
            refine k_istore (lv' := [(4, .int (σ (o + 1) 6)), (3, .int (if p1 = 0 then (nI 0) else (nI 1))), (0, .ref (xad X o)), (1, .int p1), (2, .int p2)]) dX8_set_56 (Nat.le_of_ble_eq_true rfl) rfl ?_
            refine k_iload (q := 0) dX8_set_58 rfl ?_
            refine k_iload_n (q := 4) dX8_set_60 rfl rfl ?_
            refine k_icmp_ne (tgt := 67) dX8_set_61 (by decide) h (fun h => ?_) (fun h => ?_)
            · refine k_aload_n (q := 2) dX8_set_67 rfl rfl ?_
              refine kg_8 (v := .ref (xad X (o + 105))) hL.1 inX8_set_8 2 (by decide) (List.mem_of_getElem? (i := 4) rfl) rfl dX8_set_68 ?_
              refine k_aload_n (q := 2) dX8_set_71 rfl rfl ?_
              refine kg_8 (v := .ref (xad X (o + 1))) hL.1 inX8_set_8 0 (by decide) (List.mem_of_getElem? (i := 1) rfl) rfl dX8_set_72 ?_
              obtain ⟨σ18, hc17, h⟩ := bnd_e h
              refine k_cvv (q := (RX3, TX3, 3)) (As := [.ref (xad X (o + 1))]) 1 (cm_X3_record l hX g σ (o + 105) hL.2.2.2.1 (o + 1) hL.2.1 hc17) gX8_set_X3_record rfl ⟨rfl, rfl⟩ hd_X3_record ⟨Nat.le_of_ble_eq_true rfl, Nat.le_of_ble_eq_true rfl⟩ ⟨Nat.le_refl _, Nat.le_refl _⟩ (lay_lt hL.2.2.2.1.1 (by decide)) (ce_of hL.2.2.2.1.1) rfl rfl (Nat.le_of_ble_eq_true rfl) rfl dX8_set_75 ?_
              refine k_iload_n (q := 3) dX8_set_78 rfl rfl ?_
              refine k_if_ne (tgt := 93) dX8_set_79 (by decide) h (fun h => ?_) (fun h => ?_)
              · refine k_aload_n (q := 2) dX8_set_93 rfl rfl ?_
                refine kg_8 (v := .ref (xad X (o + 1))) hL.1 inX8_set_8 0 (by decide) (List.mem_of_getElem? (i := 1) rfl) rfl dX8_set_94 ?_
                refine k_iload_n (q := 4) dX8_set_97 rfl rfl ?_
                refine kp_2_7 hL.2.1.1 inX8_set_2 (List.mem_of_getElem? (i := 3) rfl) dX8_set_98 h (fun σ19 h => ?_)
                refine k_iload (q := 0) dX8_set_101 rfl ?_
                exact k_iret rfl dX8_set_103 h
              · refine k_aload_n (q := 2) dX8_set_82 rfl rfl ?_
                refine kg_8 (v := .ref (xad X (o + 1))) hL.1 inX8_set_8 0 (by decide) (List.mem_of_getElem? (i := 1) rfl) rfl dX8_set_83 ?_
                refine k_iload_n (q := 4) dX8_set_86 rfl rfl ?_
                refine kp_2_6 hL.2.1.1 inX8_set_2 (List.mem_of_getElem? (i := 2) rfl) dX8_set_87 h (fun σ20 h => ?_)
                refine k_goto (tgt := 101) dX8_set_90 (by decide) ?_
                refine k_iload (q := 0) dX8_set_101 rfl ?_
                exact k_iret rfl dX8_set_103 h
            · refine k_bipush (v := (nN 5)) dX8_set_64 (by decide) ?_
              exact k_iret rfl dX8_set_66 h
        · refine k_bipush (v := (nN 2)) dX8_set_32 (by decide) ?_
          exact k_iret rfl dX8_set_34 h
      refine k_ifc_ne (tgt := 20) dX8_set_13 (by decide) (fun hq => ?_) (fun hq => ?_)
      · rw [if_neg hq] at key
        refine k_iconst (v := (nI 1)) dX8_set_20 (by decide) ?_
        exact key
      · rw [if_pos hq] at key
        refine k_iconst (v := (nI 0)) dX8_set_16 (by decide) ?_
        refine k_goto (tgt := 21) dX8_set_17 (by decide) ?_
        exact key
    · refine k_bipush (v := (nN 2)) dX8_set_9 (by decide) ?_
      exact k_iret rfl dX8_set_11 h
abbrev rmX8_run : Room := { frames := 5, cells := 0, slots := 0, locals := 112 }
abbrev mX8_run : MT := (rmX8_run, wsX8_run, cX8_run, 1, RX8, some .int)
theorem hd_X8_run : yX8_run.cls = RX8 ∧ yX8_run.cls ≠ "java/lang/invoke/MethodHandle" ∧ yX8_run.cls ≠ "java/lang/invoke/VarHandle" ∧ (parseMethodDescriptor yX8_run.desc).map (fun d => d.parameters.length) = some 0 := by decide +kernel
theorem inX8_run_8 : ∀ w ∈ wsX80, w ∈ wsX8_run := fun w h => List.mem_cons_of_mem _ (List.mem_append_left _ (List.mem_append_left _ (List.mem_append_left _ (List.mem_append_left _ (List.mem_append_left _ (List.mem_append_left _ (List.mem_append_left _ (List.mem_append_right _ h))))))))
theorem inX8_run_2 : ∀ w ∈ wsX20, w ∈ wsX8_run := fun w h => List.mem_cons_of_mem _ (List.mem_append_left _ (List.mem_append_left _ (List.mem_append_left _ (List.mem_append_left _ (List.mem_append_left _ (List.mem_append_left _ (List.mem_append_right _ h)))))))
theorem inX8_run_0 : ∀ w ∈ wsX00, w ∈ wsX8_run := fun w h => List.mem_cons_of_mem _ (List.mem_append_left _ (List.mem_append_left _ (List.mem_append_left _ (List.mem_append_left _ (List.mem_append_left _ (List.mem_append_right _ h))))))
theorem inX8_run_4 : ∀ w ∈ wsX40, w ∈ wsX8_run := fun w h => List.mem_cons_of_mem _ (List.mem_append_left _ (List.mem_append_left _ (List.mem_append_left _ (List.mem_append_left _ (List.mem_append_right _ h)))))
theorem inX8_run_3 : ∀ w ∈ wsX30, w ∈ wsX8_run := fun w h => List.mem_cons_of_mem _ (List.mem_append_left _ (List.mem_append_left _ (List.mem_append_left _ (List.mem_append_right _ h))))
theorem inX8_run_6 : ∀ w ∈ wsX60, w ∈ wsX8_run := fun w h => List.mem_cons_of_mem _ (List.mem_append_left _ (List.mem_append_left _ (List.mem_append_right _ h)))
theorem inX8_run_7 : ∀ w ∈ wsX70, w ∈ wsX8_run := fun w h => List.mem_cons_of_mem _ (List.mem_append_left _ (List.mem_append_right _ h))
theorem inX8_run_5 : ∀ w ∈ wsX50, w ∈ wsX8_run := fun w h => List.mem_cons_of_mem _ (List.mem_append_right _ h)
set_option maxHeartbeats 4000000 in
set_option maxRecDepth 100000 in
theorem cm_X8_run (l : Launch) {X : XT} (hX : XD X) (g : Nat) (σ : Mem) (o : Nat) (hL : L8 o) {r : Int32} {σ' : Mem} (h : fX8_run g σ o = some (r, σ')) : Met l yX8_run wsX8_run rmX8_run (va_Pc [.ref (xad X o)] (WW X σ)) (QI X r σ') 0 0 (XA X) := by
  refine met_x (M := mX8_run) (lv := [(0, .ref (xad X o))]) hX (by decide) rfl rfl (Nat.le_of_ble_eq_true rfl) rfl ?_
  unfold fX8_run at h
  refine k_aload_n (q := 0) dX8_run_0 rfl rfl ?_
  refine kg_8 (v := .ref (xad X (o + 1))) hL.1 inX8_run_8 0 (by decide) (List.mem_of_getElem? (i := 1) rfl) rfl dX8_run_1 ?_
  refine kg_2 (v := .ref (xad X (o + 7))) hL.2.1.1 inX8_run_2 1 (by decide) (List.mem_of_getElem? (i := 2) rfl) rfl dX8_run_4 ?_
  refine kg_0 (v := .ref (xad X (o + 8))) hL.2.1.2.2.1.1 inX8_run_0 0 (by decide) (List.mem_of_getElem? (i := 3) rfl) rfl dX8_run_7 ?_
  refine kg_4 (v := .int (σ (o + 8) 0)) hL.2.1.2.2.1.2.1.1 inX8_run_4 0 (by decide) (List.mem_of_getElem? (i := 4) rfl) rfl dX8_run_10 ?_
  refine k_if_ne (tgt := 19) dX8_run_13 (by decide) h (fun h => ?_) (fun h => ?_)
  · refine k_aload_n (q := 0) dX8_run_19 rfl rfl ?_
    refine kg_8 (v := .ref (xad X (o + 1))) hL.1 inX8_run_8 0 (by decide) (List.mem_of_getElem? (i := 1) rfl) rfl dX8_run_20 ?_
    refine kg_2 (v := .int (σ (o + 1) 4)) hL.2.1.1 inX8_run_2 4 (by decide) (List.mem_of_getElem? (i := 5) rfl) rfl dX8_run_23 ?_
    refine k_bipush (v := (nI 10)) dX8_run_26 (by decide) ?_
    refine k_icmp_lt (tgt := 34) dX8_run_28 (by decide) h (fun h => ?_) (fun h => ?_)
    · refine k_aload_n (q := 0) dX8_run_34 rfl rfl ?_
      refine kg_8 (v := .ref (xad X (o + 105))) hL.1 inX8_run_8 2 (by decide) (List.mem_of_getElem? (i := 6) rfl) rfl dX8_run_35 ?_
      refine k_aload_n (q := 0) dX8_run_38 rfl rfl ?_
      refine kg_8 (v := .ref (xad X (o + 1))) hL.1 inX8_run_8 0 (by decide) (List.mem_of_getElem? (i := 1) rfl) rfl dX8_run_39 ?_
      obtain ⟨σ2, hc1, h⟩ := bnd_e h
      refine k_cvv (q := (RX3, TX3, 3)) (As := [.ref (xad X (o + 1))]) 1 (cm_X3_record l hX g σ (o + 105) hL.2.2.2.1 (o + 1) hL.2.1 hc1) gX8_run_X3_record rfl ⟨rfl, rfl⟩ hd_X3_record ⟨Nat.le_of_ble_eq_true rfl, Nat.le_of_ble_eq_true rfl⟩ ⟨Nat.le_refl _, Nat.le_refl _⟩ (lay_lt hL.2.2.2.1.1 (by decide)) (ce_of hL.2.2.2.1.1) rfl rfl (Nat.le_of_ble_eq_true rfl) rfl dX8_run_42 ?_
      refine k_aload_n (q := 0) dX8_run_45 rfl rfl ?_
      refine kg_8 (v := .ref (xad X (o + 1))) hL.1 inX8_run_8 0 (by decide) (List.mem_of_getElem? (i := 1) rfl) rfl dX8_run_46 ?_
      obtain ⟨r4, σ5, hc3, h⟩ := bnd2_e h
      refine k_cv (q := (RX2, TX2, 8)) (As := []) 0 (cm_X2_giveShow l hX g σ2 (o + 1) hL.2.1 hc3) gX8_run_X2_giveShow rfl ⟨rfl, rfl⟩ hd_X2_giveShow ⟨Nat.le_of_ble_eq_true rfl, Nat.le_of_ble_eq_true rfl⟩ ⟨Nat.le_refl _, Nat.le_refl _⟩ (lay_lt hL.2.1.1 (by decide)) (ce_of hL.2.1.1) rfl rfl (Nat.le_of_ble_eq_true rfl) rfl dX8_run_49 ?_
      exact k_iret rfl dX8_run_52 h
    · refine k_bipush (v := (nN 3)) dX8_run_31 (by decide) ?_
      exact k_iret rfl dX8_run_33 h
  · refine k_bipush (v := (nN 4)) dX8_run_16 (by decide) ?_
    exact k_iret rfl dX8_run_18 h
abbrev rmX8_addWitness : Room := { frames := 4, cells := 0, slots := 0, locals := 90 }
abbrev mX8_addWitness : MT := (rmX8_addWitness, wsX8_addWitness, cX8_addWitness, 4, RX8, some .int)
theorem hd_X8_addWitness : yX8_addWitness.cls = RX8 ∧ yX8_addWitness.cls ≠ "java/lang/invoke/MethodHandle" ∧ yX8_addWitness.cls ≠ "java/lang/invoke/VarHandle" ∧ (parseMethodDescriptor yX8_addWitness.desc).map (fun d => d.parameters.length) = some 3 := by decide +kernel
theorem inX8_addWitness_8 : ∀ w ∈ wsX80, w ∈ wsX8_addWitness := fun w h => List.mem_cons_of_mem _ (List.mem_append_left _ (List.mem_append_left _ (List.mem_append_left _ (List.mem_append_left _ (List.mem_append_left _ (List.mem_append_left _ (List.mem_append_left _ (List.mem_append_right _ h))))))))
theorem inX8_addWitness_2 : ∀ w ∈ wsX20, w ∈ wsX8_addWitness := fun w h => List.mem_cons_of_mem _ (List.mem_append_left _ (List.mem_append_left _ (List.mem_append_left _ (List.mem_append_left _ (List.mem_append_left _ (List.mem_append_left _ (List.mem_append_right _ h)))))))
theorem inX8_addWitness_5 : ∀ w ∈ wsX50, w ∈ wsX8_addWitness := fun w h => List.mem_cons_of_mem _ (List.mem_append_left _ (List.mem_append_left _ (List.mem_append_left _ (List.mem_append_left _ (List.mem_append_left _ (List.mem_append_right _ h))))))
theorem inX8_addWitness_7 : ∀ w ∈ wsX70, w ∈ wsX8_addWitness := fun w h => List.mem_cons_of_mem _ (List.mem_append_left _ (List.mem_append_left _ (List.mem_append_left _ (List.mem_append_left _ (List.mem_append_right _ h)))))
theorem inX8_addWitness_3 : ∀ w ∈ wsX30, w ∈ wsX8_addWitness := fun w h => List.mem_cons_of_mem _ (List.mem_append_left _ (List.mem_append_left _ (List.mem_append_left _ (List.mem_append_right _ h))))
theorem inX8_addWitness_0 : ∀ w ∈ wsX00, w ∈ wsX8_addWitness := fun w h => List.mem_cons_of_mem _ (List.mem_append_left _ (List.mem_append_left _ (List.mem_append_right _ h)))
theorem inX8_addWitness_6 : ∀ w ∈ wsX60, w ∈ wsX8_addWitness := fun w h => List.mem_cons_of_mem _ (List.mem_append_left _ (List.mem_append_right _ h))
theorem inX8_addWitness_4 : ∀ w ∈ wsX40, w ∈ wsX8_addWitness := fun w h => List.mem_cons_of_mem _ (List.mem_append_right _ h)
set_option maxHeartbeats 4000000 in
set_option maxRecDepth 100000 in
theorem cm_X8_addWitness (l : Launch) {X : XT} (hX : XD X) (g : Nat) (σ : Mem) (o : Nat) (hL : L8 o) (p1 : Int32) (p2 : Int32) (p3 : Int32) {r : Int32} {σ' : Mem} (h : fX8_addWitness g σ o p1 p2 p3 = some (r, σ')) : Met l yX8_addWitness wsX8_addWitness rmX8_addWitness (va_Pc [.ref (xad X o), .int p1, .int p2, .int p3] (WW X σ)) (QI X r σ') 0 0 (XA X) := by
  refine met_x (M := mX8_addWitness) (lv := [(0, .ref (xad X o)), (1, .int p1), (2, .int p2), (3, .int p3)]) hX (by decide) rfl rfl (Nat.le_of_ble_eq_true rfl) rfl ?_
  unfold fX8_addWitness at h
  refine k_aload_n (q := 0) dX8_addWitness_0 rfl rfl ?_
  refine kg_8 (v := .ref (xad X (o + 1))) hL.1 inX8_addWitness_8 0 (by decide) (List.mem_of_getElem? (i := 1) rfl) rfl dX8_addWitness_1 ?_
  refine k_iload_n (q := 1) dX8_addWitness_4 rfl rfl ?_
  obtain ⟨r2, hc1, h⟩ := bnd_e h
  refine k_cv (q := (RX2, TX2, 8)) (As := [.int p1]) 1 (cm_X2_hasShow l hX g σ (o + 1) hL.2.1 p1 hc1) gX8_addWitness_X2_hasShow rfl ⟨rfl, rfl⟩ hd_X2_hasShow ⟨Nat.le_of_ble_eq_true rfl, Nat.le_of_ble_eq_true rfl⟩ ⟨Nat.le_refl _, Nat.le_refl _⟩ (lay_lt hL.2.1.1 (by decide)) (ce_of hL.2.1.1) rfl rfl (Nat.le_of_ble_eq_true rfl) rfl dX8_addWitness_5 ?_
  refine k_if_ne (tgt := 13) dX8_addWitness_8 (by decide) h (fun h => ?_) (fun h => ?_)
  · refine k_iload_n (q := 2) dX8_addWitness_13 rfl rfl ?_
    refine k_if_lt (tgt := 40) dX8_addWitness_14 (by decide) h (fun h => ?_) (fun h => ?_)
    · refine k_bipush (v := (nN 2)) dX8_addWitness_40 (by decide) ?_
      exact k_iret rfl dX8_addWitness_42 h
    · refine k_iload_n (q := 3) dX8_addWitness_17 rfl rfl ?_
      refine k_iload_n (q := 2) dX8_addWitness_18 rfl rfl ?_
      refine k_icmp_le (tgt := 40) dX8_addWitness_19 (by decide) h (fun h => ?_) (fun h => ?_)
      · refine k_bipush (v := (nN 2)) dX8_addWitness_40 (by decide) ?_
        exact k_iret rfl dX8_addWitness_42 h
      · refine k_iload_n (q := 3) dX8_addWitness_22 rfl rfl ?_
        refine k_aload_n (q := 0) dX8_addWitness_23 rfl rfl ?_
        refine kg_8 (v := .ref (xad X (o + 1))) hL.1 inX8_addWitness_8 0 (by decide) (List.mem_of_getElem? (i := 1) rfl) rfl dX8_addWitness_24 ?_
        refine kg_2 (v := .ref (xad X (o + 18))) hL.2.1.1 inX8_addWitness_2 2 (by decide) (List.mem_of_getElem? (i := 2) rfl) rfl dX8_addWitness_27 ?_
        refine k_iload_n (q := 1) dX8_addWitness_30 rfl rfl ?_
        refine k_aaldS (n := 10) hL.2.1.2.2.2.1 dX8_addWitness_31 h (fun q3 j4 hj5 eq3 h => ?_)
        have hL6 : L5 q3 := by rw [eq3]; exact hL.2.1.2.2.2.2.2 j4 hj5
        clear eq3
        refine kg_5 (v := .ref (xad X (q3 + 1))) hL6.1 inX8_addWitness_5 0 (by decide) (List.mem_of_getElem? (i := 3) rfl) rfl dX8_addWitness_32 ?_
        refine k_iconst (v := (nI 0)) dX8_addWitness_35 (by decide) ?_
        refine k_iald (n := 8) hL6.2.1 dX8_addWitness_36 h (fun h => ?_)
        refine k_icmp_le (tgt := 43) dX8_addWitness_37 (by decide) h (fun h => ?_) (fun h => ?_)
        · refine k_aload_n (q := 0) dX8_addWitness_43 rfl rfl ?_
          refine kg_8 (v := .ref (xad X (o + 1))) hL.1 inX8_addWitness_8 0 (by decide) (List.mem_of_getElem? (i := 1) rfl) rfl dX8_addWitness_44 ?_
          refine kg_2 (v := .ref (xad X (o + 19))) hL.2.1.1 inX8_addWitness_2 3 (by decide) (List.mem_of_getElem? (i := 4) rfl) rfl dX8_addWitness_47 ?_
          refine kg_7 (v := .int (σ (o + 19) 0)) hL.2.1.2.2.2.2.1.1 inX8_addWitness_7 0 (by decide) (List.mem_of_getElem? (i := 5) rfl) rfl dX8_addWitness_50 ?_
          refine k_bipush (v := (nI 8)) dX8_addWitness_53 (by decide) ?_
          refine k_icmp_lt (tgt := 61) dX8_addWitness_55 (by decide) h (fun h => ?_) (fun h => ?_)
          · refine k_aload_n (q := 0) dX8_addWitness_61 rfl rfl ?_
            refine kg_8 (v := .ref (xad X (o + 105))) hL.1 inX8_addWitness_8 2 (by decide) (List.mem_of_getElem? (i := 6) rfl) rfl dX8_addWitness_62 ?_
            refine k_aload_n (q := 0) dX8_addWitness_65 rfl rfl ?_
            refine kg_8 (v := .ref (xad X (o + 1))) hL.1 inX8_addWitness_8 0 (by decide) (List.mem_of_getElem? (i := 1) rfl) rfl dX8_addWitness_66 ?_
            obtain ⟨σ8, hc7, h⟩ := bnd_e h
            refine k_cvv (q := (RX3, TX3, 3)) (As := [.ref (xad X (o + 1))]) 1 (cm_X3_record l hX g σ (o + 105) hL.2.2.2.1 (o + 1) hL.2.1 hc7) gX8_addWitness_X3_record rfl ⟨rfl, rfl⟩ hd_X3_record ⟨Nat.le_of_ble_eq_true rfl, Nat.le_of_ble_eq_true rfl⟩ ⟨Nat.le_refl _, Nat.le_refl _⟩ (lay_lt hL.2.2.2.1.1 (by decide)) (ce_of hL.2.2.2.1.1) rfl rfl (Nat.le_of_ble_eq_true rfl) rfl dX8_addWitness_69 ?_
            refine k_aload_n (q := 0) dX8_addWitness_72 rfl rfl ?_
            refine kg_8 (v := .ref (xad X (o + 1))) hL.1 inX8_addWitness_8 0 (by decide) (List.mem_of_getElem? (i := 1) rfl) rfl dX8_addWitness_73 ?_
            refine kg_2 (v := .ref (xad X (o + 19))) hL.2.1.1 inX8_addWitness_2 3 (by decide) (List.mem_of_getElem? (i := 4) rfl) rfl dX8_addWitness_76 ?_
            refine k_iload_n (q := 1) dX8_addWitness_79 rfl rfl ?_
            refine k_iload_n (q := 2) dX8_addWitness_80 rfl rfl ?_
            refine k_iload_n (q := 3) dX8_addWitness_81 rfl rfl ?_
            obtain ⟨r10, σ11, hc9, h⟩ := bnd2_e h
            refine k_cv (q := (RX7, TX7, 4)) (As := [.int p1, .int p2, .int p3]) 3 (cm_X7_append l hX g σ8 (o + 19) hL.2.1.2.2.2.2.1 p1 p2 p3 hc9) gX8_addWitness_X7_append rfl ⟨rfl, rfl⟩ hd_X7_append ⟨Nat.le_of_ble_eq_true rfl, Nat.le_of_ble_eq_true rfl⟩ ⟨Nat.le_refl _, Nat.le_refl _⟩ (lay_lt hL.2.1.2.2.2.2.1.1 (by decide)) (ce_of hL.2.1.2.2.2.2.1.1) rfl rfl (Nat.le_of_ble_eq_true rfl) rfl dX8_addWitness_82 ?_
            exact k_iret rfl dX8_addWitness_85 h
          · refine k_bipush (v := (nN 3)) dX8_addWitness_58 (by decide) ?_
            exact k_iret rfl dX8_addWitness_60 h
        · refine k_bipush (v := (nN 2)) dX8_addWitness_40 (by decide) ?_
          exact k_iret rfl dX8_addWitness_42 h
  · refine k_iconst (v := (nN 1)) dX8_addWitness_11 (by decide) ?_
    exact k_iret rfl dX8_addWitness_12 h
abbrev rmX8_type : Room := { frames := 1, cells := 0, slots := 0, locals := 21 }
abbrev mX8_type : MT := (rmX8_type, wsX8_type, cX8_type, 2, RX8, some .int)
theorem hd_X8_type : yX8_type.cls = RX8 ∧ yX8_type.cls ≠ "java/lang/invoke/MethodHandle" ∧ yX8_type.cls ≠ "java/lang/invoke/VarHandle" ∧ (parseMethodDescriptor yX8_type.desc).map (fun d => d.parameters.length) = some 1 := by decide +kernel
theorem inX8_type_8 : ∀ w ∈ wsX80, w ∈ wsX8_type := fun w h => List.mem_cons_of_mem _ (List.mem_append_left _ (List.mem_append_right _ h))
theorem inX8_type_1 : ∀ w ∈ wsX10, w ∈ wsX8_type := fun w h => List.mem_cons_of_mem _ (List.mem_append_right _ h)
set_option maxHeartbeats 4000000 in
set_option maxRecDepth 100000 in
theorem cm_X8_type (l : Launch) {X : XT} (hX : XD X) (g : Nat) (σ : Mem) (o : Nat) (hL : L8 o) (p1 : Int32) {r : Int32} {σ' : Mem} (h : fX8_type g σ o p1 = some (r, σ')) : Met l yX8_type wsX8_type rmX8_type (va_Pc [.ref (xad X o), .int p1] (WW X σ)) (QI X r σ') 0 0 (XA X) := by
  refine met_x (M := mX8_type) (lv := [(0, .ref (xad X o)), (1, .int p1)]) hX (by decide) rfl rfl (Nat.le_of_ble_eq_true rfl) rfl ?_
  unfold fX8_type at h
  refine k_aload_n (q := 0) dX8_type_0 rfl rfl ?_
  refine kg_8 (v := .ref (xad X (o + 315))) hL.1 inX8_type_8 3 (by decide) (List.mem_of_getElem? (i := 1) rfl) rfl dX8_type_1 ?_
  refine kg_1 (v := .int (σ (o + 315) 0)) hL.2.2.2.2.1.1 inX8_type_1 0 (by decide) (List.mem_of_getElem? (i := 2) rfl) rfl dX8_type_4 ?_
  refine k_bipush (v := (nI 60)) dX8_type_7 (by decide) ?_
  refine k_icmp_lt (tgt := 15) dX8_type_9 (by decide) h (fun h => ?_) (fun h => ?_)
  · refine k_aload_n (q := 0) dX8_type_15 rfl rfl ?_
    refine kg_8 (v := .ref (xad X (o + 315))) hL.1 inX8_type_8 3 (by decide) (List.mem_of_getElem? (i := 1) rfl) rfl dX8_type_16 ?_
    refine k_iload_n (q := 1) dX8_type_19 rfl rfl ?_
    obtain ⟨σ2, hc1, h⟩ := bnd_e h
    refine k_cvv (q := (RX1, TX1, 8)) (As := [.int p1]) 1 (cm_X1_append l hX g σ (o + 315) hL.2.2.2.2.1 p1 hc1) gX8_type_X1_append rfl ⟨rfl, rfl⟩ hd_X1_append ⟨Nat.le_of_ble_eq_true rfl, Nat.le_of_ble_eq_true rfl⟩ ⟨Nat.le_refl _, Nat.le_refl _⟩ (lay_lt hL.2.2.2.2.1.1 (by decide)) (ce_of hL.2.2.2.2.1.1) rfl rfl (Nat.le_of_ble_eq_true rfl) rfl dX8_type_20 ?_
    refine k_aload_n (q := 0) dX8_type_23 rfl rfl ?_
    refine kg_8 (v := .ref (xad X (o + 315))) hL.1 inX8_type_8 3 (by decide) (List.mem_of_getElem? (i := 1) rfl) rfl dX8_type_24 ?_
    refine kg_1 (v := .int (σ2 (o + 315) 0)) hL.2.2.2.2.1.1 inX8_type_1 0 (by decide) (List.mem_of_getElem? (i := 2) rfl) rfl dX8_type_27 ?_
    exact k_iret rfl dX8_type_30 h
  · refine k_bipush (v := (nN 3)) dX8_type_12 (by decide) ?_
    exact k_iret rfl dX8_type_14 h
abbrev rmX8_clearText : Room := { frames := 0, cells := 0, slots := 0, locals := 0 }
abbrev mX8_clearText : MT := (rmX8_clearText, wsX8_clearText, cX8_clearText, 2, RX8, some .int)
theorem hd_X8_clearText : yX8_clearText.cls = RX8 ∧ yX8_clearText.cls ≠ "java/lang/invoke/MethodHandle" ∧ yX8_clearText.cls ≠ "java/lang/invoke/VarHandle" ∧ (parseMethodDescriptor yX8_clearText.desc).map (fun d => d.parameters.length) = some 0 := by decide +kernel
theorem inX8_clearText_8 : ∀ w ∈ wsX80, w ∈ wsX8_clearText := fun w h => List.mem_cons_of_mem _ (List.mem_append_left _ (List.mem_append_right _ h))
theorem inX8_clearText_1 : ∀ w ∈ wsX10, w ∈ wsX8_clearText := fun w h => List.mem_cons_of_mem _ (List.mem_append_right _ h)
set_option maxHeartbeats 4000000 in
set_option maxRecDepth 100000 in
theorem cm_X8_clearText (l : Launch) {X : XT} (hX : XD X) (g : Nat) (σ : Mem) (o : Nat) (hL : L8 o) {r : Int32} {σ' : Mem} (h : fX8_clearText g σ o = some (r, σ')) : Met l yX8_clearText wsX8_clearText rmX8_clearText (va_Pc [.ref (xad X o)] (WW X σ)) (QI X r σ') 0 0 (XA X) := by
  refine met_x (M := mX8_clearText) (lv := [(0, .ref (xad X o))]) hX (by decide) rfl rfl (Nat.le_of_ble_eq_true rfl) rfl ?_
  unfold fX8_clearText at h
  refine k_aload_n (q := 0) dX8_clearText_0 rfl rfl ?_
  refine kg_8 (v := .ref (xad X (o + 315))) hL.1 inX8_clearText_8 3 (by decide) (List.mem_of_getElem? (i := 1) rfl) rfl dX8_clearText_1 ?_
  refine kg_1 (v := .int (σ (o + 315) 0)) hL.2.2.2.2.1.1 inX8_clearText_1 0 (by decide) (List.mem_of_getElem? (i := 2) rfl) rfl dX8_clearText_4 ?_
  refine k_istore_n (lv' := [(1, .int (σ (o + 315) 0)), (0, .ref (xad X o))]) dX8_clearText_7 rfl (Nat.le_of_ble_eq_true rfl) rfl ?_
  refine k_aload_n (q := 1) dX8_clearText_8 rfl rfl ?_
  refine kg_8 (v := .ref (xad X (o + 315))) hL.1 inX8_clearText_8 3 (by decide) (List.mem_of_getElem? (i := 1) rfl) rfl dX8_clearText_9 ?_
  refine k_iconst (v := (nI 0)) dX8_clearText_12 (by decide) ?_
  refine kp_1_0 hL.2.2.2.2.1.1 inX8_clearText_1 (List.mem_of_getElem? (i := 2) rfl) dX8_clearText_13 h (fun σ1 h => ?_)
  refine k_iload_n (q := 0) dX8_clearText_16 rfl rfl ?_
  exact k_iret rfl dX8_clearText_17 h
abbrev rmX8_edit : Room := { frames := 5, cells := 0, slots := 0, locals := 119 }
abbrev mX8_edit : MT := (rmX8_edit, wsX8_edit, cX8_edit, 4, RX8, some .int)
theorem hd_X8_edit : yX8_edit.cls = RX8 ∧ yX8_edit.cls ≠ "java/lang/invoke/MethodHandle" ∧ yX8_edit.cls ≠ "java/lang/invoke/VarHandle" ∧ (parseMethodDescriptor yX8_edit.desc).map (fun d => d.parameters.length) = some 0 := by decide +kernel
theorem inX8_edit_8 : ∀ w ∈ wsX80, w ∈ wsX8_edit := fun w h => List.mem_cons_of_mem _ (List.mem_append_left _ (List.mem_append_left _ (List.mem_append_left _ (List.mem_append_left _ (List.mem_append_left _ (List.mem_append_left _ (List.mem_append_left _ (List.mem_append_left _ (List.mem_append_right _ h)))))))))
theorem inX8_edit_2 : ∀ w ∈ wsX20, w ∈ wsX8_edit := fun w h => List.mem_cons_of_mem _ (List.mem_append_left _ (List.mem_append_left _ (List.mem_append_left _ (List.mem_append_left _ (List.mem_append_left _ (List.mem_append_left _ (List.mem_append_left _ (List.mem_append_right _ h))))))))
theorem inX8_edit_1 : ∀ w ∈ wsX10, w ∈ wsX8_edit := fun w h => List.mem_cons_of_mem _ (List.mem_append_left _ (List.mem_append_left _ (List.mem_append_left _ (List.mem_append_left _ (List.mem_append_left _ (List.mem_append_left _ (List.mem_append_right _ h)))))))
theorem inX8_edit_0 : ∀ w ∈ wsX00, w ∈ wsX8_edit := fun w h => List.mem_cons_of_mem _ (List.mem_append_left _ (List.mem_append_left _ (List.mem_append_left _ (List.mem_append_left _ (List.mem_append_left _ (List.mem_append_right _ h))))))
theorem inX8_edit_4 : ∀ w ∈ wsX40, w ∈ wsX8_edit := fun w h => List.mem_cons_of_mem _ (List.mem_append_left _ (List.mem_append_left _ (List.mem_append_left _ (List.mem_append_left _ (List.mem_append_right _ h)))))
theorem inX8_edit_3 : ∀ w ∈ wsX30, w ∈ wsX8_edit := fun w h => List.mem_cons_of_mem _ (List.mem_append_left _ (List.mem_append_left _ (List.mem_append_left _ (List.mem_append_right _ h))))
theorem inX8_edit_6 : ∀ w ∈ wsX60, w ∈ wsX8_edit := fun w h => List.mem_cons_of_mem _ (List.mem_append_left _ (List.mem_append_left _ (List.mem_append_right _ h)))
theorem inX8_edit_7 : ∀ w ∈ wsX70, w ∈ wsX8_edit := fun w h => List.mem_cons_of_mem _ (List.mem_append_left _ (List.mem_append_right _ h))
theorem inX8_edit_5 : ∀ w ∈ wsX50, w ∈ wsX8_edit := fun w h => List.mem_cons_of_mem _ (List.mem_append_right _ h)
set_option maxHeartbeats 4000000 in
set_option maxRecDepth 100000 in
theorem wX8_edit_34 (l : Launch) {X : XT} (hX : XD X) (g : Nat) (o : Nat) (hL : L8 o) {r : Int32} {σ' : Mem} : ∀ (n : Nat) (σ : Mem) (x2 : Int32), fX8_edit_34 g o n σ x2 = some (r, σ') → WG X l mX8_edit (fun _ _ => True) 0 0 (QM X (QI X r σ')) 34 σ [(0, .ref (xad X o)), (2, .int x2)] [] := by
  intro n
  induction n with
  | zero => intro σ x2 h; exact nomatch (show (none : Option _) = some _ from h)
  | succ n ih =>
    intro σ x2 h
    rw [fX8_edit_34] at h
    refine k_iload_n (q := 1) dX8_edit_34 rfl rfl ?_
    refine k_aload_n (q := 0) dX8_edit_35 rfl rfl ?_
    refine kg_8 (v := .ref (xad X (o + 315))) hL.1 inX8_edit_8 3 (by decide) (List.mem_of_getElem? (i := 1) rfl) rfl dX8_edit_36 ?_
    refine kg_1 (v := .int (σ (o + 315) 1)) hL.2.2.2.2.1.1 inX8_edit_1 1 (by decide) (List.mem_of_getElem? (i := 5) rfl) rfl dX8_edit_39 ?_
    refine k_icmp_ge (tgt := 98) dX8_edit_42 (by decide) h (fun h => ?_) (fun h => ?_)
    · refine k_aload_n (q := 0) dX8_edit_98 rfl rfl ?_
      obtain ⟨σ7, hc6, h⟩ := bnd_e h
      refine k_cvv (q := (RX8, TX8, 7)) (As := []) 0 (cm_X8_takeOverTrial l hX g σ o hL hc6) gX8_edit_X8_takeOverTrial rfl ⟨rfl, rfl⟩ hd_X8_takeOverTrial ⟨Nat.le_of_ble_eq_true rfl, Nat.le_of_ble_eq_true rfl⟩ ⟨Nat.le_refl _, Nat.le_refl _⟩ (lay_lt hL.1 (by decide)) (ce_of hL.1) rfl rfl (Nat.le_of_ble_eq_true rfl) rfl dX8_edit_99 ?_
      refine k_aload_n (q := 0) dX8_edit_102 rfl rfl ?_
      refine kg_8 (v := .ref (xad X (o + 315))) hL.1 inX8_edit_8 3 (by decide) (List.mem_of_getElem? (i := 1) rfl) rfl dX8_edit_103 ?_
      refine kg_1 (v := .int (σ7 (o + 315) 1)) hL.2.2.2.2.1.1 inX8_edit_1 1 (by decide) (List.mem_of_getElem? (i := 5) rfl) rfl dX8_edit_106 ?_
      exact k_iret rfl dX8_edit_109 h
    · refine k_aload_n (q := 0) dX8_edit_45 rfl rfl ?_
      refine kg_8 (v := .ref (xad X (o + 320))) hL.1 inX8_edit_8 4 (by decide) (List.mem_of_getElem? (i := 2) rfl) rfl dX8_edit_46 ?_
      refine k_aload_n (q := 0) dX8_edit_49 rfl rfl ?_
      refine kg_8 (v := .ref (xad X (o + 315))) hL.1 inX8_edit_8 3 (by decide) (List.mem_of_getElem? (i := 1) rfl) rfl dX8_edit_50 ?_
      refine kg_1 (v := .ref (xad X (o + 316))) hL.2.2.2.2.1.1 inX8_edit_1 2 (by decide) (List.mem_of_getElem? (i := 6) rfl) rfl dX8_edit_53 ?_
      refine k_iload_n (q := 1) dX8_edit_56 rfl rfl ?_
      refine k_iald (n := 20) hL.2.2.2.2.1.2.1 dX8_edit_57 h (fun h => ?_)
      refine k_aload_n (q := 0) dX8_edit_58 rfl rfl ?_
      refine kg_8 (v := .ref (xad X (o + 315))) hL.1 inX8_edit_8 3 (by decide) (List.mem_of_getElem? (i := 1) rfl) rfl dX8_edit_59 ?_
      refine kg_1 (v := .ref (xad X (o + 317))) hL.2.2.2.2.1.1 inX8_edit_1 3 (by decide) (List.mem_of_getElem? (i := 7) rfl) rfl dX8_edit_62 ?_
      refine k_iload_n (q := 1) dX8_edit_65 rfl rfl ?_
      refine k_iald (n := 20) hL.2.2.2.2.1.2.2.1 dX8_edit_66 h (fun h => ?_)
      refine k_aload_n (q := 0) dX8_edit_67 rfl rfl ?_
      refine kg_8 (v := .ref (xad X (o + 315))) hL.1 inX8_edit_8 3 (by decide) (List.mem_of_getElem? (i := 1) rfl) rfl dX8_edit_68 ?_
      refine kg_1 (v := .ref (xad X (o + 318))) hL.2.2.2.2.1.1 inX8_edit_1 4 (by decide) (List.mem_of_getElem? (i := 8) rfl) rfl dX8_edit_71 ?_
      refine k_iload_n (q := 1) dX8_edit_74 rfl rfl ?_
      refine k_iald (n := 20) hL.2.2.2.2.1.2.2.2.1 dX8_edit_75 h (fun h => ?_)
      obtain ⟨r9, σ10, hc8, h⟩ := bnd2_e h
      refine k_cv (q := (RX0, TX0, 2)) (As := [.int (σ (o + 316) x2.toNatClampNeg), .int (σ (o + 317) x2.toNatClampNeg), .int (σ (o + 318) x2.toNatClampNeg)]) 3 (cm_X0_perform l hX g σ (o + 320) hL.2.2.2.2.2.1 (σ (o + 316) x2.toNatClampNeg) (σ (o + 317) x2.toNatClampNeg) (σ (o + 318) x2.toNatClampNeg) hc8) gX8_edit_X0_perform rfl ⟨rfl, rfl⟩ hd_X0_perform ⟨Nat.le_of_ble_eq_true rfl, Nat.le_of_ble_eq_true rfl⟩ ⟨Nat.le_refl _, Nat.le_refl _⟩ (lay_lt hL.2.2.2.2.2.1.1 (by decide)) (ce_of hL.2.2.2.2.2.1.1) rfl rfl (Nat.le_of_ble_eq_true rfl) rfl dX8_edit_76 ?_
      refine k_istore_n (lv' := [(3, .int r9), (0, .ref (xad X o)), (2, .int x2)]) dX8_edit_79 rfl (Nat.le_of_ble_eq_true rfl) rfl ?_
      refine k_iload_n (q := 0) dX8_edit_80 rfl rfl ?_
      refine k_if_ge (tgt := 92) dX8_edit_81 (by decide) h (fun h => ?_) (fun h => ?_)
      · refine k_iinc (q := 2) (v := (x2 + (nI 1))) (lv' := [(2, .int (x2 + (nI 1))), (3, .int r9), (0, .ref (xad X o))]) dX8_edit_92 rfl rfl (Nat.le_of_ble_eq_true rfl) rfl ?_
        refine k_goto (tgt := 34) dX8_edit_95 (by decide) ?_
        refine k_sub (ks' := [2, 0]) rfl ?_
        exact ih σ10 (x2 + (nI 1)) h
      · refine k_iload_n (q := 0) dX8_edit_84 rfl rfl ?_
        refine k_bipush (v := (nN 5)) dX8_edit_85 (by decide) ?_
        refine k_icmp_eq (tgt := 92) dX8_edit_87 (by decide) h (fun h => ?_) (fun h => ?_)
        · refine k_iinc (q := 2) (v := (x2 + (nI 1))) (lv' := [(2, .int (x2 + (nI 1))), (3, .int r9), (0, .ref (xad X o))]) dX8_edit_92 rfl rfl (Nat.le_of_ble_eq_true rfl) rfl ?_
          refine k_goto (tgt := 34) dX8_edit_95 (by decide) ?_
          refine k_sub (ks' := [2, 0]) rfl ?_
          exact ih σ10 (x2 + (nI 1)) h
        · refine k_iload_n (q := 0) dX8_edit_90 rfl rfl ?_
          exact k_iret rfl dX8_edit_91 h
set_option maxHeartbeats 4000000 in
set_option maxRecDepth 100000 in
theorem cm_X8_edit (l : Launch) {X : XT} (hX : XD X) (g : Nat) (σ : Mem) (o : Nat) (hL : L8 o) {r : Int32} {σ' : Mem} (h : fX8_edit g σ o = some (r, σ')) : Met l yX8_edit wsX8_edit rmX8_edit (va_Pc [.ref (xad X o)] (WW X σ)) (QI X r σ') 0 0 (XA X) := by
  refine met_x (M := mX8_edit) (lv := [(0, .ref (xad X o))]) hX (by decide) rfl rfl (Nat.le_of_ble_eq_true rfl) rfl ?_
  unfold fX8_edit at h
  refine k_aload_n (q := 0) dX8_edit_0 rfl rfl ?_
  refine kg_8 (v := .ref (xad X (o + 315))) hL.1 inX8_edit_8 3 (by decide) (List.mem_of_getElem? (i := 1) rfl) rfl dX8_edit_1 ?_
  obtain ⟨r2, σ3, hc1, h⟩ := bnd2_e h
  refine k_cv (q := (RX1, TX1, 8)) (As := []) 0 (cm_X1_readEdits l hX g σ (o + 315) hL.2.2.2.2.1 hc1) gX8_edit_X1_readEdits rfl ⟨rfl, rfl⟩ hd_X1_readEdits ⟨Nat.le_of_ble_eq_true rfl, Nat.le_of_ble_eq_true rfl⟩ ⟨Nat.le_refl _, Nat.le_refl _⟩ (lay_lt hL.2.2.2.2.1.1 (by decide)) (ce_of hL.2.2.2.2.1.1) rfl rfl (Nat.le_of_ble_eq_true rfl) rfl dX8_edit_4 ?_
  refine k_istore_n (lv' := [(1, .int r2), (0, .ref (xad X o))]) dX8_edit_7 rfl (Nat.le_of_ble_eq_true rfl) rfl ?_
  refine k_iload_n (q := 0) dX8_edit_8 rfl rfl ?_
  refine k_iconst (v := (nN 1)) dX8_edit_9 (by decide) ?_
  refine k_icmp_eq (tgt := 18) dX8_edit_10 (by decide) h (fun h => ?_) (fun h => ?_)
  · refine k_aload_n (q := 1) dX8_edit_18 rfl rfl ?_
    refine kg_8 (v := .ref (xad X (o + 320))) hL.1 inX8_edit_8 4 (by decide) (List.mem_of_getElem? (i := 2) rfl) rfl dX8_edit_19 ?_
    refine k_aload_n (q := 1) dX8_edit_22 rfl rfl ?_
    refine kg_8 (v := .ref (xad X (o + 1))) hL.1 inX8_edit_8 0 (by decide) (List.mem_of_getElem? (i := 3) rfl) rfl dX8_edit_23 ?_
    refine kg_2 (v := .ref (xad X (o + 7))) hL.2.1.1 inX8_edit_2 1 (by decide) (List.mem_of_getElem? (i := 4) rfl) rfl dX8_edit_26 ?_
    obtain ⟨σ5, hc4, h⟩ := bnd_e h
    refine k_cvv (q := (RX0, TX0, 2)) (As := [.ref (xad X (o + 7))]) 1 (cm_X0_copyFrom l hX g σ3 (o + 320) hL.2.2.2.2.2.1 (o + 7) hL.2.1.2.2.1 hc4) gX8_edit_X0_copyFrom rfl ⟨rfl, rfl⟩ hd_X0_copyFrom ⟨Nat.le_of_ble_eq_true rfl, Nat.le_of_ble_eq_true rfl⟩ ⟨Nat.le_refl _, Nat.le_refl _⟩ (lay_lt hL.2.2.2.2.2.1.1 (by decide)) (ce_of hL.2.2.2.2.2.1.1) rfl rfl (Nat.le_of_ble_eq_true rfl) rfl dX8_edit_29 ?_
    refine k_iconst (v := (nI 0)) dX8_edit_32 (by decide) ?_
    refine k_istore_n (lv' := [(2, .int (nI 0)), (1, .int r2), (0, .ref (xad X o))]) dX8_edit_33 rfl (Nat.le_of_ble_eq_true rfl) rfl ?_
    refine k_sub (ks' := [2, 0]) rfl ?_
    exact wX8_edit_34 l hX g o hL g σ5 (nI 0) h
  · refine k_bipush (v := (nN 100)) dX8_edit_13 (by decide) ?_
    refine k_iload_n (q := 0) dX8_edit_15 rfl rfl ?_
    refine k_isub dX8_edit_16 ?_
    exact k_iret rfl dX8_edit_17 h
abbrev rmX8_undo : Room := { frames := 4, cells := 0, slots := 0, locals := 90 }
abbrev mX8_undo : MT := (rmX8_undo, wsX8_undo, cX8_undo, 1, RX8, some .int)
theorem hd_X8_undo : yX8_undo.cls = RX8 ∧ yX8_undo.cls ≠ "java/lang/invoke/MethodHandle" ∧ yX8_undo.cls ≠ "java/lang/invoke/VarHandle" ∧ (parseMethodDescriptor yX8_undo.desc).map (fun d => d.parameters.length) = some 0 := by decide +kernel
theorem inX8_undo_8 : ∀ w ∈ wsX80, w ∈ wsX8_undo := fun w h => List.mem_cons_of_mem _ (List.mem_append_left _ (List.mem_append_left _ (List.mem_append_left _ (List.mem_append_left _ (List.mem_append_left _ (List.mem_append_left _ (List.mem_append_left _ (List.mem_append_right _ h))))))))
theorem inX8_undo_3 : ∀ w ∈ wsX30, w ∈ wsX8_undo := fun w h => List.mem_cons_of_mem _ (List.mem_append_left _ (List.mem_append_left _ (List.mem_append_left _ (List.mem_append_left _ (List.mem_append_left _ (List.mem_append_left _ (List.mem_append_right _ h)))))))
theorem inX8_undo_2 : ∀ w ∈ wsX20, w ∈ wsX8_undo := fun w h => List.mem_cons_of_mem _ (List.mem_append_left _ (List.mem_append_left _ (List.mem_append_left _ (List.mem_append_left _ (List.mem_append_left _ (List.mem_append_right _ h))))))
theorem inX8_undo_0 : ∀ w ∈ wsX00, w ∈ wsX8_undo := fun w h => List.mem_cons_of_mem _ (List.mem_append_left _ (List.mem_append_left _ (List.mem_append_left _ (List.mem_append_left _ (List.mem_append_right _ h)))))
theorem inX8_undo_6 : ∀ w ∈ wsX60, w ∈ wsX8_undo := fun w h => List.mem_cons_of_mem _ (List.mem_append_left _ (List.mem_append_left _ (List.mem_append_left _ (List.mem_append_right _ h))))
theorem inX8_undo_4 : ∀ w ∈ wsX40, w ∈ wsX8_undo := fun w h => List.mem_cons_of_mem _ (List.mem_append_left _ (List.mem_append_left _ (List.mem_append_right _ h)))
theorem inX8_undo_7 : ∀ w ∈ wsX70, w ∈ wsX8_undo := fun w h => List.mem_cons_of_mem _ (List.mem_append_left _ (List.mem_append_right _ h))
theorem inX8_undo_5 : ∀ w ∈ wsX50, w ∈ wsX8_undo := fun w h => List.mem_cons_of_mem _ (List.mem_append_right _ h)
set_option maxHeartbeats 4000000 in
set_option maxRecDepth 100000 in
theorem cm_X8_undo (l : Launch) {X : XT} (hX : XD X) (g : Nat) (σ : Mem) (o : Nat) (hL : L8 o) {r : Int32} {σ' : Mem} (h : fX8_undo g σ o = some (r, σ')) : Met l yX8_undo wsX8_undo rmX8_undo (va_Pc [.ref (xad X o)] (WW X σ)) (QI X r σ') 0 0 (XA X) := by
  refine met_x (M := mX8_undo) (lv := [(0, .ref (xad X o))]) hX (by decide) rfl rfl (Nat.le_of_ble_eq_true rfl) rfl ?_
  unfold fX8_undo at h
  refine k_aload_n (q := 0) dX8_undo_0 rfl rfl ?_
  refine kg_8 (v := .ref (xad X (o + 105))) hL.1 inX8_undo_8 2 (by decide) (List.mem_of_getElem? (i := 1) rfl) rfl dX8_undo_1 ?_
  refine kg_3 (v := .int (σ (o + 105) 0)) hL.2.2.2.1.1 inX8_undo_3 0 (by decide) (List.mem_of_getElem? (i := 2) rfl) rfl dX8_undo_4 ?_
  refine k_if_ne (tgt := 13) dX8_undo_7 (by decide) h (fun h => ?_) (fun h => ?_)
  · refine k_aload_n (q := 0) dX8_undo_13 rfl rfl ?_
    refine kg_8 (v := .ref (xad X (o + 105))) hL.1 inX8_undo_8 2 (by decide) (List.mem_of_getElem? (i := 1) rfl) rfl dX8_undo_14 ?_
    refine k_aload_n (q := 0) dX8_undo_17 rfl rfl ?_
    refine kg_8 (v := .ref (xad X (o + 1))) hL.1 inX8_undo_8 0 (by decide) (List.mem_of_getElem? (i := 3) rfl) rfl dX8_undo_18 ?_
    obtain ⟨σ2, hc1, h⟩ := bnd_e h
    refine k_cvv (q := (RX3, TX3, 3)) (As := [.ref (xad X (o + 1))]) 1 (cm_X3_giveBack l hX g σ (o + 105) hL.2.2.2.1 (o + 1) hL.2.1 hc1) gX8_undo_X3_giveBack rfl ⟨rfl, rfl⟩ hd_X3_giveBack ⟨Nat.le_of_ble_eq_true rfl, Nat.le_of_ble_eq_true rfl⟩ ⟨Nat.le_refl _, Nat.le_refl _⟩ (lay_lt hL.2.2.2.1.1 (by decide)) (ce_of hL.2.2.2.1.1) rfl rfl (Nat.le_of_ble_eq_true rfl) rfl dX8_undo_21 ?_
    refine k_aload_n (q := 0) dX8_undo_24 rfl rfl ?_
    refine kg_8 (v := .ref (xad X (o + 105))) hL.1 inX8_undo_8 2 (by decide) (List.mem_of_getElem? (i := 1) rfl) rfl dX8_undo_25 ?_
    refine kg_3 (v := .int (σ2 (o + 105) 0)) hL.2.2.2.1.1 inX8_undo_3 0 (by decide) (List.mem_of_getElem? (i := 2) rfl) rfl dX8_undo_28 ?_
    exact k_iret rfl dX8_undo_31 h
  · refine k_bipush (v := (nN 5)) dX8_undo_10 (by decide) ?_
    exact k_iret rfl dX8_undo_12 h
abbrev rmX8_keep : Room := { frames := 3, cells := 0, slots := 0, locals := 69 }
abbrev mX8_keep : MT := (rmX8_keep, wsX8_keep, cX8_keep, 1, RX8, some .int)
theorem hd_X8_keep : yX8_keep.cls = RX8 ∧ yX8_keep.cls ≠ "java/lang/invoke/MethodHandle" ∧ yX8_keep.cls ≠ "java/lang/invoke/VarHandle" ∧ (parseMethodDescriptor yX8_keep.desc).map (fun d => d.parameters.length) = some 0 := by decide +kernel
theorem inX8_keep_8 : ∀ w ∈ wsX80, w ∈ wsX8_keep := fun w h => List.mem_cons_of_mem _ (List.mem_append_left _ (List.mem_append_left _ (List.mem_append_left _ (List.mem_append_left _ (List.mem_append_left _ (List.mem_append_left _ (List.mem_append_right _ h)))))))
theorem inX8_keep_2 : ∀ w ∈ wsX20, w ∈ wsX8_keep := fun w h => List.mem_cons_of_mem _ (List.mem_append_left _ (List.mem_append_left _ (List.mem_append_left _ (List.mem_append_left _ (List.mem_append_left _ (List.mem_append_right _ h))))))
theorem inX8_keep_0 : ∀ w ∈ wsX00, w ∈ wsX8_keep := fun w h => List.mem_cons_of_mem _ (List.mem_append_left _ (List.mem_append_left _ (List.mem_append_left _ (List.mem_append_left _ (List.mem_append_right _ h)))))
theorem inX8_keep_4 : ∀ w ∈ wsX40, w ∈ wsX8_keep := fun w h => List.mem_cons_of_mem _ (List.mem_append_left _ (List.mem_append_left _ (List.mem_append_left _ (List.mem_append_right _ h))))
theorem inX8_keep_6 : ∀ w ∈ wsX60, w ∈ wsX8_keep := fun w h => List.mem_cons_of_mem _ (List.mem_append_left _ (List.mem_append_left _ (List.mem_append_right _ h)))
theorem inX8_keep_7 : ∀ w ∈ wsX70, w ∈ wsX8_keep := fun w h => List.mem_cons_of_mem _ (List.mem_append_left _ (List.mem_append_right _ h))
theorem inX8_keep_5 : ∀ w ∈ wsX50, w ∈ wsX8_keep := fun w h => List.mem_cons_of_mem _ (List.mem_append_right _ h)
set_option maxHeartbeats 4000000 in
set_option maxRecDepth 100000 in
theorem cm_X8_keep (l : Launch) {X : XT} (hX : XD X) (g : Nat) (σ : Mem) (o : Nat) (hL : L8 o) {r : Int32} {σ' : Mem} (h : fX8_keep g σ o = some (r, σ')) : Met l yX8_keep wsX8_keep rmX8_keep (va_Pc [.ref (xad X o)] (WW X σ)) (QI X r σ') 0 0 (XA X) := by
  refine met_x (M := mX8_keep) (lv := [(0, .ref (xad X o))]) hX (by decide) rfl rfl (Nat.le_of_ble_eq_true rfl) rfl ?_
  unfold fX8_keep at h
  refine k_aload_n (q := 0) dX8_keep_0 rfl rfl ?_
  refine kg_8 (v := .ref (xad X (o + 53))) hL.1 inX8_keep_8 1 (by decide) (List.mem_of_getElem? (i := 1) rfl) rfl dX8_keep_1 ?_
  refine k_aload_n (q := 0) dX8_keep_4 rfl rfl ?_
  refine kg_8 (v := .ref (xad X (o + 1))) hL.1 inX8_keep_8 0 (by decide) (List.mem_of_getElem? (i := 2) rfl) rfl dX8_keep_5 ?_
  obtain ⟨σ2, hc1, h⟩ := bnd_e h
  refine k_cvv (q := (RX2, TX2, 8)) (As := [.ref (xad X (o + 1))]) 1 (cm_X2_copyFrom l hX g σ (o + 53) hL.2.2.1 (o + 1) hL.2.1 hc1) gX8_keep_X2_copyFrom rfl ⟨rfl, rfl⟩ hd_X2_copyFrom ⟨Nat.le_of_ble_eq_true rfl, Nat.le_of_ble_eq_true rfl⟩ ⟨Nat.le_refl _, Nat.le_refl _⟩ (lay_lt hL.2.2.1.1 (by decide)) (ce_of hL.2.2.1.1) rfl rfl (Nat.le_of_ble_eq_true rfl) rfl dX8_keep_8 ?_
  refine k_aload_n (q := 0) dX8_keep_11 rfl rfl ?_
  refine k_iconst (v := (nI 1)) dX8_keep_12 (by decide) ?_
  refine kp_8_6 hL.1 inX8_keep_8 (List.mem_of_getElem? (i := 3) rfl) rfl rfl dX8_keep_13 h (fun σ3 h => ?_)
  refine k_aload_n (q := 0) dX8_keep_16 rfl rfl ?_
  refine kg_8 (v := .ref (xad X (o + 1))) hL.1 inX8_keep_8 0 (by decide) (List.mem_of_getElem? (i := 2) rfl) rfl dX8_keep_17 ?_
  refine kg_2 (v := .ref (xad X (o + 7))) hL.2.1.1 inX8_keep_2 1 (by decide) (List.mem_of_getElem? (i := 4) rfl) rfl dX8_keep_20 ?_
  refine kg_0 (v := .ref (xad X (o + 8))) hL.2.1.2.2.1.1 inX8_keep_0 0 (by decide) (List.mem_of_getElem? (i := 5) rfl) rfl dX8_keep_23 ?_
  refine kg_4 (v := .int (σ3 (o + 8) 0)) hL.2.1.2.2.1.2.1.1 inX8_keep_4 0 (by decide) (List.mem_of_getElem? (i := 6) rfl) rfl dX8_keep_26 ?_
  exact k_iret rfl dX8_keep_29 h
abbrev rmX8_restore : Room := { frames := 4, cells := 0, slots := 0, locals := 90 }
abbrev mX8_restore : MT := (rmX8_restore, wsX8_restore, cX8_restore, 1, RX8, some .int)
theorem hd_X8_restore : yX8_restore.cls = RX8 ∧ yX8_restore.cls ≠ "java/lang/invoke/MethodHandle" ∧ yX8_restore.cls ≠ "java/lang/invoke/VarHandle" ∧ (parseMethodDescriptor yX8_restore.desc).map (fun d => d.parameters.length) = some 0 := by decide +kernel
theorem inX8_restore_8 : ∀ w ∈ wsX80, w ∈ wsX8_restore := fun w h => List.mem_cons_of_mem _ (List.mem_append_left _ (List.mem_append_left _ (List.mem_append_left _ (List.mem_append_left _ (List.mem_append_left _ (List.mem_append_left _ (List.mem_append_left _ (List.mem_append_right _ h))))))))
theorem inX8_restore_2 : ∀ w ∈ wsX20, w ∈ wsX8_restore := fun w h => List.mem_cons_of_mem _ (List.mem_append_left _ (List.mem_append_left _ (List.mem_append_left _ (List.mem_append_left _ (List.mem_append_left _ (List.mem_append_left _ (List.mem_append_right _ h)))))))
theorem inX8_restore_0 : ∀ w ∈ wsX00, w ∈ wsX8_restore := fun w h => List.mem_cons_of_mem _ (List.mem_append_left _ (List.mem_append_left _ (List.mem_append_left _ (List.mem_append_left _ (List.mem_append_left _ (List.mem_append_right _ h))))))
theorem inX8_restore_4 : ∀ w ∈ wsX40, w ∈ wsX8_restore := fun w h => List.mem_cons_of_mem _ (List.mem_append_left _ (List.mem_append_left _ (List.mem_append_left _ (List.mem_append_left _ (List.mem_append_right _ h)))))
theorem inX8_restore_3 : ∀ w ∈ wsX30, w ∈ wsX8_restore := fun w h => List.mem_cons_of_mem _ (List.mem_append_left _ (List.mem_append_left _ (List.mem_append_left _ (List.mem_append_right _ h))))
theorem inX8_restore_6 : ∀ w ∈ wsX60, w ∈ wsX8_restore := fun w h => List.mem_cons_of_mem _ (List.mem_append_left _ (List.mem_append_left _ (List.mem_append_right _ h)))
theorem inX8_restore_7 : ∀ w ∈ wsX70, w ∈ wsX8_restore := fun w h => List.mem_cons_of_mem _ (List.mem_append_left _ (List.mem_append_right _ h))
theorem inX8_restore_5 : ∀ w ∈ wsX50, w ∈ wsX8_restore := fun w h => List.mem_cons_of_mem _ (List.mem_append_right _ h)
set_option maxHeartbeats 4000000 in
set_option maxRecDepth 100000 in
theorem cm_X8_restore (l : Launch) {X : XT} (hX : XD X) (g : Nat) (σ : Mem) (o : Nat) (hL : L8 o) {r : Int32} {σ' : Mem} (h : fX8_restore g σ o = some (r, σ')) : Met l yX8_restore wsX8_restore rmX8_restore (va_Pc [.ref (xad X o)] (WW X σ)) (QI X r σ') 0 0 (XA X) := by
  refine met_x (M := mX8_restore) (lv := [(0, .ref (xad X o))]) hX (by decide) rfl rfl (Nat.le_of_ble_eq_true rfl) rfl ?_
  unfold fX8_restore at h
  refine k_aload_n (q := 0) dX8_restore_0 rfl rfl ?_
  refine kg_8 (v := .int (σ o 6)) hL.1 inX8_restore_8 6 (by decide) (List.mem_of_getElem? (i := 1) rfl) rfl dX8_restore_1 ?_
  refine k_if_ne (tgt := 10) dX8_restore_4 (by decide) h (fun h => ?_) (fun h => ?_)
  · refine k_aload_n (q := 0) dX8_restore_10 rfl rfl ?_
    refine kg_8 (v := .ref (xad X (o + 105))) hL.1 inX8_restore_8 2 (by decide) (List.mem_of_getElem? (i := 2) rfl) rfl dX8_restore_11 ?_
    refine k_aload_n (q := 0) dX8_restore_14 rfl rfl ?_
    refine kg_8 (v := .ref (xad X (o + 1))) hL.1 inX8_restore_8 0 (by decide) (List.mem_of_getElem? (i := 3) rfl) rfl dX8_restore_15 ?_
    obtain ⟨σ2, hc1, h⟩ := bnd_e h
    refine k_cvv (q := (RX3, TX3, 3)) (As := [.ref (xad X (o + 1))]) 1 (cm_X3_record l hX g σ (o + 105) hL.2.2.2.1 (o + 1) hL.2.1 hc1) gX8_restore_X3_record rfl ⟨rfl, rfl⟩ hd_X3_record ⟨Nat.le_of_ble_eq_true rfl, Nat.le_of_ble_eq_true rfl⟩ ⟨Nat.le_refl _, Nat.le_refl _⟩ (lay_lt hL.2.2.2.1.1 (by decide)) (ce_of hL.2.2.2.1.1) rfl rfl (Nat.le_of_ble_eq_true rfl) rfl dX8_restore_18 ?_
    refine k_aload_n (q := 0) dX8_restore_21 rfl rfl ?_
    refine kg_8 (v := .ref (xad X (o + 1))) hL.1 inX8_restore_8 0 (by decide) (List.mem_of_getElem? (i := 3) rfl) rfl dX8_restore_22 ?_
    refine k_aload_n (q := 0) dX8_restore_25 rfl rfl ?_
    refine kg_8 (v := .ref (xad X (o + 53))) hL.1 inX8_restore_8 1 (by decide) (List.mem_of_getElem? (i := 4) rfl) rfl dX8_restore_26 ?_
    obtain ⟨σ4, hc3, h⟩ := bnd_e h
    refine k_cvv (q := (RX2, TX2, 8)) (As := [.ref (xad X (o + 53))]) 1 (cm_X2_copyFrom l hX g σ2 (o + 1) hL.2.1 (o + 53) hL.2.2.1 hc3) gX8_restore_X2_copyFrom rfl ⟨rfl, rfl⟩ hd_X2_copyFrom ⟨Nat.le_of_ble_eq_true rfl, Nat.le_of_ble_eq_true rfl⟩ ⟨Nat.le_refl _, Nat.le_refl _⟩ (lay_lt hL.2.1.1 (by decide)) (ce_of hL.2.1.1) rfl rfl (Nat.le_of_ble_eq_true rfl) rfl dX8_restore_29 ?_
    refine k_aload_n (q := 0) dX8_restore_32 rfl rfl ?_
    refine kg_8 (v := .ref (xad X (o + 1))) hL.1 inX8_restore_8 0 (by decide) (List.mem_of_getElem? (i := 3) rfl) rfl dX8_restore_33 ?_
    refine kg_2 (v := .ref (xad X (o + 7))) hL.2.1.1 inX8_restore_2 1 (by decide) (List.mem_of_getElem? (i := 5) rfl) rfl dX8_restore_36 ?_
    refine kg_0 (v := .ref (xad X (o + 8))) hL.2.1.2.2.1.1 inX8_restore_0 0 (by decide) (List.mem_of_getElem? (i := 6) rfl) rfl dX8_restore_39 ?_
    refine kg_4 (v := .int (σ4 (o + 8) 0)) hL.2.1.2.2.1.2.1.1 inX8_restore_4 0 (by decide) (List.mem_of_getElem? (i := 7) rfl) rfl dX8_restore_42 ?_
    exact k_iret rfl dX8_restore_45 h
  · refine k_bipush (v := (nN 5)) dX8_restore_7 (by decide) ?_
    exact k_iret rfl dX8_restore_9 h
abbrev rmX8_scene : Room := { frames := 2, cells := 0, slots := 0, locals := 44 }
abbrev mX8_scene : MT := (rmX8_scene, wsX8_scene, cX8_scene, 4, RX8, some .int)
theorem hd_X8_scene : yX8_scene.cls = RX8 ∧ yX8_scene.cls ≠ "java/lang/invoke/MethodHandle" ∧ yX8_scene.cls ≠ "java/lang/invoke/VarHandle" ∧ (parseMethodDescriptor yX8_scene.desc).map (fun d => d.parameters.length) = some 2 := by decide +kernel
theorem inX8_scene_8 : ∀ w ∈ wsX80, w ∈ wsX8_scene := fun w h => List.mem_cons_of_mem _ (List.mem_append_left _ (List.mem_append_left _ (List.mem_append_left _ (List.mem_append_left _ (List.mem_append_right _ h)))))
theorem inX8_scene_2 : ∀ w ∈ wsX20, w ∈ wsX8_scene := fun w h => List.mem_cons_of_mem _ (List.mem_append_left _ (List.mem_append_left _ (List.mem_append_left _ (List.mem_append_right _ h))))
theorem inX8_scene_6 : ∀ w ∈ wsX60, w ∈ wsX8_scene := fun w h => List.mem_cons_of_mem _ (List.mem_append_left _ (List.mem_append_left _ (List.mem_append_right _ h)))
theorem inX8_scene_0 : ∀ w ∈ wsX00, w ∈ wsX8_scene := fun w h => List.mem_cons_of_mem _ (List.mem_append_left _ (List.mem_append_right _ h))
theorem inX8_scene_4 : ∀ w ∈ wsX40, w ∈ wsX8_scene := fun w h => List.mem_cons_of_mem _ (List.mem_append_right _ h)
set_option maxHeartbeats 4000000 in
set_option maxRecDepth 100000 in
theorem cm_X8_scene (l : Launch) {X : XT} (hX : XD X) (g : Nat) (σ : Mem) (o : Nat) (hL : L8 o) (p1 : Int32) (p2 : Int32) {r : Int32} (h : fX8_scene g σ o p1 p2 = some r) : Met l yX8_scene wsX8_scene rmX8_scene (va_Pc [.ref (xad X o), .int p1, .int p2] (WW X σ)) (QI X r σ) 0 0 (XA X) := by
  refine met_x (M := mX8_scene) (lv := [(0, .ref (xad X o)), (1, .int p1), (2, .int p2)]) hX (by decide) rfl rfl (Nat.le_of_ble_eq_true rfl) rfl ?_
  unfold fX8_scene at h
  refine k_aload_n (q := 0) dX8_scene_0 rfl rfl ?_
  refine kg_8 (v := .ref (xad X (o + 1))) hL.1 inX8_scene_8 0 (by decide) (List.mem_of_getElem? (i := 1) rfl) rfl dX8_scene_1 ?_
  refine kg_2 (v := .ref (xad X (o + 2))) hL.2.1.1 inX8_scene_2 0 (by decide) (List.mem_of_getElem? (i := 2) rfl) rfl dX8_scene_4 ?_
  refine k_iload_n (q := 1) dX8_scene_7 rfl rfl ?_
  obtain ⟨r2, hc1, h⟩ := bnd_e h
  refine k_cv (q := (RX6, TX6, 5)) (As := [.int p1]) 1 (cm_X6_hasScene l hX g σ (o + 2) hL.2.1.2.1 p1 hc1) gX8_scene_X6_hasScene rfl ⟨rfl, rfl⟩ hd_X6_hasScene ⟨Nat.le_of_ble_eq_true rfl, Nat.le_of_ble_eq_true rfl⟩ ⟨Nat.le_refl _, Nat.le_refl _⟩ (lay_lt hL.2.1.2.1.1 (by decide)) (ce_of hL.2.1.2.1.1) rfl rfl (Nat.le_of_ble_eq_true rfl) rfl dX8_scene_8 ?_
  refine k_if_ne (tgt := 16) dX8_scene_11 (by decide) h (fun h => ?_) (fun h => ?_)
  · refine k_iload_n (q := 2) dX8_scene_16 rfl rfl ?_
    refine k_iconst (v := (nI 0)) dX8_scene_17 (by decide) ?_
    refine k_iconst (v := (nI 5)) dX8_scene_18 (by decide) ?_
    obtain ⟨r4, hc3, h⟩ := bnd_e h
    refine k_cs (As := [.int p2, .int (nI 0), .int (nI 5)]) 3 (cm_X8_isWithin l hX g σ p2 (nI 0) (nI 5) hc3) gX8_scene_X8_isWithin rfl ⟨rfl, rfl⟩ hd_X8_isWithin ⟨Nat.le_of_ble_eq_true rfl, Nat.le_of_ble_eq_true rfl⟩ ⟨Nat.le_refl _, Nat.le_refl _⟩ rfl (Nat.le_of_ble_eq_true rfl) rfl dX8_scene_19 ?_
    refine k_if_ne (tgt := 28) dX8_scene_22 (by decide) h (fun h => ?_) (fun h => ?_)
    · refine k_aload_n (q := 0) dX8_scene_28 rfl rfl ?_
      refine kg_8 (v := .ref (xad X (o + 1))) hL.1 inX8_scene_8 0 (by decide) (List.mem_of_getElem? (i := 1) rfl) rfl dX8_scene_29 ?_
      refine kg_2 (v := .ref (xad X (o + 7))) hL.2.1.1 inX8_scene_2 1 (by decide) (List.mem_of_getElem? (i := 3) rfl) rfl dX8_scene_32 ?_
      refine k_astore_n (lv' := [(3, .ref (xad X (o + 7))), (0, .ref (xad X o)), (1, .int p1), (2, .int p2)]) dX8_scene_35 rfl (Nat.le_of_ble_eq_true rfl) rfl ?_
      refine k_iload_n (q := 3) dX8_scene_36 rfl rfl ?_
      refine k_if h (fun c0 h => ?_) (fun c0 h => ?_)
      · refine k_tabIn (off := 35) (tgt := 72) dX8_scene_37 (by rw [c0]; decide) (by rw [c0]; decide) (by rw [c0]; rfl) (by decide) ?_
        refine k_aload_n (q := 1) dX8_scene_72 rfl rfl ?_
        refine kg_8 (v := .ref (xad X (o + 1))) hL.1 inX8_scene_8 0 (by decide) (List.mem_of_getElem? (i := 1) rfl) rfl dX8_scene_73 ?_
        refine kg_2 (v := .ref (xad X (o + 2))) hL.2.1.1 inX8_scene_2 0 (by decide) (List.mem_of_getElem? (i := 2) rfl) rfl dX8_scene_76 ?_
        refine kg_6 (v := .ref (xad X (o + 3))) hL.2.1.2.1.1 inX8_scene_6 1 (by decide) (List.mem_of_getElem? (i := 4) rfl) rfl dX8_scene_79 ?_
        refine k_iload_n (q := 2) dX8_scene_82 rfl rfl ?_
        refine k_iald (n := 12) hL.2.1.2.1.2.1 dX8_scene_83 h (fun h => ?_)
        exact k_iretR rfl dX8_scene_84 h
      · refine k_if h (fun c1 h => ?_) (fun c1 h => ?_)
        · refine k_tabIn (off := 48) (tgt := 85) dX8_scene_37 (by rw [c1]; decide) (by rw [c1]; decide) (by rw [c1]; rfl) (by decide) ?_
          refine k_aload_n (q := 1) dX8_scene_85 rfl rfl ?_
          refine kg_8 (v := .ref (xad X (o + 1))) hL.1 inX8_scene_8 0 (by decide) (List.mem_of_getElem? (i := 1) rfl) rfl dX8_scene_86 ?_
          refine kg_2 (v := .ref (xad X (o + 2))) hL.2.1.1 inX8_scene_2 0 (by decide) (List.mem_of_getElem? (i := 2) rfl) rfl dX8_scene_89 ?_
          refine kg_6 (v := .ref (xad X (o + 4))) hL.2.1.2.1.1 inX8_scene_6 2 (by decide) (List.mem_of_getElem? (i := 5) rfl) rfl dX8_scene_92 ?_
          refine k_iload_n (q := 2) dX8_scene_95 rfl rfl ?_
          refine k_iald (n := 12) hL.2.1.2.1.2.2.1 dX8_scene_96 h (fun h => ?_)
          exact k_iretR rfl dX8_scene_97 h
        · refine k_if h (fun c2 h => ?_) (fun c2 h => ?_)
          · refine k_tabIn (off := 61) (tgt := 98) dX8_scene_37 (by rw [c2]; decide) (by rw [c2]; decide) (by rw [c2]; rfl) (by decide) ?_
            refine k_aload_n (q := 0) dX8_scene_98 rfl rfl ?_
            refine kg_0 (v := .ref (xad X (o + 8))) hL.2.1.2.2.1.1 inX8_scene_0 0 (by decide) (List.mem_of_getElem? (i := 6) rfl) rfl dX8_scene_99 ?_
            refine k_iload_n (q := 2) dX8_scene_102 rfl rfl ?_
            obtain ⟨r6, hc5, h⟩ := bnd_e h
            refine k_cv (q := (RX4, TX4, 5)) (As := [.int p1]) 1 (cm_X4_framesOf l hX g σ (o + 8) hL.2.1.2.2.1.2.1 p1 hc5) gX8_scene_X4_framesOf rfl ⟨rfl, rfl⟩ hd_X4_framesOf ⟨Nat.le_of_ble_eq_true rfl, Nat.le_of_ble_eq_true rfl⟩ ⟨Nat.le_refl _, Nat.le_refl _⟩ (lay_lt hL.2.1.2.2.1.2.1.1 (by decide)) (ce_of hL.2.1.2.2.1.2.1.1) rfl rfl (Nat.le_of_ble_eq_true rfl) rfl dX8_scene_103 ?_
            exact k_iretR rfl dX8_scene_106 h
          · refine k_if h (fun c3 h => ?_) (fun c3 h => ?_)
            · refine k_tabIn (off := 70) (tgt := 107) dX8_scene_37 (by rw [c3]; decide) (by rw [c3]; decide) (by rw [c3]; rfl) (by decide) ?_
              refine k_aload_n (q := 0) dX8_scene_107 rfl rfl ?_
              refine kg_0 (v := .ref (xad X (o + 8))) hL.2.1.2.2.1.1 inX8_scene_0 0 (by decide) (List.mem_of_getElem? (i := 6) rfl) rfl dX8_scene_108 ?_
              refine k_iload_n (q := 2) dX8_scene_111 rfl rfl ?_
              obtain ⟨r8, hc7, h⟩ := bnd_e h
              refine k_cv (q := (RX4, TX4, 5)) (As := [.int p1]) 1 (cm_X4_piecesOf l hX g σ (o + 8) hL.2.1.2.2.1.2.1 p1 hc7) gX8_scene_X4_piecesOf rfl ⟨rfl, rfl⟩ hd_X4_piecesOf ⟨Nat.le_of_ble_eq_true rfl, Nat.le_of_ble_eq_true rfl⟩ ⟨Nat.le_refl _, Nat.le_refl _⟩ (lay_lt hL.2.1.2.2.1.2.1.1 (by decide)) (ce_of hL.2.1.2.2.1.2.1.1) rfl rfl (Nat.le_of_ble_eq_true rfl) rfl dX8_scene_112 ?_
              refine k_aload_n (q := 0) dX8_scene_115 rfl rfl ?_
              refine kg_0 (v := .ref (xad X (o + 13))) hL.2.1.2.2.1.1 inX8_scene_0 1 (by decide) (List.mem_of_getElem? (i := 7) rfl) rfl dX8_scene_116 ?_
              refine k_iload_n (q := 2) dX8_scene_119 rfl rfl ?_
              obtain ⟨r10, hc9, h⟩ := bnd_e h
              refine k_cv (q := (RX4, TX4, 5)) (As := [.int p1]) 1 (cm_X4_piecesOf l hX g σ (o + 13) hL.2.1.2.2.1.2.2 p1 hc9) gX8_scene_X4_piecesOf rfl ⟨rfl, rfl⟩ hd_X4_piecesOf ⟨Nat.le_of_ble_eq_true rfl, Nat.le_of_ble_eq_true rfl⟩ ⟨Nat.le_refl _, Nat.le_refl _⟩ (lay_lt hL.2.1.2.2.1.2.2.1 (by decide)) (ce_of hL.2.1.2.2.1.2.2.1) rfl rfl (Nat.le_of_ble_eq_true rfl) rfl dX8_scene_120 ?_
              refine k_iadd dX8_scene_123 ?_
              exact k_iretR rfl dX8_scene_124 h
            · refine k_if h (fun c4 h => ?_) (fun c4 h => ?_)
              · refine k_tabIn (off := 88) (tgt := 125) dX8_scene_37 (by rw [c4]; decide) (by rw [c4]; decide) (by rw [c4]; rfl) (by decide) ?_
                refine k_aload_n (q := 1) dX8_scene_125 rfl rfl ?_
                refine kg_8 (v := .ref (xad X (o + 1))) hL.1 inX8_scene_8 0 (by decide) (List.mem_of_getElem? (i := 1) rfl) rfl dX8_scene_126 ?_
                refine kg_2 (v := .ref (xad X (o + 2))) hL.2.1.1 inX8_scene_2 0 (by decide) (List.mem_of_getElem? (i := 2) rfl) rfl dX8_scene_129 ?_
                refine k_iload_n (q := 2) dX8_scene_132 rfl rfl ?_
                obtain ⟨r12, hc11, h⟩ := bnd_e h
                refine k_cv (q := (RX6, TX6, 5)) (As := [.int p1]) 1 (cm_X6_tornHolesOf l hX g σ (o + 2) hL.2.1.2.1 p1 hc11) gX8_scene_X6_tornHolesOf rfl ⟨rfl, rfl⟩ hd_X6_tornHolesOf ⟨Nat.le_of_ble_eq_true rfl, Nat.le_of_ble_eq_true rfl⟩ ⟨Nat.le_refl _, Nat.le_refl _⟩ (lay_lt hL.2.1.2.1.1 (by decide)) (ce_of hL.2.1.2.1.1) rfl rfl (Nat.le_of_ble_eq_true rfl) rfl dX8_scene_133 ?_
                exact k_iretR rfl dX8_scene_136 h
              · refine k_tabOut (tgt := 137) dX8_scene_37 (by have e0 := lv_neT c0 (show Int32.toInt (nI 0) = 0 from rfl); have e1 := lv_neT c1 (show Int32.toInt (nI 1) = 1 from rfl); have e2 := lv_neT c2 (show Int32.toInt (nI 2) = 2 from rfl); have e3 := lv_neT c3 (show Int32.toInt (nI 3) = 3 from rfl); have e4 := lv_neT c4 (show Int32.toInt (nI 4) = 4 from rfl); omega) (by decide) ?_
                refine k_aload_n (q := 0) dX8_scene_137 rfl rfl ?_
                refine kg_0 (v := .ref (xad X (o + 8))) hL.2.1.2.2.1.1 inX8_scene_0 0 (by decide) (List.mem_of_getElem? (i := 6) rfl) rfl dX8_scene_138 ?_
                refine k_iload_n (q := 2) dX8_scene_141 rfl rfl ?_
                obtain ⟨r14, hc13, h⟩ := bnd_e h
                refine k_cv (q := (RX4, TX4, 5)) (As := [.int p1]) 1 (cm_X4_isInOrder l hX g σ (o + 8) hL.2.1.2.2.1.2.1 p1 hc13) gX8_scene_X4_isInOrder rfl ⟨rfl, rfl⟩ hd_X4_isInOrder ⟨Nat.le_of_ble_eq_true rfl, Nat.le_of_ble_eq_true rfl⟩ ⟨Nat.le_refl _, Nat.le_refl _⟩ (lay_lt hL.2.1.2.2.1.2.1.1 (by decide)) (ce_of hL.2.1.2.2.1.2.1.1) rfl rfl (Nat.le_of_ble_eq_true rfl) rfl dX8_scene_142 ?_
                have key : WG X l mX8_scene (fun _ _ => True) 0 0 (QM X (QI X r σ)) 153 σ [(3, .ref (xad X (o + 7))), (0, .ref (xad X o)), (1, .int p1), (2, .int p2)] [.int (if r14 = 0 then (nI 0) else (nI 1))] := by
                  exact k_iretR rfl dX8_scene_153 h
                refine k_ifc_eq (tgt := 152) dX8_scene_145 (by decide) (fun hq => ?_) (fun hq => ?_)
                · rw [if_pos hq] at key
                  refine k_iconst (v := (nI 0)) dX8_scene_152 (by decide) ?_
                  exact key
                · rw [if_neg hq] at key
                  refine k_iconst (v := (nI 1)) dX8_scene_148 (by decide) ?_
                  refine k_goto (tgt := 153) dX8_scene_149 (by decide) ?_
                  exact key
    · refine k_bipush (v := (nN 2)) dX8_scene_25 (by decide) ?_
      exact k_iretR rfl dX8_scene_27 h
  · refine k_iconst (v := (nN 1)) dX8_scene_14 (by decide) ?_
    exact k_iretR rfl dX8_scene_15 h
abbrev rmX8_piece : Room := { frames := 2, cells := 0, slots := 0, locals := 44 }
abbrev mX8_piece : MT := (rmX8_piece, wsX8_piece, cX8_piece, 4, RX8, some .int)
theorem hd_X8_piece : yX8_piece.cls = RX8 ∧ yX8_piece.cls ≠ "java/lang/invoke/MethodHandle" ∧ yX8_piece.cls ≠ "java/lang/invoke/VarHandle" ∧ (parseMethodDescriptor yX8_piece.desc).map (fun d => d.parameters.length) = some 2 := by decide +kernel
theorem inX8_piece_8 : ∀ w ∈ wsX80, w ∈ wsX8_piece := fun w h => List.mem_cons_of_mem _ (List.mem_append_left _ (List.mem_append_left _ (List.mem_append_left _ (List.mem_append_right _ h))))
theorem inX8_piece_2 : ∀ w ∈ wsX20, w ∈ wsX8_piece := fun w h => List.mem_cons_of_mem _ (List.mem_append_left _ (List.mem_append_left _ (List.mem_append_right _ h)))
theorem inX8_piece_0 : ∀ w ∈ wsX00, w ∈ wsX8_piece := fun w h => List.mem_cons_of_mem _ (List.mem_append_left _ (List.mem_append_right _ h))
theorem inX8_piece_4 : ∀ w ∈ wsX40, w ∈ wsX8_piece := fun w h => List.mem_cons_of_mem _ (List.mem_append_right _ h)
set_option maxHeartbeats 4000000 in
set_option maxRecDepth 100000 in
theorem cm_X8_piece (l : Launch) {X : XT} (hX : XD X) (g : Nat) (σ : Mem) (o : Nat) (hL : L8 o) (p1 : Int32) (p2 : Int32) {r : Int32} (h : fX8_piece g σ o p1 p2 = some r) : Met l yX8_piece wsX8_piece rmX8_piece (va_Pc [.ref (xad X o), .int p1, .int p2] (WW X σ)) (QI X r σ) 0 0 (XA X) := by
  refine met_x (M := mX8_piece) (lv := [(0, .ref (xad X o)), (1, .int p1), (2, .int p2)]) hX (by decide) rfl rfl (Nat.le_of_ble_eq_true rfl) rfl ?_
  unfold fX8_piece at h
  refine k_aload_n (q := 0) dX8_piece_0 rfl rfl ?_
  refine kg_8 (v := .ref (xad X (o + 1))) hL.1 inX8_piece_8 0 (by decide) (List.mem_of_getElem? (i := 1) rfl) rfl dX8_piece_1 ?_
  refine kg_2 (v := .ref (xad X (o + 7))) hL.2.1.1 inX8_piece_2 1 (by decide) (List.mem_of_getElem? (i := 2) rfl) rfl dX8_piece_4 ?_
  refine kg_0 (v := .ref (xad X (o + 8))) hL.2.1.2.2.1.1 inX8_piece_0 0 (by decide) (List.mem_of_getElem? (i := 3) rfl) rfl dX8_piece_7 ?_
  refine k_astore_n (lv' := [(3, .ref (xad X (o + 8))), (0, .ref (xad X o)), (1, .int p1), (2, .int p2)]) dX8_piece_10 rfl (Nat.le_of_ble_eq_true rfl) rfl ?_
  refine k_aload_n (q := 0) dX8_piece_11 rfl rfl ?_
  refine k_iload_n (q := 2) dX8_piece_12 rfl rfl ?_
  obtain ⟨r2, hc1, h⟩ := bnd_e h
  refine k_cv (q := (RX4, TX4, 5)) (As := [.int p1]) 1 (cm_X4_has l hX g σ (o + 8) hL.2.1.2.2.1.2.1 p1 hc1) gX8_piece_X4_has rfl ⟨rfl, rfl⟩ hd_X4_has ⟨Nat.le_of_ble_eq_true rfl, Nat.le_of_ble_eq_true rfl⟩ ⟨Nat.le_refl _, Nat.le_refl _⟩ (lay_lt hL.2.1.2.2.1.2.1.1 (by decide)) (ce_of hL.2.1.2.2.1.2.1.1) rfl rfl (Nat.le_of_ble_eq_true rfl) rfl dX8_piece_13 ?_
  refine k_if_ne (tgt := 21) dX8_piece_16 (by decide) h (fun h => ?_) (fun h => ?_)
  · refine k_iload_n (q := 3) dX8_piece_21 rfl rfl ?_
    refine k_iconst (v := (nI 0)) dX8_piece_22 (by decide) ?_
    refine k_iconst (v := (nI 4)) dX8_piece_23 (by decide) ?_
    obtain ⟨r4, hc3, h⟩ := bnd_e h
    refine k_cs (As := [.int p2, .int (nI 0), .int (nI 4)]) 3 (cm_X8_isWithin l hX g σ p2 (nI 0) (nI 4) hc3) gX8_piece_X8_isWithin rfl ⟨rfl, rfl⟩ hd_X8_isWithin ⟨Nat.le_of_ble_eq_true rfl, Nat.le_of_ble_eq_true rfl⟩ ⟨Nat.le_refl _, Nat.le_refl _⟩ rfl (Nat.le_of_ble_eq_true rfl) rfl dX8_piece_24 ?_
    refine k_if_ne (tgt := 33) dX8_piece_27 (by decide) h (fun h => ?_) (fun h => ?_)
    · refine k_iload_n (q := 3) dX8_piece_33 rfl rfl ?_
      refine k_if h (fun c0 h => ?_) (fun c0 h => ?_)
      · refine k_look (off := 26) (tgt := 60) dX8_piece_34 (by decide) (by rw [c0]; rfl) (by decide) ?_
        refine k_aload_n (q := 0) dX8_piece_60 rfl rfl ?_
        refine k_iload_n (q := 2) dX8_piece_61 rfl rfl ?_
        obtain ⟨r6, hc5, h⟩ := bnd_e h
        refine k_cv (q := (RX4, TX4, 5)) (As := [.int p1]) 1 (cm_X4_startOf l hX g σ (o + 8) hL.2.1.2.2.1.2.1 p1 hc5) gX8_piece_X4_startOf rfl ⟨rfl, rfl⟩ hd_X4_startOf ⟨Nat.le_of_ble_eq_true rfl, Nat.le_of_ble_eq_true rfl⟩ ⟨Nat.le_refl _, Nat.le_refl _⟩ (lay_lt hL.2.1.2.2.1.2.1.1 (by decide)) (ce_of hL.2.1.2.2.1.2.1.1) rfl rfl (Nat.le_of_ble_eq_true rfl) rfl dX8_piece_62 ?_
        exact k_iretR rfl dX8_piece_65 h
      · refine k_if h (fun c1 h => ?_) (fun c1 h => ?_)
        · refine k_look (off := 32) (tgt := 66) dX8_piece_34 (by decide) (by rw [c1]; rfl) (by decide) ?_
          refine k_aload_n (q := 0) dX8_piece_66 rfl rfl ?_
          refine kg_4 (v := .ref (xad X (o + 12))) hL.2.1.2.2.1.2.1.1 inX8_piece_4 4 (by decide) (List.mem_of_getElem? (i := 4) rfl) rfl dX8_piece_67 ?_
          refine k_iload_n (q := 2) dX8_piece_70 rfl rfl ?_
          refine k_iald (n := 20) hL.2.1.2.2.1.2.1.2.2.2.2 dX8_piece_71 h (fun h => ?_)
          exact k_iretR rfl dX8_piece_72 h
        · refine k_look (off := 39) (tgt := 73) dX8_piece_34 (by decide) ((lv_osw c0 (show Int32.toInt (nI 3) = 3 from rfl)).trans ((lv_osw c1 (show Int32.toInt (nI 4) = 4 from rfl)).trans (rfl))) (by decide) ?_
          refine k_aload_n (q := 0) dX8_piece_73 rfl rfl ?_
          refine k_iload_n (q := 2) dX8_piece_74 rfl rfl ?_
          refine k_iload_n (q := 3) dX8_piece_75 rfl rfl ?_
          obtain ⟨r8, hc7, h⟩ := bnd_e h
          refine k_cv (q := (RX4, TX4, 5)) (As := [.int p1, .int p2]) 2 (cm_X4_tell l hX g σ (o + 8) hL.2.1.2.2.1.2.1 p1 p2 hc7) gX8_piece_X4_tell rfl ⟨rfl, rfl⟩ hd_X4_tell ⟨Nat.le_of_ble_eq_true rfl, Nat.le_of_ble_eq_true rfl⟩ ⟨Nat.le_refl _, Nat.le_refl _⟩ (lay_lt hL.2.1.2.2.1.2.1.1 (by decide)) (ce_of hL.2.1.2.2.1.2.1.1) rfl rfl (Nat.le_of_ble_eq_true rfl) rfl dX8_piece_76 ?_
          exact k_iretR rfl dX8_piece_79 h
    · refine k_bipush (v := (nN 2)) dX8_piece_30 (by decide) ?_
      exact k_iretR rfl dX8_piece_32 h
  · refine k_iconst (v := (nN 1)) dX8_piece_19 (by decide) ?_
    exact k_iretR rfl dX8_piece_20 h
abbrev rmX8_canned : Room := { frames := 1, cells := 0, slots := 0, locals := 22 }
abbrev mX8_canned : MT := (rmX8_canned, wsX8_canned, cX8_canned, 4, RX8, some .int)
theorem hd_X8_canned : yX8_canned.cls = RX8 ∧ yX8_canned.cls ≠ "java/lang/invoke/MethodHandle" ∧ yX8_canned.cls ≠ "java/lang/invoke/VarHandle" ∧ (parseMethodDescriptor yX8_canned.desc).map (fun d => d.parameters.length) = some 2 := by decide +kernel
theorem inX8_canned_8 : ∀ w ∈ wsX80, w ∈ wsX8_canned := fun w h => List.mem_cons_of_mem _ (List.mem_append_left _ (List.mem_append_left _ (List.mem_append_left _ (List.mem_append_right _ h))))
theorem inX8_canned_2 : ∀ w ∈ wsX20, w ∈ wsX8_canned := fun w h => List.mem_cons_of_mem _ (List.mem_append_left _ (List.mem_append_left _ (List.mem_append_right _ h)))
theorem inX8_canned_0 : ∀ w ∈ wsX00, w ∈ wsX8_canned := fun w h => List.mem_cons_of_mem _ (List.mem_append_left _ (List.mem_append_right _ h))
theorem inX8_canned_4 : ∀ w ∈ wsX40, w ∈ wsX8_canned := fun w h => List.mem_cons_of_mem _ (List.mem_append_right _ h)
set_option maxHeartbeats 4000000 in
set_option maxRecDepth 100000 in
theorem cm_X8_canned (l : Launch) {X : XT} (hX : XD X) (g : Nat) (σ : Mem) (o : Nat) (hL : L8 o) (p1 : Int32) (p2 : Int32) {r : Int32} (h : fX8_canned g σ o p1 p2 = some r) : Met l yX8_canned wsX8_canned rmX8_canned (va_Pc [.ref (xad X o), .int p1, .int p2] (WW X σ)) (QI X r σ) 0 0 (XA X) := by
  refine met_x (M := mX8_canned) (lv := [(0, .ref (xad X o)), (1, .int p1), (2, .int p2)]) hX (by decide) rfl rfl (Nat.le_of_ble_eq_true rfl) rfl ?_
  unfold fX8_canned at h
  refine k_aload_n (q := 0) dX8_canned_0 rfl rfl ?_
  refine kg_8 (v := .ref (xad X (o + 1))) hL.1 inX8_canned_8 0 (by decide) (List.mem_of_getElem? (i := 1) rfl) rfl dX8_canned_1 ?_
  refine kg_2 (v := .ref (xad X (o + 7))) hL.2.1.1 inX8_canned_2 1 (by decide) (List.mem_of_getElem? (i := 2) rfl) rfl dX8_canned_4 ?_
  refine kg_0 (v := .ref (xad X (o + 13))) hL.2.1.2.2.1.1 inX8_canned_0 1 (by decide) (List.mem_of_getElem? (i := 3) rfl) rfl dX8_canned_7 ?_
  refine k_astore_n (lv' := [(3, .ref (xad X (o + 13))), (0, .ref (xad X o)), (1, .int p1), (2, .int p2)]) dX8_canned_10 rfl (Nat.le_of_ble_eq_true rfl) rfl ?_
  refine k_aload_n (q := 0) dX8_canned_11 rfl rfl ?_
  refine k_iload_n (q := 2) dX8_canned_12 rfl rfl ?_
  obtain ⟨r2, hc1, h⟩ := bnd_e h
  refine k_cv (q := (RX4, TX4, 5)) (As := [.int p1]) 1 (cm_X4_has l hX g σ (o + 13) hL.2.1.2.2.1.2.2 p1 hc1) gX8_canned_X4_has rfl ⟨rfl, rfl⟩ hd_X4_has ⟨Nat.le_of_ble_eq_true rfl, Nat.le_of_ble_eq_true rfl⟩ ⟨Nat.le_refl _, Nat.le_refl _⟩ (lay_lt hL.2.1.2.2.1.2.2.1 (by decide)) (ce_of hL.2.1.2.2.1.2.2.1) rfl rfl (Nat.le_of_ble_eq_true rfl) rfl dX8_canned_13 ?_
  refine k_if_ne (tgt := 21) dX8_canned_16 (by decide) h (fun h => ?_) (fun h => ?_)
  · refine k_iload_n (q := 3) dX8_canned_21 rfl rfl ?_
    refine k_iconst (v := (nI 0)) dX8_canned_22 (by decide) ?_
    refine k_iconst (v := (nI 2)) dX8_canned_23 (by decide) ?_
    obtain ⟨r4, hc3, h⟩ := bnd_e h
    refine k_cs (As := [.int p2, .int (nI 0), .int (nI 2)]) 3 (cm_X8_isWithin l hX g σ p2 (nI 0) (nI 2) hc3) gX8_canned_X8_isWithin rfl ⟨rfl, rfl⟩ hd_X8_isWithin ⟨Nat.le_of_ble_eq_true rfl, Nat.le_of_ble_eq_true rfl⟩ ⟨Nat.le_refl _, Nat.le_refl _⟩ rfl (Nat.le_of_ble_eq_true rfl) rfl dX8_canned_24 ?_
    refine k_if_ne (tgt := 33) dX8_canned_27 (by decide) h (fun h => ?_) (fun h => ?_)
    · refine k_aload_n (q := 0) dX8_canned_33 rfl rfl ?_
      refine k_iload_n (q := 2) dX8_canned_34 rfl rfl ?_
      refine k_iload_n (q := 3) dX8_canned_35 rfl rfl ?_
      obtain ⟨r6, hc5, h⟩ := bnd_e h
      refine k_cv (q := (RX4, TX4, 5)) (As := [.int p1, .int p2]) 2 (cm_X4_tell l hX g σ (o + 13) hL.2.1.2.2.1.2.2 p1 p2 hc5) gX8_canned_X4_tell rfl ⟨rfl, rfl⟩ hd_X4_tell ⟨Nat.le_of_ble_eq_true rfl, Nat.le_of_ble_eq_true rfl⟩ ⟨Nat.le_refl _, Nat.le_refl _⟩ (lay_lt hL.2.1.2.2.1.2.2.1 (by decide)) (ce_of hL.2.1.2.2.1.2.2.1) rfl rfl (Nat.le_of_ble_eq_true rfl) rfl dX8_canned_36 ?_
      exact k_iretR rfl dX8_canned_39 h
    · refine k_bipush (v := (nN 2)) dX8_canned_30 (by decide) ?_
      exact k_iretR rfl dX8_canned_32 h
  · refine k_iconst (v := (nN 1)) dX8_canned_19 (by decide) ?_
    exact k_iretR rfl dX8_canned_20 h
abbrev rmX8_frameAt : Room := { frames := 2, cells := 0, slots := 0, locals := 44 }
abbrev mX8_frameAt : MT := (rmX8_frameAt, wsX8_frameAt, cX8_frameAt, 4, RX8, some .int)
theorem hd_X8_frameAt : yX8_frameAt.cls = RX8 ∧ yX8_frameAt.cls ≠ "java/lang/invoke/MethodHandle" ∧ yX8_frameAt.cls ≠ "java/lang/invoke/VarHandle" ∧ (parseMethodDescriptor yX8_frameAt.desc).map (fun d => d.parameters.length) = some 1 := by decide +kernel
theorem inX8_frameAt_8 : ∀ w ∈ wsX80, w ∈ wsX8_frameAt := fun w h => List.mem_cons_of_mem _ (List.mem_append_left _ (List.mem_append_left _ (List.mem_append_left _ (List.mem_append_right _ h))))
theorem inX8_frameAt_2 : ∀ w ∈ wsX20, w ∈ wsX8_frameAt := fun w h => List.mem_cons_of_mem _ (List.mem_append_left _ (List.mem_append_left _ (List.mem_append_right _ h)))
theorem inX8_frameAt_0 : ∀ w ∈ wsX00, w ∈ wsX8_frameAt := fun w h => List.mem_cons_of_mem _ (List.mem_append_left _ (List.mem_append_right _ h))
theorem inX8_frameAt_4 : ∀ w ∈ wsX40, w ∈ wsX8_frameAt := fun w h => List.mem_cons_of_mem _ (List.mem_append_right _ h)
set_option maxHeartbeats 4000000 in
set_option maxRecDepth 100000 in
theorem cm_X8_frameAt (l : Launch) {X : XT} (hX : XD X) (g : Nat) (σ : Mem) (o : Nat) (hL : L8 o) (p1 : Int32) {r : Int32} (h : fX8_frameAt g σ o p1 = some r) : Met l yX8_frameAt wsX8_frameAt rmX8_frameAt (va_Pc [.ref (xad X o), .int p1] (WW X σ)) (QI X r σ) 0 0 (XA X) := by
  refine met_x (M := mX8_frameAt) (lv := [(0, .ref (xad X o)), (1, .int p1)]) hX (by decide) rfl rfl (Nat.le_of_ble_eq_true rfl) rfl ?_
  unfold fX8_frameAt at h
  refine k_aload_n (q := 0) dX8_frameAt_0 rfl rfl ?_
  refine kg_8 (v := .ref (xad X (o + 1))) hL.1 inX8_frameAt_8 0 (by decide) (List.mem_of_getElem? (i := 1) rfl) rfl dX8_frameAt_1 ?_
  refine kg_2 (v := .ref (xad X (o + 7))) hL.2.1.1 inX8_frameAt_2 1 (by decide) (List.mem_of_getElem? (i := 2) rfl) rfl dX8_frameAt_4 ?_
  refine kg_0 (v := .ref (xad X (o + 8))) hL.2.1.2.2.1.1 inX8_frameAt_0 0 (by decide) (List.mem_of_getElem? (i := 3) rfl) rfl dX8_frameAt_7 ?_
  refine k_astore_n (lv' := [(2, .ref (xad X (o + 8))), (0, .ref (xad X o)), (1, .int p1)]) dX8_frameAt_10 rfl (Nat.le_of_ble_eq_true rfl) rfl ?_
  refine k_iload_n (q := 2) dX8_frameAt_11 rfl rfl ?_
  refine k_if_ge (tgt := 18) dX8_frameAt_12 (by decide) h (fun h => ?_) (fun h => ?_)
  · refine k_aload_n (q := 0) dX8_frameAt_18 rfl rfl ?_
    refine k_iload_n (q := 2) dX8_frameAt_19 rfl rfl ?_
    obtain ⟨r2, hc1, h⟩ := bnd_e h
    refine k_cv (q := (RX4, TX4, 5)) (As := [.int p1]) 1 (cm_X4_pieceAt l hX g σ (o + 8) hL.2.1.2.2.1.2.1 p1 hc1) gX8_frameAt_X4_pieceAt rfl ⟨rfl, rfl⟩ hd_X4_pieceAt ⟨Nat.le_of_ble_eq_true rfl, Nat.le_of_ble_eq_true rfl⟩ ⟨Nat.le_refl _, Nat.le_refl _⟩ (lay_lt hL.2.1.2.2.1.2.1.1 (by decide)) (ce_of hL.2.1.2.2.1.2.1.1) rfl rfl (Nat.le_of_ble_eq_true rfl) rfl dX8_frameAt_20 ?_
    refine k_istore_n (lv' := [(3, .int r2), (2, .ref (xad X (o + 8))), (0, .ref (xad X o)), (1, .int p1)]) dX8_frameAt_23 rfl (Nat.le_of_ble_eq_true rfl) rfl ?_
    refine k_aload_n (q := 1) dX8_frameAt_24 rfl rfl ?_
    refine k_iload_n (q := 0) dX8_frameAt_25 rfl rfl ?_
    obtain ⟨r4, hc3, h⟩ := bnd_e h
    refine k_cv (q := (RX4, TX4, 5)) (As := [.int r2]) 1 (cm_X4_has l hX g σ (o + 8) hL.2.1.2.2.1.2.1 r2 hc3) gX8_frameAt_X4_has rfl ⟨rfl, rfl⟩ hd_X4_has ⟨Nat.le_of_ble_eq_true rfl, Nat.le_of_ble_eq_true rfl⟩ ⟨Nat.le_refl _, Nat.le_refl _⟩ (lay_lt hL.2.1.2.2.1.2.1.1 (by decide)) (ce_of hL.2.1.2.2.1.2.1.1) rfl rfl (Nat.le_of_ble_eq_true rfl) rfl dX8_frameAt_26 ?_
    refine k_if_ne (tgt := 35) dX8_frameAt_29 (by decide) h (fun h => ?_) (fun h => ?_)
    · refine k_aload_n (q := 1) dX8_frameAt_35 rfl rfl ?_
      refine kg_4 (v := .ref (xad X (o + 9))) hL.2.1.2.2.1.2.1.1 inX8_frameAt_4 1 (by decide) (List.mem_of_getElem? (i := 4) rfl) rfl dX8_frameAt_36 ?_
      refine k_iload_n (q := 0) dX8_frameAt_39 rfl rfl ?_
      refine k_iald (n := 20) hL.2.1.2.2.1.2.1.2.1 dX8_frameAt_40 h (fun h => ?_)
      refine k_aload_n (q := 1) dX8_frameAt_41 rfl rfl ?_
      refine kg_4 (v := .ref (xad X (o + 10))) hL.2.1.2.2.1.2.1.1 inX8_frameAt_4 2 (by decide) (List.mem_of_getElem? (i := 5) rfl) rfl dX8_frameAt_42 ?_
      refine k_iload_n (q := 0) dX8_frameAt_45 rfl rfl ?_
      refine k_iald (n := 20) hL.2.1.2.2.1.2.1.2.2.1 dX8_frameAt_46 h (fun h => ?_)
      refine k_iload_n (q := 3) dX8_frameAt_47 rfl rfl ?_
      refine k_iadd dX8_frameAt_48 ?_
      refine k_aload_n (q := 1) dX8_frameAt_49 rfl rfl ?_
      refine k_iload_n (q := 0) dX8_frameAt_50 rfl rfl ?_
      obtain ⟨r6, hc5, h⟩ := bnd_e h
      refine k_cv (q := (RX4, TX4, 5)) (As := [.int r2]) 1 (cm_X4_startOf l hX g σ (o + 8) hL.2.1.2.2.1.2.1 r2 hc5) gX8_frameAt_X4_startOf rfl ⟨rfl, rfl⟩ hd_X4_startOf ⟨Nat.le_of_ble_eq_true rfl, Nat.le_of_ble_eq_true rfl⟩ ⟨Nat.le_refl _, Nat.le_refl _⟩ (lay_lt hL.2.1.2.2.1.2.1.1 (by decide)) (ce_of hL.2.1.2.2.1.2.1.1) rfl rfl (Nat.le_of_ble_eq_true rfl) rfl dX8_frameAt_51 ?_
      refine k_isub dX8_frameAt_54 ?_
      obtain ⟨r8, hc7, h⟩ := bnd_e h
      refine k_cs (As := [.int (σ (o + 9) r2.toNatClampNeg), .int (((σ (o + 10) r2.toNatClampNeg) + p1) - r6)]) 2 (cm_X8_codeOf l hX g σ (σ (o + 9) r2.toNatClampNeg) (((σ (o + 10) r2.toNatClampNeg) + p1) - r6) hc7) gX8_frameAt_X8_codeOf rfl ⟨rfl, rfl⟩ hd_X8_codeOf ⟨Nat.le_of_ble_eq_true rfl, Nat.le_of_ble_eq_true rfl⟩ ⟨Nat.le_refl _, Nat.le_refl _⟩ rfl (Nat.le_of_ble_eq_true rfl) rfl dX8_frameAt_55 ?_
      exact k_iretR rfl dX8_frameAt_58 h
    · refine k_bipush (v := (nN 5)) dX8_frameAt_32 (by decide) ?_
      exact k_iretR rfl dX8_frameAt_34 h
  · refine k_bipush (v := (nN 2)) dX8_frameAt_15 (by decide) ?_
    exact k_iretR rfl dX8_frameAt_17 h
abbrev rmX8_frame : Room := { frames := 2, cells := 0, slots := 0, locals := 46 }
abbrev mX8_frame : MT := (rmX8_frame, wsX8_frame, cX8_frame, 6, RX8, some .int)
theorem hd_X8_frame : yX8_frame.cls = RX8 ∧ yX8_frame.cls ≠ "java/lang/invoke/MethodHandle" ∧ yX8_frame.cls ≠ "java/lang/invoke/VarHandle" ∧ (parseMethodDescriptor yX8_frame.desc).map (fun d => d.parameters.length) = some 3 := by decide +kernel
theorem inX8_frame_8 : ∀ w ∈ wsX80, w ∈ wsX8_frame := fun w h => List.mem_cons_of_mem _ (List.mem_append_left _ (List.mem_append_left _ (List.mem_append_left _ (List.mem_append_left _ (List.mem_append_right _ h)))))
theorem inX8_frame_2 : ∀ w ∈ wsX20, w ∈ wsX8_frame := fun w h => List.mem_cons_of_mem _ (List.mem_append_left _ (List.mem_append_left _ (List.mem_append_left _ (List.mem_append_right _ h))))
theorem inX8_frame_0 : ∀ w ∈ wsX00, w ∈ wsX8_frame := fun w h => List.mem_cons_of_mem _ (List.mem_append_left _ (List.mem_append_left _ (List.mem_append_right _ h)))
theorem inX8_frame_6 : ∀ w ∈ wsX60, w ∈ wsX8_frame := fun w h => List.mem_cons_of_mem _ (List.mem_append_left _ (List.mem_append_right _ h))
theorem inX8_frame_4 : ∀ w ∈ wsX40, w ∈ wsX8_frame := fun w h => List.mem_cons_of_mem _ (List.mem_append_right _ h)
set_option maxHeartbeats 4000000 in
set_option maxRecDepth 100000 in
theorem cm_X8_frame (l : Launch) {X : XT} (hX : XD X) (g : Nat) (σ : Mem) (o : Nat) (hL : L8 o) (p1 : Int32) (p2 : Int32) (p3 : Int32) {r : Int32} (h : fX8_frame g σ o p1 p2 p3 = some r) : Met l yX8_frame wsX8_frame rmX8_frame (va_Pc [.ref (xad X o), .int p1, .int p2, .int p3] (WW X σ)) (QI X r σ) 0 0 (XA X) := by
  refine met_x (M := mX8_frame) (lv := [(0, .ref (xad X o)), (1, .int p1), (2, .int p2), (3, .int p3)]) hX (by decide) rfl rfl (Nat.le_of_ble_eq_true rfl) rfl ?_
  unfold fX8_frame at h
  refine k_aload_n (q := 0) dX8_frame_0 rfl rfl ?_
  refine kg_8 (v := .ref (xad X (o + 1))) hL.1 inX8_frame_8 0 (by decide) (List.mem_of_getElem? (i := 1) rfl) rfl dX8_frame_1 ?_
  refine kg_2 (v := .ref (xad X (o + 2))) hL.2.1.1 inX8_frame_2 0 (by decide) (List.mem_of_getElem? (i := 2) rfl) rfl dX8_frame_4 ?_
  refine k_astore (lv' := [(4, .ref (xad X (o + 2))), (0, .ref (xad X o)), (1, .int p1), (2, .int p2), (3, .int p3)]) dX8_frame_7 (Nat.le_of_ble_eq_true rfl) rfl ?_
  refine k_aload (q := 0) dX8_frame_9 rfl ?_
  refine k_iload_n (q := 2) dX8_frame_11 rfl rfl ?_
  refine k_iload_n (q := 3) dX8_frame_12 rfl rfl ?_
  obtain ⟨r2, hc1, h⟩ := bnd_e h
  refine k_cv (q := (RX6, TX6, 5)) (As := [.int p1, .int p2]) 2 (cm_X6_hasFrame l hX g σ (o + 2) hL.2.1.2.1 p1 p2 hc1) gX8_frame_X6_hasFrame rfl ⟨rfl, rfl⟩ hd_X6_hasFrame ⟨Nat.le_of_ble_eq_true rfl, Nat.le_of_ble_eq_true rfl⟩ ⟨Nat.le_refl _, Nat.le_refl _⟩ (lay_lt hL.2.1.2.1.1 (by decide)) (ce_of hL.2.1.2.1.1) rfl rfl (Nat.le_of_ble_eq_true rfl) rfl dX8_frame_13 ?_
  refine k_if_ne (tgt := 21) dX8_frame_16 (by decide) h (fun h => ?_) (fun h => ?_)
  · refine k_iload_n (q := 4) dX8_frame_21 rfl rfl ?_
    refine k_iconst (v := (nI 0)) dX8_frame_22 (by decide) ?_
    refine k_iconst (v := (nI 3)) dX8_frame_23 (by decide) ?_
    obtain ⟨r4, hc3, h⟩ := bnd_e h
    refine k_cs (As := [.int p3, .int (nI 0), .int (nI 3)]) 3 (cm_X8_isWithin l hX g σ p3 (nI 0) (nI 3) hc3) gX8_frame_X8_isWithin rfl ⟨rfl, rfl⟩ hd_X8_isWithin ⟨Nat.le_of_ble_eq_true rfl, Nat.le_of_ble_eq_true rfl⟩ ⟨Nat.le_refl _, Nat.le_refl _⟩ rfl (Nat.le_of_ble_eq_true rfl) rfl dX8_frame_24 ?_
    refine k_if_ne (tgt := 33) dX8_frame_27 (by decide) h (fun h => ?_) (fun h => ?_)
    · refine k_iload_n (q := 2) dX8_frame_33 rfl rfl ?_
      refine k_iload_n (q := 3) dX8_frame_34 rfl rfl ?_
      obtain ⟨r6, hc5, h⟩ := bnd_e h
      refine k_cs (As := [.int p1, .int p2]) 2 (cm_X8_slotOf l hX g σ p1 p2 hc5) gX8_frame_X8_slotOf rfl ⟨rfl, rfl⟩ hd_X8_slotOf ⟨Nat.le_of_ble_eq_true rfl, Nat.le_of_ble_eq_true rfl⟩ ⟨Nat.le_refl _, Nat.le_refl _⟩ rfl (Nat.le_of_ble_eq_true rfl) rfl dX8_frame_35 ?_
      refine k_istore (lv' := [(5, .int r6), (4, .ref (xad X (o + 2))), (0, .ref (xad X o)), (1, .int p1), (2, .int p2), (3, .int p3)]) dX8_frame_38 (Nat.le_of_ble_eq_true rfl) rfl ?_
      refine k_iload_n (q := 5) dX8_frame_40 rfl rfl ?_
      refine k_if h (fun c0 h => ?_) (fun c0 h => ?_)
      · refine k_tabIn (off := 27) (tgt := 68) dX8_frame_41 (by rw [c0]; decide) (by rw [c0]; decide) (by rw [c0]; rfl) (by decide) ?_
        refine k_aload_n (q := 2) dX8_frame_68 rfl rfl ?_
        refine kg_8 (v := .ref (xad X (o + 1))) hL.1 inX8_frame_8 0 (by decide) (List.mem_of_getElem? (i := 1) rfl) rfl dX8_frame_69 ?_
        refine kg_2 (v := .ref (xad X (o + 7))) hL.2.1.1 inX8_frame_2 1 (by decide) (List.mem_of_getElem? (i := 3) rfl) rfl dX8_frame_72 ?_
        refine kg_0 (v := .ref (xad X (o + 8))) hL.2.1.2.2.1.1 inX8_frame_0 0 (by decide) (List.mem_of_getElem? (i := 4) rfl) rfl dX8_frame_75 ?_
        refine k_iload_n (q := 3) dX8_frame_78 rfl rfl ?_
        refine k_iload_n (q := 4) dX8_frame_79 rfl rfl ?_
        obtain ⟨r8, hc7, h⟩ := bnd_e h
        refine k_cv (q := (RX4, TX4, 5)) (As := [.int p1, .int p2]) 2 (cm_X4_positionOf l hX g σ (o + 8) hL.2.1.2.2.1.2.1 p1 p2 hc7) gX8_frame_X4_positionOf rfl ⟨rfl, rfl⟩ hd_X4_positionOf ⟨Nat.le_of_ble_eq_true rfl, Nat.le_of_ble_eq_true rfl⟩ ⟨Nat.le_refl _, Nat.le_refl _⟩ (lay_lt hL.2.1.2.2.1.2.1.1 (by decide)) (ce_of hL.2.1.2.2.1.2.1.1) rfl rfl (Nat.le_of_ble_eq_true rfl) rfl dX8_frame_80 ?_
        exact k_iretR rfl dX8_frame_83 h
      · refine k_if h (fun c1 h => ?_) (fun c1 h => ?_)
        · refine k_tabIn (off := 43) (tgt := 84) dX8_frame_41 (by rw [c1]; decide) (by rw [c1]; decide) (by rw [c1]; rfl) (by decide) ?_
          refine k_aload (q := 1) dX8_frame_84 rfl ?_
          refine kg_6 (v := .ref (xad X (o + 5))) hL.2.1.2.1.1 inX8_frame_6 3 (by decide) (List.mem_of_getElem? (i := 5) rfl) rfl dX8_frame_86 ?_
          refine k_iload (q := 0) dX8_frame_89 rfl ?_
          refine k_iald (n := 480) hL.2.1.2.1.2.2.2.1 dX8_frame_91 h (fun h => ?_)
          exact k_iretR rfl dX8_frame_92 h
        · refine k_if h (fun c2 h => ?_) (fun c2 h => ?_)
          · refine k_tabIn (off := 52) (tgt := 93) dX8_frame_41 (by rw [c2]; decide) (by rw [c2]; decide) (by rw [c2]; rfl) (by decide) ?_
            refine k_aload (q := 1) dX8_frame_93 rfl ?_
            refine kg_6 (v := .ref (xad X (o + 6))) hL.2.1.2.1.1 inX8_frame_6 4 (by decide) (List.mem_of_getElem? (i := 6) rfl) rfl dX8_frame_95 ?_
            refine k_iload (q := 0) dX8_frame_98 rfl ?_
            refine k_iald (n := 480) hL.2.1.2.1.2.2.2.2 dX8_frame_100 h (fun h => ?_)
            exact k_iretR rfl dX8_frame_101 h
          · refine k_tabOut (tgt := 102) dX8_frame_41 (by have e0 := lv_neT c0 (show Int32.toInt (nI 0) = 0 from rfl); have e1 := lv_neT c1 (show Int32.toInt (nI 1) = 1 from rfl); have e2 := lv_neT c2 (show Int32.toInt (nI 2) = 2 from rfl); omega) (by decide) ?_
            refine k_aload (q := 1) dX8_frame_102 rfl ?_
            refine k_iload (q := 0) dX8_frame_104 rfl ?_
            obtain ⟨r10, hc9, h⟩ := bnd_e h
            refine k_cv (q := (RX6, TX6, 5)) (As := [.int r6]) 1 (cm_X6_goodHoles l hX g σ (o + 2) hL.2.1.2.1 r6 hc9) gX8_frame_X6_goodHoles rfl ⟨rfl, rfl⟩ hd_X6_goodHoles ⟨Nat.le_of_ble_eq_true rfl, Nat.le_of_ble_eq_true rfl⟩ ⟨Nat.le_refl _, Nat.le_refl _⟩ (lay_lt hL.2.1.2.1.1 (by decide)) (ce_of hL.2.1.2.1.1) rfl rfl (Nat.le_of_ble_eq_true rfl) rfl dX8_frame_106 ?_
            refine k_iconst (v := (nI 2)) dX8_frame_109 (by decide) ?_
            have key : WG X l mX8_frame (fun _ _ => True) 0 0 (QM X (QI X r σ)) 118 σ [(5, .int r6), (4, .ref (xad X (o + 2))), (0, .ref (xad X o)), (1, .int p1), (2, .int p2), (3, .int p3)] [.int (if r10 < (nI 2) then (nI 0) else (nI 1))] := by
              exact k_iretR rfl dX8_frame_118 h
            refine k_icmpc_lt (tgt := 117) dX8_frame_110 (by decide) (fun hq => ?_) (fun hq => ?_)
            · rw [if_pos hq] at key
              refine k_iconst (v := (nI 0)) dX8_frame_117 (by decide) ?_
              exact key
            · rw [if_neg hq] at key
              refine k_iconst (v := (nI 1)) dX8_frame_113 (by decide) ?_
              refine k_goto (tgt := 118) dX8_frame_114 (by decide) ?_
              exact key
    · refine k_bipush (v := (nN 2)) dX8_frame_30 (by decide) ?_
      exact k_iretR rfl dX8_frame_32 h
  · refine k_iconst (v := (nN 1)) dX8_frame_19 (by decide) ?_
    exact k_iretR rfl dX8_frame_20 h
abbrev rmX8_show : Room := { frames := 1, cells := 0, slots := 0, locals := 22 }
abbrev mX8_show : MT := (rmX8_show, wsX8_show, cX8_show, 3, RX8, some .int)
theorem hd_X8_show : yX8_show.cls = RX8 ∧ yX8_show.cls ≠ "java/lang/invoke/MethodHandle" ∧ yX8_show.cls ≠ "java/lang/invoke/VarHandle" ∧ (parseMethodDescriptor yX8_show.desc).map (fun d => d.parameters.length) = some 2 := by decide +kernel
theorem inX8_show_8 : ∀ w ∈ wsX80, w ∈ wsX8_show := fun w h => List.mem_cons_of_mem _ (List.mem_append_left _ (List.mem_append_left _ (List.mem_append_right _ h)))
theorem inX8_show_2 : ∀ w ∈ wsX20, w ∈ wsX8_show := fun w h => List.mem_cons_of_mem _ (List.mem_append_left _ (List.mem_append_right _ h))
theorem inX8_show_5 : ∀ w ∈ wsX50, w ∈ wsX8_show := fun w h => List.mem_cons_of_mem _ (List.mem_append_right _ h)
set_option maxHeartbeats 4000000 in
set_option maxRecDepth 100000 in
theorem cm_X8_show (l : Launch) {X : XT} (hX : XD X) (g : Nat) (σ : Mem) (o : Nat) (hL : L8 o) (p1 : Int32) (p2 : Int32) {r : Int32} (h : fX8_show g σ o p1 p2 = some r) : Met l yX8_show wsX8_show rmX8_show (va_Pc [.ref (xad X o), .int p1, .int p2] (WW X σ)) (QI X r σ) 0 0 (XA X) := by
  refine met_x (M := mX8_show) (lv := [(0, .ref (xad X o)), (1, .int p1), (2, .int p2)]) hX (by decide) rfl rfl (Nat.le_of_ble_eq_true rfl) rfl ?_
  unfold fX8_show at h
  refine k_aload_n (q := 0) dX8_show_0 rfl rfl ?_
  refine kg_8 (v := .ref (xad X (o + 1))) hL.1 inX8_show_8 0 (by decide) (List.mem_of_getElem? (i := 1) rfl) rfl dX8_show_1 ?_
  refine k_iload_n (q := 1) dX8_show_4 rfl rfl ?_
  obtain ⟨r2, hc1, h⟩ := bnd_e h
  refine k_cv (q := (RX2, TX2, 8)) (As := [.int p1]) 1 (cm_X2_hasShow l hX g σ (o + 1) hL.2.1 p1 hc1) gX8_show_X2_hasShow rfl ⟨rfl, rfl⟩ hd_X2_hasShow ⟨Nat.le_of_ble_eq_true rfl, Nat.le_of_ble_eq_true rfl⟩ ⟨Nat.le_refl _, Nat.le_refl _⟩ (lay_lt hL.2.1.1 (by decide)) (ce_of hL.2.1.1) rfl rfl (Nat.le_of_ble_eq_true rfl) rfl dX8_show_5 ?_
  refine k_if_ne (tgt := 13) dX8_show_8 (by decide) h (fun h => ?_) (fun h => ?_)
  · refine k_iload_n (q := 2) dX8_show_13 rfl rfl ?_
    refine k_iconst (v := (nI 0)) dX8_show_14 (by decide) ?_
    refine k_bipush (v := (nI 7)) dX8_show_15 (by decide) ?_
    obtain ⟨r4, hc3, h⟩ := bnd_e h
    refine k_cs (As := [.int p2, .int (nI 0), .int (nI 7)]) 3 (cm_X8_isWithin l hX g σ p2 (nI 0) (nI 7) hc3) gX8_show_X8_isWithin rfl ⟨rfl, rfl⟩ hd_X8_isWithin ⟨Nat.le_of_ble_eq_true rfl, Nat.le_of_ble_eq_true rfl⟩ ⟨Nat.le_refl _, Nat.le_refl _⟩ rfl (Nat.le_of_ble_eq_true rfl) rfl dX8_show_17 ?_
    refine k_if_ne (tgt := 26) dX8_show_20 (by decide) h (fun h => ?_) (fun h => ?_)
    · refine k_aload_n (q := 0) dX8_show_26 rfl rfl ?_
      refine kg_8 (v := .ref (xad X (o + 1))) hL.1 inX8_show_8 0 (by decide) (List.mem_of_getElem? (i := 1) rfl) rfl dX8_show_27 ?_
      refine kg_2 (v := .ref (xad X (o + 18))) hL.2.1.1 inX8_show_2 2 (by decide) (List.mem_of_getElem? (i := 2) rfl) rfl dX8_show_30 ?_
      refine k_iload_n (q := 1) dX8_show_33 rfl rfl ?_
      refine k_aaldS (n := 10) hL.2.1.2.2.2.1 dX8_show_34 h (fun q5 j6 hj7 eq5 h => ?_)
      have hL8 : L5 q5 := by rw [eq5]; exact hL.2.1.2.2.2.2.2 j6 hj7
      clear eq5
      refine kg_5 (v := .ref (xad X (q5 + 1))) hL8.1 inX8_show_5 0 (by decide) (List.mem_of_getElem? (i := 3) rfl) rfl dX8_show_35 ?_
      refine k_iload_n (q := 2) dX8_show_38 rfl rfl ?_
      refine k_iald (n := 8) hL8.2.1 dX8_show_39 h (fun h => ?_)
      exact k_iretR rfl dX8_show_40 h
    · refine k_bipush (v := (nN 2)) dX8_show_23 (by decide) ?_
      exact k_iretR rfl dX8_show_25 h
  · refine k_iconst (v := (nN 1)) dX8_show_11 (by decide) ?_
    exact k_iretR rfl dX8_show_12 h
abbrev rmX8_seen : Room := { frames := 1, cells := 0, slots := 0, locals := 21 }
abbrev mX8_seen : MT := (rmX8_seen, wsX8_seen, cX8_seen, 3, RX8, some .int)
theorem hd_X8_seen : yX8_seen.cls = RX8 ∧ yX8_seen.cls ≠ "java/lang/invoke/MethodHandle" ∧ yX8_seen.cls ≠ "java/lang/invoke/VarHandle" ∧ (parseMethodDescriptor yX8_seen.desc).map (fun d => d.parameters.length) = some 2 := by decide +kernel
theorem inX8_seen_8 : ∀ w ∈ wsX80, w ∈ wsX8_seen := fun w h => List.mem_cons_of_mem _ (List.mem_append_left _ (List.mem_append_left _ (List.mem_append_right _ h)))
theorem inX8_seen_2 : ∀ w ∈ wsX20, w ∈ wsX8_seen := fun w h => List.mem_cons_of_mem _ (List.mem_append_left _ (List.mem_append_right _ h))
theorem inX8_seen_5 : ∀ w ∈ wsX50, w ∈ wsX8_seen := fun w h => List.mem_cons_of_mem _ (List.mem_append_right _ h)
set_option maxHeartbeats 4000000 in
set_option maxRecDepth 100000 in
theorem cm_X8_seen (l : Launch) {X : XT} (hX : XD X) (g : Nat) (σ : Mem) (o : Nat) (hL : L8 o) (p1 : Int32) (p2 : Int32) {r : Int32} (h : fX8_seen g σ o p1 p2 = some r) : Met l yX8_seen wsX8_seen rmX8_seen (va_Pc [.ref (xad X o), .int p1, .int p2] (WW X σ)) (QI X r σ) 0 0 (XA X) := by
  refine met_x (M := mX8_seen) (lv := [(0, .ref (xad X o)), (1, .int p1), (2, .int p2)]) hX (by decide) rfl rfl (Nat.le_of_ble_eq_true rfl) rfl ?_
  unfold fX8_seen at h
  refine k_aload_n (q := 0) dX8_seen_0 rfl rfl ?_
  refine kg_8 (v := .ref (xad X (o + 1))) hL.1 inX8_seen_8 0 (by decide) (List.mem_of_getElem? (i := 1) rfl) rfl dX8_seen_1 ?_
  refine k_iload_n (q := 1) dX8_seen_4 rfl rfl ?_
  obtain ⟨r2, hc1, h⟩ := bnd_e h
  refine k_cv (q := (RX2, TX2, 8)) (As := [.int p1]) 1 (cm_X2_hasShow l hX g σ (o + 1) hL.2.1 p1 hc1) gX8_seen_X2_hasShow rfl ⟨rfl, rfl⟩ hd_X2_hasShow ⟨Nat.le_of_ble_eq_true rfl, Nat.le_of_ble_eq_true rfl⟩ ⟨Nat.le_refl _, Nat.le_refl _⟩ (lay_lt hL.2.1.1 (by decide)) (ce_of hL.2.1.1) rfl rfl (Nat.le_of_ble_eq_true rfl) rfl dX8_seen_5 ?_
  refine k_if_ne (tgt := 13) dX8_seen_8 (by decide) h (fun h => ?_) (fun h => ?_)
  · refine k_aload_n (q := 0) dX8_seen_13 rfl rfl ?_
    refine kg_8 (v := .ref (xad X (o + 1))) hL.1 inX8_seen_8 0 (by decide) (List.mem_of_getElem? (i := 1) rfl) rfl dX8_seen_14 ?_
    refine kg_2 (v := .ref (xad X (o + 18))) hL.2.1.1 inX8_seen_2 2 (by decide) (List.mem_of_getElem? (i := 2) rfl) rfl dX8_seen_17 ?_
    refine k_iload_n (q := 1) dX8_seen_20 rfl rfl ?_
    refine k_aaldS (n := 10) hL.2.1.2.2.2.1 dX8_seen_21 h (fun q3 j4 hj5 eq3 h => ?_)
    have hL6 : L5 q3 := by rw [eq3]; exact hL.2.1.2.2.2.2.2 j4 hj5
    clear eq3
    refine k_iload_n (q := 2) dX8_seen_22 rfl rfl ?_
    obtain ⟨r8, hc7, h⟩ := bnd_e h
    refine k_cv (q := (RX5, TX5, 2)) (As := [.int p2]) 1 (cm_X5_hasUnit l hX g σ q3 hL6 p2 hc7) gX8_seen_X5_hasUnit rfl ⟨rfl, rfl⟩ hd_X5_hasUnit ⟨Nat.le_of_ble_eq_true rfl, Nat.le_of_ble_eq_true rfl⟩ ⟨Nat.le_refl _, Nat.le_refl _⟩ (lay_lt hL6.1 (by decide)) (ce_of hL6.1) rfl rfl (Nat.le_of_ble_eq_true rfl) rfl dX8_seen_23 ?_
    refine k_if_ne (tgt := 32) dX8_seen_26 (by decide) h (fun h => ?_) (fun h => ?_)
    · refine k_aload_n (q := 0) dX8_seen_32 rfl rfl ?_
      refine kg_8 (v := .ref (xad X (o + 1))) hL.1 inX8_seen_8 0 (by decide) (List.mem_of_getElem? (i := 1) rfl) rfl dX8_seen_33 ?_
      refine kg_2 (v := .ref (xad X (o + 18))) hL.2.1.1 inX8_seen_2 2 (by decide) (List.mem_of_getElem? (i := 2) rfl) rfl dX8_seen_36 ?_
      refine k_iload_n (q := 1) dX8_seen_39 rfl rfl ?_
      refine k_aaldS (n := 10) hL.2.1.2.2.2.1 dX8_seen_40 h (fun q9 j10 hj11 eq9 h => ?_)
      have hL12 : L5 q9 := by rw [eq9]; exact hL.2.1.2.2.2.2.2 j10 hj11
      clear eq9
      refine kg_5 (v := .ref (xad X (q9 + 2))) hL12.1 inX8_seen_5 1 (by decide) (List.mem_of_getElem? (i := 3) rfl) rfl dX8_seen_41 ?_
      refine k_iload_n (q := 2) dX8_seen_44 rfl rfl ?_
      refine k_iald (n := 480) hL12.2.2 dX8_seen_45 h (fun h => ?_)
      exact k_iretR rfl dX8_seen_46 h
    · refine k_bipush (v := (nN 2)) dX8_seen_29 (by decide) ?_
      exact k_iretR rfl dX8_seen_31 h
  · refine k_iconst (v := (nN 1)) dX8_seen_11 (by decide) ?_
    exact k_iretR rfl dX8_seen_12 h
abbrev rmX8_witness : Room := { frames := 2, cells := 0, slots := 0, locals := 45 }
abbrev mX8_witness : MT := (rmX8_witness, wsX8_witness, cX8_witness, 7, RX8, some .int)
theorem hd_X8_witness : yX8_witness.cls = RX8 ∧ yX8_witness.cls ≠ "java/lang/invoke/MethodHandle" ∧ yX8_witness.cls ≠ "java/lang/invoke/VarHandle" ∧ (parseMethodDescriptor yX8_witness.desc).map (fun d => d.parameters.length) = some 2 := by decide +kernel
theorem inX8_witness_8 : ∀ w ∈ wsX80, w ∈ wsX8_witness := fun w h => List.mem_cons_of_mem _ (List.mem_append_left _ (List.mem_append_left _ (List.mem_append_left _ (List.mem_append_right _ h))))
theorem inX8_witness_2 : ∀ w ∈ wsX20, w ∈ wsX8_witness := fun w h => List.mem_cons_of_mem _ (List.mem_append_left _ (List.mem_append_left _ (List.mem_append_right _ h)))
theorem inX8_witness_7 : ∀ w ∈ wsX70, w ∈ wsX8_witness := fun w h => List.mem_cons_of_mem _ (List.mem_append_left _ (List.mem_append_right _ h))
theorem inX8_witness_5 : ∀ w ∈ wsX50, w ∈ wsX8_witness := fun w h => List.mem_cons_of_mem _ (List.mem_append_right _ h)
set_option maxHeartbeats 4000000 in
set_option maxRecDepth 100000 in
theorem cm_X8_witness (l : Launch) {X : XT} (hX : XD X) (g : Nat) (σ : Mem) (o : Nat) (hL : L8 o) (p1 : Int32) (p2 : Int32) {r : Int32} (h : fX8_witness g σ o p1 p2 = some r) : Met l yX8_witness wsX8_witness rmX8_witness (va_Pc [.ref (xad X o), .int p1, .int p2] (WW X σ)) (QI X r σ) 0 0 (XA X) := by
  refine met_x (M := mX8_witness) (lv := [(0, .ref (xad X o)), (1, .int p1), (2, .int p2)]) hX (by decide) rfl rfl (Nat.le_of_ble_eq_true rfl) rfl ?_
  unfold fX8_witness at h
  refine k_aload_n (q := 0) dX8_witness_0 rfl rfl ?_
  refine kg_8 (v := .ref (xad X (o + 1))) hL.1 inX8_witness_8 0 (by decide) (List.mem_of_getElem? (i := 1) rfl) rfl dX8_witness_1 ?_
  refine kg_2 (v := .ref (xad X (o + 19))) hL.2.1.1 inX8_witness_2 3 (by decide) (List.mem_of_getElem? (i := 2) rfl) rfl dX8_witness_4 ?_
  refine k_astore_n (lv' := [(3, .ref (xad X (o + 19))), (0, .ref (xad X o)), (1, .int p1), (2, .int p2)]) dX8_witness_7 rfl (Nat.le_of_ble_eq_true rfl) rfl ?_
  refine k_aload_n (q := 0) dX8_witness_8 rfl rfl ?_
  refine k_iload_n (q := 2) dX8_witness_9 rfl rfl ?_
  obtain ⟨r2, hc1, h⟩ := bnd_e h
  refine k_cv (q := (RX7, TX7, 4)) (As := [.int p1]) 1 (cm_X7_has l hX g σ (o + 19) hL.2.1.2.2.2.2.1 p1 hc1) gX8_witness_X7_has rfl ⟨rfl, rfl⟩ hd_X7_has ⟨Nat.le_of_ble_eq_true rfl, Nat.le_of_ble_eq_true rfl⟩ ⟨Nat.le_refl _, Nat.le_refl _⟩ (lay_lt hL.2.1.2.2.2.2.1.1 (by decide)) (ce_of hL.2.1.2.2.2.2.1.1) rfl rfl (Nat.le_of_ble_eq_true rfl) rfl dX8_witness_10 ?_
  refine k_if_ne (tgt := 18) dX8_witness_13 (by decide) h (fun h => ?_) (fun h => ?_)
  · refine k_iload_n (q := 3) dX8_witness_18 rfl rfl ?_
    refine k_iconst (v := (nI 0)) dX8_witness_19 (by decide) ?_
    refine k_iconst (v := (nI 5)) dX8_witness_20 (by decide) ?_
    obtain ⟨r4, hc3, h⟩ := bnd_e h
    refine k_cs (As := [.int p2, .int (nI 0), .int (nI 5)]) 3 (cm_X8_isWithin l hX g σ p2 (nI 0) (nI 5) hc3) gX8_witness_X8_isWithin rfl ⟨rfl, rfl⟩ hd_X8_isWithin ⟨Nat.le_of_ble_eq_true rfl, Nat.le_of_ble_eq_true rfl⟩ ⟨Nat.le_refl _, Nat.le_refl _⟩ rfl (Nat.le_of_ble_eq_true rfl) rfl dX8_witness_21 ?_
    refine k_if_ne (tgt := 30) dX8_witness_24 (by decide) h (fun h => ?_) (fun h => ?_)
    · refine k_aload_n (q := 0) dX8_witness_30 rfl rfl ?_
      refine kg_7 (v := .ref (xad X (o + 21))) hL.2.1.2.2.2.2.1.1 inX8_witness_7 2 (by decide) (List.mem_of_getElem? (i := 3) rfl) rfl dX8_witness_31 ?_
      refine k_iload_n (q := 2) dX8_witness_34 rfl rfl ?_
      refine k_iald (n := 8) hL.2.1.2.2.2.2.1.2.2.1 dX8_witness_35 h (fun h => ?_)
      refine k_istore (lv' := [(4, .int (σ (o + 21) p1.toNatClampNeg)), (3, .ref (xad X (o + 19))), (0, .ref (xad X o)), (1, .int p1), (2, .int p2)]) dX8_witness_36 (Nat.le_of_ble_eq_true rfl) rfl ?_
      refine k_aload_n (q := 1) dX8_witness_38 rfl rfl ?_
      refine kg_7 (v := .ref (xad X (o + 22))) hL.2.1.2.2.2.2.1.1 inX8_witness_7 3 (by decide) (List.mem_of_getElem? (i := 4) rfl) rfl dX8_witness_39 ?_
      refine k_iload_n (q := 3) dX8_witness_42 rfl rfl ?_
      refine k_iald (n := 8) hL.2.1.2.2.2.2.1.2.2.2 dX8_witness_43 h (fun h => ?_)
      refine k_istore (lv' := [(5, .int (σ (o + 22) p1.toNatClampNeg)), (4, .int (σ (o + 21) p1.toNatClampNeg)), (3, .ref (xad X (o + 19))), (0, .ref (xad X o)), (1, .int p1), (2, .int p2)]) dX8_witness_44 (Nat.le_of_ble_eq_true rfl) rfl ?_
      refine k_aload_n (q := 3) dX8_witness_46 rfl rfl ?_
      refine kg_8 (v := .ref (xad X (o + 1))) hL.1 inX8_witness_8 0 (by decide) (List.mem_of_getElem? (i := 1) rfl) rfl dX8_witness_47 ?_
      refine kg_2 (v := .ref (xad X (o + 18))) hL.2.1.1 inX8_witness_2 2 (by decide) (List.mem_of_getElem? (i := 5) rfl) rfl dX8_witness_50 ?_
      refine k_aload_n (q := 2) dX8_witness_53 rfl rfl ?_
      refine kg_7 (v := .ref (xad X (o + 20))) hL.2.1.2.2.2.2.1.1 inX8_witness_7 1 (by decide) (List.mem_of_getElem? (i := 6) rfl) rfl dX8_witness_54 ?_
      refine k_iload_n (q := 4) dX8_witness_57 rfl rfl ?_
      refine k_iald (n := 8) hL.2.1.2.2.2.2.1.2.1 dX8_witness_58 h (fun h => ?_)
      refine k_aaldS (n := 10) hL.2.1.2.2.2.1 dX8_witness_59 h (fun q5 j6 hj7 eq5 h => ?_)
      have hL8 : L5 q5 := by rw [eq5]; exact hL.2.1.2.2.2.2.2 j6 hj7
      clear eq5
      refine k_astore (lv' := [(6, .ref (xad X q5)), (5, .int (σ (o + 22) p1.toNatClampNeg)), (4, .int (σ (o + 21) p1.toNatClampNeg)), (3, .ref (xad X (o + 19))), (0, .ref (xad X o)), (1, .int p1), (2, .int p2)]) dX8_witness_60 (Nat.le_of_ble_eq_true rfl) rfl ?_
      refine k_iload_n (q := 6) dX8_witness_62 rfl rfl ?_
      refine k_if h (fun c0 h => ?_) (fun c0 h => ?_)
      · refine k_tabIn (off := 33) (tgt := 96) dX8_witness_63 (by rw [c0]; decide) (by rw [c0]; decide) (by rw [c0]; rfl) (by decide) ?_
        refine k_aload_n (q := 3) dX8_witness_96 rfl rfl ?_
        refine kg_7 (v := .ref (xad X (o + 20))) hL.2.1.2.2.2.2.1.1 inX8_witness_7 1 (by decide) (List.mem_of_getElem? (i := 6) rfl) rfl dX8_witness_97 ?_
        refine k_iload_n (q := 5) dX8_witness_100 rfl rfl ?_
        refine k_iald (n := 8) hL.2.1.2.2.2.2.1.2.1 dX8_witness_101 h (fun h => ?_)
        exact k_iretR rfl dX8_witness_102 h
      · refine k_if h (fun c1 h => ?_) (fun c1 h => ?_)
        · refine k_tabIn (off := 40) (tgt := 103) dX8_witness_63 (by rw [c1]; decide) (by rw [c1]; decide) (by rw [c1]; rfl) (by decide) ?_
          refine k_iload (q := 2) dX8_witness_103 rfl ?_
          exact k_iretR rfl dX8_witness_105 h
        · refine k_if h (fun c2 h => ?_) (fun c2 h => ?_)
          · refine k_tabIn (off := 43) (tgt := 106) dX8_witness_63 (by rw [c2]; decide) (by rw [c2]; decide) (by rw [c2]; rfl) (by decide) ?_
            refine k_iload (q := 1) dX8_witness_106 rfl ?_
            exact k_iretR rfl dX8_witness_108 h
          · refine k_if h (fun c3 h => ?_) (fun c3 h => ?_)
            · refine k_tabIn (off := 46) (tgt := 109) dX8_witness_63 (by rw [c3]; decide) (by rw [c3]; decide) (by rw [c3]; rfl) (by decide) ?_
              refine k_aload (q := 0) dX8_witness_109 rfl ?_
              refine k_iload (q := 2) dX8_witness_111 rfl ?_
              refine k_iload (q := 1) dX8_witness_113 rfl ?_
              obtain ⟨r10, hc9, h⟩ := bnd_e h
              refine k_cv (q := (RX5, TX5, 2)) (As := [.int (σ (o + 21) p1.toNatClampNeg), .int (σ (o + 22) p1.toNatClampNeg)]) 2 (cm_X5_shownWithin l hX g σ q5 hL8 (σ (o + 21) p1.toNatClampNeg) (σ (o + 22) p1.toNatClampNeg) hc9) gX8_witness_X5_shownWithin rfl ⟨rfl, rfl⟩ hd_X5_shownWithin ⟨Nat.le_of_ble_eq_true rfl, Nat.le_of_ble_eq_true rfl⟩ ⟨Nat.le_refl _, Nat.le_refl _⟩ (lay_lt hL8.1 (by decide)) (ce_of hL8.1) rfl rfl (Nat.le_of_ble_eq_true rfl) rfl dX8_witness_115 ?_
              exact k_iretR rfl dX8_witness_118 h
            · refine k_if h (fun c4 h => ?_) (fun c4 h => ?_)
              · refine k_tabIn (off := 56) (tgt := 119) dX8_witness_63 (by rw [c4]; decide) (by rw [c4]; decide) (by rw [c4]; rfl) (by decide) ?_
                refine k_iload (q := 1) dX8_witness_119 rfl ?_
                refine k_iload (q := 2) dX8_witness_121 rfl ?_
                refine k_isub dX8_witness_123 ?_
                refine k_aload (q := 0) dX8_witness_124 rfl ?_
                refine k_iload (q := 2) dX8_witness_126 rfl ?_
                refine k_iload (q := 1) dX8_witness_128 rfl ?_
                obtain ⟨r12, hc11, h⟩ := bnd_e h
                refine k_cv (q := (RX5, TX5, 2)) (As := [.int (σ (o + 21) p1.toNatClampNeg), .int (σ (o + 22) p1.toNatClampNeg)]) 2 (cm_X5_shownWithin l hX g σ q5 hL8 (σ (o + 21) p1.toNatClampNeg) (σ (o + 22) p1.toNatClampNeg) hc11) gX8_witness_X5_shownWithin rfl ⟨rfl, rfl⟩ hd_X5_shownWithin ⟨Nat.le_of_ble_eq_true rfl, Nat.le_of_ble_eq_true rfl⟩ ⟨Nat.le_refl _, Nat.le_refl _⟩ (lay_lt hL8.1 (by decide)) (ce_of hL8.1) rfl rfl (Nat.le_of_ble_eq_true rfl) rfl dX8_witness_130 ?_
                refine k_isub dX8_witness_133 ?_
                exact k_iretR rfl dX8_witness_134 h
              · refine k_tabOut (tgt := 135) dX8_witness_63 (by have e0 := lv_neT c0 (show Int32.toInt (nI 0) = 0 from rfl); have e1 := lv_neT c1 (show Int32.toInt (nI 1) = 1 from rfl); have e2 := lv_neT c2 (show Int32.toInt (nI 2) = 2 from rfl); have e3 := lv_neT c3 (show Int32.toInt (nI 3) = 3 from rfl); have e4 := lv_neT c4 (show Int32.toInt (nI 4) = 4 from rfl); omega) (by decide) ?_
                refine k_aload (q := 0) dX8_witness_135 rfl ?_
                refine k_iload (q := 2) dX8_witness_137 rfl ?_
                refine k_iload (q := 1) dX8_witness_139 rfl ?_
                obtain ⟨r14, hc13, h⟩ := bnd_e h
                refine k_cv (q := (RX5, TX5, 2)) (As := [.int (σ (o + 21) p1.toNatClampNeg), .int (σ (o + 22) p1.toNatClampNeg)]) 2 (cm_X5_scenesWithin l hX g σ q5 hL8 (σ (o + 21) p1.toNatClampNeg) (σ (o + 22) p1.toNatClampNeg) hc13) gX8_witness_X5_scenesWithin rfl ⟨rfl, rfl⟩ hd_X5_scenesWithin ⟨Nat.le_of_ble_eq_true rfl, Nat.le_of_ble_eq_true rfl⟩ ⟨Nat.le_refl _, Nat.le_refl _⟩ (lay_lt hL8.1 (by decide)) (ce_of hL8.1) rfl rfl (Nat.le_of_ble_eq_true rfl) rfl dX8_witness_141 ?_
                exact k_iretR rfl dX8_witness_144 h
    · refine k_bipush (v := (nN 2)) dX8_witness_27 (by decide) ?_
      exact k_iretR rfl dX8_witness_29 h
  · refine k_iconst (v := (nN 1)) dX8_witness_16 (by decide) ?_
    exact k_iretR rfl dX8_witness_17 h
abbrev rmX8_saw : Room := { frames := 2, cells := 0, slots := 0, locals := 46 }
abbrev mX8_saw : MT := (rmX8_saw, wsX8_saw, cX8_saw, 5, RX8, some .int)
theorem hd_X8_saw : yX8_saw.cls = RX8 ∧ yX8_saw.cls ≠ "java/lang/invoke/MethodHandle" ∧ yX8_saw.cls ≠ "java/lang/invoke/VarHandle" ∧ (parseMethodDescriptor yX8_saw.desc).map (fun d => d.parameters.length) = some 2 := by decide +kernel
theorem inX8_saw_8 : ∀ w ∈ wsX80, w ∈ wsX8_saw := fun w h => List.mem_cons_of_mem _ (List.mem_append_left _ (List.mem_append_left _ (List.mem_append_left _ (List.mem_append_left _ (List.mem_append_right _ h)))))
theorem inX8_saw_2 : ∀ w ∈ wsX20, w ∈ wsX8_saw := fun w h => List.mem_cons_of_mem _ (List.mem_append_left _ (List.mem_append_left _ (List.mem_append_left _ (List.mem_append_right _ h))))
theorem inX8_saw_7 : ∀ w ∈ wsX70, w ∈ wsX8_saw := fun w h => List.mem_cons_of_mem _ (List.mem_append_left _ (List.mem_append_left _ (List.mem_append_right _ h)))
theorem inX8_saw_6 : ∀ w ∈ wsX60, w ∈ wsX8_saw := fun w h => List.mem_cons_of_mem _ (List.mem_append_left _ (List.mem_append_right _ h))
theorem inX8_saw_5 : ∀ w ∈ wsX50, w ∈ wsX8_saw := fun w h => List.mem_cons_of_mem _ (List.mem_append_right _ h)
set_option maxHeartbeats 4000000 in
set_option maxRecDepth 100000 in
theorem cm_X8_saw (l : Launch) {X : XT} (hX : XD X) (g : Nat) (σ : Mem) (o : Nat) (hL : L8 o) (p1 : Int32) (p2 : Int32) {r : Int32} (h : fX8_saw g σ o p1 p2 = some r) : Met l yX8_saw wsX8_saw rmX8_saw (va_Pc [.ref (xad X o), .int p1, .int p2] (WW X σ)) (QI X r σ) 0 0 (XA X) := by
  refine met_x (M := mX8_saw) (lv := [(0, .ref (xad X o)), (1, .int p1), (2, .int p2)]) hX (by decide) rfl rfl (Nat.le_of_ble_eq_true rfl) rfl ?_
  unfold fX8_saw at h
  refine k_aload_n (q := 0) dX8_saw_0 rfl rfl ?_
  refine kg_8 (v := .ref (xad X (o + 1))) hL.1 inX8_saw_8 0 (by decide) (List.mem_of_getElem? (i := 1) rfl) rfl dX8_saw_1 ?_
  refine kg_2 (v := .ref (xad X (o + 19))) hL.2.1.1 inX8_saw_2 3 (by decide) (List.mem_of_getElem? (i := 2) rfl) rfl dX8_saw_4 ?_
  refine k_astore_n (lv' := [(3, .ref (xad X (o + 19))), (0, .ref (xad X o)), (1, .int p1), (2, .int p2)]) dX8_saw_7 rfl (Nat.le_of_ble_eq_true rfl) rfl ?_
  refine k_aload_n (q := 0) dX8_saw_8 rfl rfl ?_
  refine k_iload_n (q := 2) dX8_saw_9 rfl rfl ?_
  obtain ⟨r2, hc1, h⟩ := bnd_e h
  refine k_cv (q := (RX7, TX7, 4)) (As := [.int p1]) 1 (cm_X7_has l hX g σ (o + 19) hL.2.1.2.2.2.2.1 p1 hc1) gX8_saw_X7_has rfl ⟨rfl, rfl⟩ hd_X7_has ⟨Nat.le_of_ble_eq_true rfl, Nat.le_of_ble_eq_true rfl⟩ ⟨Nat.le_refl _, Nat.le_refl _⟩ (lay_lt hL.2.1.2.2.2.2.1.1 (by decide)) (ce_of hL.2.1.2.2.2.2.1.1) rfl rfl (Nat.le_of_ble_eq_true rfl) rfl dX8_saw_10 ?_
  refine k_if_eq (tgt := 30) dX8_saw_13 (by decide) h (fun h => ?_) (fun h => ?_)
  · refine k_iconst (v := (nN 1)) dX8_saw_30 (by decide) ?_
    exact k_iretR rfl dX8_saw_31 h
  · refine k_aload_n (q := 1) dX8_saw_16 rfl rfl ?_
    refine kg_8 (v := .ref (xad X (o + 1))) hL.1 inX8_saw_8 0 (by decide) (List.mem_of_getElem? (i := 1) rfl) rfl dX8_saw_17 ?_
    refine kg_2 (v := .ref (xad X (o + 2))) hL.2.1.1 inX8_saw_2 0 (by decide) (List.mem_of_getElem? (i := 3) rfl) rfl dX8_saw_20 ?_
    refine k_iload_n (q := 3) dX8_saw_23 rfl rfl ?_
    obtain ⟨r4, hc3, h⟩ := bnd_e h
    refine k_cv (q := (RX6, TX6, 5)) (As := [.int p2]) 1 (cm_X6_hasScene l hX g σ (o + 2) hL.2.1.2.1 p2 hc3) gX8_saw_X6_hasScene rfl ⟨rfl, rfl⟩ hd_X6_hasScene ⟨Nat.le_of_ble_eq_true rfl, Nat.le_of_ble_eq_true rfl⟩ ⟨Nat.le_refl _, Nat.le_refl _⟩ (lay_lt hL.2.1.2.1.1 (by decide)) (ce_of hL.2.1.2.1.1) rfl rfl (Nat.le_of_ble_eq_true rfl) rfl dX8_saw_24 ?_
    refine k_if_ne (tgt := 32) dX8_saw_27 (by decide) h (fun h => ?_) (fun h => ?_)
    · refine k_aload_n (q := 1) dX8_saw_32 rfl rfl ?_
      refine kg_8 (v := .ref (xad X (o + 1))) hL.1 inX8_saw_8 0 (by decide) (List.mem_of_getElem? (i := 1) rfl) rfl dX8_saw_33 ?_
      refine kg_2 (v := .ref (xad X (o + 18))) hL.2.1.1 inX8_saw_2 2 (by decide) (List.mem_of_getElem? (i := 4) rfl) rfl dX8_saw_36 ?_
      refine k_aload_n (q := 0) dX8_saw_39 rfl rfl ?_
      refine kg_7 (v := .ref (xad X (o + 20))) hL.2.1.2.2.2.2.1.1 inX8_saw_7 1 (by decide) (List.mem_of_getElem? (i := 5) rfl) rfl dX8_saw_40 ?_
      refine k_iload_n (q := 2) dX8_saw_43 rfl rfl ?_
      refine k_iald (n := 8) hL.2.1.2.2.2.2.1.2.1 dX8_saw_44 h (fun h => ?_)
      refine k_aaldS (n := 10) hL.2.1.2.2.2.1 dX8_saw_45 h (fun q5 j6 hj7 eq5 h => ?_)
      have hL8 : L5 q5 := by rw [eq5]; exact hL.2.1.2.2.2.2.2 j6 hj7
      clear eq5
      refine k_astore (lv' := [(4, .ref (xad X q5)), (3, .ref (xad X (o + 19))), (0, .ref (xad X o)), (1, .int p1), (2, .int p2)]) dX8_saw_46 (Nat.le_of_ble_eq_true rfl) rfl ?_
      refine k_aload (q := 0) dX8_saw_48 rfl ?_
      refine k_iload_n (q := 4) dX8_saw_50 rfl rfl ?_
      refine k_aload_n (q := 1) dX8_saw_51 rfl rfl ?_
      refine kg_7 (v := .ref (xad X (o + 21))) hL.2.1.2.2.2.2.1.1 inX8_saw_7 2 (by decide) (List.mem_of_getElem? (i := 6) rfl) rfl dX8_saw_52 ?_
      refine k_iload_n (q := 3) dX8_saw_55 rfl rfl ?_
      refine k_iald (n := 8) hL.2.1.2.2.2.2.1.2.2.1 dX8_saw_56 h (fun h => ?_)
      refine k_aload_n (q := 1) dX8_saw_57 rfl rfl ?_
      refine kg_7 (v := .ref (xad X (o + 22))) hL.2.1.2.2.2.2.1.1 inX8_saw_7 3 (by decide) (List.mem_of_getElem? (i := 7) rfl) rfl dX8_saw_58 ?_
      refine k_iload_n (q := 3) dX8_saw_61 rfl rfl ?_
      refine k_iald (n := 8) hL.2.1.2.2.2.2.1.2.2.2 dX8_saw_62 h (fun h => ?_)
      obtain ⟨r10, hc9, h⟩ := bnd_e h
      refine k_cv (q := (RX5, TX5, 2)) (As := [.int p2, .int (σ (o + 21) p1.toNatClampNeg), .int (σ (o + 22) p1.toNatClampNeg)]) 3 (cm_X5_framesWithin l hX g σ q5 hL8 p2 (σ (o + 21) p1.toNatClampNeg) (σ (o + 22) p1.toNatClampNeg) hc9) gX8_saw_X5_framesWithin rfl ⟨rfl, rfl⟩ hd_X5_framesWithin ⟨Nat.le_of_ble_eq_true rfl, Nat.le_of_ble_eq_true rfl⟩ ⟨Nat.le_refl _, Nat.le_refl _⟩ (lay_lt hL8.1 (by decide)) (ce_of hL8.1) rfl rfl (Nat.le_of_ble_eq_true rfl) rfl dX8_saw_63 ?_
      exact k_iretR rfl dX8_saw_66 h
    · refine k_iconst (v := (nN 1)) dX8_saw_30 (by decide) ?_
      exact k_iretR rfl dX8_saw_31 h
abbrev rmX8_differ : Room := { frames := 2, cells := 0, slots := 0, locals := 45 }
abbrev mX8_differ : MT := (rmX8_differ, wsX8_differ, cX8_differ, 7, RX8, some .int)
theorem hd_X8_differ : yX8_differ.cls = RX8 ∧ yX8_differ.cls ≠ "java/lang/invoke/MethodHandle" ∧ yX8_differ.cls ≠ "java/lang/invoke/VarHandle" ∧ (parseMethodDescriptor yX8_differ.desc).map (fun d => d.parameters.length) = some 2 := by decide +kernel
theorem inX8_differ_8 : ∀ w ∈ wsX80, w ∈ wsX8_differ := fun w h => List.mem_cons_of_mem _ (List.mem_append_left _ (List.mem_append_left _ (List.mem_append_left _ (List.mem_append_right _ h))))
theorem inX8_differ_2 : ∀ w ∈ wsX20, w ∈ wsX8_differ := fun w h => List.mem_cons_of_mem _ (List.mem_append_left _ (List.mem_append_left _ (List.mem_append_right _ h)))
theorem inX8_differ_7 : ∀ w ∈ wsX70, w ∈ wsX8_differ := fun w h => List.mem_cons_of_mem _ (List.mem_append_left _ (List.mem_append_right _ h))
theorem inX8_differ_5 : ∀ w ∈ wsX50, w ∈ wsX8_differ := fun w h => List.mem_cons_of_mem _ (List.mem_append_right _ h)
set_option maxHeartbeats 4000000 in
set_option maxRecDepth 100000 in
theorem cm_X8_differ (l : Launch) {X : XT} (hX : XD X) (g : Nat) (σ : Mem) (o : Nat) (hL : L8 o) (p1 : Int32) (p2 : Int32) {r : Int32} (h : fX8_differ g σ o p1 p2 = some r) : Met l yX8_differ wsX8_differ rmX8_differ (va_Pc [.ref (xad X o), .int p1, .int p2] (WW X σ)) (QI X r σ) 0 0 (XA X) := by
  refine met_x (M := mX8_differ) (lv := [(0, .ref (xad X o)), (1, .int p1), (2, .int p2)]) hX (by decide) rfl rfl (Nat.le_of_ble_eq_true rfl) rfl ?_
  unfold fX8_differ at h
  refine k_aload_n (q := 0) dX8_differ_0 rfl rfl ?_
  refine kg_8 (v := .ref (xad X (o + 1))) hL.1 inX8_differ_8 0 (by decide) (List.mem_of_getElem? (i := 1) rfl) rfl dX8_differ_1 ?_
  refine kg_2 (v := .ref (xad X (o + 19))) hL.2.1.1 inX8_differ_2 3 (by decide) (List.mem_of_getElem? (i := 2) rfl) rfl dX8_differ_4 ?_
  refine k_astore_n (lv' := [(3, .ref (xad X (o + 19))), (0, .ref (xad X o)), (1, .int p1), (2, .int p2)]) dX8_differ_7 rfl (Nat.le_of_ble_eq_true rfl) rfl ?_
  refine k_aload_n (q := 0) dX8_differ_8 rfl rfl ?_
  refine k_iload_n (q := 2) dX8_differ_9 rfl rfl ?_
  obtain ⟨r2, hc1, h⟩ := bnd_e h
  refine k_cv (q := (RX7, TX7, 4)) (As := [.int p1]) 1 (cm_X7_has l hX g σ (o + 19) hL.2.1.2.2.2.2.1 p1 hc1) gX8_differ_X7_has rfl ⟨rfl, rfl⟩ hd_X7_has ⟨Nat.le_of_ble_eq_true rfl, Nat.le_of_ble_eq_true rfl⟩ ⟨Nat.le_refl _, Nat.le_refl _⟩ (lay_lt hL.2.1.2.2.2.2.1.1 (by decide)) (ce_of hL.2.1.2.2.2.2.1.1) rfl rfl (Nat.le_of_ble_eq_true rfl) rfl dX8_differ_10 ?_
  refine k_if_eq (tgt := 24) dX8_differ_13 (by decide) h (fun h => ?_) (fun h => ?_)
  · refine k_iconst (v := (nN 1)) dX8_differ_24 (by decide) ?_
    exact k_iretR rfl dX8_differ_25 h
  · refine k_aload_n (q := 0) dX8_differ_16 rfl rfl ?_
    refine k_iload_n (q := 3) dX8_differ_17 rfl rfl ?_
    obtain ⟨r4, hc3, h⟩ := bnd_e h
    refine k_cv (q := (RX7, TX7, 4)) (As := [.int p2]) 1 (cm_X7_has l hX g σ (o + 19) hL.2.1.2.2.2.2.1 p2 hc3) gX8_differ_X7_has rfl ⟨rfl, rfl⟩ hd_X7_has ⟨Nat.le_of_ble_eq_true rfl, Nat.le_of_ble_eq_true rfl⟩ ⟨Nat.le_refl _, Nat.le_refl _⟩ (lay_lt hL.2.1.2.2.2.2.1.1 (by decide)) (ce_of hL.2.1.2.2.2.2.1.1) rfl rfl (Nat.le_of_ble_eq_true rfl) rfl dX8_differ_18 ?_
    refine k_if_ne (tgt := 26) dX8_differ_21 (by decide) h (fun h => ?_) (fun h => ?_)
    · refine k_aload_n (q := 0) dX8_differ_26 rfl rfl ?_
      refine kg_7 (v := .ref (xad X (o + 20))) hL.2.1.2.2.2.2.1.1 inX8_differ_7 1 (by decide) (List.mem_of_getElem? (i := 3) rfl) rfl dX8_differ_27 ?_
      refine k_iload_n (q := 2) dX8_differ_30 rfl rfl ?_
      refine k_iald (n := 8) hL.2.1.2.2.2.2.1.2.1 dX8_differ_31 h (fun h => ?_)
      refine k_aload_n (q := 0) dX8_differ_32 rfl rfl ?_
      refine kg_7 (v := .ref (xad X (o + 20))) hL.2.1.2.2.2.2.1.1 inX8_differ_7 1 (by decide) (List.mem_of_getElem? (i := 3) rfl) rfl dX8_differ_33 ?_
      refine k_iload_n (q := 3) dX8_differ_36 rfl rfl ?_
      refine k_iald (n := 8) hL.2.1.2.2.2.2.1.2.1 dX8_differ_37 h (fun h => ?_)
      refine k_icmp_eq (tgt := 44) dX8_differ_38 (by decide) h (fun h => ?_) (fun h => ?_)
      · refine k_aload_n (q := 1) dX8_differ_44 rfl rfl ?_
        refine kg_8 (v := .ref (xad X (o + 1))) hL.1 inX8_differ_8 0 (by decide) (List.mem_of_getElem? (i := 1) rfl) rfl dX8_differ_45 ?_
        refine kg_2 (v := .ref (xad X (o + 18))) hL.2.1.1 inX8_differ_2 2 (by decide) (List.mem_of_getElem? (i := 4) rfl) rfl dX8_differ_48 ?_
        refine k_aload_n (q := 0) dX8_differ_51 rfl rfl ?_
        refine kg_7 (v := .ref (xad X (o + 20))) hL.2.1.2.2.2.2.1.1 inX8_differ_7 1 (by decide) (List.mem_of_getElem? (i := 3) rfl) rfl dX8_differ_52 ?_
        refine k_iload_n (q := 2) dX8_differ_55 rfl rfl ?_
        refine k_iald (n := 8) hL.2.1.2.2.2.2.1.2.1 dX8_differ_56 h (fun h => ?_)
        refine k_aaldS (n := 10) hL.2.1.2.2.2.1 dX8_differ_57 h (fun q5 j6 hj7 eq5 h => ?_)
        have hL8 : L5 q5 := by rw [eq5]; exact hL.2.1.2.2.2.2.2 j6 hj7
        clear eq5
        refine k_astore (lv' := [(4, .ref (xad X q5)), (3, .ref (xad X (o + 19))), (0, .ref (xad X o)), (1, .int p1), (2, .int p2)]) dX8_differ_58 (Nat.le_of_ble_eq_true rfl) rfl ?_
        refine k_aload (q := 0) dX8_differ_60 rfl ?_
        refine k_aload_n (q := 1) dX8_differ_62 rfl rfl ?_
        refine kg_7 (v := .ref (xad X (o + 21))) hL.2.1.2.2.2.2.1.1 inX8_differ_7 2 (by decide) (List.mem_of_getElem? (i := 5) rfl) rfl dX8_differ_63 ?_
        refine k_iload_n (q := 3) dX8_differ_66 rfl rfl ?_
        refine k_iald (n := 8) hL.2.1.2.2.2.2.1.2.2.1 dX8_differ_67 h (fun h => ?_)
        refine k_aload_n (q := 1) dX8_differ_68 rfl rfl ?_
        refine kg_7 (v := .ref (xad X (o + 22))) hL.2.1.2.2.2.2.1.1 inX8_differ_7 3 (by decide) (List.mem_of_getElem? (i := 6) rfl) rfl dX8_differ_69 ?_
        refine k_iload_n (q := 3) dX8_differ_72 rfl rfl ?_
        refine k_iald (n := 8) hL.2.1.2.2.2.2.1.2.2.2 dX8_differ_73 h (fun h => ?_)
        obtain ⟨r10, hc9, h⟩ := bnd_e h
        refine k_cv (q := (RX5, TX5, 2)) (As := [.int (σ (o + 21) p1.toNatClampNeg), .int (σ (o + 22) p1.toNatClampNeg)]) 2 (cm_X5_scenesWithin l hX g σ q5 hL8 (σ (o + 21) p1.toNatClampNeg) (σ (o + 22) p1.toNatClampNeg) hc9) gX8_differ_X5_scenesWithin rfl ⟨rfl, rfl⟩ hd_X5_scenesWithin ⟨Nat.le_of_ble_eq_true rfl, Nat.le_of_ble_eq_true rfl⟩ ⟨Nat.le_refl _, Nat.le_refl _⟩ (lay_lt hL8.1 (by decide)) (ce_of hL8.1) rfl rfl (Nat.le_of_ble_eq_true rfl) rfl dX8_differ_74 ?_
        refine k_istore (lv' := [(5, .int r10), (4, .ref (xad X q5)), (3, .ref (xad X (o + 19))), (0, .ref (xad X o)), (1, .int p1), (2, .int p2)]) dX8_differ_77 (Nat.le_of_ble_eq_true rfl) rfl ?_
        refine k_aload (q := 1) dX8_differ_79 rfl ?_
        refine k_aload_n (q := 2) dX8_differ_81 rfl rfl ?_
        refine kg_7 (v := .ref (xad X (o + 21))) hL.2.1.2.2.2.2.1.1 inX8_differ_7 2 (by decide) (List.mem_of_getElem? (i := 5) rfl) rfl dX8_differ_82 ?_
        refine k_iload_n (q := 5) dX8_differ_85 rfl rfl ?_
        refine k_iald (n := 8) hL.2.1.2.2.2.2.1.2.2.1 dX8_differ_86 h (fun h => ?_)
        refine k_aload_n (q := 2) dX8_differ_87 rfl rfl ?_
        refine kg_7 (v := .ref (xad X (o + 22))) hL.2.1.2.2.2.2.1.1 inX8_differ_7 3 (by decide) (List.mem_of_getElem? (i := 6) rfl) rfl dX8_differ_88 ?_
        refine k_iload_n (q := 5) dX8_differ_91 rfl rfl ?_
        refine k_iald (n := 8) hL.2.1.2.2.2.2.1.2.2.2 dX8_differ_92 h (fun h => ?_)
        obtain ⟨r12, hc11, h⟩ := bnd_e h
        refine k_cv (q := (RX5, TX5, 2)) (As := [.int (σ (o + 21) p2.toNatClampNeg), .int (σ (o + 22) p2.toNatClampNeg)]) 2 (cm_X5_scenesWithin l hX g σ q5 hL8 (σ (o + 21) p2.toNatClampNeg) (σ (o + 22) p2.toNatClampNeg) hc11) gX8_differ_X5_scenesWithin rfl ⟨rfl, rfl⟩ hd_X5_scenesWithin ⟨Nat.le_of_ble_eq_true rfl, Nat.le_of_ble_eq_true rfl⟩ ⟨Nat.le_refl _, Nat.le_refl _⟩ (lay_lt hL8.1 (by decide)) (ce_of hL8.1) rfl rfl (Nat.le_of_ble_eq_true rfl) rfl dX8_differ_93 ?_
        refine k_istore (lv' := [(6, .int r12), (5, .int r10), (4, .ref (xad X q5)), (3, .ref (xad X (o + 19))), (0, .ref (xad X o)), (1, .int p1), (2, .int p2)]) dX8_differ_96 (Nat.le_of_ble_eq_true rfl) rfl ?_
        refine k_iload (q := 1) dX8_differ_98 rfl ?_
        refine k_iload (q := 0) dX8_differ_100 rfl ?_
        refine k_ixor dX8_differ_102 ?_
        obtain ⟨r14, hc13, h⟩ := bnd_e h
        refine k_cs (As := [.int (r10 ^^^ r12)]) 1 (cm_J6_bitCount_0f7a4 l hX g σ (r10 ^^^ r12) hc13) gX8_differ_J6_bitCount_0f7a4 rfl ⟨rfl, rfl⟩ hd_J6_bitCount_0f7a4 ⟨Nat.le_of_ble_eq_true rfl, Nat.le_of_ble_eq_true rfl⟩ ⟨Nat.le_refl _, Nat.le_refl _⟩ rfl (Nat.le_of_ble_eq_true rfl) rfl dX8_differ_103 ?_
        exact k_iretR rfl dX8_differ_106 h
      · refine k_bipush (v := (nN 4)) dX8_differ_41 (by decide) ?_
        exact k_iretR rfl dX8_differ_43 h
    · refine k_iconst (v := (nN 1)) dX8_differ_24 (by decide) ?_
      exact k_iretR rfl dX8_differ_25 h
abbrev rmX8_next : Room := { frames := 4, cells := 0, slots := 0, locals := 91 }
abbrev mX8_next : MT := (rmX8_next, wsX8_next, cX8_next, 2, RX8, some .int)
theorem hd_X8_next : yX8_next.cls = RX8 ∧ yX8_next.cls ≠ "java/lang/invoke/MethodHandle" ∧ yX8_next.cls ≠ "java/lang/invoke/VarHandle" ∧ (parseMethodDescriptor yX8_next.desc).map (fun d => d.parameters.length) = some 1 := by decide +kernel
theorem inX8_next_8 : ∀ w ∈ wsX80, w ∈ wsX8_next := fun w h => List.mem_cons_of_mem _ (List.mem_append_left _ (List.mem_append_left _ (List.mem_append_left _ (List.mem_append_left _ (List.mem_append_left _ (List.mem_append_right _ h))))))
theorem inX8_next_2 : ∀ w ∈ wsX20, w ∈ wsX8_next := fun w h => List.mem_cons_of_mem _ (List.mem_append_left _ (List.mem_append_left _ (List.mem_append_left _ (List.mem_append_left _ (List.mem_append_right _ h)))))
theorem inX8_next_0 : ∀ w ∈ wsX00, w ∈ wsX8_next := fun w h => List.mem_cons_of_mem _ (List.mem_append_left _ (List.mem_append_left _ (List.mem_append_left _ (List.mem_append_right _ h))))
theorem inX8_next_4 : ∀ w ∈ wsX40, w ∈ wsX8_next := fun w h => List.mem_cons_of_mem _ (List.mem_append_left _ (List.mem_append_left _ (List.mem_append_right _ h)))
theorem inX8_next_5 : ∀ w ∈ wsX50, w ∈ wsX8_next := fun w h => List.mem_cons_of_mem _ (List.mem_append_left _ (List.mem_append_right _ h))
theorem inX8_next_6 : ∀ w ∈ wsX60, w ∈ wsX8_next := fun w h => List.mem_cons_of_mem _ (List.mem_append_right _ h)
set_option maxHeartbeats 4000000 in
set_option maxRecDepth 100000 in
theorem cm_X8_next (l : Launch) {X : XT} (hX : XD X) (g : Nat) (σ : Mem) (o : Nat) (hL : L8 o) (p1 : Int32) {r : Int32} {σ' : Mem} (h : fX8_next g σ o p1 = some (r, σ')) : Met l yX8_next wsX8_next rmX8_next (va_Pc [.ref (xad X o), .int p1] (WW X σ)) (QI X r σ') 0 0 (XA X) := by
  refine met_x (M := mX8_next) (lv := [(0, .ref (xad X o)), (1, .int p1)]) hX (by decide) rfl rfl (Nat.le_of_ble_eq_true rfl) rfl ?_
  unfold fX8_next at h
  refine k_iload_n (q := 1) dX8_next_0 rfl rfl ?_
  refine k_iconst (v := (nI 0)) dX8_next_1 (by decide) ?_
  refine k_bipush (v := (nI 7)) dX8_next_2 (by decide) ?_
  obtain ⟨r2, hc1, h⟩ := bnd_e h
  refine k_cs (As := [.int p1, .int (nI 0), .int (nI 7)]) 3 (cm_X8_isWithin l hX g σ p1 (nI 0) (nI 7) hc1) gX8_next_X8_isWithin rfl ⟨rfl, rfl⟩ hd_X8_isWithin ⟨Nat.le_of_ble_eq_true rfl, Nat.le_of_ble_eq_true rfl⟩ ⟨Nat.le_refl _, Nat.le_refl _⟩ rfl (Nat.le_of_ble_eq_true rfl) rfl dX8_next_4 ?_
  refine k_if_ne (tgt := 13) dX8_next_7 (by decide) h (fun h => ?_) (fun h => ?_)
  · refine k_aload_n (q := 0) dX8_next_13 rfl rfl ?_
    refine kg_8 (v := .ref (xad X (o + 1))) hL.1 inX8_next_8 0 (by decide) (List.mem_of_getElem? (i := 1) rfl) rfl dX8_next_14 ?_
    refine kg_2 (v := .ref (xad X (o + 7))) hL.2.1.1 inX8_next_2 1 (by decide) (List.mem_of_getElem? (i := 2) rfl) rfl dX8_next_17 ?_
    refine kg_0 (v := .ref (xad X (o + 8))) hL.2.1.2.2.1.1 inX8_next_0 0 (by decide) (List.mem_of_getElem? (i := 3) rfl) rfl dX8_next_20 ?_
    refine kg_4 (v := .int (σ (o + 8) 0)) hL.2.1.2.2.1.2.1.1 inX8_next_4 0 (by decide) (List.mem_of_getElem? (i := 4) rfl) rfl dX8_next_23 ?_
    refine k_if_ne (tgt := 32) dX8_next_26 (by decide) h (fun h => ?_) (fun h => ?_)
    · refine k_aload_n (q := 0) dX8_next_32 rfl rfl ?_
      refine kg_8 (v := .ref (xad X (o + 1))) hL.1 inX8_next_8 0 (by decide) (List.mem_of_getElem? (i := 1) rfl) rfl dX8_next_33 ?_
      refine k_aload_n (q := 0) dX8_next_36 rfl rfl ?_
      refine kg_8 (v := .ref (xad X (o + 331))) hL.1 inX8_next_8 5 (by decide) (List.mem_of_getElem? (i := 5) rfl) rfl dX8_next_37 ?_
      obtain ⟨σ4, hc3, h⟩ := bnd_e h
      refine k_cvv (q := (RX2, TX2, 8)) (As := [.ref (xad X (o + 331))]) 1 (cm_X2_project l hX g σ (o + 1) hL.2.1 (o + 331) hL.2.2.2.2.2.2 hc3) gX8_next_X2_project rfl ⟨rfl, rfl⟩ hd_X2_project ⟨Nat.le_of_ble_eq_true rfl, Nat.le_of_ble_eq_true rfl⟩ ⟨Nat.le_refl _, Nat.le_refl _⟩ (lay_lt hL.2.1.1 (by decide)) (ce_of hL.2.1.1) rfl rfl (Nat.le_of_ble_eq_true rfl) rfl dX8_next_40 ?_
      refine k_aload_n (q := 0) dX8_next_43 rfl rfl ?_
      refine kg_8 (v := .ref (xad X (o + 331))) hL.1 inX8_next_8 5 (by decide) (List.mem_of_getElem? (i := 5) rfl) rfl dX8_next_44 ?_
      refine kg_5 (v := .ref (xad X (o + 332))) hL.2.2.2.2.2.2.1 inX8_next_5 0 (by decide) (List.mem_of_getElem? (i := 6) rfl) rfl dX8_next_47 ?_
      refine k_iload_n (q := 1) dX8_next_50 rfl rfl ?_
      refine k_iald (n := 8) hL.2.2.2.2.2.2.2.1 dX8_next_51 h (fun h => ?_)
      exact k_iret rfl dX8_next_52 h
    · refine k_bipush (v := (nN 4)) dX8_next_29 (by decide) ?_
      exact k_iret rfl dX8_next_31 h
  · refine k_bipush (v := (nN 2)) dX8_next_10 (by decide) ?_
    exact k_iret rfl dX8_next_12 h
abbrev rmX8_count : Room := { frames := 3, cells := 0, slots := 0, locals := 66 }
abbrev mX8_count : MT := (rmX8_count, wsX8_count, cX8_count, 3, RX8, some .int)
theorem hd_X8_count : yX8_count.cls = RX8 ∧ yX8_count.cls ≠ "java/lang/invoke/MethodHandle" ∧ yX8_count.cls ≠ "java/lang/invoke/VarHandle" ∧ (parseMethodDescriptor yX8_count.desc).map (fun d => d.parameters.length) = some 1 := by decide +kernel
theorem inX8_count_8 : ∀ w ∈ wsX80, w ∈ wsX8_count := fun w h => List.mem_cons_of_mem _ (List.mem_append_left _ (List.mem_append_left _ (List.mem_append_left _ (List.mem_append_left _ (List.mem_append_left _ (List.mem_append_left _ (List.mem_append_left _ (List.mem_append_right _ h))))))))
theorem inX8_count_2 : ∀ w ∈ wsX20, w ∈ wsX8_count := fun w h => List.mem_cons_of_mem _ (List.mem_append_left _ (List.mem_append_left _ (List.mem_append_left _ (List.mem_append_left _ (List.mem_append_left _ (List.mem_append_left _ (List.mem_append_right _ h)))))))
theorem inX8_count_6 : ∀ w ∈ wsX60, w ∈ wsX8_count := fun w h => List.mem_cons_of_mem _ (List.mem_append_left _ (List.mem_append_left _ (List.mem_append_left _ (List.mem_append_left _ (List.mem_append_left _ (List.mem_append_right _ h))))))
theorem inX8_count_0 : ∀ w ∈ wsX00, w ∈ wsX8_count := fun w h => List.mem_cons_of_mem _ (List.mem_append_left _ (List.mem_append_left _ (List.mem_append_left _ (List.mem_append_left _ (List.mem_append_right _ h)))))
theorem inX8_count_4 : ∀ w ∈ wsX40, w ∈ wsX8_count := fun w h => List.mem_cons_of_mem _ (List.mem_append_left _ (List.mem_append_left _ (List.mem_append_left _ (List.mem_append_right _ h))))
theorem inX8_count_7 : ∀ w ∈ wsX70, w ∈ wsX8_count := fun w h => List.mem_cons_of_mem _ (List.mem_append_left _ (List.mem_append_left _ (List.mem_append_right _ h)))
theorem inX8_count_3 : ∀ w ∈ wsX30, w ∈ wsX8_count := fun w h => List.mem_cons_of_mem _ (List.mem_append_left _ (List.mem_append_right _ h))
theorem inX8_count_1 : ∀ w ∈ wsX10, w ∈ wsX8_count := fun w h => List.mem_cons_of_mem _ (List.mem_append_right _ h)
set_option maxHeartbeats 4000000 in
set_option maxRecDepth 100000 in
theorem cm_X8_count (l : Launch) {X : XT} (hX : XD X) (g : Nat) (σ : Mem) (o : Nat) (hL : L8 o) (p1 : Int32) {r : Int32} (h : fX8_count g σ o p1 = some r) : Met l yX8_count wsX8_count rmX8_count (va_Pc [.ref (xad X o), .int p1] (WW X σ)) (QI X r σ) 0 0 (XA X) := by
  refine met_x (M := mX8_count) (lv := [(0, .ref (xad X o)), (1, .int p1)]) hX (by decide) rfl rfl (Nat.le_of_ble_eq_true rfl) rfl ?_
  unfold fX8_count at h
  refine k_aload_n (q := 0) dX8_count_0 rfl rfl ?_
  refine kg_8 (v := .ref (xad X (o + 1))) hL.1 inX8_count_8 0 (by decide) (List.mem_of_getElem? (i := 1) rfl) rfl dX8_count_1 ?_
  refine kg_2 (v := .ref (xad X (o + 7))) hL.2.1.1 inX8_count_2 1 (by decide) (List.mem_of_getElem? (i := 2) rfl) rfl dX8_count_4 ?_
  refine k_astore_n (lv' := [(2, .ref (xad X (o + 7))), (0, .ref (xad X o)), (1, .int p1)]) dX8_count_7 rfl (Nat.le_of_ble_eq_true rfl) rfl ?_
  refine k_iload_n (q := 2) dX8_count_8 rfl rfl ?_
  refine k_if h (fun c0 h => ?_) (fun c0 h => ?_)
  · refine k_tabIn (off := 71) (tgt := 80) dX8_count_9 (by rw [c0]; decide) (by rw [c0]; decide) (by rw [c0]; rfl) (by decide) ?_
    refine k_aload_n (q := 1) dX8_count_80 rfl rfl ?_
    refine kg_8 (v := .ref (xad X (o + 1))) hL.1 inX8_count_8 0 (by decide) (List.mem_of_getElem? (i := 1) rfl) rfl dX8_count_81 ?_
    refine kg_2 (v := .ref (xad X (o + 2))) hL.2.1.1 inX8_count_2 0 (by decide) (List.mem_of_getElem? (i := 3) rfl) rfl dX8_count_84 ?_
    refine kg_6 (v := .int (σ (o + 2) 0)) hL.2.1.2.1.1 inX8_count_6 0 (by decide) (List.mem_of_getElem? (i := 4) rfl) rfl dX8_count_87 ?_
    exact k_iretR rfl dX8_count_90 h
  · refine k_if h (fun c1 h => ?_) (fun c1 h => ?_)
    · refine k_tabIn (off := 82) (tgt := 91) dX8_count_9 (by rw [c1]; decide) (by rw [c1]; decide) (by rw [c1]; rfl) (by decide) ?_
      refine k_aload_n (q := 0) dX8_count_91 rfl rfl ?_
      refine kg_0 (v := .ref (xad X (o + 8))) hL.2.1.2.2.1.1 inX8_count_0 0 (by decide) (List.mem_of_getElem? (i := 5) rfl) rfl dX8_count_92 ?_
      refine kg_4 (v := .int (σ (o + 8) 0)) hL.2.1.2.2.1.2.1.1 inX8_count_4 0 (by decide) (List.mem_of_getElem? (i := 6) rfl) rfl dX8_count_95 ?_
      exact k_iretR rfl dX8_count_98 h
    · refine k_if h (fun c2 h => ?_) (fun c2 h => ?_)
      · refine k_tabIn (off := 90) (tgt := 99) dX8_count_9 (by rw [c2]; decide) (by rw [c2]; decide) (by rw [c2]; rfl) (by decide) ?_
        refine k_aload_n (q := 0) dX8_count_99 rfl rfl ?_
        refine kg_0 (v := .ref (xad X (o + 13))) hL.2.1.2.2.1.1 inX8_count_0 1 (by decide) (List.mem_of_getElem? (i := 7) rfl) rfl dX8_count_100 ?_
        refine kg_4 (v := .int (σ (o + 13) 0)) hL.2.1.2.2.1.2.2.1 inX8_count_4 0 (by decide) (List.mem_of_getElem? (i := 6) rfl) rfl dX8_count_103 ?_
        exact k_iretR rfl dX8_count_106 h
      · refine k_if h (fun c3 h => ?_) (fun c3 h => ?_)
        · refine k_tabIn (off := 98) (tgt := 107) dX8_count_9 (by rw [c3]; decide) (by rw [c3]; decide) (by rw [c3]; rfl) (by decide) ?_
          refine k_aload_n (q := 0) dX8_count_107 rfl rfl ?_
          refine kg_0 (v := .ref (xad X (o + 8))) hL.2.1.2.2.1.1 inX8_count_0 0 (by decide) (List.mem_of_getElem? (i := 5) rfl) rfl dX8_count_108 ?_
          obtain ⟨r2, hc1, h⟩ := bnd_e h
          refine k_cv (q := (RX4, TX4, 5)) (As := []) 0 (cm_X4_allFrames l hX g σ (o + 8) hL.2.1.2.2.1.2.1 hc1) gX8_count_X4_allFrames rfl ⟨rfl, rfl⟩ hd_X4_allFrames ⟨Nat.le_of_ble_eq_true rfl, Nat.le_of_ble_eq_true rfl⟩ ⟨Nat.le_refl _, Nat.le_refl _⟩ (lay_lt hL.2.1.2.2.1.2.1.1 (by decide)) (ce_of hL.2.1.2.2.1.2.1.1) rfl rfl (Nat.le_of_ble_eq_true rfl) rfl dX8_count_111 ?_
          exact k_iretR rfl dX8_count_114 h
        · refine k_if h (fun c4 h => ?_) (fun c4 h => ?_)
          · refine k_tabIn (off := 106) (tgt := 115) dX8_count_9 (by rw [c4]; decide) (by rw [c4]; decide) (by rw [c4]; rfl) (by decide) ?_
            refine k_aload_n (q := 0) dX8_count_115 rfl rfl ?_
            refine kg_0 (v := .ref (xad X (o + 13))) hL.2.1.2.2.1.1 inX8_count_0 1 (by decide) (List.mem_of_getElem? (i := 7) rfl) rfl dX8_count_116 ?_
            obtain ⟨r4, hc3, h⟩ := bnd_e h
            refine k_cv (q := (RX4, TX4, 5)) (As := []) 0 (cm_X4_allFrames l hX g σ (o + 13) hL.2.1.2.2.1.2.2 hc3) gX8_count_X4_allFrames rfl ⟨rfl, rfl⟩ hd_X4_allFrames ⟨Nat.le_of_ble_eq_true rfl, Nat.le_of_ble_eq_true rfl⟩ ⟨Nat.le_refl _, Nat.le_refl _⟩ (lay_lt hL.2.1.2.2.1.2.2.1 (by decide)) (ce_of hL.2.1.2.2.1.2.2.1) rfl rfl (Nat.le_of_ble_eq_true rfl) rfl dX8_count_119 ?_
            exact k_iretR rfl dX8_count_122 h
          · refine k_if h (fun c5 h => ?_) (fun c5 h => ?_)
            · refine k_tabIn (off := 114) (tgt := 123) dX8_count_9 (by rw [c5]; decide) (by rw [c5]; decide) (by rw [c5]; rfl) (by decide) ?_
              refine k_aload_n (q := 1) dX8_count_123 rfl rfl ?_
              refine kg_8 (v := .ref (xad X (o + 1))) hL.1 inX8_count_8 0 (by decide) (List.mem_of_getElem? (i := 1) rfl) rfl dX8_count_124 ?_
              refine kg_2 (v := .int (σ (o + 1) 4)) hL.2.1.1 inX8_count_2 4 (by decide) (List.mem_of_getElem? (i := 8) rfl) rfl dX8_count_127 ?_
              exact k_iretR rfl dX8_count_130 h
            · refine k_if h (fun c6 h => ?_) (fun c6 h => ?_)
              · refine k_tabIn (off := 122) (tgt := 131) dX8_count_9 (by rw [c6]; decide) (by rw [c6]; decide) (by rw [c6]; rfl) (by decide) ?_
                refine k_aload_n (q := 1) dX8_count_131 rfl rfl ?_
                refine kg_8 (v := .ref (xad X (o + 1))) hL.1 inX8_count_8 0 (by decide) (List.mem_of_getElem? (i := 1) rfl) rfl dX8_count_132 ?_
                refine kg_2 (v := .ref (xad X (o + 19))) hL.2.1.1 inX8_count_2 3 (by decide) (List.mem_of_getElem? (i := 9) rfl) rfl dX8_count_135 ?_
                refine kg_7 (v := .int (σ (o + 19) 0)) hL.2.1.2.2.2.2.1.1 inX8_count_7 0 (by decide) (List.mem_of_getElem? (i := 10) rfl) rfl dX8_count_138 ?_
                exact k_iretR rfl dX8_count_141 h
              · refine k_if h (fun c7 h => ?_) (fun c7 h => ?_)
                · refine k_tabIn (off := 133) (tgt := 142) dX8_count_9 (by rw [c7]; decide) (by rw [c7]; decide) (by rw [c7]; rfl) (by decide) ?_
                  refine k_aload_n (q := 1) dX8_count_142 rfl rfl ?_
                  refine kg_8 (v := .ref (xad X (o + 1))) hL.1 inX8_count_8 0 (by decide) (List.mem_of_getElem? (i := 1) rfl) rfl dX8_count_143 ?_
                  refine kg_2 (v := .int (σ (o + 1) 5)) hL.2.1.1 inX8_count_2 5 (by decide) (List.mem_of_getElem? (i := 11) rfl) rfl dX8_count_146 ?_
                  exact k_iretR rfl dX8_count_149 h
                · refine k_if h (fun c8 h => ?_) (fun c8 h => ?_)
                  · refine k_tabIn (off := 141) (tgt := 150) dX8_count_9 (by rw [c8]; decide) (by rw [c8]; decide) (by rw [c8]; rfl) (by decide) ?_
                    refine k_aload_n (q := 1) dX8_count_150 rfl rfl ?_
                    refine kg_8 (v := .ref (xad X (o + 1))) hL.1 inX8_count_8 0 (by decide) (List.mem_of_getElem? (i := 1) rfl) rfl dX8_count_151 ?_
                    refine kg_2 (v := .int (σ (o + 1) 6)) hL.2.1.1 inX8_count_2 6 (by decide) (List.mem_of_getElem? (i := 12) rfl) rfl dX8_count_154 ?_
                    exact k_iretR rfl dX8_count_157 h
                  · refine k_if h (fun c9 h => ?_) (fun c9 h => ?_)
                    · refine k_tabIn (off := 149) (tgt := 158) dX8_count_9 (by rw [c9]; decide) (by rw [c9]; decide) (by rw [c9]; rfl) (by decide) ?_
                      refine k_aload_n (q := 1) dX8_count_158 rfl rfl ?_
                      refine kg_8 (v := .ref (xad X (o + 1))) hL.1 inX8_count_8 0 (by decide) (List.mem_of_getElem? (i := 1) rfl) rfl dX8_count_159 ?_
                      refine kg_2 (v := .int (σ (o + 1) 7)) hL.2.1.1 inX8_count_2 7 (by decide) (List.mem_of_getElem? (i := 13) rfl) rfl dX8_count_162 ?_
                      exact k_iretR rfl dX8_count_165 h
                    · refine k_if h (fun c10 h => ?_) (fun c10 h => ?_)
                      · refine k_tabIn (off := 157) (tgt := 166) dX8_count_9 (by rw [c10]; decide) (by rw [c10]; decide) (by rw [c10]; rfl) (by decide) ?_
                        refine k_aload_n (q := 1) dX8_count_166 rfl rfl ?_
                        refine kg_8 (v := .ref (xad X (o + 1))) hL.1 inX8_count_8 0 (by decide) (List.mem_of_getElem? (i := 1) rfl) rfl dX8_count_167 ?_
                        refine kg_2 (v := .ref (xad X (o + 2))) hL.2.1.1 inX8_count_2 0 (by decide) (List.mem_of_getElem? (i := 3) rfl) rfl dX8_count_170 ?_
                        obtain ⟨r6, hc5, h⟩ := bnd_e h
                        refine k_cv (q := (RX6, TX6, 5)) (As := []) 0 (cm_X6_allTornHoles l hX g σ (o + 2) hL.2.1.2.1 hc5) gX8_count_X6_allTornHoles rfl ⟨rfl, rfl⟩ hd_X6_allTornHoles ⟨Nat.le_of_ble_eq_true rfl, Nat.le_of_ble_eq_true rfl⟩ ⟨Nat.le_refl _, Nat.le_refl _⟩ (lay_lt hL.2.1.2.1.1 (by decide)) (ce_of hL.2.1.2.1.1) rfl rfl (Nat.le_of_ble_eq_true rfl) rfl dX8_count_173 ?_
                        exact k_iretR rfl dX8_count_176 h
                      · refine k_if h (fun c11 h => ?_) (fun c11 h => ?_)
                        · refine k_tabIn (off := 168) (tgt := 177) dX8_count_9 (by rw [c11]; decide) (by rw [c11]; decide) (by rw [c11]; rfl) (by decide) ?_
                          refine k_aload_n (q := 0) dX8_count_177 rfl rfl ?_
                          refine kg_0 (v := .ref (xad X (o + 8))) hL.2.1.2.2.1.1 inX8_count_0 0 (by decide) (List.mem_of_getElem? (i := 5) rfl) rfl dX8_count_178 ?_
                          refine k_aload_n (q := 1) dX8_count_181 rfl rfl ?_
                          refine kg_8 (v := .ref (xad X (o + 1))) hL.1 inX8_count_8 0 (by decide) (List.mem_of_getElem? (i := 1) rfl) rfl dX8_count_182 ?_
                          refine kg_2 (v := .int (σ (o + 1) 7)) hL.2.1.1 inX8_count_2 7 (by decide) (List.mem_of_getElem? (i := 13) rfl) rfl dX8_count_185 ?_
                          obtain ⟨r8, hc7, h⟩ := bnd_e h
                          refine k_cv (q := (RX4, TX4, 5)) (As := [.int (σ (o + 1) 7)]) 1 (cm_X4_splicesFrom l hX g σ (o + 8) hL.2.1.2.2.1.2.1 (σ (o + 1) 7) hc7) gX8_count_X4_splicesFrom rfl ⟨rfl, rfl⟩ hd_X4_splicesFrom ⟨Nat.le_of_ble_eq_true rfl, Nat.le_of_ble_eq_true rfl⟩ ⟨Nat.le_refl _, Nat.le_refl _⟩ (lay_lt hL.2.1.2.2.1.2.1.1 (by decide)) (ce_of hL.2.1.2.2.1.2.1.1) rfl rfl (Nat.le_of_ble_eq_true rfl) rfl dX8_count_188 ?_
                          exact k_iretR rfl dX8_count_191 h
                        · refine k_if h (fun c12 h => ?_) (fun c12 h => ?_)
                          · refine k_tabIn (off := 183) (tgt := 192) dX8_count_9 (by rw [c12]; decide) (by rw [c12]; decide) (by rw [c12]; rfl) (by decide) ?_
                            refine k_aload_n (q := 1) dX8_count_192 rfl rfl ?_
                            refine kg_8 (v := .ref (xad X (o + 105))) hL.1 inX8_count_8 2 (by decide) (List.mem_of_getElem? (i := 14) rfl) rfl dX8_count_193 ?_
                            refine kg_3 (v := .int (σ (o + 105) 0)) hL.2.2.2.1.1 inX8_count_3 0 (by decide) (List.mem_of_getElem? (i := 15) rfl) rfl dX8_count_196 ?_
                            exact k_iretR rfl dX8_count_199 h
                          · refine k_if h (fun c13 h => ?_) (fun c13 h => ?_)
                            · refine k_tabIn (off := 191) (tgt := 200) dX8_count_9 (by rw [c13]; decide) (by rw [c13]; decide) (by rw [c13]; rfl) (by decide) ?_
                              refine k_aload_n (q := 1) dX8_count_200 rfl rfl ?_
                              refine kg_8 (v := .ref (xad X (o + 315))) hL.1 inX8_count_8 3 (by decide) (List.mem_of_getElem? (i := 16) rfl) rfl dX8_count_201 ?_
                              refine kg_1 (v := .int (σ (o + 315) 0)) hL.2.2.2.2.1.1 inX8_count_1 0 (by decide) (List.mem_of_getElem? (i := 17) rfl) rfl dX8_count_204 ?_
                              exact k_iretR rfl dX8_count_207 h
                            · refine k_tabOut (tgt := 208) dX8_count_9 (by have e0 := lv_neT c0 (show Int32.toInt (nI 0) = 0 from rfl); have e1 := lv_neT c1 (show Int32.toInt (nI 1) = 1 from rfl); have e2 := lv_neT c2 (show Int32.toInt (nI 2) = 2 from rfl); have e3 := lv_neT c3 (show Int32.toInt (nI 3) = 3 from rfl); have e4 := lv_neT c4 (show Int32.toInt (nI 4) = 4 from rfl); have e5 := lv_neT c5 (show Int32.toInt (nI 5) = 5 from rfl); have e6 := lv_neT c6 (show Int32.toInt (nI 6) = 6 from rfl); have e7 := lv_neT c7 (show Int32.toInt (nI 7) = 7 from rfl); have e8 := lv_neT c8 (show Int32.toInt (nI 8) = 8 from rfl); have e9 := lv_neT c9 (show Int32.toInt (nI 9) = 9 from rfl); have e10 := lv_neT c10 (show Int32.toInt (nI 10) = 10 from rfl); have e11 := lv_neT c11 (show Int32.toInt (nI 11) = 11 from rfl); have e12 := lv_neT c12 (show Int32.toInt (nI 12) = 12 from rfl); have e13 := lv_neT c13 (show Int32.toInt (nI 13) = 13 from rfl); omega) (by decide) ?_
                              refine k_bipush (v := (nN 2)) dX8_count_208 (by decide) ?_
                              exact k_iretR rfl dX8_count_210 h
