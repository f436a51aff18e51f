/-! THE WALKS (laid by wip/whole/gen_walk.py) -/
abbrev rmX9_isIn : Room := { frames := 0, cells := 0, slots := 0, locals := 0 }
abbrev mX9_isIn : MT := (rmX9_isIn, wsX9_isIn, cX9_isIn, 3, RX9, some .boolean)
theorem hd_X9_isIn : yX9_isIn.cls ≠ "java/lang/invoke/MethodHandle" ∧ yX9_isIn.cls ≠ "java/lang/invoke/VarHandle" ∧ (parseMethodDescriptor yX9_isIn.desc).map (fun d => d.parameters.length) = some 3 := by decide +kernel
set_option maxHeartbeats 4000000 in
set_option maxRecDepth 100000 in
theorem cm_X9_isIn (l : Launch) {X : XT} (hX : XD X) (g : Nat) (σ : Mem) (p0 : Int32) (p1 : Int32) (p2 : Int32) {r : Int32} (h : fX9_isIn g σ p0 p1 p2 = some r) : Met l yX9_isIn wsX9_isIn rmX9_isIn (va_Pc [.int p0, .int p1, .int p2] (WW X σ)) (QI X r σ) 0 0 (XA X) := by
  refine met_x (M := mX9_isIn) (lv := [(0, .int p0), (1, .int p1), (2, .int p2)]) hX (by decide) rfl rfl (Nat.le_of_ble_eq_true rfl) rfl ?_
  unfold fX9_isIn at h
  refine k_iload_n (q := 0) dX9_isIn_0 rfl rfl ?_
  refine k_iload_n (q := 1) dX9_isIn_1 rfl rfl ?_
  refine k_icmp_lt (tgt := 14) dX9_isIn_2 (by decide) h (fun h => ?_) (fun h => ?_)
  · refine k_iconst (v := (nI 0)) dX9_isIn_14 (by decide) ?_
    exact k_zretR rfl dX9_isIn_15 rfl h
  · refine k_iload_n (q := 0) dX9_isIn_5 rfl rfl ?_
    refine k_iload_n (q := 2) dX9_isIn_6 rfl rfl ?_
    refine k_icmp_gt (tgt := 14) dX9_isIn_7 (by decide) h (fun h => ?_) (fun h => ?_)
    · refine k_iconst (v := (nI 0)) dX9_isIn_14 (by decide) ?_
      exact k_zretR rfl dX9_isIn_15 rfl h
    · refine k_iconst (v := (nI 1)) dX9_isIn_10 (by decide) ?_
      refine k_goto (tgt := 15) dX9_isIn_11 (by decide) ?_
      exact k_zretR rfl dX9_isIn_15 rfl h
abbrev rmX9_ones : Room := { frames := 0, cells := 0, slots := 0, locals := 0 }
abbrev mX9_ones : MT := (rmX9_ones, wsX9_ones, cX9_ones, 3, RX9, some .int)
theorem hd_X9_ones : yX9_ones.cls ≠ "java/lang/invoke/MethodHandle" ∧ yX9_ones.cls ≠ "java/lang/invoke/VarHandle" ∧ (parseMethodDescriptor yX9_ones.desc).map (fun d => d.parameters.length) = some 1 := by decide +kernel
set_option maxHeartbeats 4000000 in
set_option maxRecDepth 100000 in
theorem wX9_ones_4 (l : Launch) {X : XT} (hX : XD X) (g : Nat) {r : Int32} : ∀ (n : Nat) (σ : Mem) (x0 : Int32) (x1 : Int32) (x2 : Int32), fX9_ones_4 g n σ x0 x1 x2 = some r → WG X l mX9_ones (fun _ _ => True) 0 0 (QM X (QI X r σ)) 4 σ [(0, .int x0), (1, .int x1), (2, .int x2)] [] := by
  intro n
  induction n with
  | zero => intro σ x0 x1 x2 h; exact nomatch (show (none : Option _) = some _ from h)
  | succ n ih =>
    intro σ x0 x1 x2 h
    rw [fX9_ones_4] at h
    refine k_iload_n (q := 2) dX9_ones_4 rfl rfl ?_
    refine k_bipush (v := (nI 12)) dX9_ones_5 (by decide) ?_
    refine k_icmp_ge (tgt := 24) dX9_ones_7 (by decide) h (fun h => ?_) (fun h => ?_)
    · refine k_iload_n (q := 1) dX9_ones_24 rfl rfl ?_
      exact k_iretR rfl dX9_ones_25 h
    · refine k_iload_n (q := 1) dX9_ones_10 rfl rfl ?_
      refine k_iload_n (q := 0) dX9_ones_11 rfl rfl ?_
      refine k_iload_n (q := 2) dX9_ones_12 rfl rfl ?_
      refine k_ishr dX9_ones_13 ?_
      refine k_iconst (v := (nI 1)) dX9_ones_14 (by decide) ?_
      refine k_iand dX9_ones_15 ?_
      refine k_iadd dX9_ones_16 ?_
      refine k_istore_n (lv' := [(1, .int (x1 + ((x0 >>> (x2 &&& 31)) &&& (nI 1)))), (0, .int x0), (2, .int x2)]) dX9_ones_17 rfl (Nat.le_of_ble_eq_true rfl) rfl ?_
      refine k_iinc (q := 2) (v := (x2 + (nI 1))) (lv' := [(2, .int (x2 + (nI 1))), (1, .int (x1 + ((x0 >>> (x2 &&& 31)) &&& (nI 1)))), (0, .int x0)]) dX9_ones_18 rfl rfl (Nat.le_of_ble_eq_true rfl) rfl ?_
      refine k_goto (tgt := 4) dX9_ones_21 (by decide) ?_
      refine k_sub (ks' := [2, 1, 0]) rfl ?_
      exact ih σ x0 (x1 + ((x0 >>> (x2 &&& 31)) &&& (nI 1))) (x2 + (nI 1)) h
set_option maxHeartbeats 4000000 in
set_option maxRecDepth 100000 in
theorem cm_X9_ones (l : Launch) {X : XT} (hX : XD X) (g : Nat) (σ : Mem) (p0 : Int32) {r : Int32} (h : fX9_ones g σ p0 = some r) : Met l yX9_ones wsX9_ones rmX9_ones (va_Pc [.int p0] (WW X σ)) (QI X r σ) 0 0 (XA X) := by
  refine met_x (M := mX9_ones) (lv := [(0, .int p0)]) hX (by decide) rfl rfl (Nat.le_of_ble_eq_true rfl) rfl ?_
  unfold fX9_ones at h
  refine k_iconst (v := (nI 0)) dX9_ones_0 (by decide) ?_
  refine k_istore_n (lv' := [(1, .int (nI 0)), (0, .int p0)]) dX9_ones_1 rfl (Nat.le_of_ble_eq_true rfl) rfl ?_
  refine k_iconst (v := (nI 0)) dX9_ones_2 (by decide) ?_
  refine k_istore_n (lv' := [(2, .int (nI 0)), (1, .int (nI 0)), (0, .int p0)]) dX9_ones_3 rfl (Nat.le_of_ble_eq_true rfl) rfl ?_
  refine k_sub (ks' := [2, 1, 0]) rfl ?_
  exact wX9_ones_4 l hX g g σ p0 (nI 0) (nI 0) h
abbrev rmX9_keeps : Room := { frames := 0, cells := 0, slots := 0, locals := 0 }
abbrev mX9_keeps : MT := (rmX9_keeps, wsX9_keeps, cX9_keeps, 3, RX9, none)
theorem hd_X9_keeps : yX9_keeps.cls = RX9 ∧ yX9_keeps.cls ≠ "java/lang/invoke/MethodHandle" ∧ yX9_keeps.cls ≠ "java/lang/invoke/VarHandle" ∧ (parseMethodDescriptor yX9_keeps.desc).map (fun d => d.parameters.length) = some 1 := by decide +kernel
theorem inX9_keeps_9 : ∀ w ∈ wsX90, w ∈ wsX9_keeps := fun w h => List.mem_cons_of_mem _ (List.mem_append_right _ h)
set_option maxHeartbeats 4000000 in
set_option maxRecDepth 100000 in
theorem wX9_keeps_2 (l : Launch) {X : XT} (hX : XD X) (g : Nat) (o : Nat) (hL : L9 o) {σ' : Mem} : ∀ (n : Nat) (σ : Mem) (x1 : Int32) (x2 : Int32), fX9_keeps_2 g o n σ x1 x2 = some σ' → WG X l mX9_keeps (fun _ _ => True) 0 0 (QM X (QV X σ')) 2 σ [(0, .ref (xad X o)), (1, .int x1), (2, .int x2)] [] := by
  intro n
  induction n with
  | zero => intro σ x1 x2 h; exact nomatch (show (none : Option _) = some _ from h)
  | succ n ih =>
    intro σ x1 x2 h
    rw [fX9_keeps_2] at h
    refine k_iload_n (q := 2) dX9_keeps_2 rfl rfl ?_
    refine k_sipush (v := (nI 6036)) dX9_keeps_3 (by decide) ?_
    refine k_icmp_ge (tgt := 33) dX9_keeps_6 (by decide) h (fun h => ?_) (fun h => ?_)
    · exact k_vret rfl dX9_keeps_33 h
    · refine k_aload_n (q := 0) dX9_keeps_9 rfl rfl ?_
      refine kg_9 (v := .ref (xad X (o + 2))) hL.1 inX9_keeps_9 1 (by decide) (List.mem_of_getElem? (i := 1) rfl) rfl dX9_keeps_10 ?_
      refine k_iload_n (q := 1) dX9_keeps_13 rfl rfl ?_
      refine k_sipush (v := (nI 6036)) dX9_keeps_14 (by decide) ?_
      refine k_imul dX9_keeps_17 ?_
      refine k_iload_n (q := 2) dX9_keeps_18 rfl rfl ?_
      refine k_iadd dX9_keeps_19 ?_
      refine k_aload_n (q := 0) dX9_keeps_20 rfl rfl ?_
      refine kg_9 (v := .ref (xad X (o + 1))) hL.1 inX9_keeps_9 0 (by decide) (List.mem_of_getElem? (i := 2) rfl) rfl dX9_keeps_21 ?_
      refine k_iload_n (q := 2) dX9_keeps_24 rfl rfl ?_
      refine k_iald (n := 6036) hL.2.1 dX9_keeps_25 h (fun h => ?_)
      refine k_iast (n := 36216) hL.2.2.1 dX9_keeps_26 h (fun σ1 h => ?_)
      refine k_iinc (q := 2) (v := (x2 + (nI 1))) (lv' := [(2, .int (x2 + (nI 1))), (0, .ref (xad X o)), (1, .int x1)]) dX9_keeps_27 rfl rfl (Nat.le_of_ble_eq_true rfl) rfl ?_
      refine k_goto (tgt := 2) dX9_keeps_30 (by decide) ?_
      refine k_sub (ks' := [1, 2, 0]) rfl ?_
      exact ih σ1 x1 (x2 + (nI 1)) h
set_option maxHeartbeats 4000000 in
set_option maxRecDepth 100000 in
theorem cm_X9_keeps (l : Launch) {X : XT} (hX : XD X) (g : Nat) (σ : Mem) (o : Nat) (hL : L9 o) (p1 : Int32) {σ' : Mem} (h : fX9_keeps g σ o p1 = some σ') : Met l yX9_keeps wsX9_keeps rmX9_keeps (va_Pc [.ref (xad X o), .int p1] (WW X σ)) (QV X σ') 0 0 (XA X) := by
  refine met_x (M := mX9_keeps) (lv := [(0, .ref (xad X o)), (1, .int p1)]) hX (by decide) rfl rfl (Nat.le_of_ble_eq_true rfl) rfl ?_
  unfold fX9_keeps at h
  refine k_iconst (v := (nI 0)) dX9_keeps_0 (by decide) ?_
  refine k_istore_n (lv' := [(2, .int (nI 0)), (0, .ref (xad X o)), (1, .int p1)]) dX9_keeps_1 rfl (Nat.le_of_ble_eq_true rfl) rfl ?_
  refine k_sub (ks' := [1, 2, 0]) rfl ?_
  exact wX9_keeps_2 l hX g o hL g σ p1 (nI 0) h
abbrev rmX9_brings : Room := { frames := 0, cells := 0, slots := 0, locals := 0 }
abbrev mX9_brings : MT := (rmX9_brings, wsX9_brings, cX9_brings, 3, RX9, none)
theorem hd_X9_brings : yX9_brings.cls = RX9 ∧ yX9_brings.cls ≠ "java/lang/invoke/MethodHandle" ∧ yX9_brings.cls ≠ "java/lang/invoke/VarHandle" ∧ (parseMethodDescriptor yX9_brings.desc).map (fun d => d.parameters.length) = some 1 := by decide +kernel
theorem inX9_brings_9 : ∀ w ∈ wsX90, w ∈ wsX9_brings := fun w h => List.mem_cons_of_mem _ (List.mem_append_right _ h)
set_option maxHeartbeats 4000000 in
set_option maxRecDepth 100000 in
theorem wX9_brings_2 (l : Launch) {X : XT} (hX : XD X) (g : Nat) (o : Nat) (hL : L9 o) {σ' : Mem} : ∀ (n : Nat) (σ : Mem) (x1 : Int32) (x2 : Int32), fX9_brings_2 g o n σ x1 x2 = some σ' → WG X l mX9_brings (fun _ _ => True) 0 0 (QM X (QV X σ')) 2 σ [(0, .ref (xad X o)), (1, .int x1), (2, .int x2)] [] := by
  intro n
  induction n with
  | zero => intro σ x1 x2 h; exact nomatch (show (none : Option _) = some _ from h)
  | succ n ih =>
    intro σ x1 x2 h
    rw [fX9_brings_2] at h
    refine k_iload_n (q := 2) dX9_brings_2 rfl rfl ?_
    refine k_sipush (v := (nI 6036)) dX9_brings_3 (by decide) ?_
    refine k_icmp_ge (tgt := 33) dX9_brings_6 (by decide) h (fun h => ?_) (fun h => ?_)
    · exact k_vret rfl dX9_brings_33 h
    · refine k_aload_n (q := 0) dX9_brings_9 rfl rfl ?_
      refine kg_9 (v := .ref (xad X (o + 1))) hL.1 inX9_brings_9 0 (by decide) (List.mem_of_getElem? (i := 1) rfl) rfl dX9_brings_10 ?_
      refine k_iload_n (q := 2) dX9_brings_13 rfl rfl ?_
      refine k_aload_n (q := 0) dX9_brings_14 rfl rfl ?_
      refine kg_9 (v := .ref (xad X (o + 2))) hL.1 inX9_brings_9 1 (by decide) (List.mem_of_getElem? (i := 2) rfl) rfl dX9_brings_15 ?_
      refine k_iload_n (q := 1) dX9_brings_18 rfl rfl ?_
      refine k_sipush (v := (nI 6036)) dX9_brings_19 (by decide) ?_
      refine k_imul dX9_brings_22 ?_
      refine k_iload_n (q := 2) dX9_brings_23 rfl rfl ?_
      refine k_iadd dX9_brings_24 ?_
      refine k_iald (n := 36216) hL.2.2.1 dX9_brings_25 h (fun h => ?_)
      refine k_iast (n := 6036) hL.2.1 dX9_brings_26 h (fun σ1 h => ?_)
      refine k_iinc (q := 2) (v := (x2 + (nI 1))) (lv' := [(2, .int (x2 + (nI 1))), (0, .ref (xad X o)), (1, .int x1)]) dX9_brings_27 rfl rfl (Nat.le_of_ble_eq_true rfl) rfl ?_
      refine k_goto (tgt := 2) dX9_brings_30 (by decide) ?_
      refine k_sub (ks' := [1, 2, 0]) rfl ?_
      exact ih σ1 x1 (x2 + (nI 1)) h
set_option maxHeartbeats 4000000 in
set_option maxRecDepth 100000 in
theorem cm_X9_brings (l : Launch) {X : XT} (hX : XD X) (g : Nat) (σ : Mem) (o : Nat) (hL : L9 o) (p1 : Int32) {σ' : Mem} (h : fX9_brings g σ o p1 = some σ') : Met l yX9_brings wsX9_brings rmX9_brings (va_Pc [.ref (xad X o), .int p1] (WW X σ)) (QV X σ') 0 0 (XA X) := by
  refine met_x (M := mX9_brings) (lv := [(0, .ref (xad X o)), (1, .int p1)]) hX (by decide) rfl rfl (Nat.le_of_ble_eq_true rfl) rfl ?_
  unfold fX9_brings at h
  refine k_iconst (v := (nI 0)) dX9_brings_0 (by decide) ?_
  refine k_istore_n (lv' := [(2, .int (nI 0)), (0, .ref (xad X o)), (1, .int p1)]) dX9_brings_1 rfl (Nat.le_of_ble_eq_true rfl) rfl ?_
  refine k_sub (ks' := [1, 2, 0]) rfl ?_
  exact wX9_brings_2 l hX g o hL g σ p1 (nI 0) h
abbrev rmX9_records : Room := { frames := 0, cells := 0, slots := 0, locals := 0 }
abbrev mX9_records : MT := (rmX9_records, wsX9_records, cX9_records, 3, RX9, none)
theorem hd_X9_records : yX9_records.cls = RX9 ∧ yX9_records.cls ≠ "java/lang/invoke/MethodHandle" ∧ yX9_records.cls ≠ "java/lang/invoke/VarHandle" ∧ (parseMethodDescriptor yX9_records.desc).map (fun d => d.parameters.length) = some 1 := by decide +kernel
theorem inX9_records_9 : ∀ w ∈ wsX90, w ∈ wsX9_records := fun w h => List.mem_cons_of_mem _ (List.mem_append_right _ h)
set_option maxHeartbeats 4000000 in
set_option maxRecDepth 100000 in
theorem wX9_records_51 (l : Launch) {X : XT} (hX : XD X) (g : Nat) (o : Nat) (hL : L9 o) {σ' : Mem} : ∀ (n : Nat) (σ : Mem) (x1 : Int32) (x2 : Int32), fX9_records_51 g o n σ x1 x2 = some σ' → WG X l mX9_records (fun _ _ => True) 0 0 (QM X (QV X σ')) 51 σ [(0, .ref (xad X o)), (1, .int x1), (2, .int x2)] [] := by
  intro n
  induction n with
  | zero => intro σ x1 x2 h; exact nomatch (show (none : Option _) = some _ from h)
  | succ n ih =>
    intro σ x1 x2 h
    rw [fX9_records_51] at h
    refine k_iload_n (q := 2) dX9_records_51 rfl rfl ?_
    refine k_sipush (v := (nI 6036)) dX9_records_52 (by decide) ?_
    refine k_icmp_ge (tgt := 102) dX9_records_55 (by decide) h (fun h => ?_) (fun h => ?_)
    · refine k_aload_n (q := 0) dX9_records_102 rfl rfl ?_
      refine k_dup dX9_records_103 rfl ?_
      refine kg_9 (v := .int (σ o 2)) hL.1 inX9_records_9 2 (by decide) (List.mem_of_getElem? (i := 1) rfl) rfl dX9_records_104 ?_
      refine k_iconst (v := (nI 1)) dX9_records_107 (by decide) ?_
      refine k_iadd dX9_records_108 ?_
      refine kp_9_2 hL.1 inX9_records_9 (List.mem_of_getElem? (i := 1) rfl) dX9_records_109 h (fun σ1 h => ?_)
      exact k_vret rfl dX9_records_112 h
    · refine k_aload_n (q := 0) dX9_records_58 rfl rfl ?_
      refine kg_9 (v := .ref (xad X (o + 2))) hL.1 inX9_records_9 1 (by decide) (List.mem_of_getElem? (i := 2) rfl) rfl dX9_records_59 ?_
      refine k_aload_n (q := 0) dX9_records_62 rfl rfl ?_
      refine kg_9 (v := .int (σ o 2)) hL.1 inX9_records_9 2 (by decide) (List.mem_of_getElem? (i := 1) rfl) rfl dX9_records_63 ?_
      refine k_sipush (v := (nI 6036)) dX9_records_66 (by decide) ?_
      refine k_imul dX9_records_69 ?_
      refine k_iload_n (q := 2) dX9_records_70 rfl rfl ?_
      refine k_iadd dX9_records_71 ?_
      refine k_iload_n (q := 1) dX9_records_72 rfl rfl ?_
      refine k_if_eq (tgt := 89) dX9_records_73 (by decide) h (fun h => ?_) (fun h => ?_)
      · refine k_aload_n (q := 0) dX9_records_89 rfl rfl ?_
        refine kg_9 (v := .ref (xad X (o + 1))) hL.1 inX9_records_9 0 (by decide) (List.mem_of_getElem? (i := 3) rfl) rfl dX9_records_90 ?_
        refine k_iload_n (q := 2) dX9_records_93 rfl rfl ?_
        refine k_iald (n := 6036) hL.2.1 dX9_records_94 h (fun h => ?_)
        refine k_iast (n := 36216) hL.2.2.1 dX9_records_95 h (fun σ2 h => ?_)
        refine k_iinc (q := 2) (v := (x2 + (nI 1))) (lv' := [(2, .int (x2 + (nI 1))), (0, .ref (xad X o)), (1, .int x1)]) dX9_records_96 rfl rfl (Nat.le_of_ble_eq_true rfl) rfl ?_
        refine k_goto (tgt := 51) dX9_records_99 (by decide) ?_
        refine k_sub (ks' := [1, 2, 0]) rfl ?_
        exact ih σ2 x1 (x2 + (nI 1)) h
      · refine k_aload_n (q := 0) dX9_records_76 rfl rfl ?_
        refine kg_9 (v := .ref (xad X (o + 2))) hL.1 inX9_records_9 1 (by decide) (List.mem_of_getElem? (i := 2) rfl) rfl dX9_records_77 ?_
        refine k_sipush (v := (nI 30180)) dX9_records_80 (by decide) ?_
        refine k_iload_n (q := 2) dX9_records_83 rfl rfl ?_
        refine k_iadd dX9_records_84 ?_
        refine k_iald (n := 36216) hL.2.2.1 dX9_records_85 h (fun h => ?_)
        refine k_goto (tgt := 95) dX9_records_86 (by decide) ?_
        refine k_iast (n := 36216) hL.2.2.1 dX9_records_95 h (fun σ3 h => ?_)
        refine k_iinc (q := 2) (v := (x2 + (nI 1))) (lv' := [(2, .int (x2 + (nI 1))), (0, .ref (xad X o)), (1, .int x1)]) dX9_records_96 rfl rfl (Nat.le_of_ble_eq_true rfl) rfl ?_
        refine k_goto (tgt := 51) dX9_records_99 (by decide) ?_
        refine k_sub (ks' := [1, 2, 0]) rfl ?_
        exact ih σ3 x1 (x2 + (nI 1)) h
set_option maxHeartbeats 4000000 in
set_option maxRecDepth 100000 in
theorem wX9_records_10 (l : Launch) {X : XT} (hX : XD X) (g : Nat) (o : Nat) (hL : L9 o) {σ' : Mem} : ∀ (n : Nat) (σ : Mem) (x1 : Int32) (x2 : Int32), fX9_records_10 g o n σ x1 x2 = some σ' → WG X l mX9_records (fun _ _ => True) 0 0 (QM X (QV X σ')) 10 σ [(0, .ref (xad X o)), (1, .int x1), (2, .int x2)] [] := by
  intro n
  induction n with
  | zero => intro σ x1 x2 h; exact nomatch (show (none : Option _) = some _ from h)
  | succ n ih =>
    intro σ x1 x2 h
    rw [fX9_records_10] at h
    refine k_iload_n (q := 2) dX9_records_10 rfl rfl ?_
    refine k_sipush (v := (nI 18108)) dX9_records_11 (by decide) ?_
    refine k_icmp_ge (tgt := 39) dX9_records_14 (by decide) h (fun h => ?_) (fun h => ?_)
    · refine k_aload_n (q := 0) dX9_records_39 rfl rfl ?_
      refine k_dup dX9_records_40 rfl ?_
      refine kg_9 (v := .int (σ o 2)) hL.1 inX9_records_9 2 (by decide) (List.mem_of_getElem? (i := 1) rfl) rfl dX9_records_41 ?_
      refine k_iconst (v := (nI 1)) dX9_records_44 (by decide) ?_
      refine k_isub dX9_records_45 ?_
      refine kp_9_2 hL.1 inX9_records_9 (List.mem_of_getElem? (i := 1) rfl) dX9_records_46 h (fun σ4 h => ?_)
      refine k_iconst (v := (nI 0)) dX9_records_49 (by decide) ?_
      refine k_istore_n (lv' := [(2, .int (nI 0)), (0, .ref (xad X o)), (1, .int x1)]) dX9_records_50 rfl (Nat.le_of_ble_eq_true rfl) rfl ?_
      refine k_sub (ks' := [1, 2, 0]) rfl ?_
      exact wX9_records_51 l hX g o hL g σ4 x1 (nI 0) h
    · refine k_aload_n (q := 0) dX9_records_17 rfl rfl ?_
      refine kg_9 (v := .ref (xad X (o + 2))) hL.1 inX9_records_9 1 (by decide) (List.mem_of_getElem? (i := 2) rfl) rfl dX9_records_18 ?_
      refine k_iload_n (q := 2) dX9_records_21 rfl rfl ?_
      refine k_aload_n (q := 0) dX9_records_22 rfl rfl ?_
      refine kg_9 (v := .ref (xad X (o + 2))) hL.1 inX9_records_9 1 (by decide) (List.mem_of_getElem? (i := 2) rfl) rfl dX9_records_23 ?_
      refine k_iload_n (q := 2) dX9_records_26 rfl rfl ?_
      refine k_sipush (v := (nI 6036)) dX9_records_27 (by decide) ?_
      refine k_iadd dX9_records_30 ?_
      refine k_iald (n := 36216) hL.2.2.1 dX9_records_31 h (fun h => ?_)
      refine k_iast (n := 36216) hL.2.2.1 dX9_records_32 h (fun σ5 h => ?_)
      refine k_iinc (q := 2) (v := (x2 + (nI 1))) (lv' := [(2, .int (x2 + (nI 1))), (0, .ref (xad X o)), (1, .int x1)]) dX9_records_33 rfl rfl (Nat.le_of_ble_eq_true rfl) rfl ?_
      refine k_goto (tgt := 10) dX9_records_36 (by decide) ?_
      refine k_sub (ks' := [1, 2, 0]) rfl ?_
      exact ih σ5 x1 (x2 + (nI 1)) h
set_option maxHeartbeats 4000000 in
set_option maxRecDepth 100000 in
theorem cm_X9_records (l : Launch) {X : XT} (hX : XD X) (g : Nat) (σ : Mem) (o : Nat) (hL : L9 o) (p1 : Int32) {σ' : Mem} (h : fX9_records g σ o p1 = some σ') : Met l yX9_records wsX9_records rmX9_records (va_Pc [.ref (xad X o), .int p1] (WW X σ)) (QV X σ') 0 0 (XA X) := by
  refine met_x (M := mX9_records) (lv := [(0, .ref (xad X o)), (1, .int p1)]) hX (by decide) rfl rfl (Nat.le_of_ble_eq_true rfl) rfl ?_
  unfold fX9_records at h
  refine k_aload_n (q := 0) dX9_records_0 rfl rfl ?_
  refine kg_9 (v := .int (σ o 2)) hL.1 inX9_records_9 2 (by decide) (List.mem_of_getElem? (i := 1) rfl) rfl dX9_records_1 ?_
  refine k_iconst (v := (nI 4)) dX9_records_4 (by decide) ?_
  refine k_icmp_ne (tgt := 49) dX9_records_5 (by decide) h (fun h => ?_) (fun h => ?_)
  · refine k_iconst (v := (nI 0)) dX9_records_49 (by decide) ?_
    refine k_istore_n (lv' := [(2, .int (nI 0)), (0, .ref (xad X o)), (1, .int p1)]) dX9_records_50 rfl (Nat.le_of_ble_eq_true rfl) rfl ?_
    refine k_sub (ks' := [1, 2, 0]) rfl ?_
    exact wX9_records_51 l hX g o hL g σ p1 (nI 0) h
  · refine k_iconst (v := (nI 0)) dX9_records_8 (by decide) ?_
    refine k_istore_n (lv' := [(2, .int (nI 0)), (0, .ref (xad X o)), (1, .int p1)]) dX9_records_9 rfl (Nat.le_of_ble_eq_true rfl) rfl ?_
    refine k_sub (ks' := [1, 2, 0]) rfl ?_
    exact wX9_records_10 l hX g o hL g σ p1 (nI 0) h
abbrev rmX9_undo : Room := { frames := 1, cells := 0, slots := 0, locals := 22 }
abbrev mX9_undo : MT := (rmX9_undo, wsX9_undo, cX9_undo, 1, RX9, some .int)
theorem hd_X9_undo : yX9_undo.cls = RX9 ∧ yX9_undo.cls ≠ "java/lang/invoke/MethodHandle" ∧ yX9_undo.cls ≠ "java/lang/invoke/VarHandle" ∧ (parseMethodDescriptor yX9_undo.desc).map (fun d => d.parameters.length) = some 0 := by decide +kernel
theorem inX9_undo_9 : ∀ w ∈ wsX90, w ∈ wsX9_undo := fun w h => List.mem_cons_of_mem _ (List.mem_append_right _ h)
set_option maxHeartbeats 4000000 in
set_option maxRecDepth 100000 in
theorem cm_X9_undo (l : Launch) {X : XT} (hX : XD X) (g : Nat) (σ : Mem) (o : Nat) (hL : L9 o) {r : Int32} {σ' : Mem} (h : fX9_undo g σ o = some (r, σ')) : Met l yX9_undo wsX9_undo rmX9_undo (va_Pc [.ref (xad X o)] (WW X σ)) (QI X r σ') 0 0 (XA X) := by
  refine met_x (M := mX9_undo) (lv := [(0, .ref (xad X o))]) hX (by decide) rfl rfl (Nat.le_of_ble_eq_true rfl) rfl ?_
  unfold fX9_undo at h
  refine k_aload_n (q := 0) dX9_undo_0 rfl rfl ?_
  refine kg_9 (v := .int (σ o 2)) hL.1 inX9_undo_9 2 (by decide) (List.mem_of_getElem? (i := 1) rfl) rfl dX9_undo_1 ?_
  refine k_if_ne (tgt := 10) dX9_undo_4 (by decide) h (fun h => ?_) (fun h => ?_)
  · refine k_aload_n (q := 0) dX9_undo_10 rfl rfl ?_
    refine k_dup dX9_undo_11 rfl ?_
    refine kg_9 (v := .int (σ o 2)) hL.1 inX9_undo_9 2 (by decide) (List.mem_of_getElem? (i := 1) rfl) rfl dX9_undo_12 ?_
    refine k_iconst (v := (nI 1)) dX9_undo_15 (by decide) ?_
    refine k_isub dX9_undo_16 ?_
    refine kp_9_2 hL.1 inX9_undo_9 (List.mem_of_getElem? (i := 1) rfl) dX9_undo_17 h (fun σ1 h => ?_)
    refine k_aload_n (q := 0) dX9_undo_20 rfl rfl ?_
    refine k_aload_n (q := 0) dX9_undo_21 rfl rfl ?_
    refine kg_9 (v := .int (σ1 o 2)) hL.1 inX9_undo_9 2 (by decide) (List.mem_of_getElem? (i := 1) rfl) rfl dX9_undo_22 ?_
    obtain ⟨σ3, hc2, h⟩ := bnd_e h
    refine k_cvv (q := (RX9, TX9, 12)) (As := [.int (σ1 o 2)]) 1 (cm_X9_brings l hX g σ1 o hL (σ1 o 2) hc2) gX9_undo_X9_brings rfl ⟨rfl, rfl⟩ hd_X9_brings ⟨Nat.le_of_ble_eq_true rfl, Nat.le_of_ble_eq_true rfl⟩ ⟨Nat.le_refl _, Nat.le_refl _⟩ (lay_lt hL.1 (by decide)) (ce_of hL.1) rfl rfl (Nat.le_of_ble_eq_true rfl) rfl dX9_undo_25 ?_
    refine k_aload_n (q := 0) dX9_undo_28 rfl rfl ?_
    refine kg_9 (v := .int (σ3 o 2)) hL.1 inX9_undo_9 2 (by decide) (List.mem_of_getElem? (i := 1) rfl) rfl dX9_undo_29 ?_
    exact k_iret rfl dX9_undo_32 h
  · refine k_bipush (v := (nN 5)) dX9_undo_7 (by decide) ?_
    exact k_iret rfl dX9_undo_9 h
abbrev rmX9_keep : Room := { frames := 1, cells := 0, slots := 0, locals := 22 }
abbrev mX9_keep : MT := (rmX9_keep, wsX9_keep, cX9_keep, 1, RX9, some .int)
theorem hd_X9_keep : yX9_keep.cls = RX9 ∧ yX9_keep.cls ≠ "java/lang/invoke/MethodHandle" ∧ yX9_keep.cls ≠ "java/lang/invoke/VarHandle" ∧ (parseMethodDescriptor yX9_keep.desc).map (fun d => d.parameters.length) = some 0 := by decide +kernel
theorem inX9_keep_9 : ∀ w ∈ wsX90, w ∈ wsX9_keep := fun w h => List.mem_cons_of_mem _ (List.mem_append_right _ h)
set_option maxHeartbeats 4000000 in
set_option maxRecDepth 100000 in
theorem cm_X9_keep (l : Launch) {X : XT} (hX : XD X) (g : Nat) (σ : Mem) (o : Nat) (hL : L9 o) {r : Int32} {σ' : Mem} (h : fX9_keep g σ o = some (r, σ')) : Met l yX9_keep wsX9_keep rmX9_keep (va_Pc [.ref (xad X o)] (WW X σ)) (QI X r σ') 0 0 (XA X) := by
  refine met_x (M := mX9_keep) (lv := [(0, .ref (xad X o))]) hX (by decide) rfl rfl (Nat.le_of_ble_eq_true rfl) rfl ?_
  unfold fX9_keep at h
  refine k_aload_n (q := 0) dX9_keep_0 rfl rfl ?_
  refine k_iconst (v := (nI 4)) dX9_keep_1 (by decide) ?_
  obtain ⟨σ2, hc1, h⟩ := bnd_e h
  refine k_cvv (q := (RX9, TX9, 12)) (As := [.int (nI 4)]) 1 (cm_X9_keeps l hX g σ o hL (nI 4) hc1) gX9_keep_X9_keeps rfl ⟨rfl, rfl⟩ hd_X9_keeps ⟨Nat.le_of_ble_eq_true rfl, Nat.le_of_ble_eq_true rfl⟩ ⟨Nat.le_refl _, Nat.le_refl _⟩ (lay_lt hL.1 (by decide)) (ce_of hL.1) rfl rfl (Nat.le_of_ble_eq_true rfl) rfl dX9_keep_2 ?_
  refine k_aload_n (q := 0) dX9_keep_5 rfl rfl ?_
  refine k_iconst (v := (nI 1)) dX9_keep_6 (by decide) ?_
  refine kp_9_3 hL.1 inX9_keep_9 (List.mem_of_getElem? (i := 1) rfl) rfl rfl dX9_keep_7 h (fun σ3 h => ?_)
  refine k_aload_n (q := 0) dX9_keep_10 rfl rfl ?_
  refine kg_9 (v := .ref (xad X (o + 1))) hL.1 inX9_keep_9 0 (by decide) (List.mem_of_getElem? (i := 2) rfl) rfl dX9_keep_11 ?_
  refine k_iconst (v := (nI 1)) dX9_keep_14 (by decide) ?_
  refine k_iald (n := 6036) hL.2.1 dX9_keep_15 h (fun h => ?_)
  exact k_iret rfl dX9_keep_16 h
abbrev rmX9_restore : Room := { frames := 1, cells := 0, slots := 0, locals := 22 }
abbrev mX9_restore : MT := (rmX9_restore, wsX9_restore, cX9_restore, 1, RX9, some .int)
theorem hd_X9_restore : yX9_restore.cls = RX9 ∧ yX9_restore.cls ≠ "java/lang/invoke/MethodHandle" ∧ yX9_restore.cls ≠ "java/lang/invoke/VarHandle" ∧ (parseMethodDescriptor yX9_restore.desc).map (fun d => d.parameters.length) = some 0 := by decide +kernel
theorem inX9_restore_9 : ∀ w ∈ wsX90, w ∈ wsX9_restore := fun w h => List.mem_cons_of_mem _ (List.mem_append_right _ h)
set_option maxHeartbeats 4000000 in
set_option maxRecDepth 100000 in
theorem cm_X9_restore (l : Launch) {X : XT} (hX : XD X) (g : Nat) (σ : Mem) (o : Nat) (hL : L9 o) {r : Int32} {σ' : Mem} (h : fX9_restore g σ o = some (r, σ')) : Met l yX9_restore wsX9_restore rmX9_restore (va_Pc [.ref (xad X o)] (WW X σ)) (QI X r σ') 0 0 (XA X) := by
  refine met_x (M := mX9_restore) (lv := [(0, .ref (xad X o))]) hX (by decide) rfl rfl (Nat.le_of_ble_eq_true rfl) rfl ?_
  unfold fX9_restore at h
  refine k_aload_n (q := 0) dX9_restore_0 rfl rfl ?_
  refine kg_9 (v := .int (σ o 3)) hL.1 inX9_restore_9 3 (by decide) (List.mem_of_getElem? (i := 1) rfl) rfl dX9_restore_1 ?_
  refine k_if_ne (tgt := 10) dX9_restore_4 (by decide) h (fun h => ?_) (fun h => ?_)
  · refine k_aload_n (q := 0) dX9_restore_10 rfl rfl ?_
    refine k_iconst (v := (nI 0)) dX9_restore_11 (by decide) ?_
    obtain ⟨σ2, hc1, h⟩ := bnd_e h
    refine k_cvv (q := (RX9, TX9, 12)) (As := [.int (nI 0)]) 1 (cm_X9_records l hX g σ o hL (nI 0) hc1) gX9_restore_X9_records rfl ⟨rfl, rfl⟩ hd_X9_records ⟨Nat.le_of_ble_eq_true rfl, Nat.le_of_ble_eq_true rfl⟩ ⟨Nat.le_refl _, Nat.le_refl _⟩ (lay_lt hL.1 (by decide)) (ce_of hL.1) rfl rfl (Nat.le_of_ble_eq_true rfl) rfl dX9_restore_12 ?_
    refine k_aload_n (q := 0) dX9_restore_15 rfl rfl ?_
    refine k_iconst (v := (nI 4)) dX9_restore_16 (by decide) ?_
    obtain ⟨σ4, hc3, h⟩ := bnd_e h
    refine k_cvv (q := (RX9, TX9, 12)) (As := [.int (nI 4)]) 1 (cm_X9_brings l hX g σ2 o hL (nI 4) hc3) gX9_restore_X9_brings rfl ⟨rfl, rfl⟩ hd_X9_brings ⟨Nat.le_of_ble_eq_true rfl, Nat.le_of_ble_eq_true rfl⟩ ⟨Nat.le_refl _, Nat.le_refl _⟩ (lay_lt hL.1 (by decide)) (ce_of hL.1) rfl rfl (Nat.le_of_ble_eq_true rfl) rfl dX9_restore_17 ?_
    refine k_aload_n (q := 0) dX9_restore_20 rfl rfl ?_
    refine kg_9 (v := .ref (xad X (o + 1))) hL.1 inX9_restore_9 0 (by decide) (List.mem_of_getElem? (i := 2) rfl) rfl dX9_restore_21 ?_
    refine k_iconst (v := (nI 1)) dX9_restore_24 (by decide) ?_
    refine k_iald (n := 6036) hL.2.1 dX9_restore_25 h (fun h => ?_)
    exact k_iret rfl dX9_restore_26 h
  · refine k_bipush (v := (nN 5)) dX9_restore_7 (by decide) ?_
    exact k_iret rfl dX9_restore_9 h
abbrev rmX9_isScene : Room := { frames := 1, cells := 0, slots := 0, locals := 22 }
abbrev mX9_isScene : MT := (rmX9_isScene, wsX9_isScene, cX9_isScene, 2, RX9, some .boolean)
theorem hd_X9_isScene : yX9_isScene.cls = RX9 ∧ yX9_isScene.cls ≠ "java/lang/invoke/MethodHandle" ∧ yX9_isScene.cls ≠ "java/lang/invoke/VarHandle" ∧ (parseMethodDescriptor yX9_isScene.desc).map (fun d => d.parameters.length) = some 1 := by decide +kernel
theorem inX9_isScene_9 : ∀ w ∈ wsX90, w ∈ wsX9_isScene := fun w h => List.mem_cons_of_mem _ (List.mem_append_right _ h)
set_option maxHeartbeats 4000000 in
set_option maxRecDepth 100000 in
theorem cm_X9_isScene (l : Launch) {X : XT} (hX : XD X) (g : Nat) (σ : Mem) (o : Nat) (hL : L9 o) (p1 : Int32) {r : Int32} (h : fX9_isScene g σ o p1 = some r) : Met l yX9_isScene wsX9_isScene rmX9_isScene (va_Pc [.ref (xad X o), .int p1] (WW X σ)) (QI X r σ) 0 0 (XA X) := by
  refine met_x (M := mX9_isScene) (lv := [(0, .ref (xad X o)), (1, .int p1)]) hX (by decide) rfl rfl (Nat.le_of_ble_eq_true rfl) rfl ?_
  unfold fX9_isScene at h
  refine k_iload_n (q := 1) dX9_isScene_0 rfl rfl ?_
  refine k_iconst (v := (nI 0)) dX9_isScene_1 (by decide) ?_
  refine k_aload_n (q := 0) dX9_isScene_2 rfl rfl ?_
  refine kg_9 (v := .ref (xad X (o + 1))) hL.1 inX9_isScene_9 0 (by decide) (List.mem_of_getElem? (i := 1) rfl) rfl dX9_isScene_3 ?_
  refine k_iconst (v := (nI 0)) dX9_isScene_6 (by decide) ?_
  refine k_iald (n := 6036) hL.2.1 dX9_isScene_7 h (fun h => ?_)
  refine k_iconst (v := (nI 1)) dX9_isScene_8 (by decide) ?_
  refine k_isub dX9_isScene_9 ?_
  obtain ⟨r2, hc1, h⟩ := bnd_e h
  refine k_cs (As := [.int p1, .int (nI 0), .int ((σ (o + 1) (nI 0).toNatClampNeg) - (nI 1))]) 3 (cm_X9_isIn l hX g σ p1 (nI 0) ((σ (o + 1) (nI 0).toNatClampNeg) - (nI 1)) hc1) gX9_isScene_X9_isIn rfl ⟨rfl, rfl⟩ hd_X9_isIn ⟨Nat.le_of_ble_eq_true rfl, Nat.le_of_ble_eq_true rfl⟩ ⟨Nat.le_refl _, Nat.le_refl _⟩ rfl (Nat.le_of_ble_eq_true rfl) rfl dX9_isScene_10 ?_
  exact k_zretR rfl dX9_isScene_13 (isZ_n (chk_e h).1) (chk_e h).2
abbrev rmX9_framesOf : Room := { frames := 0, cells := 0, slots := 0, locals := 0 }
abbrev mX9_framesOf : MT := (rmX9_framesOf, wsX9_framesOf, cX9_framesOf, 2, RX9, some .int)
theorem hd_X9_framesOf : yX9_framesOf.cls = RX9 ∧ yX9_framesOf.cls ≠ "java/lang/invoke/MethodHandle" ∧ yX9_framesOf.cls ≠ "java/lang/invoke/VarHandle" ∧ (parseMethodDescriptor yX9_framesOf.desc).map (fun d => d.parameters.length) = some 1 := by decide +kernel
theorem inX9_framesOf_9 : ∀ w ∈ wsX90, w ∈ wsX9_framesOf := fun w h => List.mem_cons_of_mem _ (List.mem_append_right _ h)
set_option maxHeartbeats 4000000 in
set_option maxRecDepth 100000 in
theorem cm_X9_framesOf (l : Launch) {X : XT} (hX : XD X) (g : Nat) (σ : Mem) (o : Nat) (hL : L9 o) (p1 : Int32) {r : Int32} (h : fX9_framesOf g σ o p1 = some r) : Met l yX9_framesOf wsX9_framesOf rmX9_framesOf (va_Pc [.ref (xad X o), .int p1] (WW X σ)) (QI X r σ) 0 0 (XA X) := by
  refine met_x (M := mX9_framesOf) (lv := [(0, .ref (xad X o)), (1, .int p1)]) hX (by decide) rfl rfl (Nat.le_of_ble_eq_true rfl) rfl ?_
  unfold fX9_framesOf at h
  refine k_aload_n (q := 0) dX9_framesOf_0 rfl rfl ?_
  refine kg_9 (v := .ref (xad X (o + 1))) hL.1 inX9_framesOf_9 0 (by decide) (List.mem_of_getElem? (i := 1) rfl) rfl dX9_framesOf_1 ?_
  refine k_bipush (v := (nI 8)) dX9_framesOf_4 (by decide) ?_
  refine k_iconst (v := (nI 2)) dX9_framesOf_6 (by decide) ?_
  refine k_iload_n (q := 1) dX9_framesOf_7 rfl rfl ?_
  refine k_imul dX9_framesOf_8 ?_
  refine k_iadd dX9_framesOf_9 ?_
  refine k_iconst (v := (nI 1)) dX9_framesOf_10 (by decide) ?_
  refine k_iadd dX9_framesOf_11 ?_
  refine k_iald (n := 6036) hL.2.1 dX9_framesOf_12 h (fun h => ?_)
  exact k_iretR rfl dX9_framesOf_13 h
abbrev rmX9_isFrame : Room := { frames := 2, cells := 0, slots := 0, locals := 43 }
abbrev mX9_isFrame : MT := (rmX9_isFrame, wsX9_isFrame, cX9_isFrame, 3, RX9, some .boolean)
theorem hd_X9_isFrame : yX9_isFrame.cls = RX9 ∧ yX9_isFrame.cls ≠ "java/lang/invoke/MethodHandle" ∧ yX9_isFrame.cls ≠ "java/lang/invoke/VarHandle" ∧ (parseMethodDescriptor yX9_isFrame.desc).map (fun d => d.parameters.length) = some 2 := by decide +kernel
theorem inX9_isFrame_9 : ∀ w ∈ wsX90, w ∈ wsX9_isFrame := fun w h => List.mem_cons_of_mem _ (List.mem_append_right _ h)
set_option maxHeartbeats 4000000 in
set_option maxRecDepth 100000 in
theorem cm_X9_isFrame (l : Launch) {X : XT} (hX : XD X) (g : Nat) (σ : Mem) (o : Nat) (hL : L9 o) (p1 : Int32) (p2 : Int32) {r : Int32} (h : fX9_isFrame g σ o p1 p2 = some r) : Met l yX9_isFrame wsX9_isFrame rmX9_isFrame (va_Pc [.ref (xad X o), .int p1, .int p2] (WW X σ)) (QI X r σ) 0 0 (XA X) := by
  refine met_x (M := mX9_isFrame) (lv := [(0, .ref (xad X o)), (1, .int p1), (2, .int p2)]) hX (by decide) rfl rfl (Nat.le_of_ble_eq_true rfl) rfl ?_
  unfold fX9_isFrame at h
  refine k_aload_n (q := 0) dX9_isFrame_0 rfl rfl ?_
  refine k_iload_n (q := 1) dX9_isFrame_1 rfl rfl ?_
  obtain ⟨r2, hc1, h⟩ := bnd_e h
  refine k_cv (q := (RX9, TX9, 12)) (As := [.int p1]) 1 (cm_X9_isScene l hX g σ o hL p1 hc1) gX9_isFrame_X9_isScene rfl ⟨rfl, rfl⟩ hd_X9_isScene ⟨Nat.le_of_ble_eq_true rfl, Nat.le_of_ble_eq_true rfl⟩ ⟨Nat.le_refl _, Nat.le_refl _⟩ (lay_lt hL.1 (by decide)) (ce_of hL.1) rfl rfl (Nat.le_of_ble_eq_true rfl) rfl dX9_isFrame_2 ?_
  refine k_if_eq (tgt := 27) dX9_isFrame_5 (by decide) h (fun h => ?_) (fun h => ?_)
  · refine k_iconst (v := (nI 0)) dX9_isFrame_27 (by decide) ?_
    exact k_zretR rfl dX9_isFrame_28 rfl h
  · refine k_iload_n (q := 2) dX9_isFrame_8 rfl rfl ?_
    refine k_iconst (v := (nI 0)) dX9_isFrame_9 (by decide) ?_
    refine k_aload_n (q := 0) dX9_isFrame_10 rfl rfl ?_
    refine k_iload_n (q := 1) dX9_isFrame_11 rfl rfl ?_
    obtain ⟨r4, hc3, h⟩ := bnd_e h
    refine k_cv (q := (RX9, TX9, 12)) (As := [.int p1]) 1 (cm_X9_framesOf l hX g σ o hL p1 hc3) gX9_isFrame_X9_framesOf rfl ⟨rfl, rfl⟩ hd_X9_framesOf ⟨Nat.le_of_ble_eq_true rfl, Nat.le_of_ble_eq_true rfl⟩ ⟨Nat.le_refl _, Nat.le_refl _⟩ (lay_lt hL.1 (by decide)) (ce_of hL.1) rfl rfl (Nat.le_of_ble_eq_true rfl) rfl dX9_isFrame_12 ?_
    refine k_iconst (v := (nI 1)) dX9_isFrame_15 (by decide) ?_
    refine k_isub dX9_isFrame_16 ?_
    obtain ⟨r6, hc5, h⟩ := bnd_e h
    refine k_cs (As := [.int p2, .int (nI 0), .int (r4 - (nI 1))]) 3 (cm_X9_isIn l hX g σ p2 (nI 0) (r4 - (nI 1)) hc5) gX9_isFrame_X9_isIn rfl ⟨rfl, rfl⟩ hd_X9_isIn ⟨Nat.le_of_ble_eq_true rfl, Nat.le_of_ble_eq_true rfl⟩ ⟨Nat.le_refl _, Nat.le_refl _⟩ rfl (Nat.le_of_ble_eq_true rfl) rfl dX9_isFrame_17 ?_
    refine k_if_eq (tgt := 27) dX9_isFrame_20 (by decide) h (fun h => ?_) (fun h => ?_)
    · refine k_iconst (v := (nI 0)) dX9_isFrame_27 (by decide) ?_
      exact k_zretR rfl dX9_isFrame_28 rfl h
    · refine k_iconst (v := (nI 1)) dX9_isFrame_23 (by decide) ?_
      refine k_goto (tgt := 28) dX9_isFrame_24 (by decide) ?_
      exact k_zretR rfl dX9_isFrame_28 rfl h
abbrev rmX9_isPiece : Room := { frames := 1, cells := 0, slots := 0, locals := 22 }
abbrev mX9_isPiece : MT := (rmX9_isPiece, wsX9_isPiece, cX9_isPiece, 2, RX9, some .boolean)
theorem hd_X9_isPiece : yX9_isPiece.cls = RX9 ∧ yX9_isPiece.cls ≠ "java/lang/invoke/MethodHandle" ∧ yX9_isPiece.cls ≠ "java/lang/invoke/VarHandle" ∧ (parseMethodDescriptor yX9_isPiece.desc).map (fun d => d.parameters.length) = some 1 := by decide +kernel
theorem inX9_isPiece_9 : ∀ w ∈ wsX90, w ∈ wsX9_isPiece := fun w h => List.mem_cons_of_mem _ (List.mem_append_right _ h)
set_option maxHeartbeats 4000000 in
set_option maxRecDepth 100000 in
theorem cm_X9_isPiece (l : Launch) {X : XT} (hX : XD X) (g : Nat) (σ : Mem) (o : Nat) (hL : L9 o) (p1 : Int32) {r : Int32} (h : fX9_isPiece g σ o p1 = some r) : Met l yX9_isPiece wsX9_isPiece rmX9_isPiece (va_Pc [.ref (xad X o), .int p1] (WW X σ)) (QI X r σ) 0 0 (XA X) := by
  refine met_x (M := mX9_isPiece) (lv := [(0, .ref (xad X o)), (1, .int p1)]) hX (by decide) rfl rfl (Nat.le_of_ble_eq_true rfl) rfl ?_
  unfold fX9_isPiece at h
  refine k_iload_n (q := 1) dX9_isPiece_0 rfl rfl ?_
  refine k_iconst (v := (nI 0)) dX9_isPiece_1 (by decide) ?_
  refine k_aload_n (q := 0) dX9_isPiece_2 rfl rfl ?_
  refine kg_9 (v := .ref (xad X (o + 1))) hL.1 inX9_isPiece_9 0 (by decide) (List.mem_of_getElem? (i := 1) rfl) rfl dX9_isPiece_3 ?_
  refine k_iconst (v := (nI 1)) dX9_isPiece_6 (by decide) ?_
  refine k_iald (n := 6036) hL.2.1 dX9_isPiece_7 h (fun h => ?_)
  refine k_iconst (v := (nI 1)) dX9_isPiece_8 (by decide) ?_
  refine k_isub dX9_isPiece_9 ?_
  obtain ⟨r2, hc1, h⟩ := bnd_e h
  refine k_cs (As := [.int p1, .int (nI 0), .int ((σ (o + 1) (nI 1).toNatClampNeg) - (nI 1))]) 3 (cm_X9_isIn l hX g σ p1 (nI 0) ((σ (o + 1) (nI 1).toNatClampNeg) - (nI 1)) hc1) gX9_isPiece_X9_isIn rfl ⟨rfl, rfl⟩ hd_X9_isIn ⟨Nat.le_of_ble_eq_true rfl, Nat.le_of_ble_eq_true rfl⟩ ⟨Nat.le_refl _, Nat.le_refl _⟩ rfl (Nat.le_of_ble_eq_true rfl) rfl dX9_isPiece_10 ?_
  exact k_zretR rfl dX9_isPiece_13 (isZ_n (chk_e h).1) (chk_e h).2
abbrev rmX9_ofP : Room := { frames := 0, cells := 0, slots := 0, locals := 0 }
abbrev mX9_ofP : MT := (rmX9_ofP, wsX9_ofP, cX9_ofP, 3, RX9, some .int)
theorem hd_X9_ofP : yX9_ofP.cls = RX9 ∧ yX9_ofP.cls ≠ "java/lang/invoke/MethodHandle" ∧ yX9_ofP.cls ≠ "java/lang/invoke/VarHandle" ∧ (parseMethodDescriptor yX9_ofP.desc).map (fun d => d.parameters.length) = some 2 := by decide +kernel
theorem inX9_ofP_9 : ∀ w ∈ wsX90, w ∈ wsX9_ofP := fun w h => List.mem_cons_of_mem _ (List.mem_append_right _ h)
set_option maxHeartbeats 4000000 in
set_option maxRecDepth 100000 in
theorem cm_X9_ofP (l : Launch) {X : XT} (hX : XD X) (g : Nat) (σ : Mem) (o : Nat) (hL : L9 o) (p1 : Int32) (p2 : Int32) {r : Int32} (h : fX9_ofP g σ o p1 p2 = some r) : Met l yX9_ofP wsX9_ofP rmX9_ofP (va_Pc [.ref (xad X o), .int p1, .int p2] (WW X σ)) (QI X r σ) 0 0 (XA X) := by
  refine met_x (M := mX9_ofP) (lv := [(0, .ref (xad X o)), (1, .int p1), (2, .int p2)]) hX (by decide) rfl rfl (Nat.le_of_ble_eq_true rfl) rfl ?_
  unfold fX9_ofP at h
  refine k_aload_n (q := 0) dX9_ofP_0 rfl rfl ?_
  refine kg_9 (v := .ref (xad X (o + 1))) hL.1 inX9_ofP_9 0 (by decide) (List.mem_of_getElem? (i := 1) rfl) rfl dX9_ofP_1 ?_
  refine k_sipush (v := (nI 992)) dX9_ofP_4 (by decide) ?_
  refine k_iconst (v := (nI 4)) dX9_ofP_7 (by decide) ?_
  refine k_iload_n (q := 1) dX9_ofP_8 rfl rfl ?_
  refine k_imul dX9_ofP_9 ?_
  refine k_iadd dX9_ofP_10 ?_
  refine k_iload_n (q := 2) dX9_ofP_11 rfl rfl ?_
  refine k_iadd dX9_ofP_12 ?_
  refine k_iald (n := 6036) hL.2.1 dX9_ofP_13 h (fun h => ?_)
  exact k_iretR rfl dX9_ofP_14 h
abbrev rmX9_setsP : Room := { frames := 0, cells := 0, slots := 0, locals := 0 }
abbrev mX9_setsP : MT := (rmX9_setsP, wsX9_setsP, cX9_setsP, 4, RX9, none)
theorem hd_X9_setsP : yX9_setsP.cls = RX9 ∧ yX9_setsP.cls ≠ "java/lang/invoke/MethodHandle" ∧ yX9_setsP.cls ≠ "java/lang/invoke/VarHandle" ∧ (parseMethodDescriptor yX9_setsP.desc).map (fun d => d.parameters.length) = some 3 := by decide +kernel
theorem inX9_setsP_9 : ∀ w ∈ wsX90, w ∈ wsX9_setsP := fun w h => List.mem_cons_of_mem _ (List.mem_append_right _ h)
set_option maxHeartbeats 4000000 in
set_option maxRecDepth 100000 in
theorem cm_X9_setsP (l : Launch) {X : XT} (hX : XD X) (g : Nat) (σ : Mem) (o : Nat) (hL : L9 o) (p1 : Int32) (p2 : Int32) (p3 : Int32) {σ' : Mem} (h : fX9_setsP g σ o p1 p2 p3 = some σ') : Met l yX9_setsP wsX9_setsP rmX9_setsP (va_Pc [.ref (xad X o), .int p1, .int p2, .int p3] (WW X σ)) (QV X σ') 0 0 (XA X) := by
  refine met_x (M := mX9_setsP) (lv := [(0, .ref (xad X o)), (1, .int p1), (2, .int p2), (3, .int p3)]) hX (by decide) rfl rfl (Nat.le_of_ble_eq_true rfl) rfl ?_
  unfold fX9_setsP at h
  refine k_aload_n (q := 0) dX9_setsP_0 rfl rfl ?_
  refine kg_9 (v := .ref (xad X (o + 1))) hL.1 inX9_setsP_9 0 (by decide) (List.mem_of_getElem? (i := 1) rfl) rfl dX9_setsP_1 ?_
  refine k_sipush (v := (nI 992)) dX9_setsP_4 (by decide) ?_
  refine k_iconst (v := (nI 4)) dX9_setsP_7 (by decide) ?_
  refine k_iload_n (q := 1) dX9_setsP_8 rfl rfl ?_
  refine k_imul dX9_setsP_9 ?_
  refine k_iadd dX9_setsP_10 ?_
  refine k_iload_n (q := 2) dX9_setsP_11 rfl rfl ?_
  refine k_iadd dX9_setsP_12 ?_
  refine k_iload_n (q := 3) dX9_setsP_13 rfl rfl ?_
  refine k_iast (n := 6036) hL.2.1 dX9_setsP_14 h (fun σ1 h => ?_)
  exact k_vret rfl dX9_setsP_15 h
abbrev rmX9_ofC : Room := { frames := 0, cells := 0, slots := 0, locals := 0 }
abbrev mX9_ofC : MT := (rmX9_ofC, wsX9_ofC, cX9_ofC, 3, RX9, some .int)
theorem hd_X9_ofC : yX9_ofC.cls = RX9 ∧ yX9_ofC.cls ≠ "java/lang/invoke/MethodHandle" ∧ yX9_ofC.cls ≠ "java/lang/invoke/VarHandle" ∧ (parseMethodDescriptor yX9_ofC.desc).map (fun d => d.parameters.length) = some 2 := by decide +kernel
theorem inX9_ofC_9 : ∀ w ∈ wsX90, w ∈ wsX9_ofC := fun w h => List.mem_cons_of_mem _ (List.mem_append_right _ h)
set_option maxHeartbeats 4000000 in
set_option maxRecDepth 100000 in
theorem cm_X9_ofC (l : Launch) {X : XT} (hX : XD X) (g : Nat) (σ : Mem) (o : Nat) (hL : L9 o) (p1 : Int32) (p2 : Int32) {r : Int32} (h : fX9_ofC g σ o p1 p2 = some r) : Met l yX9_ofC wsX9_ofC rmX9_ofC (va_Pc [.ref (xad X o), .int p1, .int p2] (WW X σ)) (QI X r σ) 0 0 (XA X) := by
  refine met_x (M := mX9_ofC) (lv := [(0, .ref (xad X o)), (1, .int p1), (2, .int p2)]) hX (by decide) rfl rfl (Nat.le_of_ble_eq_true rfl) rfl ?_
  unfold fX9_ofC at h
  refine k_aload_n (q := 0) dX9_ofC_0 rfl rfl ?_
  refine kg_9 (v := .ref (xad X (o + 1))) hL.1 inX9_ofC_9 0 (by decide) (List.mem_of_getElem? (i := 1) rfl) rfl dX9_ofC_1 ?_
  refine k_sipush (v := (nI 1072)) dX9_ofC_4 (by decide) ?_
  refine k_iconst (v := (nI 3)) dX9_ofC_7 (by decide) ?_
  refine k_iload_n (q := 1) dX9_ofC_8 rfl rfl ?_
  refine k_imul dX9_ofC_9 ?_
  refine k_iadd dX9_ofC_10 ?_
  refine k_iload_n (q := 2) dX9_ofC_11 rfl rfl ?_
  refine k_iadd dX9_ofC_12 ?_
  refine k_iald (n := 6036) hL.2.1 dX9_ofC_13 h (fun h => ?_)
  exact k_iretR rfl dX9_ofC_14 h
abbrev rmX9_framesIn : Room := { frames := 1, cells := 0, slots := 0, locals := 22 }
abbrev mX9_framesIn : MT := (rmX9_framesIn, wsX9_framesIn, cX9_framesIn, 2, RX9, some .int)
theorem hd_X9_framesIn : yX9_framesIn.cls = RX9 ∧ yX9_framesIn.cls ≠ "java/lang/invoke/MethodHandle" ∧ yX9_framesIn.cls ≠ "java/lang/invoke/VarHandle" ∧ (parseMethodDescriptor yX9_framesIn.desc).map (fun d => d.parameters.length) = some 1 := by decide +kernel
theorem inX9_framesIn_9 : ∀ w ∈ wsX90, w ∈ wsX9_framesIn := fun w h => List.mem_cons_of_mem _ (List.mem_append_right _ h)
set_option maxHeartbeats 4000000 in
set_option maxRecDepth 100000 in
theorem cm_X9_framesIn (l : Launch) {X : XT} (hX : XD X) (g : Nat) (σ : Mem) (o : Nat) (hL : L9 o) (p1 : Int32) {r : Int32} (h : fX9_framesIn g σ o p1 = some r) : Met l yX9_framesIn wsX9_framesIn rmX9_framesIn (va_Pc [.ref (xad X o), .int p1] (WW X σ)) (QI X r σ) 0 0 (XA X) := by
  refine met_x (M := mX9_framesIn) (lv := [(0, .ref (xad X o)), (1, .int p1)]) hX (by decide) rfl rfl (Nat.le_of_ble_eq_true rfl) rfl ?_
  unfold fX9_framesIn at h
  refine k_aload_n (q := 0) dX9_framesIn_0 rfl rfl ?_
  refine k_iload_n (q := 1) dX9_framesIn_1 rfl rfl ?_
  refine k_iconst (v := (nI 2)) dX9_framesIn_2 (by decide) ?_
  obtain ⟨r2, hc1, h⟩ := bnd_e h
  refine k_cv (q := (RX9, TX9, 12)) (As := [.int p1, .int (nI 2)]) 2 (cm_X9_ofP l hX g σ o hL p1 (nI 2) hc1) gX9_framesIn_X9_ofP rfl ⟨rfl, rfl⟩ hd_X9_ofP ⟨Nat.le_of_ble_eq_true rfl, Nat.le_of_ble_eq_true rfl⟩ ⟨Nat.le_refl _, Nat.le_refl _⟩ (lay_lt hL.1 (by decide)) (ce_of hL.1) rfl rfl (Nat.le_of_ble_eq_true rfl) rfl dX9_framesIn_3 ?_
  refine k_aload_n (q := 0) dX9_framesIn_6 rfl rfl ?_
  refine k_iload_n (q := 1) dX9_framesIn_7 rfl rfl ?_
  refine k_iconst (v := (nI 1)) dX9_framesIn_8 (by decide) ?_
  obtain ⟨r4, hc3, h⟩ := bnd_e h
  refine k_cv (q := (RX9, TX9, 12)) (As := [.int p1, .int (nI 1)]) 2 (cm_X9_ofP l hX g σ o hL p1 (nI 1) hc3) gX9_framesIn_X9_ofP rfl ⟨rfl, rfl⟩ hd_X9_ofP ⟨Nat.le_of_ble_eq_true rfl, Nat.le_of_ble_eq_true rfl⟩ ⟨Nat.le_refl _, Nat.le_refl _⟩ (lay_lt hL.1 (by decide)) (ce_of hL.1) rfl rfl (Nat.le_of_ble_eq_true rfl) rfl dX9_framesIn_9 ?_
  refine k_isub dX9_framesIn_12 ?_
  refine k_iconst (v := (nI 1)) dX9_framesIn_13 (by decide) ?_
  refine k_iadd dX9_framesIn_14 ?_
  exact k_iretR rfl dX9_framesIn_15 h
abbrev rmX9_positionOf : Room := { frames := 2, cells := 0, slots := 0, locals := 43 }
abbrev mX9_positionOf : MT := (rmX9_positionOf, wsX9_positionOf, cX9_positionOf, 4, RX9, some .int)
theorem hd_X9_positionOf : yX9_positionOf.cls = RX9 ∧ yX9_positionOf.cls ≠ "java/lang/invoke/MethodHandle" ∧ yX9_positionOf.cls ≠ "java/lang/invoke/VarHandle" ∧ (parseMethodDescriptor yX9_positionOf.desc).map (fun d => d.parameters.length) = some 1 := by decide +kernel
theorem inX9_positionOf_9 : ∀ w ∈ wsX90, w ∈ wsX9_positionOf := fun w h => List.mem_cons_of_mem _ (List.mem_append_right _ h)
set_option maxHeartbeats 4000000 in
set_option maxRecDepth 100000 in
theorem wX9_positionOf_4 (l : Launch) {X : XT} (hX : XD X) (g : Nat) (o : Nat) (hL : L9 o) {r : Int32} : ∀ (n : Nat) (σ : Mem) (x1 : Int32) (x2 : Int32) (x3 : Int32), fX9_positionOf_4 g o n σ x1 x2 x3 = some r → WG X l mX9_positionOf (fun _ _ => True) 0 0 (QM X (QI X r σ)) 4 σ [(0, .ref (xad X o)), (1, .int x1), (2, .int x2), (3, .int x3)] [] := by
  intro n
  induction n with
  | zero => intro σ x1 x2 x3 h; exact nomatch (show (none : Option _) = some _ from h)
  | succ n ih =>
    intro σ x1 x2 x3 h
    rw [fX9_positionOf_4] at h
    refine k_iload_n (q := 3) dX9_positionOf_4 rfl rfl ?_
    refine k_iload_n (q := 1) dX9_positionOf_5 rfl rfl ?_
    refine k_icmp_ge (tgt := 23) dX9_positionOf_6 (by decide) h (fun h => ?_) (fun h => ?_)
    · refine k_iload_n (q := 2) dX9_positionOf_23 rfl rfl ?_
      exact k_iretR rfl dX9_positionOf_24 h
    · refine k_iload_n (q := 2) dX9_positionOf_9 rfl rfl ?_
      refine k_aload_n (q := 0) dX9_positionOf_10 rfl rfl ?_
      refine k_iload_n (q := 3) dX9_positionOf_11 rfl rfl ?_
      obtain ⟨r2, hc1, h⟩ := bnd_e h
      refine k_cv (q := (RX9, TX9, 12)) (As := [.int x3]) 1 (cm_X9_framesIn l hX g σ o hL x3 hc1) gX9_positionOf_X9_framesIn rfl ⟨rfl, rfl⟩ hd_X9_framesIn ⟨Nat.le_of_ble_eq_true rfl, Nat.le_of_ble_eq_true rfl⟩ ⟨Nat.le_refl _, Nat.le_refl _⟩ (lay_lt hL.1 (by decide)) (ce_of hL.1) rfl rfl (Nat.le_of_ble_eq_true rfl) rfl dX9_positionOf_12 ?_
      refine k_iadd dX9_positionOf_15 ?_
      refine k_istore_n (lv' := [(2, .int (x2 + r2)), (0, .ref (xad X o)), (1, .int x1), (3, .int x3)]) dX9_positionOf_16 rfl (Nat.le_of_ble_eq_true rfl) rfl ?_
      refine k_iinc (q := 3) (v := (x3 + (nI 1))) (lv' := [(3, .int (x3 + (nI 1))), (2, .int (x2 + r2)), (0, .ref (xad X o)), (1, .int x1)]) dX9_positionOf_17 rfl rfl (Nat.le_of_ble_eq_true rfl) rfl ?_
      refine k_goto (tgt := 4) dX9_positionOf_20 (by decide) ?_
      refine k_sub (ks' := [2, 3, 1, 0]) rfl ?_
      exact ih σ x1 (x2 + r2) (x3 + (nI 1)) h
set_option maxHeartbeats 4000000 in
set_option maxRecDepth 100000 in
theorem cm_X9_positionOf (l : Launch) {X : XT} (hX : XD X) (g : Nat) (σ : Mem) (o : Nat) (hL : L9 o) (p1 : Int32) {r : Int32} (h : fX9_positionOf g σ o p1 = some r) : Met l yX9_positionOf wsX9_positionOf rmX9_positionOf (va_Pc [.ref (xad X o), .int p1] (WW X σ)) (QI X r σ) 0 0 (XA X) := by
  refine met_x (M := mX9_positionOf) (lv := [(0, .ref (xad X o)), (1, .int p1)]) hX (by decide) rfl rfl (Nat.le_of_ble_eq_true rfl) rfl ?_
  unfold fX9_positionOf at h
  refine k_iconst (v := (nI 0)) dX9_positionOf_0 (by decide) ?_
  refine k_istore_n (lv' := [(2, .int (nI 0)), (0, .ref (xad X o)), (1, .int p1)]) dX9_positionOf_1 rfl (Nat.le_of_ble_eq_true rfl) rfl ?_
  refine k_iconst (v := (nI 0)) dX9_positionOf_2 (by decide) ?_
  refine k_istore_n (lv' := [(3, .int (nI 0)), (2, .int (nI 0)), (0, .ref (xad X o)), (1, .int p1)]) dX9_positionOf_3 rfl (Nat.le_of_ble_eq_true rfl) rfl ?_
  refine k_sub (ks' := [2, 3, 1, 0]) rfl ?_
  exact wX9_positionOf_4 l hX g o hL g σ p1 (nI 0) (nI 0) h
abbrev rmX9_pieceAt : Room := { frames := 3, cells := 0, slots := 0, locals := 66 }
abbrev mX9_pieceAt : MT := (rmX9_pieceAt, wsX9_pieceAt, cX9_pieceAt, 3, RX9, some .int)
theorem hd_X9_pieceAt : yX9_pieceAt.cls = RX9 ∧ yX9_pieceAt.cls ≠ "java/lang/invoke/MethodHandle" ∧ yX9_pieceAt.cls ≠ "java/lang/invoke/VarHandle" ∧ (parseMethodDescriptor yX9_pieceAt.desc).map (fun d => d.parameters.length) = some 1 := by decide +kernel
theorem inX9_pieceAt_9 : ∀ w ∈ wsX90, w ∈ wsX9_pieceAt := fun w h => List.mem_cons_of_mem _ (List.mem_append_right _ h)
set_option maxHeartbeats 4000000 in
set_option maxRecDepth 100000 in
theorem wX9_pieceAt_2 (l : Launch) {X : XT} (hX : XD X) (g : Nat) (o : Nat) (hL : L9 o) {r : Int32} : ∀ (n : Nat) (σ : Mem) (x1 : Int32) (x2 : Int32), fX9_pieceAt_2 g o n σ x1 x2 = some r → WG X l mX9_pieceAt (fun _ _ => True) 0 0 (QM X (QI X r σ)) 2 σ [(0, .ref (xad X o)), (1, .int x1), (2, .int x2)] [] := by
  intro n
  induction n with
  | zero => intro σ x1 x2 h; exact nomatch (show (none : Option _) = some _ from h)
  | succ n ih =>
    intro σ x1 x2 h
    rw [fX9_pieceAt_2] at h
    refine k_iload_n (q := 1) dX9_pieceAt_2 rfl rfl ?_
    refine k_aload_n (q := 0) dX9_pieceAt_3 rfl rfl ?_
    refine k_iload_n (q := 2) dX9_pieceAt_4 rfl rfl ?_
    obtain ⟨r2, hc1, h⟩ := bnd_e h
    refine k_cv (q := (RX9, TX9, 12)) (As := [.int x2]) 1 (cm_X9_positionOf l hX g σ o hL x2 hc1) gX9_pieceAt_X9_positionOf rfl ⟨rfl, rfl⟩ hd_X9_positionOf ⟨Nat.le_of_ble_eq_true rfl, Nat.le_of_ble_eq_true rfl⟩ ⟨Nat.le_refl _, Nat.le_refl _⟩ (lay_lt hL.1 (by decide)) (ce_of hL.1) rfl rfl (Nat.le_of_ble_eq_true rfl) rfl dX9_pieceAt_5 ?_
    refine k_aload_n (q := 0) dX9_pieceAt_8 rfl rfl ?_
    refine k_iload_n (q := 2) dX9_pieceAt_9 rfl rfl ?_
    obtain ⟨r4, hc3, h⟩ := bnd_e h
    refine k_cv (q := (RX9, TX9, 12)) (As := [.int x2]) 1 (cm_X9_framesIn l hX g σ o hL x2 hc3) gX9_pieceAt_X9_framesIn rfl ⟨rfl, rfl⟩ hd_X9_framesIn ⟨Nat.le_of_ble_eq_true rfl, Nat.le_of_ble_eq_true rfl⟩ ⟨Nat.le_refl _, Nat.le_refl _⟩ (lay_lt hL.1 (by decide)) (ce_of hL.1) rfl rfl (Nat.le_of_ble_eq_true rfl) rfl dX9_pieceAt_10 ?_
    refine k_iadd dX9_pieceAt_13 ?_
    refine k_icmp_lt (tgt := 23) dX9_pieceAt_14 (by decide) h (fun h => ?_) (fun h => ?_)
    · refine k_iload_n (q := 2) dX9_pieceAt_23 rfl rfl ?_
      exact k_iretR rfl dX9_pieceAt_24 h
    · refine k_iinc (q := 2) (v := (x2 + (nI 1))) (lv' := [(2, .int (x2 + (nI 1))), (0, .ref (xad X o)), (1, .int x1)]) dX9_pieceAt_17 rfl rfl (Nat.le_of_ble_eq_true rfl) rfl ?_
      refine k_goto (tgt := 2) dX9_pieceAt_20 (by decide) ?_
      refine k_sub (ks' := [1, 2, 0]) rfl ?_
      exact ih σ x1 (x2 + (nI 1)) h
set_option maxHeartbeats 4000000 in
set_option maxRecDepth 100000 in
theorem cm_X9_pieceAt (l : Launch) {X : XT} (hX : XD X) (g : Nat) (σ : Mem) (o : Nat) (hL : L9 o) (p1 : Int32) {r : Int32} (h : fX9_pieceAt g σ o p1 = some r) : Met l yX9_pieceAt wsX9_pieceAt rmX9_pieceAt (va_Pc [.ref (xad X o), .int p1] (WW X σ)) (QI X r σ) 0 0 (XA X) := by
  refine met_x (M := mX9_pieceAt) (lv := [(0, .ref (xad X o)), (1, .int p1)]) hX (by decide) rfl rfl (Nat.le_of_ble_eq_true rfl) rfl ?_
  unfold fX9_pieceAt at h
  refine k_iconst (v := (nI 0)) dX9_pieceAt_0 (by decide) ?_
  refine k_istore_n (lv' := [(2, .int (nI 0)), (0, .ref (xad X o)), (1, .int p1)]) dX9_pieceAt_1 rfl (Nat.le_of_ble_eq_true rfl) rfl ?_
  refine k_sub (ks' := [1, 2, 0]) rfl ?_
  exact wX9_pieceAt_2 l hX g o hL g σ p1 (nI 0) h
abbrev rmX9_torn : Room := { frames := 0, cells := 0, slots := 0, locals := 0 }
abbrev mX9_torn : MT := (rmX9_torn, wsX9_torn, cX9_torn, 3, RX9, some .int)
theorem hd_X9_torn : yX9_torn.cls = RX9 ∧ yX9_torn.cls ≠ "java/lang/invoke/MethodHandle" ∧ yX9_torn.cls ≠ "java/lang/invoke/VarHandle" ∧ (parseMethodDescriptor yX9_torn.desc).map (fun d => d.parameters.length) = some 2 := by decide +kernel
theorem inX9_torn_9 : ∀ w ∈ wsX90, w ∈ wsX9_torn := fun w h => List.mem_cons_of_mem _ (List.mem_append_right _ h)
set_option maxHeartbeats 4000000 in
set_option maxRecDepth 100000 in
theorem cm_X9_torn (l : Launch) {X : XT} (hX : XD X) (g : Nat) (σ : Mem) (o : Nat) (hL : L9 o) (p1 : Int32) (p2 : Int32) {r : Int32} (h : fX9_torn g σ o p1 p2 = some r) : Met l yX9_torn wsX9_torn rmX9_torn (va_Pc [.ref (xad X o), .int p1, .int p2] (WW X σ)) (QI X r σ) 0 0 (XA X) := by
  refine met_x (M := mX9_torn) (lv := [(0, .ref (xad X o)), (1, .int p1), (2, .int p2)]) hX (by decide) rfl rfl (Nat.le_of_ble_eq_true rfl) rfl ?_
  unfold fX9_torn at h
  refine k_aload_n (q := 0) dX9_torn_0 rfl rfl ?_
  refine kg_9 (v := .ref (xad X (o + 1))) hL.1 inX9_torn_9 0 (by decide) (List.mem_of_getElem? (i := 1) rfl) rfl dX9_torn_1 ?_
  refine k_bipush (v := (nI 32)) dX9_torn_4 (by decide) ?_
  refine k_iconst (v := (nI 2)) dX9_torn_6 (by decide) ?_
  refine k_bipush (v := (nI 40)) dX9_torn_7 (by decide) ?_
  refine k_iload_n (q := 1) dX9_torn_9 rfl rfl ?_
  refine k_imul dX9_torn_10 ?_
  refine k_iload_n (q := 2) dX9_torn_11 rfl rfl ?_
  refine k_iadd dX9_torn_12 ?_
  refine k_imul dX9_torn_13 ?_
  refine k_iadd dX9_torn_14 ?_
  refine k_iald (n := 6036) hL.2.1 dX9_torn_15 h (fun h => ?_)
  exact k_iretR rfl dX9_torn_16 h
abbrev rmX9_passes : Room := { frames := 0, cells := 0, slots := 0, locals := 0 }
abbrev mX9_passes : MT := (rmX9_passes, wsX9_passes, cX9_passes, 3, RX9, some .int)
theorem hd_X9_passes : yX9_passes.cls = RX9 ∧ yX9_passes.cls ≠ "java/lang/invoke/MethodHandle" ∧ yX9_passes.cls ≠ "java/lang/invoke/VarHandle" ∧ (parseMethodDescriptor yX9_passes.desc).map (fun d => d.parameters.length) = some 2 := by decide +kernel
theorem inX9_passes_9 : ∀ w ∈ wsX90, w ∈ wsX9_passes := fun w h => List.mem_cons_of_mem _ (List.mem_append_right _ h)
set_option maxHeartbeats 4000000 in
set_option maxRecDepth 100000 in
theorem cm_X9_passes (l : Launch) {X : XT} (hX : XD X) (g : Nat) (σ : Mem) (o : Nat) (hL : L9 o) (p1 : Int32) (p2 : Int32) {r : Int32} (h : fX9_passes g σ o p1 p2 = some r) : Met l yX9_passes wsX9_passes rmX9_passes (va_Pc [.ref (xad X o), .int p1, .int p2] (WW X σ)) (QI X r σ) 0 0 (XA X) := by
  refine met_x (M := mX9_passes) (lv := [(0, .ref (xad X o)), (1, .int p1), (2, .int p2)]) hX (by decide) rfl rfl (Nat.le_of_ble_eq_true rfl) rfl ?_
  unfold fX9_passes at h
  refine k_aload_n (q := 0) dX9_passes_0 rfl rfl ?_
  refine kg_9 (v := .ref (xad X (o + 1))) hL.1 inX9_passes_9 0 (by decide) (List.mem_of_getElem? (i := 1) rfl) rfl dX9_passes_1 ?_
  refine k_bipush (v := (nI 32)) dX9_passes_4 (by decide) ?_
  refine k_iconst (v := (nI 2)) dX9_passes_6 (by decide) ?_
  refine k_bipush (v := (nI 40)) dX9_passes_7 (by decide) ?_
  refine k_iload_n (q := 1) dX9_passes_9 rfl rfl ?_
  refine k_imul dX9_passes_10 ?_
  refine k_iload_n (q := 2) dX9_passes_11 rfl rfl ?_
  refine k_iadd dX9_passes_12 ?_
  refine k_imul dX9_passes_13 ?_
  refine k_iadd dX9_passes_14 ?_
  refine k_iconst (v := (nI 1)) dX9_passes_15 (by decide) ?_
  refine k_iadd dX9_passes_16 ?_
  refine k_iald (n := 6036) hL.2.1 dX9_passes_17 h (fun h => ?_)
  exact k_iretR rfl dX9_passes_18 h
abbrev rmX9_good : Room := { frames := 1, cells := 0, slots := 0, locals := 22 }
abbrev mX9_good : MT := (rmX9_good, wsX9_good, cX9_good, 3, RX9, some .int)
theorem hd_X9_good : yX9_good.cls = RX9 ∧ yX9_good.cls ≠ "java/lang/invoke/MethodHandle" ∧ yX9_good.cls ≠ "java/lang/invoke/VarHandle" ∧ (parseMethodDescriptor yX9_good.desc).map (fun d => d.parameters.length) = some 2 := by decide +kernel
theorem inX9_good_9 : ∀ w ∈ wsX90, w ∈ wsX9_good := fun w h => List.mem_cons_of_mem _ (List.mem_append_right _ h)
set_option maxHeartbeats 4000000 in
set_option maxRecDepth 100000 in
theorem cm_X9_good (l : Launch) {X : XT} (hX : XD X) (g : Nat) (σ : Mem) (o : Nat) (hL : L9 o) (p1 : Int32) (p2 : Int32) {r : Int32} (h : fX9_good g σ o p1 p2 = some r) : Met l yX9_good wsX9_good rmX9_good (va_Pc [.ref (xad X o), .int p1, .int p2] (WW X σ)) (QI X r σ) 0 0 (XA X) := by
  refine met_x (M := mX9_good) (lv := [(0, .ref (xad X o)), (1, .int p1), (2, .int p2)]) hX (by decide) rfl rfl (Nat.le_of_ble_eq_true rfl) rfl ?_
  unfold fX9_good at h
  refine k_iconst (v := (nI 4)) dX9_good_0 (by decide) ?_
  refine k_aload_n (q := 0) dX9_good_1 rfl rfl ?_
  refine k_iload_n (q := 1) dX9_good_2 rfl rfl ?_
  refine k_iload_n (q := 2) dX9_good_3 rfl rfl ?_
  obtain ⟨r2, hc1, h⟩ := bnd_e h
  refine k_cv (q := (RX9, TX9, 12)) (As := [.int p1, .int p2]) 2 (cm_X9_torn l hX g σ o hL p1 p2 hc1) gX9_good_X9_torn rfl ⟨rfl, rfl⟩ hd_X9_torn ⟨Nat.le_of_ble_eq_true rfl, Nat.le_of_ble_eq_true rfl⟩ ⟨Nat.le_refl _, Nat.le_refl _⟩ (lay_lt hL.1 (by decide)) (ce_of hL.1) rfl rfl (Nat.le_of_ble_eq_true rfl) rfl dX9_good_4 ?_
  obtain ⟨r4, hc3, h⟩ := bnd_e h
  refine k_cs (As := [.int r2]) 1 (cm_X9_ones l hX g σ r2 hc3) gX9_good_X9_ones rfl ⟨rfl, rfl⟩ hd_X9_ones ⟨Nat.le_of_ble_eq_true rfl, Nat.le_of_ble_eq_true rfl⟩ ⟨Nat.le_refl _, Nat.le_refl _⟩ rfl (Nat.le_of_ble_eq_true rfl) rfl dX9_good_7 ?_
  refine k_isub dX9_good_10 ?_
  exact k_iretR rfl dX9_good_11 h
abbrev rmX9_inserts : Room := { frames := 2, cells := 0, slots := 0, locals := 43 }
abbrev mX9_inserts : MT := (rmX9_inserts, wsX9_inserts, cX9_inserts, 6, RX9, none)
theorem hd_X9_inserts : yX9_inserts.cls = RX9 ∧ yX9_inserts.cls ≠ "java/lang/invoke/MethodHandle" ∧ yX9_inserts.cls ≠ "java/lang/invoke/VarHandle" ∧ (parseMethodDescriptor yX9_inserts.desc).map (fun d => d.parameters.length) = some 4 := by decide +kernel
theorem inX9_inserts_9 : ∀ w ∈ wsX90, w ∈ wsX9_inserts := fun w h => List.mem_cons_of_mem _ (List.mem_append_right _ h)
set_option maxHeartbeats 4000000 in
set_option maxRecDepth 100000 in
theorem wX9_inserts_12 (l : Launch) {X : XT} (hX : XD X) (g : Nat) (o : Nat) (hL : L9 o) {σ' : Mem} : ∀ (n : Nat) (σ : Mem) (x1 : Int32) (x2 : Int32) (x3 : Int32) (x4 : Int32) (x5 : Int32), fX9_inserts_12 g o n σ x1 x2 x3 x4 x5 = some σ' → WG X l mX9_inserts (fun _ _ => True) 0 0 (QM X (QV X σ')) 12 σ [(0, .ref (xad X o)), (1, .int x1), (2, .int x2), (3, .int x3), (4, .int x4), (5, .int x5)] [] := by
  intro n
  induction n with
  | zero => intro σ x1 x2 x3 x4 x5 h; exact nomatch (show (none : Option _) = some _ from h)
  | succ n ih =>
    intro σ x1 x2 x3 x4 x5 h
    rw [fX9_inserts_12] at h
    refine k_iload (q := 5) dX9_inserts_12 rfl ?_
    refine k_iconst (v := (nI 4)) dX9_inserts_14 (by decide) ?_
    refine k_iload_n (q := 1) dX9_inserts_15 rfl rfl ?_
    refine k_imul dX9_inserts_16 ?_
    refine k_icmp_lt (tgt := 50) dX9_inserts_17 (by decide) h (fun h => ?_) (fun h => ?_)
    · refine k_aload_n (q := 0) dX9_inserts_50 rfl rfl ?_
      refine kg_9 (v := .ref (xad X (o + 1))) hL.1 inX9_inserts_9 0 (by decide) (List.mem_of_getElem? (i := 1) rfl) rfl dX9_inserts_51 ?_
      refine k_iconst (v := (nI 1)) dX9_inserts_54 (by decide) ?_
      refine k_dup2 dX9_inserts_55 rfl rfl ?_
      refine k_iald (n := 6036) hL.2.1 dX9_inserts_56 h (fun h => ?_)
      refine k_iconst (v := (nI 1)) dX9_inserts_57 (by decide) ?_
      refine k_iadd dX9_inserts_58 ?_
      refine k_iast (n := 6036) hL.2.1 dX9_inserts_59 h (fun σ1 h => ?_)
      refine k_aload_n (q := 0) dX9_inserts_60 rfl rfl ?_
      refine k_iload_n (q := 1) dX9_inserts_61 rfl rfl ?_
      refine k_iconst (v := (nI 0)) dX9_inserts_62 (by decide) ?_
      refine k_iload_n (q := 2) dX9_inserts_63 rfl rfl ?_
      obtain ⟨σ3, hc2, h⟩ := bnd_e h
      refine k_cvv (q := (RX9, TX9, 12)) (As := [.int x1, .int (nI 0), .int x2]) 3 (cm_X9_setsP l hX g σ1 o hL x1 (nI 0) x2 hc2) gX9_inserts_X9_setsP rfl ⟨rfl, rfl⟩ hd_X9_setsP ⟨Nat.le_of_ble_eq_true rfl, Nat.le_of_ble_eq_true rfl⟩ ⟨Nat.le_refl _, Nat.le_refl _⟩ (lay_lt hL.1 (by decide)) (ce_of hL.1) rfl rfl (Nat.le_of_ble_eq_true rfl) rfl dX9_inserts_64 ?_
      refine k_aload_n (q := 0) dX9_inserts_67 rfl rfl ?_
      refine k_iload_n (q := 1) dX9_inserts_68 rfl rfl ?_
      refine k_iconst (v := (nI 1)) dX9_inserts_69 (by decide) ?_
      refine k_iload_n (q := 3) dX9_inserts_70 rfl rfl ?_
      obtain ⟨σ5, hc4, h⟩ := bnd_e h
      refine k_cvv (q := (RX9, TX9, 12)) (As := [.int x1, .int (nI 1), .int x3]) 3 (cm_X9_setsP l hX g σ3 o hL x1 (nI 1) x3 hc4) gX9_inserts_X9_setsP rfl ⟨rfl, rfl⟩ hd_X9_setsP ⟨Nat.le_of_ble_eq_true rfl, Nat.le_of_ble_eq_true rfl⟩ ⟨Nat.le_refl _, Nat.le_refl _⟩ (lay_lt hL.1 (by decide)) (ce_of hL.1) rfl rfl (Nat.le_of_ble_eq_true rfl) rfl dX9_inserts_71 ?_
      refine k_aload_n (q := 0) dX9_inserts_74 rfl rfl ?_
      refine k_iload_n (q := 1) dX9_inserts_75 rfl rfl ?_
      refine k_iconst (v := (nI 2)) dX9_inserts_76 (by decide) ?_
      refine k_iload (q := 4) dX9_inserts_77 rfl ?_
      obtain ⟨σ7, hc6, h⟩ := bnd_e h
      refine k_cvv (q := (RX9, TX9, 12)) (As := [.int x1, .int (nI 2), .int x4]) 3 (cm_X9_setsP l hX g σ5 o hL x1 (nI 2) x4 hc6) gX9_inserts_X9_setsP rfl ⟨rfl, rfl⟩ hd_X9_setsP ⟨Nat.le_of_ble_eq_true rfl, Nat.le_of_ble_eq_true rfl⟩ ⟨Nat.le_refl _, Nat.le_refl _⟩ (lay_lt hL.1 (by decide)) (ce_of hL.1) rfl rfl (Nat.le_of_ble_eq_true rfl) rfl dX9_inserts_79 ?_
      refine k_aload_n (q := 0) dX9_inserts_82 rfl rfl ?_
      refine k_iload_n (q := 1) dX9_inserts_83 rfl rfl ?_
      refine k_iconst (v := (nI 3)) dX9_inserts_84 (by decide) ?_
      refine k_iconst (v := (nI 0)) dX9_inserts_85 (by decide) ?_
      obtain ⟨σ9, hc8, h⟩ := bnd_e h
      refine k_cvv (q := (RX9, TX9, 12)) (As := [.int x1, .int (nI 3), .int (nI 0)]) 3 (cm_X9_setsP l hX g σ7 o hL x1 (nI 3) (nI 0) hc8) gX9_inserts_X9_setsP rfl ⟨rfl, rfl⟩ hd_X9_setsP ⟨Nat.le_of_ble_eq_true rfl, Nat.le_of_ble_eq_true rfl⟩ ⟨Nat.le_refl _, Nat.le_refl _⟩ (lay_lt hL.1 (by decide)) (ce_of hL.1) rfl rfl (Nat.le_of_ble_eq_true rfl) rfl dX9_inserts_86 ?_
      refine k_aload_n (q := 0) dX9_inserts_89 rfl rfl ?_
      refine k_iload_n (q := 1) dX9_inserts_90 rfl rfl ?_
      refine k_iconst (v := (nI 1)) dX9_inserts_91 (by decide) ?_
      refine k_iadd dX9_inserts_92 ?_
      obtain ⟨r11, hc10, h⟩ := bnd_e h
      refine k_cv (q := (RX9, TX9, 12)) (As := [.int (x1 + (nI 1))]) 1 (cm_X9_isPiece l hX g σ9 o hL (x1 + (nI 1)) hc10) gX9_inserts_X9_isPiece rfl ⟨rfl, rfl⟩ hd_X9_isPiece ⟨Nat.le_of_ble_eq_true rfl, Nat.le_of_ble_eq_true rfl⟩ ⟨Nat.le_refl _, Nat.le_refl _⟩ (lay_lt hL.1 (by decide)) (ce_of hL.1) rfl rfl (Nat.le_of_ble_eq_true rfl) rfl dX9_inserts_93 ?_
      refine k_if_eq (tgt := 108) dX9_inserts_96 (by decide) h (fun h => ?_) (fun h => ?_)
      · exact k_vret rfl dX9_inserts_108 h
      · refine k_aload_n (q := 0) dX9_inserts_99 rfl rfl ?_
        refine k_iload_n (q := 1) dX9_inserts_100 rfl rfl ?_
        refine k_iconst (v := (nI 1)) dX9_inserts_101 (by decide) ?_
        refine k_iadd dX9_inserts_102 ?_
        refine k_iconst (v := (nI 3)) dX9_inserts_103 (by decide) ?_
        refine k_iconst (v := (nI 0)) dX9_inserts_104 (by decide) ?_
        obtain ⟨σ13, hc12, h⟩ := bnd_e h
        refine k_cvv (q := (RX9, TX9, 12)) (As := [.int (x1 + (nI 1)), .int (nI 3), .int (nI 0)]) 3 (cm_X9_setsP l hX g σ9 o hL (x1 + (nI 1)) (nI 3) (nI 0) hc12) gX9_inserts_X9_setsP rfl ⟨rfl, rfl⟩ hd_X9_setsP ⟨Nat.le_of_ble_eq_true rfl, Nat.le_of_ble_eq_true rfl⟩ ⟨Nat.le_refl _, Nat.le_refl _⟩ (lay_lt hL.1 (by decide)) (ce_of hL.1) rfl rfl (Nat.le_of_ble_eq_true rfl) rfl dX9_inserts_105 ?_
        exact k_vret rfl dX9_inserts_108 h
    · refine k_aload_n (q := 0) dX9_inserts_20 rfl rfl ?_
      refine kg_9 (v := .ref (xad X (o + 1))) hL.1 inX9_inserts_9 0 (by decide) (List.mem_of_getElem? (i := 1) rfl) rfl dX9_inserts_21 ?_
      refine k_sipush (v := (nI 992)) dX9_inserts_24 (by decide) ?_
      refine k_iload (q := 5) dX9_inserts_27 rfl ?_
      refine k_iadd dX9_inserts_29 ?_
      refine k_iconst (v := (nI 4)) dX9_inserts_30 (by decide) ?_
      refine k_iadd dX9_inserts_31 ?_
      refine k_aload_n (q := 0) dX9_inserts_32 rfl rfl ?_
      refine kg_9 (v := .ref (xad X (o + 1))) hL.1 inX9_inserts_9 0 (by decide) (List.mem_of_getElem? (i := 1) rfl) rfl dX9_inserts_33 ?_
      refine k_sipush (v := (nI 992)) dX9_inserts_36 (by decide) ?_
      refine k_iload (q := 5) dX9_inserts_39 rfl ?_
      refine k_iadd dX9_inserts_41 ?_
      refine k_iald (n := 6036) hL.2.1 dX9_inserts_42 h (fun h => ?_)
      refine k_iast (n := 6036) hL.2.1 dX9_inserts_43 h (fun σ14 h => ?_)
      refine k_iinc (q := 5) (v := (x5 + (nN 1))) (lv' := [(5, .int (x5 + (nN 1))), (0, .ref (xad X o)), (1, .int x1), (2, .int x2), (3, .int x3), (4, .int x4)]) dX9_inserts_44 rfl rfl (Nat.le_of_ble_eq_true rfl) rfl ?_
      refine k_goto (tgt := 12) dX9_inserts_47 (by decide) ?_
      refine k_sub (ks' := [1, 2, 3, 4, 5, 0]) rfl ?_
      exact ih σ14 x1 x2 x3 x4 (x5 + (nN 1)) h
set_option maxHeartbeats 4000000 in
set_option maxRecDepth 100000 in
theorem cm_X9_inserts (l : Launch) {X : XT} (hX : XD X) (g : Nat) (σ : Mem) (o : Nat) (hL : L9 o) (p1 : Int32) (p2 : Int32) (p3 : Int32) (p4 : Int32) {σ' : Mem} (h : fX9_inserts g σ o p1 p2 p3 p4 = some σ') : Met l yX9_inserts wsX9_inserts rmX9_inserts (va_Pc [.ref (xad X o), .int p1, .int p2, .int p3, .int p4] (WW X σ)) (QV X σ') 0 0 (XA X) := by
  refine met_x (M := mX9_inserts) (lv := [(0, .ref (xad X o)), (1, .int p1), (2, .int p2), (3, .int p3), (4, .int p4)]) hX (by decide) rfl rfl (Nat.le_of_ble_eq_true rfl) rfl ?_
  unfold fX9_inserts at h
  refine k_iconst (v := (nI 4)) dX9_inserts_0 (by decide) ?_
  refine k_aload_n (q := 0) dX9_inserts_1 rfl rfl ?_
  refine kg_9 (v := .ref (xad X (o + 1))) hL.1 inX9_inserts_9 0 (by decide) (List.mem_of_getElem? (i := 1) rfl) rfl dX9_inserts_2 ?_
  refine k_iconst (v := (nI 1)) dX9_inserts_5 (by decide) ?_
  refine k_iald (n := 6036) hL.2.1 dX9_inserts_6 h (fun h => ?_)
  refine k_imul dX9_inserts_7 ?_
  refine k_iconst (v := (nI 1)) dX9_inserts_8 (by decide) ?_
  refine k_isub dX9_inserts_9 ?_
  refine k_istore (lv' := [(5, .int (((nI 4) * (σ (o + 1) (nI 1).toNatClampNeg)) - (nI 1))), (0, .ref (xad X o)), (1, .int p1), (2, .int p2), (3, .int p3), (4, .int p4)]) dX9_inserts_10 (Nat.le_of_ble_eq_true rfl) rfl ?_
  refine k_sub (ks' := [1, 2, 3, 4, 5, 0]) rfl ?_
  exact wX9_inserts_12 l hX g o hL g σ p1 p2 p3 p4 (((nI 4) * (σ (o + 1) (nI 1).toNatClampNeg)) - (nI 1)) h
abbrev rmX9_removes : Room := { frames := 2, cells := 0, slots := 0, locals := 43 }
abbrev mX9_removes : MT := (rmX9_removes, wsX9_removes, cX9_removes, 3, RX9, none)
theorem hd_X9_removes : yX9_removes.cls = RX9 ∧ yX9_removes.cls ≠ "java/lang/invoke/MethodHandle" ∧ yX9_removes.cls ≠ "java/lang/invoke/VarHandle" ∧ (parseMethodDescriptor yX9_removes.desc).map (fun d => d.parameters.length) = some 1 := by decide +kernel
theorem inX9_removes_9 : ∀ w ∈ wsX90, w ∈ wsX9_removes := fun w h => List.mem_cons_of_mem _ (List.mem_append_right _ h)
set_option maxHeartbeats 4000000 in
set_option maxRecDepth 100000 in
theorem wX9_removes_14 (l : Launch) {X : XT} (hX : XD X) (g : Nat) (o : Nat) (hL : L9 o) {σ' : Mem} : ∀ (n : Nat) (σ : Mem) (x1 : Int32) (x2 : Int32), fX9_removes_14 g o n σ x1 x2 = some σ' → WG X l mX9_removes (fun _ _ => True) 0 0 (QM X (QV X σ')) 14 σ [(0, .ref (xad X o)), (1, .int x1), (2, .int x2)] [] := by
  intro n
  induction n with
  | zero => intro σ x1 x2 h; exact nomatch (show (none : Option _) = some _ from h)
  | succ n ih =>
    intro σ x1 x2 h
    rw [fX9_removes_14] at h
    refine k_iload_n (q := 2) dX9_removes_14 rfl rfl ?_
    refine k_iconst (v := (nI 4)) dX9_removes_15 (by decide) ?_
    refine k_aload_n (q := 0) dX9_removes_16 rfl rfl ?_
    refine kg_9 (v := .ref (xad X (o + 1))) hL.1 inX9_removes_9 0 (by decide) (List.mem_of_getElem? (i := 1) rfl) rfl dX9_removes_17 ?_
    refine k_iconst (v := (nI 1)) dX9_removes_20 (by decide) ?_
    refine k_iald (n := 6036) hL.2.1 dX9_removes_21 h (fun h => ?_)
    refine k_imul dX9_removes_22 ?_
    refine k_icmp_ge (tgt := 54) dX9_removes_23 (by decide) h (fun h => ?_) (fun h => ?_)
    · refine k_aload_n (q := 0) dX9_removes_54 rfl rfl ?_
      refine k_iload_n (q := 1) dX9_removes_55 rfl rfl ?_
      obtain ⟨r3, hc2, h⟩ := bnd_e h
      refine k_cv (q := (RX9, TX9, 12)) (As := [.int x1]) 1 (cm_X9_isPiece l hX g σ o hL x1 hc2) gX9_removes_X9_isPiece rfl ⟨rfl, rfl⟩ hd_X9_isPiece ⟨Nat.le_of_ble_eq_true rfl, Nat.le_of_ble_eq_true rfl⟩ ⟨Nat.le_refl _, Nat.le_refl _⟩ (lay_lt hL.1 (by decide)) (ce_of hL.1) rfl rfl (Nat.le_of_ble_eq_true rfl) rfl dX9_removes_56 ?_
      refine k_if_eq (tgt := 69) dX9_removes_59 (by decide) h (fun h => ?_) (fun h => ?_)
      · exact k_vret rfl dX9_removes_69 h
      · refine k_aload_n (q := 0) dX9_removes_62 rfl rfl ?_
        refine k_iload_n (q := 1) dX9_removes_63 rfl rfl ?_
        refine k_iconst (v := (nI 3)) dX9_removes_64 (by decide) ?_
        refine k_iconst (v := (nI 0)) dX9_removes_65 (by decide) ?_
        obtain ⟨σ5, hc4, h⟩ := bnd_e h
        refine k_cvv (q := (RX9, TX9, 12)) (As := [.int x1, .int (nI 3), .int (nI 0)]) 3 (cm_X9_setsP l hX g σ o hL x1 (nI 3) (nI 0) hc4) gX9_removes_X9_setsP rfl ⟨rfl, rfl⟩ hd_X9_setsP ⟨Nat.le_of_ble_eq_true rfl, Nat.le_of_ble_eq_true rfl⟩ ⟨Nat.le_refl _, Nat.le_refl _⟩ (lay_lt hL.1 (by decide)) (ce_of hL.1) rfl rfl (Nat.le_of_ble_eq_true rfl) rfl dX9_removes_66 ?_
        exact k_vret rfl dX9_removes_69 h
    · refine k_aload_n (q := 0) dX9_removes_26 rfl rfl ?_
      refine kg_9 (v := .ref (xad X (o + 1))) hL.1 inX9_removes_9 0 (by decide) (List.mem_of_getElem? (i := 1) rfl) rfl dX9_removes_27 ?_
      refine k_sipush (v := (nI 992)) dX9_removes_30 (by decide) ?_
      refine k_iload_n (q := 2) dX9_removes_33 rfl rfl ?_
      refine k_iadd dX9_removes_34 ?_
      refine k_aload_n (q := 0) dX9_removes_35 rfl rfl ?_
      refine kg_9 (v := .ref (xad X (o + 1))) hL.1 inX9_removes_9 0 (by decide) (List.mem_of_getElem? (i := 1) rfl) rfl dX9_removes_36 ?_
      refine k_sipush (v := (nI 992)) dX9_removes_39 (by decide) ?_
      refine k_iload_n (q := 2) dX9_removes_42 rfl rfl ?_
      refine k_iadd dX9_removes_43 ?_
      refine k_iconst (v := (nI 4)) dX9_removes_44 (by decide) ?_
      refine k_iadd dX9_removes_45 ?_
      refine k_iald (n := 6036) hL.2.1 dX9_removes_46 h (fun h => ?_)
      refine k_iast (n := 6036) hL.2.1 dX9_removes_47 h (fun σ6 h => ?_)
      refine k_iinc (q := 2) (v := (x2 + (nI 1))) (lv' := [(2, .int (x2 + (nI 1))), (0, .ref (xad X o)), (1, .int x1)]) dX9_removes_48 rfl rfl (Nat.le_of_ble_eq_true rfl) rfl ?_
      refine k_goto (tgt := 14) dX9_removes_51 (by decide) ?_
      refine k_sub (ks' := [1, 2, 0]) rfl ?_
      exact ih σ6 x1 (x2 + (nI 1)) h
set_option maxHeartbeats 4000000 in
set_option maxRecDepth 100000 in
theorem cm_X9_removes (l : Launch) {X : XT} (hX : XD X) (g : Nat) (σ : Mem) (o : Nat) (hL : L9 o) (p1 : Int32) {σ' : Mem} (h : fX9_removes g σ o p1 = some σ') : Met l yX9_removes wsX9_removes rmX9_removes (va_Pc [.ref (xad X o), .int p1] (WW X σ)) (QV X σ') 0 0 (XA X) := by
  refine met_x (M := mX9_removes) (lv := [(0, .ref (xad X o)), (1, .int p1)]) hX (by decide) rfl rfl (Nat.le_of_ble_eq_true rfl) rfl ?_
  unfold fX9_removes at h
  refine k_aload_n (q := 0) dX9_removes_0 rfl rfl ?_
  refine kg_9 (v := .ref (xad X (o + 1))) hL.1 inX9_removes_9 0 (by decide) (List.mem_of_getElem? (i := 1) rfl) rfl dX9_removes_1 ?_
  refine k_iconst (v := (nI 1)) dX9_removes_4 (by decide) ?_
  refine k_dup2 dX9_removes_5 rfl rfl ?_
  refine k_iald (n := 6036) hL.2.1 dX9_removes_6 h (fun h => ?_)
  refine k_iconst (v := (nI 1)) dX9_removes_7 (by decide) ?_
  refine k_isub dX9_removes_8 ?_
  refine k_iast (n := 6036) hL.2.1 dX9_removes_9 h (fun σ1 h => ?_)
  refine k_iconst (v := (nI 4)) dX9_removes_10 (by decide) ?_
  refine k_iload_n (q := 1) dX9_removes_11 rfl rfl ?_
  refine k_imul dX9_removes_12 ?_
  refine k_istore_n (lv' := [(2, .int ((nI 4) * p1)), (0, .ref (xad X o)), (1, .int p1)]) dX9_removes_13 rfl (Nat.le_of_ble_eq_true rfl) rfl ?_
  refine k_sub (ks' := [1, 2, 0]) rfl ?_
  exact wX9_removes_14 l hX g o hL g σ1 p1 ((nI 4) * p1) h
abbrev rmX9_addScene : Room := { frames := 3, cells := 0, slots := 0, locals := 68 }
abbrev mX9_addScene : MT := (rmX9_addScene, wsX9_addScene, cX9_addScene, 4, RX9, some .int)
theorem hd_X9_addScene : yX9_addScene.cls = RX9 ∧ yX9_addScene.cls ≠ "java/lang/invoke/MethodHandle" ∧ yX9_addScene.cls ≠ "java/lang/invoke/VarHandle" ∧ (parseMethodDescriptor yX9_addScene.desc).map (fun d => d.parameters.length) = some 2 := by decide +kernel
theorem inX9_addScene_9 : ∀ w ∈ wsX90, w ∈ wsX9_addScene := fun w h => List.mem_cons_of_mem _ (List.mem_append_right _ h)
set_option maxHeartbeats 4000000 in
set_option maxRecDepth 100000 in
theorem cm_X9_addScene (l : Launch) {X : XT} (hX : XD X) (g : Nat) (σ : Mem) (o : Nat) (hL : L9 o) (p1 : Int32) (p2 : Int32) {r : Int32} {σ' : Mem} (h : fX9_addScene g σ o p1 p2 = some (r, σ')) : Met l yX9_addScene wsX9_addScene rmX9_addScene (va_Pc [.ref (xad X o), .int p1, .int p2] (WW X σ)) (QI X r σ') 0 0 (XA X) := by
  refine met_x (M := mX9_addScene) (lv := [(0, .ref (xad X o)), (1, .int p1), (2, .int p2)]) hX (by decide) rfl rfl (Nat.le_of_ble_eq_true rfl) rfl ?_
  unfold fX9_addScene at h
  refine k_iload_n (q := 1) dX9_addScene_0 rfl rfl ?_
  refine k_iconst (v := (nI 0)) dX9_addScene_1 (by decide) ?_
  refine k_iconst (v := (nI 5)) dX9_addScene_2 (by decide) ?_
  obtain ⟨r2, hc1, h⟩ := bnd_e h
  refine k_cs (As := [.int p1, .int (nI 0), .int (nI 5)]) 3 (cm_X9_isIn l hX g σ p1 (nI 0) (nI 5) hc1) gX9_addScene_X9_isIn rfl ⟨rfl, rfl⟩ hd_X9_isIn ⟨Nat.le_of_ble_eq_true rfl, Nat.le_of_ble_eq_true rfl⟩ ⟨Nat.le_refl _, Nat.le_refl _⟩ rfl (Nat.le_of_ble_eq_true rfl) rfl dX9_addScene_3 ?_
  refine k_if_eq (tgt := 19) dX9_addScene_6 (by decide) h (fun h => ?_) (fun h => ?_)
  · refine k_bipush (v := (nN 2)) dX9_addScene_19 (by decide) ?_
    exact k_iret rfl dX9_addScene_21 h
  · refine k_iload_n (q := 2) dX9_addScene_9 rfl rfl ?_
    refine k_iconst (v := (nI 1)) dX9_addScene_10 (by decide) ?_
    refine k_bipush (v := (nI 40)) dX9_addScene_11 (by decide) ?_
    obtain ⟨r4, hc3, h⟩ := bnd_e h
    refine k_cs (As := [.int p2, .int (nI 1), .int (nI 40)]) 3 (cm_X9_isIn l hX g σ p2 (nI 1) (nI 40) hc3) gX9_addScene_X9_isIn rfl ⟨rfl, rfl⟩ hd_X9_isIn ⟨Nat.le_of_ble_eq_true rfl, Nat.le_of_ble_eq_true rfl⟩ ⟨Nat.le_refl _, Nat.le_refl _⟩ rfl (Nat.le_of_ble_eq_true rfl) rfl dX9_addScene_13 ?_
    refine k_if_ne (tgt := 22) dX9_addScene_16 (by decide) h (fun h => ?_) (fun h => ?_)
    · refine k_aload_n (q := 0) dX9_addScene_22 rfl rfl ?_
      refine kg_9 (v := .ref (xad X (o + 1))) hL.1 inX9_addScene_9 0 (by decide) (List.mem_of_getElem? (i := 1) rfl) rfl dX9_addScene_23 ?_
      refine k_iconst (v := (nI 0)) dX9_addScene_26 (by decide) ?_
      refine k_iald (n := 6036) hL.2.1 dX9_addScene_27 h (fun h => ?_)
      refine k_bipush (v := (nI 12)) dX9_addScene_28 (by decide) ?_
      refine k_icmp_eq (tgt := 44) dX9_addScene_30 (by decide) h (fun h => ?_) (fun h => ?_)
      · refine k_bipush (v := (nN 3)) dX9_addScene_44 (by decide) ?_
        exact k_iret rfl dX9_addScene_46 h
      · refine k_aload_n (q := 0) dX9_addScene_33 rfl rfl ?_
        refine kg_9 (v := .ref (xad X (o + 1))) hL.1 inX9_addScene_9 0 (by decide) (List.mem_of_getElem? (i := 1) rfl) rfl dX9_addScene_34 ?_
        refine k_iconst (v := (nI 1)) dX9_addScene_37 (by decide) ?_
        refine k_iald (n := 6036) hL.2.1 dX9_addScene_38 h (fun h => ?_)
        refine k_bipush (v := (nI 20)) dX9_addScene_39 (by decide) ?_
        refine k_icmp_ne (tgt := 47) dX9_addScene_41 (by decide) h (fun h => ?_) (fun h => ?_)
        · refine k_aload_n (q := 0) dX9_addScene_47 rfl rfl ?_
          refine k_iconst (v := (nI 0)) dX9_addScene_48 (by decide) ?_
          obtain ⟨σ6, hc5, h⟩ := bnd_e h
          refine k_cvv (q := (RX9, TX9, 12)) (As := [.int (nI 0)]) 1 (cm_X9_records l hX g σ o hL (nI 0) hc5) gX9_addScene_X9_records rfl ⟨rfl, rfl⟩ hd_X9_records ⟨Nat.le_of_ble_eq_true rfl, Nat.le_of_ble_eq_true rfl⟩ ⟨Nat.le_refl _, Nat.le_refl _⟩ (lay_lt hL.1 (by decide)) (ce_of hL.1) rfl rfl (Nat.le_of_ble_eq_true rfl) rfl dX9_addScene_49 ?_
          refine k_aload_n (q := 0) dX9_addScene_52 rfl rfl ?_
          refine kg_9 (v := .ref (xad X (o + 1))) hL.1 inX9_addScene_9 0 (by decide) (List.mem_of_getElem? (i := 1) rfl) rfl dX9_addScene_53 ?_
          refine k_iconst (v := (nI 0)) dX9_addScene_56 (by decide) ?_
          refine k_iald (n := 6036) hL.2.1 dX9_addScene_57 h (fun h => ?_)
          refine k_istore_n (lv' := [(3, .int (σ6 (o + 1) (nI 0).toNatClampNeg)), (0, .ref (xad X o)), (1, .int p1), (2, .int p2)]) dX9_addScene_58 rfl (Nat.le_of_ble_eq_true rfl) rfl ?_
          refine k_aload_n (q := 1) dX9_addScene_59 rfl rfl ?_
          refine kg_9 (v := .ref (xad X (o + 1))) hL.1 inX9_addScene_9 0 (by decide) (List.mem_of_getElem? (i := 1) rfl) rfl dX9_addScene_60 ?_
          refine k_iconst (v := (nI 0)) dX9_addScene_63 (by decide) ?_
          refine k_dup2 dX9_addScene_64 rfl rfl ?_
          refine k_iald (n := 6036) hL.2.1 dX9_addScene_65 h (fun h => ?_)
          refine k_iconst (v := (nI 1)) dX9_addScene_66 (by decide) ?_
          refine k_iadd dX9_addScene_67 ?_
          refine k_iast (n := 6036) hL.2.1 dX9_addScene_68 h (fun σ7 h => ?_)
          refine k_aload_n (q := 1) dX9_addScene_69 rfl rfl ?_
          refine kg_9 (v := .ref (xad X (o + 1))) hL.1 inX9_addScene_9 0 (by decide) (List.mem_of_getElem? (i := 1) rfl) rfl dX9_addScene_70 ?_
          refine k_bipush (v := (nI 8)) dX9_addScene_73 (by decide) ?_
          refine k_iconst (v := (nI 2)) dX9_addScene_75 (by decide) ?_
          refine k_iload_n (q := 0) dX9_addScene_76 rfl rfl ?_
          refine k_imul dX9_addScene_77 ?_
          refine k_iadd dX9_addScene_78 ?_
          refine k_iload_n (q := 2) dX9_addScene_79 rfl rfl ?_
          refine k_iast (n := 6036) hL.2.1 dX9_addScene_80 h (fun σ8 h => ?_)
          refine k_aload_n (q := 1) dX9_addScene_81 rfl rfl ?_
          refine kg_9 (v := .ref (xad X (o + 1))) hL.1 inX9_addScene_9 0 (by decide) (List.mem_of_getElem? (i := 1) rfl) rfl dX9_addScene_82 ?_
          refine k_bipush (v := (nI 8)) dX9_addScene_85 (by decide) ?_
          refine k_iconst (v := (nI 2)) dX9_addScene_87 (by decide) ?_
          refine k_iload_n (q := 0) dX9_addScene_88 rfl rfl ?_
          refine k_imul dX9_addScene_89 ?_
          refine k_iadd dX9_addScene_90 ?_
          refine k_iconst (v := (nI 1)) dX9_addScene_91 (by decide) ?_
          refine k_iadd dX9_addScene_92 ?_
          refine k_iload_n (q := 3) dX9_addScene_93 rfl rfl ?_
          refine k_iast (n := 6036) hL.2.1 dX9_addScene_94 h (fun σ9 h => ?_)
          refine k_aload_n (q := 1) dX9_addScene_95 rfl rfl ?_
          refine k_aload_n (q := 1) dX9_addScene_96 rfl rfl ?_
          refine kg_9 (v := .ref (xad X (o + 1))) hL.1 inX9_addScene_9 0 (by decide) (List.mem_of_getElem? (i := 1) rfl) rfl dX9_addScene_97 ?_
          refine k_iconst (v := (nI 1)) dX9_addScene_100 (by decide) ?_
          refine k_iald (n := 6036) hL.2.1 dX9_addScene_101 h (fun h => ?_)
          refine k_iload_n (q := 0) dX9_addScene_102 rfl rfl ?_
          refine k_iconst (v := (nI 0)) dX9_addScene_103 (by decide) ?_
          refine k_iload_n (q := 3) dX9_addScene_104 rfl rfl ?_
          refine k_iconst (v := (nI 1)) dX9_addScene_105 (by decide) ?_
          refine k_isub dX9_addScene_106 ?_
          obtain ⟨σ11, hc10, h⟩ := bnd_e h
          refine k_cvv (q := (RX9, TX9, 12)) (As := [.int (σ9 (o + 1) (nI 1).toNatClampNeg), .int (σ6 (o + 1) (nI 0).toNatClampNeg), .int (nI 0), .int (p2 - (nI 1))]) 4 (cm_X9_inserts l hX g σ9 o hL (σ9 (o + 1) (nI 1).toNatClampNeg) (σ6 (o + 1) (nI 0).toNatClampNeg) (nI 0) (p2 - (nI 1)) hc10) gX9_addScene_X9_inserts rfl ⟨rfl, rfl⟩ hd_X9_inserts ⟨Nat.le_of_ble_eq_true rfl, Nat.le_of_ble_eq_true rfl⟩ ⟨Nat.le_refl _, Nat.le_refl _⟩ (lay_lt hL.1 (by decide)) (ce_of hL.1) rfl rfl (Nat.le_of_ble_eq_true rfl) rfl dX9_addScene_107 ?_
          refine k_iload_n (q := 0) dX9_addScene_110 rfl rfl ?_
          exact k_iret rfl dX9_addScene_111 h
        · refine k_bipush (v := (nN 3)) dX9_addScene_44 (by decide) ?_
          exact k_iret rfl dX9_addScene_46 h
    · refine k_bipush (v := (nN 2)) dX9_addScene_19 (by decide) ?_
      exact k_iret rfl dX9_addScene_21 h
abbrev rmX9_onReel : Room := { frames := 3, cells := 0, slots := 0, locals := 66 }
abbrev mX9_onReel : MT := (rmX9_onReel, wsX9_onReel, cX9_onReel, 1, RX9, some .int)
theorem hd_X9_onReel : yX9_onReel.cls = RX9 ∧ yX9_onReel.cls ≠ "java/lang/invoke/MethodHandle" ∧ yX9_onReel.cls ≠ "java/lang/invoke/VarHandle" ∧ (parseMethodDescriptor yX9_onReel.desc).map (fun d => d.parameters.length) = some 0 := by decide +kernel
theorem inX9_onReel_9 : ∀ w ∈ wsX90, w ∈ wsX9_onReel := fun w h => List.mem_cons_of_mem _ (List.mem_append_right _ h)
set_option maxHeartbeats 4000000 in
set_option maxRecDepth 100000 in
theorem cm_X9_onReel (l : Launch) {X : XT} (hX : XD X) (g : Nat) (σ : Mem) (o : Nat) (hL : L9 o) {r : Int32} (h : fX9_onReel g σ o = some r) : Met l yX9_onReel wsX9_onReel rmX9_onReel (va_Pc [.ref (xad X o)] (WW X σ)) (QI X r σ) 0 0 (XA X) := by
  refine met_x (M := mX9_onReel) (lv := [(0, .ref (xad X o))]) hX (by decide) rfl rfl (Nat.le_of_ble_eq_true rfl) rfl ?_
  unfold fX9_onReel at h
  refine k_aload_n (q := 0) dX9_onReel_0 rfl rfl ?_
  refine k_aload_n (q := 0) dX9_onReel_1 rfl rfl ?_
  refine kg_9 (v := .ref (xad X (o + 1))) hL.1 inX9_onReel_9 0 (by decide) (List.mem_of_getElem? (i := 1) rfl) rfl dX9_onReel_2 ?_
  refine k_iconst (v := (nI 1)) dX9_onReel_5 (by decide) ?_
  refine k_iald (n := 6036) hL.2.1 dX9_onReel_6 h (fun h => ?_)
  obtain ⟨r2, hc1, h⟩ := bnd_e h
  refine k_cv (q := (RX9, TX9, 12)) (As := [.int (σ (o + 1) (nI 1).toNatClampNeg)]) 1 (cm_X9_positionOf l hX g σ o hL (σ (o + 1) (nI 1).toNatClampNeg) hc1) gX9_onReel_X9_positionOf rfl ⟨rfl, rfl⟩ hd_X9_positionOf ⟨Nat.le_of_ble_eq_true rfl, Nat.le_of_ble_eq_true rfl⟩ ⟨Nat.le_refl _, Nat.le_refl _⟩ (lay_lt hL.1 (by decide)) (ce_of hL.1) rfl rfl (Nat.le_of_ble_eq_true rfl) rfl dX9_onReel_7 ?_
  exact k_iretR rfl dX9_onReel_10 h
abbrev rmX9_cutError : Room := { frames := 4, cells := 0, slots := 0, locals := 88 }
abbrev mX9_cutError : MT := (rmX9_cutError, wsX9_cutError, cX9_cutError, 2, RX9, some .int)
theorem hd_X9_cutError : yX9_cutError.cls = RX9 ∧ yX9_cutError.cls ≠ "java/lang/invoke/MethodHandle" ∧ yX9_cutError.cls ≠ "java/lang/invoke/VarHandle" ∧ (parseMethodDescriptor yX9_cutError.desc).map (fun d => d.parameters.length) = some 1 := by decide +kernel
theorem inX9_cutError_9 : ∀ w ∈ wsX90, w ∈ wsX9_cutError := fun w h => List.mem_cons_of_mem _ (List.mem_append_right _ h)
set_option maxHeartbeats 4000000 in
set_option maxRecDepth 100000 in
theorem cm_X9_cutError (l : Launch) {X : XT} (hX : XD X) (g : Nat) (σ : Mem) (o : Nat) (hL : L9 o) (p1 : Int32) {r : Int32} (h : fX9_cutError g σ o p1 = some r) : Met l yX9_cutError wsX9_cutError rmX9_cutError (va_Pc [.ref (xad X o), .int p1] (WW X σ)) (QI X r σ) 0 0 (XA X) := by
  refine met_x (M := mX9_cutError) (lv := [(0, .ref (xad X o)), (1, .int p1)]) hX (by decide) rfl rfl (Nat.le_of_ble_eq_true rfl) rfl ?_
  unfold fX9_cutError at h
  refine k_iload_n (q := 1) dX9_cutError_0 rfl rfl ?_
  refine k_iconst (v := (nI 0)) dX9_cutError_1 (by decide) ?_
  refine k_aload_n (q := 0) dX9_cutError_2 rfl rfl ?_
  obtain ⟨r2, hc1, h⟩ := bnd_e h
  refine k_cv (q := (RX9, TX9, 12)) (As := []) 0 (cm_X9_onReel l hX g σ o hL hc1) gX9_cutError_X9_onReel rfl ⟨rfl, rfl⟩ hd_X9_onReel ⟨Nat.le_of_ble_eq_true rfl, Nat.le_of_ble_eq_true rfl⟩ ⟨Nat.le_refl _, Nat.le_refl _⟩ (lay_lt hL.1 (by decide)) (ce_of hL.1) rfl rfl (Nat.le_of_ble_eq_true rfl) rfl dX9_cutError_3 ?_
  refine k_iconst (v := (nI 1)) dX9_cutError_6 (by decide) ?_
  refine k_isub dX9_cutError_7 ?_
  obtain ⟨r4, hc3, h⟩ := bnd_e h
  refine k_cs (As := [.int p1, .int (nI 0), .int (r2 - (nI 1))]) 3 (cm_X9_isIn l hX g σ p1 (nI 0) (r2 - (nI 1)) hc3) gX9_cutError_X9_isIn rfl ⟨rfl, rfl⟩ hd_X9_isIn ⟨Nat.le_of_ble_eq_true rfl, Nat.le_of_ble_eq_true rfl⟩ ⟨Nat.le_refl _, Nat.le_refl _⟩ rfl (Nat.le_of_ble_eq_true rfl) rfl dX9_cutError_8 ?_
  refine k_if_ne (tgt := 17) dX9_cutError_11 (by decide) h (fun h => ?_) (fun h => ?_)
  · refine k_aload_n (q := 0) dX9_cutError_17 rfl rfl ?_
    refine k_aload_n (q := 0) dX9_cutError_18 rfl rfl ?_
    refine k_iload_n (q := 1) dX9_cutError_19 rfl rfl ?_
    obtain ⟨r6, hc5, h⟩ := bnd_e h
    refine k_cv (q := (RX9, TX9, 12)) (As := [.int p1]) 1 (cm_X9_pieceAt l hX g σ o hL p1 hc5) gX9_cutError_X9_pieceAt rfl ⟨rfl, rfl⟩ hd_X9_pieceAt ⟨Nat.le_of_ble_eq_true rfl, Nat.le_of_ble_eq_true rfl⟩ ⟨Nat.le_refl _, Nat.le_refl _⟩ (lay_lt hL.1 (by decide)) (ce_of hL.1) rfl rfl (Nat.le_of_ble_eq_true rfl) rfl dX9_cutError_20 ?_
    obtain ⟨r8, hc7, h⟩ := bnd_e h
    refine k_cv (q := (RX9, TX9, 12)) (As := [.int r6]) 1 (cm_X9_positionOf l hX g σ o hL r6 hc7) gX9_cutError_X9_positionOf rfl ⟨rfl, rfl⟩ hd_X9_positionOf ⟨Nat.le_of_ble_eq_true rfl, Nat.le_of_ble_eq_true rfl⟩ ⟨Nat.le_refl _, Nat.le_refl _⟩ (lay_lt hL.1 (by decide)) (ce_of hL.1) rfl rfl (Nat.le_of_ble_eq_true rfl) rfl dX9_cutError_23 ?_
    refine k_iload_n (q := 1) dX9_cutError_26 rfl rfl ?_
    refine k_icmp_ne (tgt := 33) dX9_cutError_27 (by decide) h (fun h => ?_) (fun h => ?_)
    · refine k_aload_n (q := 0) dX9_cutError_33 rfl rfl ?_
      refine kg_9 (v := .ref (xad X (o + 1))) hL.1 inX9_cutError_9 0 (by decide) (List.mem_of_getElem? (i := 1) rfl) rfl dX9_cutError_34 ?_
      refine k_iconst (v := (nI 1)) dX9_cutError_37 (by decide) ?_
      refine k_iald (n := 6036) hL.2.1 dX9_cutError_38 h (fun h => ?_)
      refine k_bipush (v := (nI 20)) dX9_cutError_39 (by decide) ?_
      have key : WG X l mX9_cutError (fun _ _ => True) 0 0 (QM X (QI X r σ)) 50 σ [(0, .ref (xad X o)), (1, .int p1)] [.int (if (σ (o + 1) (nI 1).toNatClampNeg) = (nI 20) then (nN 3) else (nI 0))] := by
        exact k_iretR rfl dX9_cutError_50 h
      refine k_icmpc_ne (tgt := 49) dX9_cutError_41 (by decide) (fun hq => ?_) (fun hq => ?_)
      · rw [if_neg hq] at key
        refine k_iconst (v := (nI 0)) dX9_cutError_49 (by decide) ?_
        exact key
      · rw [if_pos hq] at key
        refine k_bipush (v := (nN 3)) dX9_cutError_44 (by decide) ?_
        refine k_goto (tgt := 50) dX9_cutError_46 (by decide) ?_
        exact key
    · refine k_bipush (v := (nN 5)) dX9_cutError_30 (by decide) ?_
      exact k_iretR rfl dX9_cutError_32 h
  · refine k_bipush (v := (nN 2)) dX9_cutError_14 (by decide) ?_
    exact k_iretR rfl dX9_cutError_16 h
abbrev rmX9_cuts : Room := { frames := 4, cells := 0, slots := 0, locals := 88 }
abbrev mX9_cuts : MT := (rmX9_cuts, wsX9_cuts, cX9_cuts, 6, RX9, some .int)
theorem hd_X9_cuts : yX9_cuts.cls = RX9 ∧ yX9_cuts.cls ≠ "java/lang/invoke/MethodHandle" ∧ yX9_cuts.cls ≠ "java/lang/invoke/VarHandle" ∧ (parseMethodDescriptor yX9_cuts.desc).map (fun d => d.parameters.length) = some 1 := by decide +kernel
theorem inX9_cuts_9 : ∀ w ∈ wsX90, w ∈ wsX9_cuts := fun w h => List.mem_cons_of_mem _ (List.mem_append_right _ h)
set_option maxHeartbeats 4000000 in
set_option maxRecDepth 100000 in
theorem cm_X9_cuts (l : Launch) {X : XT} (hX : XD X) (g : Nat) (σ : Mem) (o : Nat) (hL : L9 o) (p1 : Int32) {r : Int32} {σ' : Mem} (h : fX9_cuts g σ o p1 = some (r, σ')) : Met l yX9_cuts wsX9_cuts rmX9_cuts (va_Pc [.ref (xad X o), .int p1] (WW X σ)) (QI X r σ') 0 0 (XA X) := by
  refine met_x (M := mX9_cuts) (lv := [(0, .ref (xad X o)), (1, .int p1)]) hX (by decide) rfl rfl (Nat.le_of_ble_eq_true rfl) rfl ?_
  unfold fX9_cuts at h
  refine k_aload_n (q := 0) dX9_cuts_0 rfl rfl ?_
  refine k_iload_n (q := 1) dX9_cuts_1 rfl rfl ?_
  obtain ⟨r2, hc1, h⟩ := bnd_e h
  refine k_cv (q := (RX9, TX9, 12)) (As := [.int p1]) 1 (cm_X9_pieceAt l hX g σ o hL p1 hc1) gX9_cuts_X9_pieceAt rfl ⟨rfl, rfl⟩ hd_X9_pieceAt ⟨Nat.le_of_ble_eq_true rfl, Nat.le_of_ble_eq_true rfl⟩ ⟨Nat.le_refl _, Nat.le_refl _⟩ (lay_lt hL.1 (by decide)) (ce_of hL.1) rfl rfl (Nat.le_of_ble_eq_true rfl) rfl dX9_cuts_2 ?_
  refine k_istore_n (lv' := [(2, .int r2), (0, .ref (xad X o)), (1, .int p1)]) dX9_cuts_5 rfl (Nat.le_of_ble_eq_true rfl) rfl ?_
  refine k_aload_n (q := 1) dX9_cuts_6 rfl rfl ?_
  refine k_iload_n (q := 0) dX9_cuts_7 rfl rfl ?_
  refine k_iconst (v := (nI 1)) dX9_cuts_8 (by decide) ?_
  obtain ⟨r4, hc3, h⟩ := bnd_e h
  refine k_cv (q := (RX9, TX9, 12)) (As := [.int r2, .int (nI 1)]) 2 (cm_X9_ofP l hX g σ o hL r2 (nI 1) hc3) gX9_cuts_X9_ofP rfl ⟨rfl, rfl⟩ hd_X9_ofP ⟨Nat.le_of_ble_eq_true rfl, Nat.le_of_ble_eq_true rfl⟩ ⟨Nat.le_refl _, Nat.le_refl _⟩ (lay_lt hL.1 (by decide)) (ce_of hL.1) rfl rfl (Nat.le_of_ble_eq_true rfl) rfl dX9_cuts_9 ?_
  refine k_iload_n (q := 2) dX9_cuts_12 rfl rfl ?_
  refine k_iadd dX9_cuts_13 ?_
  refine k_aload_n (q := 1) dX9_cuts_14 rfl rfl ?_
  refine k_iload_n (q := 0) dX9_cuts_15 rfl rfl ?_
  obtain ⟨r6, hc5, h⟩ := bnd_e h
  refine k_cv (q := (RX9, TX9, 12)) (As := [.int r2]) 1 (cm_X9_positionOf l hX g σ o hL r2 hc5) gX9_cuts_X9_positionOf rfl ⟨rfl, rfl⟩ hd_X9_positionOf ⟨Nat.le_of_ble_eq_true rfl, Nat.le_of_ble_eq_true rfl⟩ ⟨Nat.le_refl _, Nat.le_refl _⟩ (lay_lt hL.1 (by decide)) (ce_of hL.1) rfl rfl (Nat.le_of_ble_eq_true rfl) rfl dX9_cuts_16 ?_
  refine k_isub dX9_cuts_19 ?_
  refine k_istore_n (lv' := [(3, .int ((r4 + p1) - r6)), (2, .int r2), (0, .ref (xad X o)), (1, .int p1)]) dX9_cuts_20 rfl (Nat.le_of_ble_eq_true rfl) rfl ?_
  refine k_aload_n (q := 2) dX9_cuts_21 rfl rfl ?_
  refine k_iload_n (q := 1) dX9_cuts_22 rfl rfl ?_
  refine k_iconst (v := (nI 2)) dX9_cuts_23 (by decide) ?_
  obtain ⟨r8, hc7, h⟩ := bnd_e h
  refine k_cv (q := (RX9, TX9, 12)) (As := [.int r2, .int (nI 2)]) 2 (cm_X9_ofP l hX g σ o hL r2 (nI 2) hc7) gX9_cuts_X9_ofP rfl ⟨rfl, rfl⟩ hd_X9_ofP ⟨Nat.le_of_ble_eq_true rfl, Nat.le_of_ble_eq_true rfl⟩ ⟨Nat.le_refl _, Nat.le_refl _⟩ (lay_lt hL.1 (by decide)) (ce_of hL.1) rfl rfl (Nat.le_of_ble_eq_true rfl) rfl dX9_cuts_24 ?_
  refine k_istore (lv' := [(4, .int r8), (3, .int ((r4 + p1) - r6)), (2, .int r2), (0, .ref (xad X o)), (1, .int p1)]) dX9_cuts_27 (Nat.le_of_ble_eq_true rfl) rfl ?_
  refine k_aload_n (q := 3) dX9_cuts_29 rfl rfl ?_
  refine k_iload_n (q := 2) dX9_cuts_30 rfl rfl ?_
  refine k_iconst (v := (nI 1)) dX9_cuts_31 (by decide) ?_
  refine k_iadd dX9_cuts_32 ?_
  obtain ⟨r10, hc9, h⟩ := bnd_e h
  refine k_cv (q := (RX9, TX9, 12)) (As := [.int (r2 + (nI 1))]) 1 (cm_X9_isPiece l hX g σ o hL (r2 + (nI 1)) hc9) gX9_cuts_X9_isPiece rfl ⟨rfl, rfl⟩ hd_X9_isPiece ⟨Nat.le_of_ble_eq_true rfl, Nat.le_of_ble_eq_true rfl⟩ ⟨Nat.le_refl _, Nat.le_refl _⟩ (lay_lt hL.1 (by decide)) (ce_of hL.1) rfl rfl (Nat.le_of_ble_eq_true rfl) rfl dX9_cuts_33 ?_
  refine k_if_eq (tgt := 50) dX9_cuts_36 (by decide) h (fun h => ?_) (fun h => ?_)
  · refine k_iconst (v := (nI 0)) dX9_cuts_50 (by decide) ?_
    refine k_istore (lv' := [(5, .int (nI 0)), (4, .int r8), (3, .int ((r4 + p1) - r6)), (2, .int r2), (0, .ref (xad X o)), (1, .int p1)]) dX9_cuts_51 (Nat.le_of_ble_eq_true rfl) rfl ?_
    refine k_aload_n (q := 4) dX9_cuts_53 rfl rfl ?_
    refine k_iload_n (q := 3) dX9_cuts_54 rfl rfl ?_
    refine k_iconst (v := (nI 2)) dX9_cuts_55 (by decide) ?_
    refine k_iload_n (q := 2) dX9_cuts_56 rfl rfl ?_
    refine k_iconst (v := (nI 1)) dX9_cuts_57 (by decide) ?_
    refine k_isub dX9_cuts_58 ?_
    obtain ⟨σ12, hc11, h⟩ := bnd_e h
    refine k_cvv (q := (RX9, TX9, 12)) (As := [.int r2, .int (nI 2), .int (((r4 + p1) - r6) - (nI 1))]) 3 (cm_X9_setsP l hX g σ o hL r2 (nI 2) (((r4 + p1) - r6) - (nI 1)) hc11) gX9_cuts_X9_setsP rfl ⟨rfl, rfl⟩ hd_X9_setsP ⟨Nat.le_of_ble_eq_true rfl, Nat.le_of_ble_eq_true rfl⟩ ⟨Nat.le_refl _, Nat.le_refl _⟩ (lay_lt hL.1 (by decide)) (ce_of hL.1) rfl rfl (Nat.le_of_ble_eq_true rfl) rfl dX9_cuts_59 ?_
    refine k_aload_n (q := 4) dX9_cuts_62 rfl rfl ?_
    refine k_iload_n (q := 3) dX9_cuts_63 rfl rfl ?_
    refine k_iconst (v := (nI 1)) dX9_cuts_64 (by decide) ?_
    refine k_iadd dX9_cuts_65 ?_
    refine k_aload_n (q := 4) dX9_cuts_66 rfl rfl ?_
    refine k_iload_n (q := 3) dX9_cuts_67 rfl rfl ?_
    refine k_iconst (v := (nI 0)) dX9_cuts_68 (by decide) ?_
    obtain ⟨r14, hc13, h⟩ := bnd_e h
    refine k_cv (q := (RX9, TX9, 12)) (As := [.int r2, .int (nI 0)]) 2 (cm_X9_ofP l hX g σ12 o hL r2 (nI 0) hc13) gX9_cuts_X9_ofP rfl ⟨rfl, rfl⟩ hd_X9_ofP ⟨Nat.le_of_ble_eq_true rfl, Nat.le_of_ble_eq_true rfl⟩ ⟨Nat.le_refl _, Nat.le_refl _⟩ (lay_lt hL.1 (by decide)) (ce_of hL.1) rfl rfl (Nat.le_of_ble_eq_true rfl) rfl dX9_cuts_69 ?_
    refine k_iload_n (q := 2) dX9_cuts_72 rfl rfl ?_
    refine k_iload (q := 1) dX9_cuts_73 rfl ?_
    obtain ⟨σ16, hc15, h⟩ := bnd_e h
    refine k_cvv (q := (RX9, TX9, 12)) (As := [.int (r2 + (nI 1)), .int r14, .int ((r4 + p1) - r6), .int r8]) 4 (cm_X9_inserts l hX g σ12 o hL (r2 + (nI 1)) r14 ((r4 + p1) - r6) r8 hc15) gX9_cuts_X9_inserts rfl ⟨rfl, rfl⟩ hd_X9_inserts ⟨Nat.le_of_ble_eq_true rfl, Nat.le_of_ble_eq_true rfl⟩ ⟨Nat.le_refl _, Nat.le_refl _⟩ (lay_lt hL.1 (by decide)) (ce_of hL.1) rfl rfl (Nat.le_of_ble_eq_true rfl) rfl dX9_cuts_75 ?_
    refine k_aload_n (q := 4) dX9_cuts_78 rfl rfl ?_
    refine k_iload_n (q := 3) dX9_cuts_79 rfl rfl ?_
    refine k_iconst (v := (nI 2)) dX9_cuts_80 (by decide) ?_
    refine k_iadd dX9_cuts_81 ?_
    obtain ⟨r18, hc17, h⟩ := bnd_e h
    refine k_cv (q := (RX9, TX9, 12)) (As := [.int (r2 + (nI 2))]) 1 (cm_X9_isPiece l hX g σ16 o hL (r2 + (nI 2)) hc17) gX9_cuts_X9_isPiece rfl ⟨rfl, rfl⟩ hd_X9_isPiece ⟨Nat.le_of_ble_eq_true rfl, Nat.le_of_ble_eq_true rfl⟩ ⟨Nat.le_refl _, Nat.le_refl _⟩ (lay_lt hL.1 (by decide)) (ce_of hL.1) rfl rfl (Nat.le_of_ble_eq_true rfl) rfl dX9_cuts_82 ?_
    refine k_if_eq (tgt := 98) dX9_cuts_85 (by decide) h (fun h => ?_) (fun h => ?_)
    · refine k_iload_n (q := 3) dX9_cuts_98 rfl rfl ?_
      refine k_iconst (v := (nI 1)) dX9_cuts_99 (by decide) ?_
      refine k_iadd dX9_cuts_100 ?_
      exact k_iret rfl dX9_cuts_101 h
    · refine k_aload_n (q := 4) dX9_cuts_88 rfl rfl ?_
      refine k_iload_n (q := 3) dX9_cuts_89 rfl rfl ?_
      refine k_iconst (v := (nI 2)) dX9_cuts_90 (by decide) ?_
      refine k_iadd dX9_cuts_91 ?_
      refine k_iconst (v := (nI 3)) dX9_cuts_92 (by decide) ?_
      refine k_iload (q := 0) dX9_cuts_93 rfl ?_
      obtain ⟨σ20, hc19, h⟩ := bnd_e h
      refine k_cvv (q := (RX9, TX9, 12)) (As := [.int (r2 + (nI 2)), .int (nI 3), .int (nI 0)]) 3 (cm_X9_setsP l hX g σ16 o hL (r2 + (nI 2)) (nI 3) (nI 0) hc19) gX9_cuts_X9_setsP rfl ⟨rfl, rfl⟩ hd_X9_setsP ⟨Nat.le_of_ble_eq_true rfl, Nat.le_of_ble_eq_true rfl⟩ ⟨Nat.le_refl _, Nat.le_refl _⟩ (lay_lt hL.1 (by decide)) (ce_of hL.1) rfl rfl (Nat.le_of_ble_eq_true rfl) rfl dX9_cuts_95 ?_
      refine k_iload_n (q := 3) dX9_cuts_98 rfl rfl ?_
      refine k_iconst (v := (nI 1)) dX9_cuts_99 (by decide) ?_
      refine k_iadd dX9_cuts_100 ?_
      exact k_iret rfl dX9_cuts_101 h
  · refine k_aload_n (q := 3) dX9_cuts_39 rfl rfl ?_
    refine k_iload_n (q := 2) dX9_cuts_40 rfl rfl ?_
    refine k_iconst (v := (nI 1)) dX9_cuts_41 (by decide) ?_
    refine k_iadd dX9_cuts_42 ?_
    refine k_iconst (v := (nI 3)) dX9_cuts_43 (by decide) ?_
    obtain ⟨r22, hc21, h⟩ := bnd_e h
    refine k_cv (q := (RX9, TX9, 12)) (As := [.int (r2 + (nI 1)), .int (nI 3)]) 2 (cm_X9_ofP l hX g σ o hL (r2 + (nI 1)) (nI 3) hc21) gX9_cuts_X9_ofP rfl ⟨rfl, rfl⟩ hd_X9_ofP ⟨Nat.le_of_ble_eq_true rfl, Nat.le_of_ble_eq_true rfl⟩ ⟨Nat.le_refl _, Nat.le_refl _⟩ (lay_lt hL.1 (by decide)) (ce_of hL.1) rfl rfl (Nat.le_of_ble_eq_true rfl) rfl dX9_cuts_44 ?_
    refine k_goto (tgt := 51) dX9_cuts_47 (by decide) ?_
    refine k_istore (lv' := [(5, .int r22), (4, .int r8), (3, .int ((r4 + p1) - r6)), (2, .int r2), (0, .ref (xad X o)), (1, .int p1)]) dX9_cuts_51 (Nat.le_of_ble_eq_true rfl) rfl ?_
    refine k_aload_n (q := 4) dX9_cuts_53 rfl rfl ?_
    refine k_iload_n (q := 3) dX9_cuts_54 rfl rfl ?_
    refine k_iconst (v := (nI 2)) dX9_cuts_55 (by decide) ?_
    refine k_iload_n (q := 2) dX9_cuts_56 rfl rfl ?_
    refine k_iconst (v := (nI 1)) dX9_cuts_57 (by decide) ?_
    refine k_isub dX9_cuts_58 ?_
    obtain ⟨σ24, hc23, h⟩ := bnd_e h
    refine k_cvv (q := (RX9, TX9, 12)) (As := [.int r2, .int (nI 2), .int (((r4 + p1) - r6) - (nI 1))]) 3 (cm_X9_setsP l hX g σ o hL r2 (nI 2) (((r4 + p1) - r6) - (nI 1)) hc23) gX9_cuts_X9_setsP rfl ⟨rfl, rfl⟩ hd_X9_setsP ⟨Nat.le_of_ble_eq_true rfl, Nat.le_of_ble_eq_true rfl⟩ ⟨Nat.le_refl _, Nat.le_refl _⟩ (lay_lt hL.1 (by decide)) (ce_of hL.1) rfl rfl (Nat.le_of_ble_eq_true rfl) rfl dX9_cuts_59 ?_
    refine k_aload_n (q := 4) dX9_cuts_62 rfl rfl ?_
    refine k_iload_n (q := 3) dX9_cuts_63 rfl rfl ?_
    refine k_iconst (v := (nI 1)) dX9_cuts_64 (by decide) ?_
    refine k_iadd dX9_cuts_65 ?_
    refine k_aload_n (q := 4) dX9_cuts_66 rfl rfl ?_
    refine k_iload_n (q := 3) dX9_cuts_67 rfl rfl ?_
    refine k_iconst (v := (nI 0)) dX9_cuts_68 (by decide) ?_
    obtain ⟨r26, hc25, h⟩ := bnd_e h
    refine k_cv (q := (RX9, TX9, 12)) (As := [.int r2, .int (nI 0)]) 2 (cm_X9_ofP l hX g σ24 o hL r2 (nI 0) hc25) gX9_cuts_X9_ofP rfl ⟨rfl, rfl⟩ hd_X9_ofP ⟨Nat.le_of_ble_eq_true rfl, Nat.le_of_ble_eq_true rfl⟩ ⟨Nat.le_refl _, Nat.le_refl _⟩ (lay_lt hL.1 (by decide)) (ce_of hL.1) rfl rfl (Nat.le_of_ble_eq_true rfl) rfl dX9_cuts_69 ?_
    refine k_iload_n (q := 2) dX9_cuts_72 rfl rfl ?_
    refine k_iload (q := 1) dX9_cuts_73 rfl ?_
    obtain ⟨σ28, hc27, h⟩ := bnd_e h
    refine k_cvv (q := (RX9, TX9, 12)) (As := [.int (r2 + (nI 1)), .int r26, .int ((r4 + p1) - r6), .int r8]) 4 (cm_X9_inserts l hX g σ24 o hL (r2 + (nI 1)) r26 ((r4 + p1) - r6) r8 hc27) gX9_cuts_X9_inserts rfl ⟨rfl, rfl⟩ hd_X9_inserts ⟨Nat.le_of_ble_eq_true rfl, Nat.le_of_ble_eq_true rfl⟩ ⟨Nat.le_refl _, Nat.le_refl _⟩ (lay_lt hL.1 (by decide)) (ce_of hL.1) rfl rfl (Nat.le_of_ble_eq_true rfl) rfl dX9_cuts_75 ?_
    refine k_aload_n (q := 4) dX9_cuts_78 rfl rfl ?_
    refine k_iload_n (q := 3) dX9_cuts_79 rfl rfl ?_
    refine k_iconst (v := (nI 2)) dX9_cuts_80 (by decide) ?_
    refine k_iadd dX9_cuts_81 ?_
    obtain ⟨r30, hc29, h⟩ := bnd_e h
    refine k_cv (q := (RX9, TX9, 12)) (As := [.int (r2 + (nI 2))]) 1 (cm_X9_isPiece l hX g σ28 o hL (r2 + (nI 2)) hc29) gX9_cuts_X9_isPiece rfl ⟨rfl, rfl⟩ hd_X9_isPiece ⟨Nat.le_of_ble_eq_true rfl, Nat.le_of_ble_eq_true rfl⟩ ⟨Nat.le_refl _, Nat.le_refl _⟩ (lay_lt hL.1 (by decide)) (ce_of hL.1) rfl rfl (Nat.le_of_ble_eq_true rfl) rfl dX9_cuts_82 ?_
    refine k_if_eq (tgt := 98) dX9_cuts_85 (by decide) h (fun h => ?_) (fun h => ?_)
    · refine k_iload_n (q := 3) dX9_cuts_98 rfl rfl ?_
      refine k_iconst (v := (nI 1)) dX9_cuts_99 (by decide) ?_
      refine k_iadd dX9_cuts_100 ?_
      exact k_iret rfl dX9_cuts_101 h
    · refine k_aload_n (q := 4) dX9_cuts_88 rfl rfl ?_
      refine k_iload_n (q := 3) dX9_cuts_89 rfl rfl ?_
      refine k_iconst (v := (nI 2)) dX9_cuts_90 (by decide) ?_
      refine k_iadd dX9_cuts_91 ?_
      refine k_iconst (v := (nI 3)) dX9_cuts_92 (by decide) ?_
      refine k_iload (q := 0) dX9_cuts_93 rfl ?_
      obtain ⟨σ32, hc31, h⟩ := bnd_e h
      refine k_cvv (q := (RX9, TX9, 12)) (As := [.int (r2 + (nI 2)), .int (nI 3), .int r22]) 3 (cm_X9_setsP l hX g σ28 o hL (r2 + (nI 2)) (nI 3) r22 hc31) gX9_cuts_X9_setsP rfl ⟨rfl, rfl⟩ hd_X9_setsP ⟨Nat.le_of_ble_eq_true rfl, Nat.le_of_ble_eq_true rfl⟩ ⟨Nat.le_refl _, Nat.le_refl _⟩ (lay_lt hL.1 (by decide)) (ce_of hL.1) rfl rfl (Nat.le_of_ble_eq_true rfl) rfl dX9_cuts_95 ?_
      refine k_iload_n (q := 3) dX9_cuts_98 rfl rfl ?_
      refine k_iconst (v := (nI 1)) dX9_cuts_99 (by decide) ?_
      refine k_iadd dX9_cuts_100 ?_
      exact k_iret rfl dX9_cuts_101 h
abbrev rmX9_cut : Room := { frames := 5, cells := 0, slots := 0, locals := 113 }
abbrev mX9_cut : MT := (rmX9_cut, wsX9_cut, cX9_cut, 3, RX9, some .int)
theorem hd_X9_cut : yX9_cut.cls = RX9 ∧ yX9_cut.cls ≠ "java/lang/invoke/MethodHandle" ∧ yX9_cut.cls ≠ "java/lang/invoke/VarHandle" ∧ (parseMethodDescriptor yX9_cut.desc).map (fun d => d.parameters.length) = some 1 := by decide +kernel
theorem inX9_cut_9 : ∀ w ∈ wsX90, w ∈ wsX9_cut := fun w h => List.mem_cons_of_mem _ (List.mem_append_right _ h)
set_option maxHeartbeats 4000000 in
set_option maxRecDepth 100000 in
theorem cm_X9_cut (l : Launch) {X : XT} (hX : XD X) (g : Nat) (σ : Mem) (o : Nat) (hL : L9 o) (p1 : Int32) {r : Int32} {σ' : Mem} (h : fX9_cut g σ o p1 = some (r, σ')) : Met l yX9_cut wsX9_cut rmX9_cut (va_Pc [.ref (xad X o), .int p1] (WW X σ)) (QI X r σ') 0 0 (XA X) := by
  refine met_x (M := mX9_cut) (lv := [(0, .ref (xad X o)), (1, .int p1)]) hX (by decide) rfl rfl (Nat.le_of_ble_eq_true rfl) rfl ?_
  unfold fX9_cut at h
  refine k_aload_n (q := 0) dX9_cut_0 rfl rfl ?_
  refine k_iload_n (q := 1) dX9_cut_1 rfl rfl ?_
  obtain ⟨r2, hc1, h⟩ := bnd_e h
  refine k_cv (q := (RX9, TX9, 12)) (As := [.int p1]) 1 (cm_X9_cutError l hX g σ o hL p1 hc1) gX9_cut_X9_cutError rfl ⟨rfl, rfl⟩ hd_X9_cutError ⟨Nat.le_of_ble_eq_true rfl, Nat.le_of_ble_eq_true rfl⟩ ⟨Nat.le_refl _, Nat.le_refl _⟩ (lay_lt hL.1 (by decide)) (ce_of hL.1) rfl rfl (Nat.le_of_ble_eq_true rfl) rfl dX9_cut_2 ?_
  refine k_istore_n (lv' := [(2, .int r2), (0, .ref (xad X o)), (1, .int p1)]) dX9_cut_5 rfl (Nat.le_of_ble_eq_true rfl) rfl ?_
  refine k_iload_n (q := 0) dX9_cut_6 rfl rfl ?_
  refine k_if_eq (tgt := 12) dX9_cut_7 (by decide) h (fun h => ?_) (fun h => ?_)
  · refine k_aload_n (q := 1) dX9_cut_12 rfl rfl ?_
    refine k_iconst (v := (nI 0)) dX9_cut_13 (by decide) ?_
    obtain ⟨σ4, hc3, h⟩ := bnd_e h
    refine k_cvv (q := (RX9, TX9, 12)) (As := [.int (nI 0)]) 1 (cm_X9_records l hX g σ o hL (nI 0) hc3) gX9_cut_X9_records rfl ⟨rfl, rfl⟩ hd_X9_records ⟨Nat.le_of_ble_eq_true rfl, Nat.le_of_ble_eq_true rfl⟩ ⟨Nat.le_refl _, Nat.le_refl _⟩ (lay_lt hL.1 (by decide)) (ce_of hL.1) rfl rfl (Nat.le_of_ble_eq_true rfl) rfl dX9_cut_14 ?_
    refine k_aload_n (q := 1) dX9_cut_17 rfl rfl ?_
    refine k_iload_n (q := 2) dX9_cut_18 rfl rfl ?_
    obtain ⟨r6, σ7, hc5, h⟩ := bnd2_e h
    refine k_cv (q := (RX9, TX9, 12)) (As := [.int p1]) 1 (cm_X9_cuts l hX g σ4 o hL p1 hc5) gX9_cut_X9_cuts rfl ⟨rfl, rfl⟩ hd_X9_cuts ⟨Nat.le_of_ble_eq_true rfl, Nat.le_of_ble_eq_true rfl⟩ ⟨Nat.le_refl _, Nat.le_refl _⟩ (lay_lt hL.1 (by decide)) (ce_of hL.1) rfl rfl (Nat.le_of_ble_eq_true rfl) rfl dX9_cut_19 ?_
    exact k_iret rfl dX9_cut_22 h
  · refine k_iload_n (q := 0) dX9_cut_10 rfl rfl ?_
    exact k_iret rfl dX9_cut_11 h
abbrev rmX9_joinError : Room := { frames := 2, cells := 0, slots := 0, locals := 43 }
abbrev mX9_joinError : MT := (rmX9_joinError, wsX9_joinError, cX9_joinError, 3, RX9, some .int)
theorem hd_X9_joinError : yX9_joinError.cls = RX9 ∧ yX9_joinError.cls ≠ "java/lang/invoke/MethodHandle" ∧ yX9_joinError.cls ≠ "java/lang/invoke/VarHandle" ∧ (parseMethodDescriptor yX9_joinError.desc).map (fun d => d.parameters.length) = some 1 := by decide +kernel
theorem inX9_joinError_9 : ∀ w ∈ wsX90, w ∈ wsX9_joinError := fun w h => List.mem_cons_of_mem _ (List.mem_append_right _ h)
set_option maxHeartbeats 4000000 in
set_option maxRecDepth 100000 in
theorem cm_X9_joinError (l : Launch) {X : XT} (hX : XD X) (g : Nat) (σ : Mem) (o : Nat) (hL : L9 o) (p1 : Int32) {r : Int32} (h : fX9_joinError g σ o p1 = some r) : Met l yX9_joinError wsX9_joinError rmX9_joinError (va_Pc [.ref (xad X o), .int p1] (WW X σ)) (QI X r σ) 0 0 (XA X) := by
  refine met_x (M := mX9_joinError) (lv := [(0, .ref (xad X o)), (1, .int p1)]) hX (by decide) rfl rfl (Nat.le_of_ble_eq_true rfl) rfl ?_
  unfold fX9_joinError at h
  refine k_aload_n (q := 0) dX9_joinError_0 rfl rfl ?_
  refine k_iload_n (q := 1) dX9_joinError_1 rfl rfl ?_
  obtain ⟨r2, hc1, h⟩ := bnd_e h
  refine k_cv (q := (RX9, TX9, 12)) (As := [.int p1]) 1 (cm_X9_isPiece l hX g σ o hL p1 hc1) gX9_joinError_X9_isPiece rfl ⟨rfl, rfl⟩ hd_X9_isPiece ⟨Nat.le_of_ble_eq_true rfl, Nat.le_of_ble_eq_true rfl⟩ ⟨Nat.le_refl _, Nat.le_refl _⟩ (lay_lt hL.1 (by decide)) (ce_of hL.1) rfl rfl (Nat.le_of_ble_eq_true rfl) rfl dX9_joinError_2 ?_
  refine k_if_ne (tgt := 10) dX9_joinError_5 (by decide) h (fun h => ?_) (fun h => ?_)
  · refine k_aload_n (q := 0) dX9_joinError_10 rfl rfl ?_
    refine k_iload_n (q := 1) dX9_joinError_11 rfl rfl ?_
    refine k_iconst (v := (nI 1)) dX9_joinError_12 (by decide) ?_
    refine k_iadd dX9_joinError_13 ?_
    obtain ⟨r4, hc3, h⟩ := bnd_e h
    refine k_cv (q := (RX9, TX9, 12)) (As := [.int (p1 + (nI 1))]) 1 (cm_X9_isPiece l hX g σ o hL (p1 + (nI 1)) hc3) gX9_joinError_X9_isPiece rfl ⟨rfl, rfl⟩ hd_X9_isPiece ⟨Nat.le_of_ble_eq_true rfl, Nat.le_of_ble_eq_true rfl⟩ ⟨Nat.le_refl _, Nat.le_refl _⟩ (lay_lt hL.1 (by decide)) (ce_of hL.1) rfl rfl (Nat.le_of_ble_eq_true rfl) rfl dX9_joinError_14 ?_
    refine k_if_eq (tgt := 60) dX9_joinError_17 (by decide) h (fun h => ?_) (fun h => ?_)
    · refine k_iconst (v := (nI 0)) dX9_joinError_60 (by decide) ?_
      refine k_istore_n (lv' := [(2, .int (nI 0)), (0, .ref (xad X o)), (1, .int p1)]) dX9_joinError_61 rfl (Nat.le_of_ble_eq_true rfl) rfl ?_
      refine k_iload_n (q := 0) dX9_joinError_62 rfl rfl ?_
      have key : WG X l mX9_joinError (fun _ _ => True) 0 0 (QM X (QI X r σ)) 72 σ [(2, .int (nI 0)), (0, .ref (xad X o)), (1, .int p1)] [.int (if (nI 0) = 0 then (nN 4) else (nI 0))] := by
        exact k_iretR rfl dX9_joinError_72 h
      refine k_ifc_eq (tgt := 70) dX9_joinError_63 (by decide) (fun hq => ?_) (fun hq => ?_)
      · rw [if_pos hq] at key
        refine k_bipush (v := (nN 4)) dX9_joinError_70 (by decide) ?_
        exact key
      · rw [if_neg hq] at key
        refine k_iconst (v := (nI 0)) dX9_joinError_66 (by decide) ?_
        refine k_goto (tgt := 72) dX9_joinError_67 (by decide) ?_
        exact key
    · refine k_aload_n (q := 0) dX9_joinError_20 rfl rfl ?_
      refine k_iload_n (q := 1) dX9_joinError_21 rfl rfl ?_
      refine k_iconst (v := (nI 1)) dX9_joinError_22 (by decide) ?_
      refine k_iadd dX9_joinError_23 ?_
      refine k_iconst (v := (nI 0)) dX9_joinError_24 (by decide) ?_
      obtain ⟨r6, hc5, h⟩ := bnd_e h
      refine k_cv (q := (RX9, TX9, 12)) (As := [.int (p1 + (nI 1)), .int (nI 0)]) 2 (cm_X9_ofP l hX g σ o hL (p1 + (nI 1)) (nI 0) hc5) gX9_joinError_X9_ofP rfl ⟨rfl, rfl⟩ hd_X9_ofP ⟨Nat.le_of_ble_eq_true rfl, Nat.le_of_ble_eq_true rfl⟩ ⟨Nat.le_refl _, Nat.le_refl _⟩ (lay_lt hL.1 (by decide)) (ce_of hL.1) rfl rfl (Nat.le_of_ble_eq_true rfl) rfl dX9_joinError_25 ?_
      refine k_aload_n (q := 0) dX9_joinError_28 rfl rfl ?_
      refine k_iload_n (q := 1) dX9_joinError_29 rfl rfl ?_
      refine k_iconst (v := (nI 0)) dX9_joinError_30 (by decide) ?_
      obtain ⟨r8, hc7, h⟩ := bnd_e h
      refine k_cv (q := (RX9, TX9, 12)) (As := [.int p1, .int (nI 0)]) 2 (cm_X9_ofP l hX g σ o hL p1 (nI 0) hc7) gX9_joinError_X9_ofP rfl ⟨rfl, rfl⟩ hd_X9_ofP ⟨Nat.le_of_ble_eq_true rfl, Nat.le_of_ble_eq_true rfl⟩ ⟨Nat.le_refl _, Nat.le_refl _⟩ (lay_lt hL.1 (by decide)) (ce_of hL.1) rfl rfl (Nat.le_of_ble_eq_true rfl) rfl dX9_joinError_31 ?_
      refine k_icmp_ne (tgt := 60) dX9_joinError_34 (by decide) h (fun h => ?_) (fun h => ?_)
      · refine k_iconst (v := (nI 0)) dX9_joinError_60 (by decide) ?_
        refine k_istore_n (lv' := [(2, .int (nI 0)), (0, .ref (xad X o)), (1, .int p1)]) dX9_joinError_61 rfl (Nat.le_of_ble_eq_true rfl) rfl ?_
        refine k_iload_n (q := 0) dX9_joinError_62 rfl rfl ?_
        have key : WG X l mX9_joinError (fun _ _ => True) 0 0 (QM X (QI X r σ)) 72 σ [(2, .int (nI 0)), (0, .ref (xad X o)), (1, .int p1)] [.int (if (nI 0) = 0 then (nN 4) else (nI 0))] := by
          exact k_iretR rfl dX9_joinError_72 h
        refine k_ifc_eq (tgt := 70) dX9_joinError_63 (by decide) (fun hq => ?_) (fun hq => ?_)
        · rw [if_pos hq] at key
          refine k_bipush (v := (nN 4)) dX9_joinError_70 (by decide) ?_
          exact key
        · rw [if_neg hq] at key
          refine k_iconst (v := (nI 0)) dX9_joinError_66 (by decide) ?_
          refine k_goto (tgt := 72) dX9_joinError_67 (by decide) ?_
          exact key
      · refine k_aload_n (q := 0) dX9_joinError_37 rfl rfl ?_
        refine k_iload_n (q := 1) dX9_joinError_38 rfl rfl ?_
        refine k_iconst (v := (nI 1)) dX9_joinError_39 (by decide) ?_
        refine k_iadd dX9_joinError_40 ?_
        refine k_iconst (v := (nI 1)) dX9_joinError_41 (by decide) ?_
        obtain ⟨r10, hc9, h⟩ := bnd_e h
        refine k_cv (q := (RX9, TX9, 12)) (As := [.int (p1 + (nI 1)), .int (nI 1)]) 2 (cm_X9_ofP l hX g σ o hL (p1 + (nI 1)) (nI 1) hc9) gX9_joinError_X9_ofP rfl ⟨rfl, rfl⟩ hd_X9_ofP ⟨Nat.le_of_ble_eq_true rfl, Nat.le_of_ble_eq_true rfl⟩ ⟨Nat.le_refl _, Nat.le_refl _⟩ (lay_lt hL.1 (by decide)) (ce_of hL.1) rfl rfl (Nat.le_of_ble_eq_true rfl) rfl dX9_joinError_42 ?_
        refine k_aload_n (q := 0) dX9_joinError_45 rfl rfl ?_
        refine k_iload_n (q := 1) dX9_joinError_46 rfl rfl ?_
        refine k_iconst (v := (nI 2)) dX9_joinError_47 (by decide) ?_
        obtain ⟨r12, hc11, h⟩ := bnd_e h
        refine k_cv (q := (RX9, TX9, 12)) (As := [.int p1, .int (nI 2)]) 2 (cm_X9_ofP l hX g σ o hL p1 (nI 2) hc11) gX9_joinError_X9_ofP rfl ⟨rfl, rfl⟩ hd_X9_ofP ⟨Nat.le_of_ble_eq_true rfl, Nat.le_of_ble_eq_true rfl⟩ ⟨Nat.le_refl _, Nat.le_refl _⟩ (lay_lt hL.1 (by decide)) (ce_of hL.1) rfl rfl (Nat.le_of_ble_eq_true rfl) rfl dX9_joinError_48 ?_
        refine k_iconst (v := (nI 1)) dX9_joinError_51 (by decide) ?_
        refine k_iadd dX9_joinError_52 ?_
        refine k_icmp_ne (tgt := 60) dX9_joinError_53 (by decide) h (fun h => ?_) (fun h => ?_)
        · refine k_iconst (v := (nI 0)) dX9_joinError_60 (by decide) ?_
          refine k_istore_n (lv' := [(2, .int (nI 0)), (0, .ref (xad X o)), (1, .int p1)]) dX9_joinError_61 rfl (Nat.le_of_ble_eq_true rfl) rfl ?_
          refine k_iload_n (q := 0) dX9_joinError_62 rfl rfl ?_
          have key : WG X l mX9_joinError (fun _ _ => True) 0 0 (QM X (QI X r σ)) 72 σ [(2, .int (nI 0)), (0, .ref (xad X o)), (1, .int p1)] [.int (if (nI 0) = 0 then (nN 4) else (nI 0))] := by
            exact k_iretR rfl dX9_joinError_72 h
          refine k_ifc_eq (tgt := 70) dX9_joinError_63 (by decide) (fun hq => ?_) (fun hq => ?_)
          · rw [if_pos hq] at key
            refine k_bipush (v := (nN 4)) dX9_joinError_70 (by decide) ?_
            exact key
          · rw [if_neg hq] at key
            refine k_iconst (v := (nI 0)) dX9_joinError_66 (by decide) ?_
            refine k_goto (tgt := 72) dX9_joinError_67 (by decide) ?_
            exact key
        · refine k_iconst (v := (nI 1)) dX9_joinError_56 (by decide) ?_
          refine k_goto (tgt := 61) dX9_joinError_57 (by decide) ?_
          refine k_istore_n (lv' := [(2, .int (nI 1)), (0, .ref (xad X o)), (1, .int p1)]) dX9_joinError_61 rfl (Nat.le_of_ble_eq_true rfl) rfl ?_
          refine k_iload_n (q := 0) dX9_joinError_62 rfl rfl ?_
          have key : WG X l mX9_joinError (fun _ _ => True) 0 0 (QM X (QI X r σ)) 72 σ [(2, .int (nI 1)), (0, .ref (xad X o)), (1, .int p1)] [.int (if (nI 1) = 0 then (nN 4) else (nI 0))] := by
            exact k_iretR rfl dX9_joinError_72 h
          refine k_ifc_eq (tgt := 70) dX9_joinError_63 (by decide) (fun hq => ?_) (fun hq => ?_)
          · rw [if_pos hq] at key
            refine k_bipush (v := (nN 4)) dX9_joinError_70 (by decide) ?_
            exact key
          · rw [if_neg hq] at key
            refine k_iconst (v := (nI 0)) dX9_joinError_66 (by decide) ?_
            refine k_goto (tgt := 72) dX9_joinError_67 (by decide) ?_
            exact key
  · refine k_iconst (v := (nN 1)) dX9_joinError_8 (by decide) ?_
    exact k_iretR rfl dX9_joinError_9 h
abbrev rmX9_joins : Room := { frames := 3, cells := 0, slots := 0, locals := 65 }
abbrev mX9_joins : MT := (rmX9_joins, wsX9_joins, cX9_joins, 3, RX9, some .int)
theorem hd_X9_joins : yX9_joins.cls = RX9 ∧ yX9_joins.cls ≠ "java/lang/invoke/MethodHandle" ∧ yX9_joins.cls ≠ "java/lang/invoke/VarHandle" ∧ (parseMethodDescriptor yX9_joins.desc).map (fun d => d.parameters.length) = some 1 := by decide +kernel
theorem inX9_joins_9 : ∀ w ∈ wsX90, w ∈ wsX9_joins := fun w h => List.mem_cons_of_mem _ (List.mem_append_right _ h)
set_option maxHeartbeats 4000000 in
set_option maxRecDepth 100000 in
theorem cm_X9_joins (l : Launch) {X : XT} (hX : XD X) (g : Nat) (σ : Mem) (o : Nat) (hL : L9 o) (p1 : Int32) {r : Int32} {σ' : Mem} (h : fX9_joins g σ o p1 = some (r, σ')) : Met l yX9_joins wsX9_joins rmX9_joins (va_Pc [.ref (xad X o), .int p1] (WW X σ)) (QI X r σ') 0 0 (XA X) := by
  refine met_x (M := mX9_joins) (lv := [(0, .ref (xad X o)), (1, .int p1)]) hX (by decide) rfl rfl (Nat.le_of_ble_eq_true rfl) rfl ?_
  unfold fX9_joins at h
  refine k_aload_n (q := 0) dX9_joins_0 rfl rfl ?_
  refine k_iload_n (q := 1) dX9_joins_1 rfl rfl ?_
  refine k_iconst (v := (nI 2)) dX9_joins_2 (by decide) ?_
  refine k_iadd dX9_joins_3 ?_
  obtain ⟨r2, hc1, h⟩ := bnd_e h
  refine k_cv (q := (RX9, TX9, 12)) (As := [.int (p1 + (nI 2))]) 1 (cm_X9_isPiece l hX g σ o hL (p1 + (nI 2)) hc1) gX9_joins_X9_isPiece rfl ⟨rfl, rfl⟩ hd_X9_isPiece ⟨Nat.le_of_ble_eq_true rfl, Nat.le_of_ble_eq_true rfl⟩ ⟨Nat.le_refl _, Nat.le_refl _⟩ (lay_lt hL.1 (by decide)) (ce_of hL.1) rfl rfl (Nat.le_of_ble_eq_true rfl) rfl dX9_joins_4 ?_
  refine k_if_eq (tgt := 21) dX9_joins_7 (by decide) h (fun h => ?_) (fun h => ?_)
  · refine k_iconst (v := (nI 0)) dX9_joins_21 (by decide) ?_
    refine k_istore_n (lv' := [(2, .int (nI 0)), (0, .ref (xad X o)), (1, .int p1)]) dX9_joins_22 rfl (Nat.le_of_ble_eq_true rfl) rfl ?_
    refine k_aload_n (q := 1) dX9_joins_23 rfl rfl ?_
    refine k_iload_n (q := 2) dX9_joins_24 rfl rfl ?_
    refine k_iconst (v := (nI 2)) dX9_joins_25 (by decide) ?_
    refine k_aload_n (q := 1) dX9_joins_26 rfl rfl ?_
    refine k_iload_n (q := 2) dX9_joins_27 rfl rfl ?_
    refine k_iconst (v := (nI 1)) dX9_joins_28 (by decide) ?_
    refine k_iadd dX9_joins_29 ?_
    refine k_iconst (v := (nI 2)) dX9_joins_30 (by decide) ?_
    obtain ⟨r4, hc3, h⟩ := bnd_e h
    refine k_cv (q := (RX9, TX9, 12)) (As := [.int (p1 + (nI 1)), .int (nI 2)]) 2 (cm_X9_ofP l hX g σ o hL (p1 + (nI 1)) (nI 2) hc3) gX9_joins_X9_ofP rfl ⟨rfl, rfl⟩ hd_X9_ofP ⟨Nat.le_of_ble_eq_true rfl, Nat.le_of_ble_eq_true rfl⟩ ⟨Nat.le_refl _, Nat.le_refl _⟩ (lay_lt hL.1 (by decide)) (ce_of hL.1) rfl rfl (Nat.le_of_ble_eq_true rfl) rfl dX9_joins_31 ?_
    obtain ⟨σ6, hc5, h⟩ := bnd_e h
    refine k_cvv (q := (RX9, TX9, 12)) (As := [.int p1, .int (nI 2), .int r4]) 3 (cm_X9_setsP l hX g σ o hL p1 (nI 2) r4 hc5) gX9_joins_X9_setsP rfl ⟨rfl, rfl⟩ hd_X9_setsP ⟨Nat.le_of_ble_eq_true rfl, Nat.le_of_ble_eq_true rfl⟩ ⟨Nat.le_refl _, Nat.le_refl _⟩ (lay_lt hL.1 (by decide)) (ce_of hL.1) rfl rfl (Nat.le_of_ble_eq_true rfl) rfl dX9_joins_34 ?_
    refine k_aload_n (q := 1) dX9_joins_37 rfl rfl ?_
    refine k_iload_n (q := 2) dX9_joins_38 rfl rfl ?_
    refine k_iconst (v := (nI 1)) dX9_joins_39 (by decide) ?_
    refine k_iadd dX9_joins_40 ?_
    obtain ⟨σ8, hc7, h⟩ := bnd_e h
    refine k_cvv (q := (RX9, TX9, 12)) (As := [.int (p1 + (nI 1))]) 1 (cm_X9_removes l hX g σ6 o hL (p1 + (nI 1)) hc7) gX9_joins_X9_removes rfl ⟨rfl, rfl⟩ hd_X9_removes ⟨Nat.le_of_ble_eq_true rfl, Nat.le_of_ble_eq_true rfl⟩ ⟨Nat.le_refl _, Nat.le_refl _⟩ (lay_lt hL.1 (by decide)) (ce_of hL.1) rfl rfl (Nat.le_of_ble_eq_true rfl) rfl dX9_joins_41 ?_
    refine k_aload_n (q := 1) dX9_joins_44 rfl rfl ?_
    refine k_iload_n (q := 2) dX9_joins_45 rfl rfl ?_
    refine k_iconst (v := (nI 1)) dX9_joins_46 (by decide) ?_
    refine k_iadd dX9_joins_47 ?_
    obtain ⟨r10, hc9, h⟩ := bnd_e h
    refine k_cv (q := (RX9, TX9, 12)) (As := [.int (p1 + (nI 1))]) 1 (cm_X9_isPiece l hX g σ8 o hL (p1 + (nI 1)) hc9) gX9_joins_X9_isPiece rfl ⟨rfl, rfl⟩ hd_X9_isPiece ⟨Nat.le_of_ble_eq_true rfl, Nat.le_of_ble_eq_true rfl⟩ ⟨Nat.le_refl _, Nat.le_refl _⟩ (lay_lt hL.1 (by decide)) (ce_of hL.1) rfl rfl (Nat.le_of_ble_eq_true rfl) rfl dX9_joins_48 ?_
    refine k_if_eq (tgt := 63) dX9_joins_51 (by decide) h (fun h => ?_) (fun h => ?_)
    · refine k_aload_n (q := 1) dX9_joins_63 rfl rfl ?_
      refine k_iload_n (q := 2) dX9_joins_64 rfl rfl ?_
      obtain ⟨r12, hc11, h⟩ := bnd_e h
      refine k_cv (q := (RX9, TX9, 12)) (As := [.int p1]) 1 (cm_X9_framesIn l hX g σ8 o hL p1 hc11) gX9_joins_X9_framesIn rfl ⟨rfl, rfl⟩ hd_X9_framesIn ⟨Nat.le_of_ble_eq_true rfl, Nat.le_of_ble_eq_true rfl⟩ ⟨Nat.le_refl _, Nat.le_refl _⟩ (lay_lt hL.1 (by decide)) (ce_of hL.1) rfl rfl (Nat.le_of_ble_eq_true rfl) rfl dX9_joins_65 ?_
      exact k_iret rfl dX9_joins_68 h
    · refine k_aload_n (q := 1) dX9_joins_54 rfl rfl ?_
      refine k_iload_n (q := 2) dX9_joins_55 rfl rfl ?_
      refine k_iconst (v := (nI 1)) dX9_joins_56 (by decide) ?_
      refine k_iadd dX9_joins_57 ?_
      refine k_iconst (v := (nI 3)) dX9_joins_58 (by decide) ?_
      refine k_iload_n (q := 0) dX9_joins_59 rfl rfl ?_
      obtain ⟨σ14, hc13, h⟩ := bnd_e h
      refine k_cvv (q := (RX9, TX9, 12)) (As := [.int (p1 + (nI 1)), .int (nI 3), .int (nI 0)]) 3 (cm_X9_setsP l hX g σ8 o hL (p1 + (nI 1)) (nI 3) (nI 0) hc13) gX9_joins_X9_setsP rfl ⟨rfl, rfl⟩ hd_X9_setsP ⟨Nat.le_of_ble_eq_true rfl, Nat.le_of_ble_eq_true rfl⟩ ⟨Nat.le_refl _, Nat.le_refl _⟩ (lay_lt hL.1 (by decide)) (ce_of hL.1) rfl rfl (Nat.le_of_ble_eq_true rfl) rfl dX9_joins_60 ?_
      refine k_aload_n (q := 1) dX9_joins_63 rfl rfl ?_
      refine k_iload_n (q := 2) dX9_joins_64 rfl rfl ?_
      obtain ⟨r16, hc15, h⟩ := bnd_e h
      refine k_cv (q := (RX9, TX9, 12)) (As := [.int p1]) 1 (cm_X9_framesIn l hX g σ14 o hL p1 hc15) gX9_joins_X9_framesIn rfl ⟨rfl, rfl⟩ hd_X9_framesIn ⟨Nat.le_of_ble_eq_true rfl, Nat.le_of_ble_eq_true rfl⟩ ⟨Nat.le_refl _, Nat.le_refl _⟩ (lay_lt hL.1 (by decide)) (ce_of hL.1) rfl rfl (Nat.le_of_ble_eq_true rfl) rfl dX9_joins_65 ?_
      exact k_iret rfl dX9_joins_68 h
  · refine k_aload_n (q := 0) dX9_joins_10 rfl rfl ?_
    refine k_iload_n (q := 1) dX9_joins_11 rfl rfl ?_
    refine k_iconst (v := (nI 2)) dX9_joins_12 (by decide) ?_
    refine k_iadd dX9_joins_13 ?_
    refine k_iconst (v := (nI 3)) dX9_joins_14 (by decide) ?_
    obtain ⟨r18, hc17, h⟩ := bnd_e h
    refine k_cv (q := (RX9, TX9, 12)) (As := [.int (p1 + (nI 2)), .int (nI 3)]) 2 (cm_X9_ofP l hX g σ o hL (p1 + (nI 2)) (nI 3) hc17) gX9_joins_X9_ofP rfl ⟨rfl, rfl⟩ hd_X9_ofP ⟨Nat.le_of_ble_eq_true rfl, Nat.le_of_ble_eq_true rfl⟩ ⟨Nat.le_refl _, Nat.le_refl _⟩ (lay_lt hL.1 (by decide)) (ce_of hL.1) rfl rfl (Nat.le_of_ble_eq_true rfl) rfl dX9_joins_15 ?_
    refine k_goto (tgt := 22) dX9_joins_18 (by decide) ?_
    refine k_istore_n (lv' := [(2, .int r18), (0, .ref (xad X o)), (1, .int p1)]) dX9_joins_22 rfl (Nat.le_of_ble_eq_true rfl) rfl ?_
    refine k_aload_n (q := 1) dX9_joins_23 rfl rfl ?_
    refine k_iload_n (q := 2) dX9_joins_24 rfl rfl ?_
    refine k_iconst (v := (nI 2)) dX9_joins_25 (by decide) ?_
    refine k_aload_n (q := 1) dX9_joins_26 rfl rfl ?_
    refine k_iload_n (q := 2) dX9_joins_27 rfl rfl ?_
    refine k_iconst (v := (nI 1)) dX9_joins_28 (by decide) ?_
    refine k_iadd dX9_joins_29 ?_
    refine k_iconst (v := (nI 2)) dX9_joins_30 (by decide) ?_
    obtain ⟨r20, hc19, h⟩ := bnd_e h
    refine k_cv (q := (RX9, TX9, 12)) (As := [.int (p1 + (nI 1)), .int (nI 2)]) 2 (cm_X9_ofP l hX g σ o hL (p1 + (nI 1)) (nI 2) hc19) gX9_joins_X9_ofP rfl ⟨rfl, rfl⟩ hd_X9_ofP ⟨Nat.le_of_ble_eq_true rfl, Nat.le_of_ble_eq_true rfl⟩ ⟨Nat.le_refl _, Nat.le_refl _⟩ (lay_lt hL.1 (by decide)) (ce_of hL.1) rfl rfl (Nat.le_of_ble_eq_true rfl) rfl dX9_joins_31 ?_
    obtain ⟨σ22, hc21, h⟩ := bnd_e h
    refine k_cvv (q := (RX9, TX9, 12)) (As := [.int p1, .int (nI 2), .int r20]) 3 (cm_X9_setsP l hX g σ o hL p1 (nI 2) r20 hc21) gX9_joins_X9_setsP rfl ⟨rfl, rfl⟩ hd_X9_setsP ⟨Nat.le_of_ble_eq_true rfl, Nat.le_of_ble_eq_true rfl⟩ ⟨Nat.le_refl _, Nat.le_refl _⟩ (lay_lt hL.1 (by decide)) (ce_of hL.1) rfl rfl (Nat.le_of_ble_eq_true rfl) rfl dX9_joins_34 ?_
    refine k_aload_n (q := 1) dX9_joins_37 rfl rfl ?_
    refine k_iload_n (q := 2) dX9_joins_38 rfl rfl ?_
    refine k_iconst (v := (nI 1)) dX9_joins_39 (by decide) ?_
    refine k_iadd dX9_joins_40 ?_
    obtain ⟨σ24, hc23, h⟩ := bnd_e h
    refine k_cvv (q := (RX9, TX9, 12)) (As := [.int (p1 + (nI 1))]) 1 (cm_X9_removes l hX g σ22 o hL (p1 + (nI 1)) hc23) gX9_joins_X9_removes rfl ⟨rfl, rfl⟩ hd_X9_removes ⟨Nat.le_of_ble_eq_true rfl, Nat.le_of_ble_eq_true rfl⟩ ⟨Nat.le_refl _, Nat.le_refl _⟩ (lay_lt hL.1 (by decide)) (ce_of hL.1) rfl rfl (Nat.le_of_ble_eq_true rfl) rfl dX9_joins_41 ?_
    refine k_aload_n (q := 1) dX9_joins_44 rfl rfl ?_
    refine k_iload_n (q := 2) dX9_joins_45 rfl rfl ?_
    refine k_iconst (v := (nI 1)) dX9_joins_46 (by decide) ?_
    refine k_iadd dX9_joins_47 ?_
    obtain ⟨r26, hc25, h⟩ := bnd_e h
    refine k_cv (q := (RX9, TX9, 12)) (As := [.int (p1 + (nI 1))]) 1 (cm_X9_isPiece l hX g σ24 o hL (p1 + (nI 1)) hc25) gX9_joins_X9_isPiece rfl ⟨rfl, rfl⟩ hd_X9_isPiece ⟨Nat.le_of_ble_eq_true rfl, Nat.le_of_ble_eq_true rfl⟩ ⟨Nat.le_refl _, Nat.le_refl _⟩ (lay_lt hL.1 (by decide)) (ce_of hL.1) rfl rfl (Nat.le_of_ble_eq_true rfl) rfl dX9_joins_48 ?_
    refine k_if_eq (tgt := 63) dX9_joins_51 (by decide) h (fun h => ?_) (fun h => ?_)
    · refine k_aload_n (q := 1) dX9_joins_63 rfl rfl ?_
      refine k_iload_n (q := 2) dX9_joins_64 rfl rfl ?_
      obtain ⟨r28, hc27, h⟩ := bnd_e h
      refine k_cv (q := (RX9, TX9, 12)) (As := [.int p1]) 1 (cm_X9_framesIn l hX g σ24 o hL p1 hc27) gX9_joins_X9_framesIn rfl ⟨rfl, rfl⟩ hd_X9_framesIn ⟨Nat.le_of_ble_eq_true rfl, Nat.le_of_ble_eq_true rfl⟩ ⟨Nat.le_refl _, Nat.le_refl _⟩ (lay_lt hL.1 (by decide)) (ce_of hL.1) rfl rfl (Nat.le_of_ble_eq_true rfl) rfl dX9_joins_65 ?_
      exact k_iret rfl dX9_joins_68 h
    · refine k_aload_n (q := 1) dX9_joins_54 rfl rfl ?_
      refine k_iload_n (q := 2) dX9_joins_55 rfl rfl ?_
      refine k_iconst (v := (nI 1)) dX9_joins_56 (by decide) ?_
      refine k_iadd dX9_joins_57 ?_
      refine k_iconst (v := (nI 3)) dX9_joins_58 (by decide) ?_
      refine k_iload_n (q := 0) dX9_joins_59 rfl rfl ?_
      obtain ⟨σ30, hc29, h⟩ := bnd_e h
      refine k_cvv (q := (RX9, TX9, 12)) (As := [.int (p1 + (nI 1)), .int (nI 3), .int r18]) 3 (cm_X9_setsP l hX g σ24 o hL (p1 + (nI 1)) (nI 3) r18 hc29) gX9_joins_X9_setsP rfl ⟨rfl, rfl⟩ hd_X9_setsP ⟨Nat.le_of_ble_eq_true rfl, Nat.le_of_ble_eq_true rfl⟩ ⟨Nat.le_refl _, Nat.le_refl _⟩ (lay_lt hL.1 (by decide)) (ce_of hL.1) rfl rfl (Nat.le_of_ble_eq_true rfl) rfl dX9_joins_60 ?_
      refine k_aload_n (q := 1) dX9_joins_63 rfl rfl ?_
      refine k_iload_n (q := 2) dX9_joins_64 rfl rfl ?_
      obtain ⟨r32, hc31, h⟩ := bnd_e h
      refine k_cv (q := (RX9, TX9, 12)) (As := [.int p1]) 1 (cm_X9_framesIn l hX g σ30 o hL p1 hc31) gX9_joins_X9_framesIn rfl ⟨rfl, rfl⟩ hd_X9_framesIn ⟨Nat.le_of_ble_eq_true rfl, Nat.le_of_ble_eq_true rfl⟩ ⟨Nat.le_refl _, Nat.le_refl _⟩ (lay_lt hL.1 (by decide)) (ce_of hL.1) rfl rfl (Nat.le_of_ble_eq_true rfl) rfl dX9_joins_65 ?_
      exact k_iret rfl dX9_joins_68 h
abbrev rmX9_join : Room := { frames := 4, cells := 0, slots := 0, locals := 87 }
abbrev mX9_join : MT := (rmX9_join, wsX9_join, cX9_join, 3, RX9, some .int)
theorem hd_X9_join : yX9_join.cls = RX9 ∧ yX9_join.cls ≠ "java/lang/invoke/MethodHandle" ∧ yX9_join.cls ≠ "java/lang/invoke/VarHandle" ∧ (parseMethodDescriptor yX9_join.desc).map (fun d => d.parameters.length) = some 1 := by decide +kernel
theorem inX9_join_9 : ∀ w ∈ wsX90, w ∈ wsX9_join := fun w h => List.mem_cons_of_mem _ (List.mem_append_right _ h)
set_option maxHeartbeats 4000000 in
set_option maxRecDepth 100000 in
theorem cm_X9_join (l : Launch) {X : XT} (hX : XD X) (g : Nat) (σ : Mem) (o : Nat) (hL : L9 o) (p1 : Int32) {r : Int32} {σ' : Mem} (h : fX9_join g σ o p1 = some (r, σ')) : Met l yX9_join wsX9_join rmX9_join (va_Pc [.ref (xad X o), .int p1] (WW X σ)) (QI X r σ') 0 0 (XA X) := by
  refine met_x (M := mX9_join) (lv := [(0, .ref (xad X o)), (1, .int p1)]) hX (by decide) rfl rfl (Nat.le_of_ble_eq_true rfl) rfl ?_
  unfold fX9_join at h
  refine k_aload_n (q := 0) dX9_join_0 rfl rfl ?_
  refine k_iload_n (q := 1) dX9_join_1 rfl rfl ?_
  obtain ⟨r2, hc1, h⟩ := bnd_e h
  refine k_cv (q := (RX9, TX9, 12)) (As := [.int p1]) 1 (cm_X9_joinError l hX g σ o hL p1 hc1) gX9_join_X9_joinError rfl ⟨rfl, rfl⟩ hd_X9_joinError ⟨Nat.le_of_ble_eq_true rfl, Nat.le_of_ble_eq_true rfl⟩ ⟨Nat.le_refl _, Nat.le_refl _⟩ (lay_lt hL.1 (by decide)) (ce_of hL.1) rfl rfl (Nat.le_of_ble_eq_true rfl) rfl dX9_join_2 ?_
  refine k_istore_n (lv' := [(2, .int r2), (0, .ref (xad X o)), (1, .int p1)]) dX9_join_5 rfl (Nat.le_of_ble_eq_true rfl) rfl ?_
  refine k_iload_n (q := 0) dX9_join_6 rfl rfl ?_
  refine k_if_eq (tgt := 12) dX9_join_7 (by decide) h (fun h => ?_) (fun h => ?_)
  · refine k_aload_n (q := 1) dX9_join_12 rfl rfl ?_
    refine k_iconst (v := (nI 0)) dX9_join_13 (by decide) ?_
    obtain ⟨σ4, hc3, h⟩ := bnd_e h
    refine k_cvv (q := (RX9, TX9, 12)) (As := [.int (nI 0)]) 1 (cm_X9_records l hX g σ o hL (nI 0) hc3) gX9_join_X9_records rfl ⟨rfl, rfl⟩ hd_X9_records ⟨Nat.le_of_ble_eq_true rfl, Nat.le_of_ble_eq_true rfl⟩ ⟨Nat.le_refl _, Nat.le_refl _⟩ (lay_lt hL.1 (by decide)) (ce_of hL.1) rfl rfl (Nat.le_of_ble_eq_true rfl) rfl dX9_join_14 ?_
    refine k_aload_n (q := 1) dX9_join_17 rfl rfl ?_
    refine k_iload_n (q := 2) dX9_join_18 rfl rfl ?_
    obtain ⟨r6, σ7, hc5, h⟩ := bnd2_e h
    refine k_cv (q := (RX9, TX9, 12)) (As := [.int p1]) 1 (cm_X9_joins l hX g σ4 o hL p1 hc5) gX9_join_X9_joins rfl ⟨rfl, rfl⟩ hd_X9_joins ⟨Nat.le_of_ble_eq_true rfl, Nat.le_of_ble_eq_true rfl⟩ ⟨Nat.le_refl _, Nat.le_refl _⟩ (lay_lt hL.1 (by decide)) (ce_of hL.1) rfl rfl (Nat.le_of_ble_eq_true rfl) rfl dX9_join_19 ?_
    exact k_iret rfl dX9_join_22 h
  · refine k_iload_n (q := 0) dX9_join_10 rfl rfl ?_
    exact k_iret rfl dX9_join_11 h
abbrev rmX9_takeError : Room := { frames := 2, cells := 0, slots := 0, locals := 43 }
abbrev mX9_takeError : MT := (rmX9_takeError, wsX9_takeError, cX9_takeError, 2, RX9, some .int)
theorem hd_X9_takeError : yX9_takeError.cls = RX9 ∧ yX9_takeError.cls ≠ "java/lang/invoke/MethodHandle" ∧ yX9_takeError.cls ≠ "java/lang/invoke/VarHandle" ∧ (parseMethodDescriptor yX9_takeError.desc).map (fun d => d.parameters.length) = some 1 := by decide +kernel
theorem inX9_takeError_9 : ∀ w ∈ wsX90, w ∈ wsX9_takeError := fun w h => List.mem_cons_of_mem _ (List.mem_append_right _ h)
set_option maxHeartbeats 4000000 in
set_option maxRecDepth 100000 in
theorem cm_X9_takeError (l : Launch) {X : XT} (hX : XD X) (g : Nat) (σ : Mem) (o : Nat) (hL : L9 o) (p1 : Int32) {r : Int32} (h : fX9_takeError g σ o p1 = some r) : Met l yX9_takeError wsX9_takeError rmX9_takeError (va_Pc [.ref (xad X o), .int p1] (WW X σ)) (QI X r σ) 0 0 (XA X) := by
  refine met_x (M := mX9_takeError) (lv := [(0, .ref (xad X o)), (1, .int p1)]) hX (by decide) rfl rfl (Nat.le_of_ble_eq_true rfl) rfl ?_
  unfold fX9_takeError at h
  refine k_aload_n (q := 0) dX9_takeError_0 rfl rfl ?_
  refine k_iload_n (q := 1) dX9_takeError_1 rfl rfl ?_
  obtain ⟨r2, hc1, h⟩ := bnd_e h
  refine k_cv (q := (RX9, TX9, 12)) (As := [.int p1]) 1 (cm_X9_isPiece l hX g σ o hL p1 hc1) gX9_takeError_X9_isPiece rfl ⟨rfl, rfl⟩ hd_X9_isPiece ⟨Nat.le_of_ble_eq_true rfl, Nat.le_of_ble_eq_true rfl⟩ ⟨Nat.le_refl _, Nat.le_refl _⟩ (lay_lt hL.1 (by decide)) (ce_of hL.1) rfl rfl (Nat.le_of_ble_eq_true rfl) rfl dX9_takeError_2 ?_
  refine k_if_ne (tgt := 10) dX9_takeError_5 (by decide) h (fun h => ?_) (fun h => ?_)
  · refine k_aload_n (q := 0) dX9_takeError_10 rfl rfl ?_
    refine kg_9 (v := .ref (xad X (o + 1))) hL.1 inX9_takeError_9 0 (by decide) (List.mem_of_getElem? (i := 1) rfl) rfl dX9_takeError_11 ?_
    refine k_iconst (v := (nI 2)) dX9_takeError_14 (by decide) ?_
    refine k_iald (n := 6036) hL.2.1 dX9_takeError_15 h (fun h => ?_)
    refine k_bipush (v := (nI 20)) dX9_takeError_16 (by decide) ?_
    have key : WG X l mX9_takeError (fun _ _ => True) 0 0 (QM X (QI X r σ)) 27 σ [(0, .ref (xad X o)), (1, .int p1)] [.int (if (σ (o + 1) (nI 2).toNatClampNeg) = (nI 20) then (nN 3) else (nI 0))] := by
      exact k_iretR rfl dX9_takeError_27 h
    refine k_icmpc_ne (tgt := 26) dX9_takeError_18 (by decide) (fun hq => ?_) (fun hq => ?_)
    · rw [if_neg hq] at key
      refine k_iconst (v := (nI 0)) dX9_takeError_26 (by decide) ?_
      exact key
    · rw [if_pos hq] at key
      refine k_bipush (v := (nN 3)) dX9_takeError_21 (by decide) ?_
      refine k_goto (tgt := 27) dX9_takeError_23 (by decide) ?_
      exact key
  · refine k_iconst (v := (nN 1)) dX9_takeError_8 (by decide) ?_
    exact k_iretR rfl dX9_takeError_9 h
abbrev rmX9_takes : Room := { frames := 3, cells := 0, slots := 0, locals := 65 }
abbrev mX9_takes : MT := (rmX9_takes, wsX9_takes, cX9_takes, 4, RX9, some .int)
theorem hd_X9_takes : yX9_takes.cls = RX9 ∧ yX9_takes.cls ≠ "java/lang/invoke/MethodHandle" ∧ yX9_takes.cls ≠ "java/lang/invoke/VarHandle" ∧ (parseMethodDescriptor yX9_takes.desc).map (fun d => d.parameters.length) = some 1 := by decide +kernel
theorem inX9_takes_9 : ∀ w ∈ wsX90, w ∈ wsX9_takes := fun w h => List.mem_cons_of_mem _ (List.mem_append_right _ h)
set_option maxHeartbeats 4000000 in
set_option maxRecDepth 100000 in
theorem wX9_takes_15 (l : Launch) {X : XT} (hX : XD X) (g : Nat) (o : Nat) (hL : L9 o) {r : Int32} {σ' : Mem} : ∀ (n : Nat) (σ : Mem) (x1 : Int32) (x2 : Int32) (x3 : Int32), fX9_takes_15 g o n σ x1 x2 x3 = some (r, σ') → WG X l mX9_takes (fun _ _ => True) 0 0 (QM X (QI X r σ')) 15 σ [(0, .ref (xad X o)), (1, .int x1), (2, .int x2), (3, .int x3)] [] := by
  intro n
  induction n with
  | zero => intro σ x1 x2 x3 h; exact nomatch (show (none : Option _) = some _ from h)
  | succ n ih =>
    intro σ x1 x2 x3 h
    rw [fX9_takes_15] at h
    refine k_iload_n (q := 3) dX9_takes_15 rfl rfl ?_
    refine k_iconst (v := (nI 3)) dX9_takes_16 (by decide) ?_
    refine k_icmp_ge (tgt := 40) dX9_takes_17 (by decide) h (fun h => ?_) (fun h => ?_)
    · refine k_aload_n (q := 0) dX9_takes_40 rfl rfl ?_
      refine kg_9 (v := .ref (xad X (o + 1))) hL.1 inX9_takes_9 0 (by decide) (List.mem_of_getElem? (i := 1) rfl) rfl dX9_takes_41 ?_
      refine k_iconst (v := (nI 2)) dX9_takes_44 (by decide) ?_
      refine k_dup2 dX9_takes_45 rfl rfl ?_
      refine k_iald (n := 6036) hL.2.1 dX9_takes_46 h (fun h => ?_)
      refine k_iconst (v := (nI 1)) dX9_takes_47 (by decide) ?_
      refine k_iadd dX9_takes_48 ?_
      refine k_iast (n := 6036) hL.2.1 dX9_takes_49 h (fun σ1 h => ?_)
      refine k_aload_n (q := 0) dX9_takes_50 rfl rfl ?_
      refine k_iload_n (q := 1) dX9_takes_51 rfl rfl ?_
      obtain ⟨σ3, hc2, h⟩ := bnd_e h
      refine k_cvv (q := (RX9, TX9, 12)) (As := [.int x1]) 1 (cm_X9_removes l hX g σ1 o hL x1 hc2) gX9_takes_X9_removes rfl ⟨rfl, rfl⟩ hd_X9_removes ⟨Nat.le_of_ble_eq_true rfl, Nat.le_of_ble_eq_true rfl⟩ ⟨Nat.le_refl _, Nat.le_refl _⟩ (lay_lt hL.1 (by decide)) (ce_of hL.1) rfl rfl (Nat.le_of_ble_eq_true rfl) rfl dX9_takes_52 ?_
      refine k_aload_n (q := 0) dX9_takes_55 rfl rfl ?_
      refine kg_9 (v := .ref (xad X (o + 1))) hL.1 inX9_takes_9 0 (by decide) (List.mem_of_getElem? (i := 1) rfl) rfl dX9_takes_56 ?_
      refine k_iconst (v := (nI 1)) dX9_takes_59 (by decide) ?_
      refine k_iald (n := 6036) hL.2.1 dX9_takes_60 h (fun h => ?_)
      exact k_iret rfl dX9_takes_61 h
    · refine k_aload_n (q := 0) dX9_takes_20 rfl rfl ?_
      refine kg_9 (v := .ref (xad X (o + 1))) hL.1 inX9_takes_9 0 (by decide) (List.mem_of_getElem? (i := 1) rfl) rfl dX9_takes_21 ?_
      refine k_iload_n (q := 2) dX9_takes_24 rfl rfl ?_
      refine k_iload_n (q := 3) dX9_takes_25 rfl rfl ?_
      refine k_iadd dX9_takes_26 ?_
      refine k_aload_n (q := 0) dX9_takes_27 rfl rfl ?_
      refine k_iload_n (q := 1) dX9_takes_28 rfl rfl ?_
      refine k_iload_n (q := 3) dX9_takes_29 rfl rfl ?_
      obtain ⟨r5, hc4, h⟩ := bnd_e h
      refine k_cv (q := (RX9, TX9, 12)) (As := [.int x1, .int x3]) 2 (cm_X9_ofP l hX g σ o hL x1 x3 hc4) gX9_takes_X9_ofP rfl ⟨rfl, rfl⟩ hd_X9_ofP ⟨Nat.le_of_ble_eq_true rfl, Nat.le_of_ble_eq_true rfl⟩ ⟨Nat.le_refl _, Nat.le_refl _⟩ (lay_lt hL.1 (by decide)) (ce_of hL.1) rfl rfl (Nat.le_of_ble_eq_true rfl) rfl dX9_takes_30 ?_
      refine k_iast (n := 6036) hL.2.1 dX9_takes_33 h (fun σ6 h => ?_)
      refine k_iinc (q := 3) (v := (x3 + (nI 1))) (lv' := [(3, .int (x3 + (nI 1))), (0, .ref (xad X o)), (1, .int x1), (2, .int x2)]) dX9_takes_34 rfl rfl (Nat.le_of_ble_eq_true rfl) rfl ?_
      refine k_goto (tgt := 15) dX9_takes_37 (by decide) ?_
      refine k_sub (ks' := [1, 2, 3, 0]) rfl ?_
      exact ih σ6 x1 x2 (x3 + (nI 1)) h
set_option maxHeartbeats 4000000 in
set_option maxRecDepth 100000 in
theorem cm_X9_takes (l : Launch) {X : XT} (hX : XD X) (g : Nat) (σ : Mem) (o : Nat) (hL : L9 o) (p1 : Int32) {r : Int32} {σ' : Mem} (h : fX9_takes g σ o p1 = some (r, σ')) : Met l yX9_takes wsX9_takes rmX9_takes (va_Pc [.ref (xad X o), .int p1] (WW X σ)) (QI X r σ') 0 0 (XA X) := by
  refine met_x (M := mX9_takes) (lv := [(0, .ref (xad X o)), (1, .int p1)]) hX (by decide) rfl rfl (Nat.le_of_ble_eq_true rfl) rfl ?_
  unfold fX9_takes at h
  refine k_sipush (v := (nI 1072)) dX9_takes_0 (by decide) ?_
  refine k_iconst (v := (nI 3)) dX9_takes_3 (by decide) ?_
  refine k_aload_n (q := 0) dX9_takes_4 rfl rfl ?_
  refine kg_9 (v := .ref (xad X (o + 1))) hL.1 inX9_takes_9 0 (by decide) (List.mem_of_getElem? (i := 1) rfl) rfl dX9_takes_5 ?_
  refine k_iconst (v := (nI 2)) dX9_takes_8 (by decide) ?_
  refine k_iald (n := 6036) hL.2.1 dX9_takes_9 h (fun h => ?_)
  refine k_imul dX9_takes_10 ?_
  refine k_iadd dX9_takes_11 ?_
  refine k_istore_n (lv' := [(2, .int ((nI 1072) + ((nI 3) * (σ (o + 1) (nI 2).toNatClampNeg)))), (0, .ref (xad X o)), (1, .int p1)]) dX9_takes_12 rfl (Nat.le_of_ble_eq_true rfl) rfl ?_
  refine k_iconst (v := (nI 0)) dX9_takes_13 (by decide) ?_
  refine k_istore_n (lv' := [(3, .int (nI 0)), (2, .int ((nI 1072) + ((nI 3) * (σ (o + 1) (nI 2).toNatClampNeg)))), (0, .ref (xad X o)), (1, .int p1)]) dX9_takes_14 rfl (Nat.le_of_ble_eq_true rfl) rfl ?_
  refine k_sub (ks' := [2, 3, 1, 0]) rfl ?_
  exact wX9_takes_15 l hX g o hL g σ p1 ((nI 1072) + ((nI 3) * (σ (o + 1) (nI 2).toNatClampNeg))) (nI 0) h
abbrev rmX9_takeOut : Room := { frames := 4, cells := 0, slots := 0, locals := 88 }
abbrev mX9_takeOut : MT := (rmX9_takeOut, wsX9_takeOut, cX9_takeOut, 3, RX9, some .int)
theorem hd_X9_takeOut : yX9_takeOut.cls = RX9 ∧ yX9_takeOut.cls ≠ "java/lang/invoke/MethodHandle" ∧ yX9_takeOut.cls ≠ "java/lang/invoke/VarHandle" ∧ (parseMethodDescriptor yX9_takeOut.desc).map (fun d => d.parameters.length) = some 1 := by decide +kernel
theorem inX9_takeOut_9 : ∀ w ∈ wsX90, w ∈ wsX9_takeOut := fun w h => List.mem_cons_of_mem _ (List.mem_append_right _ h)
set_option maxHeartbeats 4000000 in
set_option maxRecDepth 100000 in
theorem cm_X9_takeOut (l : Launch) {X : XT} (hX : XD X) (g : Nat) (σ : Mem) (o : Nat) (hL : L9 o) (p1 : Int32) {r : Int32} {σ' : Mem} (h : fX9_takeOut g σ o p1 = some (r, σ')) : Met l yX9_takeOut wsX9_takeOut rmX9_takeOut (va_Pc [.ref (xad X o), .int p1] (WW X σ)) (QI X r σ') 0 0 (XA X) := by
  refine met_x (M := mX9_takeOut) (lv := [(0, .ref (xad X o)), (1, .int p1)]) hX (by decide) rfl rfl (Nat.le_of_ble_eq_true rfl) rfl ?_
  unfold fX9_takeOut at h
  refine k_aload_n (q := 0) dX9_takeOut_0 rfl rfl ?_
  refine k_iload_n (q := 1) dX9_takeOut_1 rfl rfl ?_
  obtain ⟨r2, hc1, h⟩ := bnd_e h
  refine k_cv (q := (RX9, TX9, 12)) (As := [.int p1]) 1 (cm_X9_takeError l hX g σ o hL p1 hc1) gX9_takeOut_X9_takeError rfl ⟨rfl, rfl⟩ hd_X9_takeError ⟨Nat.le_of_ble_eq_true rfl, Nat.le_of_ble_eq_true rfl⟩ ⟨Nat.le_refl _, Nat.le_refl _⟩ (lay_lt hL.1 (by decide)) (ce_of hL.1) rfl rfl (Nat.le_of_ble_eq_true rfl) rfl dX9_takeOut_2 ?_
  refine k_istore_n (lv' := [(2, .int r2), (0, .ref (xad X o)), (1, .int p1)]) dX9_takeOut_5 rfl (Nat.le_of_ble_eq_true rfl) rfl ?_
  refine k_iload_n (q := 0) dX9_takeOut_6 rfl rfl ?_
  refine k_if_eq (tgt := 12) dX9_takeOut_7 (by decide) h (fun h => ?_) (fun h => ?_)
  · refine k_aload_n (q := 1) dX9_takeOut_12 rfl rfl ?_
    refine k_iconst (v := (nI 0)) dX9_takeOut_13 (by decide) ?_
    obtain ⟨σ4, hc3, h⟩ := bnd_e h
    refine k_cvv (q := (RX9, TX9, 12)) (As := [.int (nI 0)]) 1 (cm_X9_records l hX g σ o hL (nI 0) hc3) gX9_takeOut_X9_records rfl ⟨rfl, rfl⟩ hd_X9_records ⟨Nat.le_of_ble_eq_true rfl, Nat.le_of_ble_eq_true rfl⟩ ⟨Nat.le_refl _, Nat.le_refl _⟩ (lay_lt hL.1 (by decide)) (ce_of hL.1) rfl rfl (Nat.le_of_ble_eq_true rfl) rfl dX9_takeOut_14 ?_
    refine k_aload_n (q := 1) dX9_takeOut_17 rfl rfl ?_
    refine k_iload_n (q := 2) dX9_takeOut_18 rfl rfl ?_
    obtain ⟨r6, σ7, hc5, h⟩ := bnd2_e h
    refine k_cv (q := (RX9, TX9, 12)) (As := [.int p1]) 1 (cm_X9_takes l hX g σ4 o hL p1 hc5) gX9_takeOut_X9_takes rfl ⟨rfl, rfl⟩ hd_X9_takes ⟨Nat.le_of_ble_eq_true rfl, Nat.le_of_ble_eq_true rfl⟩ ⟨Nat.le_refl _, Nat.le_refl _⟩ (lay_lt hL.1 (by decide)) (ce_of hL.1) rfl rfl (Nat.le_of_ble_eq_true rfl) rfl dX9_takeOut_19 ?_
    exact k_iret rfl dX9_takeOut_22 h
  · refine k_iload_n (q := 0) dX9_takeOut_10 rfl rfl ?_
    exact k_iret rfl dX9_takeOut_11 h
abbrev rmX9_putError : Room := { frames := 1, cells := 0, slots := 0, locals := 22 }
abbrev mX9_putError : MT := (rmX9_putError, wsX9_putError, cX9_putError, 3, RX9, some .int)
theorem hd_X9_putError : yX9_putError.cls = RX9 ∧ yX9_putError.cls ≠ "java/lang/invoke/MethodHandle" ∧ yX9_putError.cls ≠ "java/lang/invoke/VarHandle" ∧ (parseMethodDescriptor yX9_putError.desc).map (fun d => d.parameters.length) = some 2 := by decide +kernel
theorem inX9_putError_9 : ∀ w ∈ wsX90, w ∈ wsX9_putError := fun w h => List.mem_cons_of_mem _ (List.mem_append_right _ h)
set_option maxHeartbeats 4000000 in
set_option maxRecDepth 100000 in
theorem cm_X9_putError (l : Launch) {X : XT} (hX : XD X) (g : Nat) (σ : Mem) (o : Nat) (hL : L9 o) (p1 : Int32) (p2 : Int32) {r : Int32} (h : fX9_putError g σ o p1 p2 = some r) : Met l yX9_putError wsX9_putError rmX9_putError (va_Pc [.ref (xad X o), .int p1, .int p2] (WW X σ)) (QI X r σ) 0 0 (XA X) := by
  refine met_x (M := mX9_putError) (lv := [(0, .ref (xad X o)), (1, .int p1), (2, .int p2)]) hX (by decide) rfl rfl (Nat.le_of_ble_eq_true rfl) rfl ?_
  unfold fX9_putError at h
  refine k_iload_n (q := 1) dX9_putError_0 rfl rfl ?_
  refine k_iconst (v := (nI 0)) dX9_putError_1 (by decide) ?_
  refine k_aload_n (q := 0) dX9_putError_2 rfl rfl ?_
  refine kg_9 (v := .ref (xad X (o + 1))) hL.1 inX9_putError_9 0 (by decide) (List.mem_of_getElem? (i := 1) rfl) rfl dX9_putError_3 ?_
  refine k_iconst (v := (nI 2)) dX9_putError_6 (by decide) ?_
  refine k_iald (n := 6036) hL.2.1 dX9_putError_7 h (fun h => ?_)
  refine k_iconst (v := (nI 1)) dX9_putError_8 (by decide) ?_
  refine k_isub dX9_putError_9 ?_
  obtain ⟨r2, hc1, h⟩ := bnd_e h
  refine k_cs (As := [.int p1, .int (nI 0), .int ((σ (o + 1) (nI 2).toNatClampNeg) - (nI 1))]) 3 (cm_X9_isIn l hX g σ p1 (nI 0) ((σ (o + 1) (nI 2).toNatClampNeg) - (nI 1)) hc1) gX9_putError_X9_isIn rfl ⟨rfl, rfl⟩ hd_X9_isIn ⟨Nat.le_of_ble_eq_true rfl, Nat.le_of_ble_eq_true rfl⟩ ⟨Nat.le_refl _, Nat.le_refl _⟩ rfl (Nat.le_of_ble_eq_true rfl) rfl dX9_putError_10 ?_
  refine k_if_ne (tgt := 18) dX9_putError_13 (by decide) h (fun h => ?_) (fun h => ?_)
  · refine k_iload_n (q := 2) dX9_putError_18 rfl rfl ?_
    refine k_iconst (v := (nI 0)) dX9_putError_19 (by decide) ?_
    refine k_aload_n (q := 0) dX9_putError_20 rfl rfl ?_
    refine kg_9 (v := .ref (xad X (o + 1))) hL.1 inX9_putError_9 0 (by decide) (List.mem_of_getElem? (i := 1) rfl) rfl dX9_putError_21 ?_
    refine k_iconst (v := (nI 1)) dX9_putError_24 (by decide) ?_
    refine k_iald (n := 6036) hL.2.1 dX9_putError_25 h (fun h => ?_)
    obtain ⟨r4, hc3, h⟩ := bnd_e h
    refine k_cs (As := [.int p2, .int (nI 0), .int (σ (o + 1) (nI 1).toNatClampNeg)]) 3 (cm_X9_isIn l hX g σ p2 (nI 0) (σ (o + 1) (nI 1).toNatClampNeg) hc3) gX9_putError_X9_isIn rfl ⟨rfl, rfl⟩ hd_X9_isIn ⟨Nat.le_of_ble_eq_true rfl, Nat.le_of_ble_eq_true rfl⟩ ⟨Nat.le_refl _, Nat.le_refl _⟩ rfl (Nat.le_of_ble_eq_true rfl) rfl dX9_putError_26 ?_
    refine k_if_ne (tgt := 35) dX9_putError_29 (by decide) h (fun h => ?_) (fun h => ?_)
    · refine k_aload_n (q := 0) dX9_putError_35 rfl rfl ?_
      refine kg_9 (v := .ref (xad X (o + 1))) hL.1 inX9_putError_9 0 (by decide) (List.mem_of_getElem? (i := 1) rfl) rfl dX9_putError_36 ?_
      refine k_iconst (v := (nI 1)) dX9_putError_39 (by decide) ?_
      refine k_iald (n := 6036) hL.2.1 dX9_putError_40 h (fun h => ?_)
      refine k_bipush (v := (nI 20)) dX9_putError_41 (by decide) ?_
      have key : WG X l mX9_putError (fun _ _ => True) 0 0 (QM X (QI X r σ)) 52 σ [(0, .ref (xad X o)), (1, .int p1), (2, .int p2)] [.int (if (σ (o + 1) (nI 1).toNatClampNeg) = (nI 20) then (nN 3) else (nI 0))] := by
        exact k_iretR rfl dX9_putError_52 h
      refine k_icmpc_ne (tgt := 51) dX9_putError_43 (by decide) (fun hq => ?_) (fun hq => ?_)
      · rw [if_neg hq] at key
        refine k_iconst (v := (nI 0)) dX9_putError_51 (by decide) ?_
        exact key
      · rw [if_pos hq] at key
        refine k_bipush (v := (nN 3)) dX9_putError_46 (by decide) ?_
        refine k_goto (tgt := 52) dX9_putError_48 (by decide) ?_
        exact key
    · refine k_bipush (v := (nN 2)) dX9_putError_32 (by decide) ?_
      exact k_iretR rfl dX9_putError_34 h
  · refine k_iconst (v := (nN 1)) dX9_putError_16 (by decide) ?_
    exact k_iretR rfl dX9_putError_17 h
abbrev rmX9_puts : Room := { frames := 3, cells := 0, slots := 0, locals := 68 }
abbrev mX9_puts : MT := (rmX9_puts, wsX9_puts, cX9_puts, 4, RX9, some .int)
theorem hd_X9_puts : yX9_puts.cls = RX9 ∧ yX9_puts.cls ≠ "java/lang/invoke/MethodHandle" ∧ yX9_puts.cls ≠ "java/lang/invoke/VarHandle" ∧ (parseMethodDescriptor yX9_puts.desc).map (fun d => d.parameters.length) = some 2 := by decide +kernel
theorem inX9_puts_9 : ∀ w ∈ wsX90, w ∈ wsX9_puts := fun w h => List.mem_cons_of_mem _ (List.mem_append_right _ h)
set_option maxHeartbeats 4000000 in
set_option maxRecDepth 100000 in
theorem wX9_puts_37 (l : Launch) {X : XT} (hX : XD X) (g : Nat) (o : Nat) (hL : L9 o) {r : Int32} {σ' : Mem} : ∀ (n : Nat) (σ : Mem) (x3 : Int32), fX9_puts_37 g o n σ x3 = some (r, σ') → WG X l mX9_puts (fun _ _ => True) 0 0 (QM X (QI X r σ')) 37 σ [(0, .ref (xad X o)), (3, .int x3)] [] := by
  intro n
  induction n with
  | zero => intro σ x3 h; exact nomatch (show (none : Option _) = some _ from h)
  | succ n ih =>
    intro σ x3 h
    rw [fX9_puts_37] at h
    refine k_iload_n (q := 1) dX9_puts_37 rfl rfl ?_
    refine k_iconst (v := (nI 3)) dX9_puts_38 (by decide) ?_
    refine k_aload_n (q := 0) dX9_puts_39 rfl rfl ?_
    refine kg_9 (v := .ref (xad X (o + 1))) hL.1 inX9_puts_9 0 (by decide) (List.mem_of_getElem? (i := 1) rfl) rfl dX9_puts_40 ?_
    refine k_iconst (v := (nI 2)) dX9_puts_43 (by decide) ?_
    refine k_iald (n := 6036) hL.2.1 dX9_puts_44 h (fun h => ?_)
    refine k_imul dX9_puts_45 ?_
    refine k_icmp_ge (tgt := 77) dX9_puts_46 (by decide) h (fun h => ?_) (fun h => ?_)
    · refine k_aload_n (q := 0) dX9_puts_77 rfl rfl ?_
      refine kg_9 (v := .ref (xad X (o + 1))) hL.1 inX9_puts_9 0 (by decide) (List.mem_of_getElem? (i := 1) rfl) rfl dX9_puts_78 ?_
      refine k_iconst (v := (nI 2)) dX9_puts_81 (by decide) ?_
      refine k_iald (n := 6036) hL.2.1 dX9_puts_82 h (fun h => ?_)
      exact k_iret rfl dX9_puts_83 h
    · refine k_aload_n (q := 0) dX9_puts_49 rfl rfl ?_
      refine kg_9 (v := .ref (xad X (o + 1))) hL.1 inX9_puts_9 0 (by decide) (List.mem_of_getElem? (i := 1) rfl) rfl dX9_puts_50 ?_
      refine k_sipush (v := (nI 1072)) dX9_puts_53 (by decide) ?_
      refine k_iload_n (q := 1) dX9_puts_56 rfl rfl ?_
      refine k_iadd dX9_puts_57 ?_
      refine k_aload_n (q := 0) dX9_puts_58 rfl rfl ?_
      refine kg_9 (v := .ref (xad X (o + 1))) hL.1 inX9_puts_9 0 (by decide) (List.mem_of_getElem? (i := 1) rfl) rfl dX9_puts_59 ?_
      refine k_sipush (v := (nI 1072)) dX9_puts_62 (by decide) ?_
      refine k_iload_n (q := 1) dX9_puts_65 rfl rfl ?_
      refine k_iadd dX9_puts_66 ?_
      refine k_iconst (v := (nI 3)) dX9_puts_67 (by decide) ?_
      refine k_iadd dX9_puts_68 ?_
      refine k_iald (n := 6036) hL.2.1 dX9_puts_69 h (fun h => ?_)
      refine k_iast (n := 6036) hL.2.1 dX9_puts_70 h (fun σ10 h => ?_)
      refine k_iinc (q := 1) (v := (x3 + (nI 1))) (lv' := [(3, .int (x3 + (nI 1))), (0, .ref (xad X o))]) dX9_puts_71 rfl rfl (Nat.le_of_ble_eq_true rfl) rfl ?_
      refine k_goto (tgt := 37) dX9_puts_74 (by decide) ?_
      refine k_sub (ks' := [1, 0]) rfl ?_
      exact ih σ10 (x3 + (nI 1)) h
set_option maxHeartbeats 4000000 in
set_option maxRecDepth 100000 in
theorem cm_X9_puts (l : Launch) {X : XT} (hX : XD X) (g : Nat) (σ : Mem) (o : Nat) (hL : L9 o) (p1 : Int32) (p2 : Int32) {r : Int32} {σ' : Mem} (h : fX9_puts g σ o p1 p2 = some (r, σ')) : Met l yX9_puts wsX9_puts rmX9_puts (va_Pc [.ref (xad X o), .int p1, .int p2] (WW X σ)) (QI X r σ') 0 0 (XA X) := by
  refine met_x (M := mX9_puts) (lv := [(0, .ref (xad X o)), (1, .int p1), (2, .int p2)]) hX (by decide) rfl rfl (Nat.le_of_ble_eq_true rfl) rfl ?_
  unfold fX9_puts at h
  refine k_aload_n (q := 0) dX9_puts_0 rfl rfl ?_
  refine k_iload_n (q := 2) dX9_puts_1 rfl rfl ?_
  refine k_aload_n (q := 0) dX9_puts_2 rfl rfl ?_
  refine k_iload_n (q := 1) dX9_puts_3 rfl rfl ?_
  refine k_iconst (v := (nI 0)) dX9_puts_4 (by decide) ?_
  obtain ⟨r2, hc1, h⟩ := bnd_e h
  refine k_cv (q := (RX9, TX9, 12)) (As := [.int p1, .int (nI 0)]) 2 (cm_X9_ofC l hX g σ o hL p1 (nI 0) hc1) gX9_puts_X9_ofC rfl ⟨rfl, rfl⟩ hd_X9_ofC ⟨Nat.le_of_ble_eq_true rfl, Nat.le_of_ble_eq_true rfl⟩ ⟨Nat.le_refl _, Nat.le_refl _⟩ (lay_lt hL.1 (by decide)) (ce_of hL.1) rfl rfl (Nat.le_of_ble_eq_true rfl) rfl dX9_puts_5 ?_
  refine k_aload_n (q := 0) dX9_puts_8 rfl rfl ?_
  refine k_iload_n (q := 1) dX9_puts_9 rfl rfl ?_
  refine k_iconst (v := (nI 1)) dX9_puts_10 (by decide) ?_
  obtain ⟨r4, hc3, h⟩ := bnd_e h
  refine k_cv (q := (RX9, TX9, 12)) (As := [.int p1, .int (nI 1)]) 2 (cm_X9_ofC l hX g σ o hL p1 (nI 1) hc3) gX9_puts_X9_ofC rfl ⟨rfl, rfl⟩ hd_X9_ofC ⟨Nat.le_of_ble_eq_true rfl, Nat.le_of_ble_eq_true rfl⟩ ⟨Nat.le_refl _, Nat.le_refl _⟩ (lay_lt hL.1 (by decide)) (ce_of hL.1) rfl rfl (Nat.le_of_ble_eq_true rfl) rfl dX9_puts_11 ?_
  refine k_aload_n (q := 0) dX9_puts_14 rfl rfl ?_
  refine k_iload_n (q := 1) dX9_puts_15 rfl rfl ?_
  refine k_iconst (v := (nI 2)) dX9_puts_16 (by decide) ?_
  obtain ⟨r6, hc5, h⟩ := bnd_e h
  refine k_cv (q := (RX9, TX9, 12)) (As := [.int p1, .int (nI 2)]) 2 (cm_X9_ofC l hX g σ o hL p1 (nI 2) hc5) gX9_puts_X9_ofC rfl ⟨rfl, rfl⟩ hd_X9_ofC ⟨Nat.le_of_ble_eq_true rfl, Nat.le_of_ble_eq_true rfl⟩ ⟨Nat.le_refl _, Nat.le_refl _⟩ (lay_lt hL.1 (by decide)) (ce_of hL.1) rfl rfl (Nat.le_of_ble_eq_true rfl) rfl dX9_puts_17 ?_
  obtain ⟨σ8, hc7, h⟩ := bnd_e h
  refine k_cvv (q := (RX9, TX9, 12)) (As := [.int p2, .int r2, .int r4, .int r6]) 4 (cm_X9_inserts l hX g σ o hL p2 r2 r4 r6 hc7) gX9_puts_X9_inserts rfl ⟨rfl, rfl⟩ hd_X9_inserts ⟨Nat.le_of_ble_eq_true rfl, Nat.le_of_ble_eq_true rfl⟩ ⟨Nat.le_refl _, Nat.le_refl _⟩ (lay_lt hL.1 (by decide)) (ce_of hL.1) rfl rfl (Nat.le_of_ble_eq_true rfl) rfl dX9_puts_20 ?_
  refine k_aload_n (q := 0) dX9_puts_23 rfl rfl ?_
  refine kg_9 (v := .ref (xad X (o + 1))) hL.1 inX9_puts_9 0 (by decide) (List.mem_of_getElem? (i := 1) rfl) rfl dX9_puts_24 ?_
  refine k_iconst (v := (nI 2)) dX9_puts_27 (by decide) ?_
  refine k_dup2 dX9_puts_28 rfl rfl ?_
  refine k_iald (n := 6036) hL.2.1 dX9_puts_29 h (fun h => ?_)
  refine k_iconst (v := (nI 1)) dX9_puts_30 (by decide) ?_
  refine k_isub dX9_puts_31 ?_
  refine k_iast (n := 6036) hL.2.1 dX9_puts_32 h (fun σ9 h => ?_)
  refine k_iconst (v := (nI 3)) dX9_puts_33 (by decide) ?_
  refine k_iload_n (q := 1) dX9_puts_34 rfl rfl ?_
  refine k_imul dX9_puts_35 ?_
  refine k_istore_n (lv' := [(3, .int ((nI 3) * p1)), (0, .ref (xad X o)), (1, .int p1), (2, .int p2)]) dX9_puts_36 rfl (Nat.le_of_ble_eq_true rfl) rfl ?_
  refine k_sub (ks' := [1, 0]) rfl ?_
  exact wX9_puts_37 l hX g o hL g σ9 ((nI 3) * p1) h
abbrev rmX9_putIn : Room := { frames := 4, cells := 0, slots := 0, locals := 91 }
abbrev mX9_putIn : MT := (rmX9_putIn, wsX9_putIn, cX9_putIn, 4, RX9, some .int)
theorem hd_X9_putIn : yX9_putIn.cls = RX9 ∧ yX9_putIn.cls ≠ "java/lang/invoke/MethodHandle" ∧ yX9_putIn.cls ≠ "java/lang/invoke/VarHandle" ∧ (parseMethodDescriptor yX9_putIn.desc).map (fun d => d.parameters.length) = some 2 := by decide +kernel
theorem inX9_putIn_9 : ∀ w ∈ wsX90, w ∈ wsX9_putIn := fun w h => List.mem_cons_of_mem _ (List.mem_append_right _ h)
set_option maxHeartbeats 4000000 in
set_option maxRecDepth 100000 in
theorem cm_X9_putIn (l : Launch) {X : XT} (hX : XD X) (g : Nat) (σ : Mem) (o : Nat) (hL : L9 o) (p1 : Int32) (p2 : Int32) {r : Int32} {σ' : Mem} (h : fX9_putIn g σ o p1 p2 = some (r, σ')) : Met l yX9_putIn wsX9_putIn rmX9_putIn (va_Pc [.ref (xad X o), .int p1, .int p2] (WW X σ)) (QI X r σ') 0 0 (XA X) := by
  refine met_x (M := mX9_putIn) (lv := [(0, .ref (xad X o)), (1, .int p1), (2, .int p2)]) hX (by decide) rfl rfl (Nat.le_of_ble_eq_true rfl) rfl ?_
  unfold fX9_putIn at h
  refine k_aload_n (q := 0) dX9_putIn_0 rfl rfl ?_
  refine k_iload_n (q := 1) dX9_putIn_1 rfl rfl ?_
  refine k_iload_n (q := 2) dX9_putIn_2 rfl rfl ?_
  obtain ⟨r2, hc1, h⟩ := bnd_e h
  refine k_cv (q := (RX9, TX9, 12)) (As := [.int p1, .int p2]) 2 (cm_X9_putError l hX g σ o hL p1 p2 hc1) gX9_putIn_X9_putError rfl ⟨rfl, rfl⟩ hd_X9_putError ⟨Nat.le_of_ble_eq_true rfl, Nat.le_of_ble_eq_true rfl⟩ ⟨Nat.le_refl _, Nat.le_refl _⟩ (lay_lt hL.1 (by decide)) (ce_of hL.1) rfl rfl (Nat.le_of_ble_eq_true rfl) rfl dX9_putIn_3 ?_
  refine k_istore_n (lv' := [(3, .int r2), (0, .ref (xad X o)), (1, .int p1), (2, .int p2)]) dX9_putIn_6 rfl (Nat.le_of_ble_eq_true rfl) rfl ?_
  refine k_iload_n (q := 0) dX9_putIn_7 rfl rfl ?_
  refine k_if_eq (tgt := 13) dX9_putIn_8 (by decide) h (fun h => ?_) (fun h => ?_)
  · refine k_aload_n (q := 1) dX9_putIn_13 rfl rfl ?_
    refine k_iconst (v := (nI 0)) dX9_putIn_14 (by decide) ?_
    obtain ⟨σ4, hc3, h⟩ := bnd_e h
    refine k_cvv (q := (RX9, TX9, 12)) (As := [.int (nI 0)]) 1 (cm_X9_records l hX g σ o hL (nI 0) hc3) gX9_putIn_X9_records rfl ⟨rfl, rfl⟩ hd_X9_records ⟨Nat.le_of_ble_eq_true rfl, Nat.le_of_ble_eq_true rfl⟩ ⟨Nat.le_refl _, Nat.le_refl _⟩ (lay_lt hL.1 (by decide)) (ce_of hL.1) rfl rfl (Nat.le_of_ble_eq_true rfl) rfl dX9_putIn_15 ?_
    refine k_aload_n (q := 1) dX9_putIn_18 rfl rfl ?_
    refine k_iload_n (q := 2) dX9_putIn_19 rfl rfl ?_
    refine k_iload_n (q := 3) dX9_putIn_20 rfl rfl ?_
    obtain ⟨r6, σ7, hc5, h⟩ := bnd2_e h
    refine k_cv (q := (RX9, TX9, 12)) (As := [.int p1, .int p2]) 2 (cm_X9_puts l hX g σ4 o hL p1 p2 hc5) gX9_putIn_X9_puts rfl ⟨rfl, rfl⟩ hd_X9_puts ⟨Nat.le_of_ble_eq_true rfl, Nat.le_of_ble_eq_true rfl⟩ ⟨Nat.le_refl _, Nat.le_refl _⟩ (lay_lt hL.1 (by decide)) (ce_of hL.1) rfl rfl (Nat.le_of_ble_eq_true rfl) rfl dX9_putIn_21 ?_
    exact k_iret rfl dX9_putIn_24 h
  · refine k_iload_n (q := 0) dX9_putIn_11 rfl rfl ?_
    exact k_iret rfl dX9_putIn_12 h
abbrev rmX9_moveError : Room := { frames := 2, cells := 0, slots := 0, locals := 43 }
abbrev mX9_moveError : MT := (rmX9_moveError, wsX9_moveError, cX9_moveError, 3, RX9, some .int)
theorem hd_X9_moveError : yX9_moveError.cls = RX9 ∧ yX9_moveError.cls ≠ "java/lang/invoke/MethodHandle" ∧ yX9_moveError.cls ≠ "java/lang/invoke/VarHandle" ∧ (parseMethodDescriptor yX9_moveError.desc).map (fun d => d.parameters.length) = some 2 := by decide +kernel
theorem inX9_moveError_9 : ∀ w ∈ wsX90, w ∈ wsX9_moveError := fun w h => List.mem_cons_of_mem _ (List.mem_append_right _ h)
set_option maxHeartbeats 4000000 in
set_option maxRecDepth 100000 in
theorem cm_X9_moveError (l : Launch) {X : XT} (hX : XD X) (g : Nat) (σ : Mem) (o : Nat) (hL : L9 o) (p1 : Int32) (p2 : Int32) {r : Int32} (h : fX9_moveError g σ o p1 p2 = some r) : Met l yX9_moveError wsX9_moveError rmX9_moveError (va_Pc [.ref (xad X o), .int p1, .int p2] (WW X σ)) (QI X r σ) 0 0 (XA X) := by
  refine met_x (M := mX9_moveError) (lv := [(0, .ref (xad X o)), (1, .int p1), (2, .int p2)]) hX (by decide) rfl rfl (Nat.le_of_ble_eq_true rfl) rfl ?_
  unfold fX9_moveError at h
  refine k_aload_n (q := 0) dX9_moveError_0 rfl rfl ?_
  refine k_iload_n (q := 1) dX9_moveError_1 rfl rfl ?_
  obtain ⟨r2, hc1, h⟩ := bnd_e h
  refine k_cv (q := (RX9, TX9, 12)) (As := [.int p1]) 1 (cm_X9_isPiece l hX g σ o hL p1 hc1) gX9_moveError_X9_isPiece rfl ⟨rfl, rfl⟩ hd_X9_isPiece ⟨Nat.le_of_ble_eq_true rfl, Nat.le_of_ble_eq_true rfl⟩ ⟨Nat.le_refl _, Nat.le_refl _⟩ (lay_lt hL.1 (by decide)) (ce_of hL.1) rfl rfl (Nat.le_of_ble_eq_true rfl) rfl dX9_moveError_2 ?_
  refine k_if_eq (tgt := 16) dX9_moveError_5 (by decide) h (fun h => ?_) (fun h => ?_)
  · refine k_iconst (v := (nN 1)) dX9_moveError_16 (by decide) ?_
    exact k_iretR rfl dX9_moveError_17 h
  · refine k_aload_n (q := 0) dX9_moveError_8 rfl rfl ?_
    refine k_iload_n (q := 2) dX9_moveError_9 rfl rfl ?_
    obtain ⟨r4, hc3, h⟩ := bnd_e h
    refine k_cv (q := (RX9, TX9, 12)) (As := [.int p2]) 1 (cm_X9_isPiece l hX g σ o hL p2 hc3) gX9_moveError_X9_isPiece rfl ⟨rfl, rfl⟩ hd_X9_isPiece ⟨Nat.le_of_ble_eq_true rfl, Nat.le_of_ble_eq_true rfl⟩ ⟨Nat.le_refl _, Nat.le_refl _⟩ (lay_lt hL.1 (by decide)) (ce_of hL.1) rfl rfl (Nat.le_of_ble_eq_true rfl) rfl dX9_moveError_10 ?_
    refine k_if_ne (tgt := 18) dX9_moveError_13 (by decide) h (fun h => ?_) (fun h => ?_)
    · refine k_iload_n (q := 1) dX9_moveError_18 rfl rfl ?_
      refine k_iload_n (q := 2) dX9_moveError_19 rfl rfl ?_
      have key : WG X l mX9_moveError (fun _ _ => True) 0 0 (QM X (QI X r σ)) 29 σ [(0, .ref (xad X o)), (1, .int p1), (2, .int p2)] [.int (if p1 = p2 then (nN 5) else (nI 0))] := by
        exact k_iretR rfl dX9_moveError_29 h
      refine k_icmpc_ne (tgt := 28) dX9_moveError_20 (by decide) (fun hq => ?_) (fun hq => ?_)
      · rw [if_neg hq] at key
        refine k_iconst (v := (nI 0)) dX9_moveError_28 (by decide) ?_
        exact key
      · rw [if_pos hq] at key
        refine k_bipush (v := (nN 5)) dX9_moveError_23 (by decide) ?_
        refine k_goto (tgt := 29) dX9_moveError_25 (by decide) ?_
        exact key
    · refine k_iconst (v := (nN 1)) dX9_moveError_16 (by decide) ?_
      exact k_iretR rfl dX9_moveError_17 h
abbrev rmX9_moves : Room := { frames := 3, cells := 0, slots := 0, locals := 68 }
abbrev mX9_moves : MT := (rmX9_moves, wsX9_moves, cX9_moves, 6, RX9, some .int)
theorem hd_X9_moves : yX9_moves.cls = RX9 ∧ yX9_moves.cls ≠ "java/lang/invoke/MethodHandle" ∧ yX9_moves.cls ≠ "java/lang/invoke/VarHandle" ∧ (parseMethodDescriptor yX9_moves.desc).map (fun d => d.parameters.length) = some 2 := by decide +kernel
theorem inX9_moves_9 : ∀ w ∈ wsX90, w ∈ wsX9_moves := fun w h => List.mem_cons_of_mem _ (List.mem_append_right _ h)
set_option maxHeartbeats 4000000 in
set_option maxRecDepth 100000 in
theorem cm_X9_moves (l : Launch) {X : XT} (hX : XD X) (g : Nat) (σ : Mem) (o : Nat) (hL : L9 o) (p1 : Int32) (p2 : Int32) {r : Int32} {σ' : Mem} (h : fX9_moves g σ o p1 p2 = some (r, σ')) : Met l yX9_moves wsX9_moves rmX9_moves (va_Pc [.ref (xad X o), .int p1, .int p2] (WW X σ)) (QI X r σ') 0 0 (XA X) := by
  refine met_x (M := mX9_moves) (lv := [(0, .ref (xad X o)), (1, .int p1), (2, .int p2)]) hX (by decide) rfl rfl (Nat.le_of_ble_eq_true rfl) rfl ?_
  unfold fX9_moves at h
  refine k_aload_n (q := 0) dX9_moves_0 rfl rfl ?_
  refine k_iload_n (q := 1) dX9_moves_1 rfl rfl ?_
  refine k_iconst (v := (nI 0)) dX9_moves_2 (by decide) ?_
  obtain ⟨r2, hc1, h⟩ := bnd_e h
  refine k_cv (q := (RX9, TX9, 12)) (As := [.int p1, .int (nI 0)]) 2 (cm_X9_ofP l hX g σ o hL p1 (nI 0) hc1) gX9_moves_X9_ofP rfl ⟨rfl, rfl⟩ hd_X9_ofP ⟨Nat.le_of_ble_eq_true rfl, Nat.le_of_ble_eq_true rfl⟩ ⟨Nat.le_refl _, Nat.le_refl _⟩ (lay_lt hL.1 (by decide)) (ce_of hL.1) rfl rfl (Nat.le_of_ble_eq_true rfl) rfl dX9_moves_3 ?_
  refine k_istore_n (lv' := [(3, .int r2), (0, .ref (xad X o)), (1, .int p1), (2, .int p2)]) dX9_moves_6 rfl (Nat.le_of_ble_eq_true rfl) rfl ?_
  refine k_aload_n (q := 1) dX9_moves_7 rfl rfl ?_
  refine k_iload_n (q := 2) dX9_moves_8 rfl rfl ?_
  refine k_iconst (v := (nI 1)) dX9_moves_9 (by decide) ?_
  obtain ⟨r4, hc3, h⟩ := bnd_e h
  refine k_cv (q := (RX9, TX9, 12)) (As := [.int p1, .int (nI 1)]) 2 (cm_X9_ofP l hX g σ o hL p1 (nI 1) hc3) gX9_moves_X9_ofP rfl ⟨rfl, rfl⟩ hd_X9_ofP ⟨Nat.le_of_ble_eq_true rfl, Nat.le_of_ble_eq_true rfl⟩ ⟨Nat.le_refl _, Nat.le_refl _⟩ (lay_lt hL.1 (by decide)) (ce_of hL.1) rfl rfl (Nat.le_of_ble_eq_true rfl) rfl dX9_moves_10 ?_
  refine k_istore (lv' := [(4, .int r4), (3, .int r2), (0, .ref (xad X o)), (1, .int p1), (2, .int p2)]) dX9_moves_13 (Nat.le_of_ble_eq_true rfl) rfl ?_
  refine k_aload_n (q := 2) dX9_moves_15 rfl rfl ?_
  refine k_iload_n (q := 3) dX9_moves_16 rfl rfl ?_
  refine k_iconst (v := (nI 2)) dX9_moves_17 (by decide) ?_
  obtain ⟨r6, hc5, h⟩ := bnd_e h
  refine k_cv (q := (RX9, TX9, 12)) (As := [.int p1, .int (nI 2)]) 2 (cm_X9_ofP l hX g σ o hL p1 (nI 2) hc5) gX9_moves_X9_ofP rfl ⟨rfl, rfl⟩ hd_X9_ofP ⟨Nat.le_of_ble_eq_true rfl, Nat.le_of_ble_eq_true rfl⟩ ⟨Nat.le_refl _, Nat.le_refl _⟩ (lay_lt hL.1 (by decide)) (ce_of hL.1) rfl rfl (Nat.le_of_ble_eq_true rfl) rfl dX9_moves_18 ?_
  refine k_istore (lv' := [(5, .int r6), (4, .int r4), (3, .int r2), (0, .ref (xad X o)), (1, .int p1), (2, .int p2)]) dX9_moves_21 (Nat.le_of_ble_eq_true rfl) rfl ?_
  refine k_aload_n (q := 3) dX9_moves_23 rfl rfl ?_
  refine k_iload_n (q := 4) dX9_moves_24 rfl rfl ?_
  obtain ⟨σ8, hc7, h⟩ := bnd_e h
  refine k_cvv (q := (RX9, TX9, 12)) (As := [.int p1]) 1 (cm_X9_removes l hX g σ o hL p1 hc7) gX9_moves_X9_removes rfl ⟨rfl, rfl⟩ hd_X9_removes ⟨Nat.le_of_ble_eq_true rfl, Nat.le_of_ble_eq_true rfl⟩ ⟨Nat.le_refl _, Nat.le_refl _⟩ (lay_lt hL.1 (by decide)) (ce_of hL.1) rfl rfl (Nat.le_of_ble_eq_true rfl) rfl dX9_moves_25 ?_
  refine k_aload_n (q := 3) dX9_moves_28 rfl rfl ?_
  refine k_iload_n (q := 5) dX9_moves_29 rfl rfl ?_
  refine k_iload_n (q := 2) dX9_moves_30 rfl rfl ?_
  refine k_iload (q := 1) dX9_moves_31 rfl ?_
  refine k_iload (q := 0) dX9_moves_33 rfl ?_
  obtain ⟨σ10, hc9, h⟩ := bnd_e h
  refine k_cvv (q := (RX9, TX9, 12)) (As := [.int p2, .int r2, .int r4, .int r6]) 4 (cm_X9_inserts l hX g σ8 o hL p2 r2 r4 r6 hc9) gX9_moves_X9_inserts rfl ⟨rfl, rfl⟩ hd_X9_inserts ⟨Nat.le_of_ble_eq_true rfl, Nat.le_of_ble_eq_true rfl⟩ ⟨Nat.le_refl _, Nat.le_refl _⟩ (lay_lt hL.1 (by decide)) (ce_of hL.1) rfl rfl (Nat.le_of_ble_eq_true rfl) rfl dX9_moves_35 ?_
  refine k_aload_n (q := 3) dX9_moves_38 rfl rfl ?_
  refine k_iload_n (q := 5) dX9_moves_39 rfl rfl ?_
  obtain ⟨r12, hc11, h⟩ := bnd_e h
  refine k_cv (q := (RX9, TX9, 12)) (As := [.int p2]) 1 (cm_X9_positionOf l hX g σ10 o hL p2 hc11) gX9_moves_X9_positionOf rfl ⟨rfl, rfl⟩ hd_X9_positionOf ⟨Nat.le_of_ble_eq_true rfl, Nat.le_of_ble_eq_true rfl⟩ ⟨Nat.le_refl _, Nat.le_refl _⟩ (lay_lt hL.1 (by decide)) (ce_of hL.1) rfl rfl (Nat.le_of_ble_eq_true rfl) rfl dX9_moves_40 ?_
  exact k_iret rfl dX9_moves_43 h
abbrev rmX9_move : Room := { frames := 4, cells := 0, slots := 0, locals := 93 }
abbrev mX9_move : MT := (rmX9_move, wsX9_move, cX9_move, 4, RX9, some .int)
theorem hd_X9_move : yX9_move.cls = RX9 ∧ yX9_move.cls ≠ "java/lang/invoke/MethodHandle" ∧ yX9_move.cls ≠ "java/lang/invoke/VarHandle" ∧ (parseMethodDescriptor yX9_move.desc).map (fun d => d.parameters.length) = some 2 := by decide +kernel
theorem inX9_move_9 : ∀ w ∈ wsX90, w ∈ wsX9_move := fun w h => List.mem_cons_of_mem _ (List.mem_append_right _ h)
set_option maxHeartbeats 4000000 in
set_option maxRecDepth 100000 in
theorem cm_X9_move (l : Launch) {X : XT} (hX : XD X) (g : Nat) (σ : Mem) (o : Nat) (hL : L9 o) (p1 : Int32) (p2 : Int32) {r : Int32} {σ' : Mem} (h : fX9_move g σ o p1 p2 = some (r, σ')) : Met l yX9_move wsX9_move rmX9_move (va_Pc [.ref (xad X o), .int p1, .int p2] (WW X σ)) (QI X r σ') 0 0 (XA X) := by
  refine met_x (M := mX9_move) (lv := [(0, .ref (xad X o)), (1, .int p1), (2, .int p2)]) hX (by decide) rfl rfl (Nat.le_of_ble_eq_true rfl) rfl ?_
  unfold fX9_move at h
  refine k_aload_n (q := 0) dX9_move_0 rfl rfl ?_
  refine k_iload_n (q := 1) dX9_move_1 rfl rfl ?_
  refine k_iload_n (q := 2) dX9_move_2 rfl rfl ?_
  obtain ⟨r2, hc1, h⟩ := bnd_e h
  refine k_cv (q := (RX9, TX9, 12)) (As := [.int p1, .int p2]) 2 (cm_X9_moveError l hX g σ o hL p1 p2 hc1) gX9_move_X9_moveError rfl ⟨rfl, rfl⟩ hd_X9_moveError ⟨Nat.le_of_ble_eq_true rfl, Nat.le_of_ble_eq_true rfl⟩ ⟨Nat.le_refl _, Nat.le_refl _⟩ (lay_lt hL.1 (by decide)) (ce_of hL.1) rfl rfl (Nat.le_of_ble_eq_true rfl) rfl dX9_move_3 ?_
  refine k_istore_n (lv' := [(3, .int r2), (0, .ref (xad X o)), (1, .int p1), (2, .int p2)]) dX9_move_6 rfl (Nat.le_of_ble_eq_true rfl) rfl ?_
  refine k_iload_n (q := 0) dX9_move_7 rfl rfl ?_
  refine k_if_eq (tgt := 13) dX9_move_8 (by decide) h (fun h => ?_) (fun h => ?_)
  · refine k_aload_n (q := 1) dX9_move_13 rfl rfl ?_
    refine k_iconst (v := (nI 0)) dX9_move_14 (by decide) ?_
    obtain ⟨σ4, hc3, h⟩ := bnd_e h
    refine k_cvv (q := (RX9, TX9, 12)) (As := [.int (nI 0)]) 1 (cm_X9_records l hX g σ o hL (nI 0) hc3) gX9_move_X9_records rfl ⟨rfl, rfl⟩ hd_X9_records ⟨Nat.le_of_ble_eq_true rfl, Nat.le_of_ble_eq_true rfl⟩ ⟨Nat.le_refl _, Nat.le_refl _⟩ (lay_lt hL.1 (by decide)) (ce_of hL.1) rfl rfl (Nat.le_of_ble_eq_true rfl) rfl dX9_move_15 ?_
    refine k_aload_n (q := 1) dX9_move_18 rfl rfl ?_
    refine k_iload_n (q := 2) dX9_move_19 rfl rfl ?_
    refine k_iload_n (q := 3) dX9_move_20 rfl rfl ?_
    obtain ⟨r6, σ7, hc5, h⟩ := bnd2_e h
    refine k_cv (q := (RX9, TX9, 12)) (As := [.int p1, .int p2]) 2 (cm_X9_moves l hX g σ4 o hL p1 p2 hc5) gX9_move_X9_moves rfl ⟨rfl, rfl⟩ hd_X9_moves ⟨Nat.le_of_ble_eq_true rfl, Nat.le_of_ble_eq_true rfl⟩ ⟨Nat.le_refl _, Nat.le_refl _⟩ (lay_lt hL.1 (by decide)) (ce_of hL.1) rfl rfl (Nat.le_of_ble_eq_true rfl) rfl dX9_move_21 ?_
    exact k_iret rfl dX9_move_24 h
  · refine k_iload_n (q := 0) dX9_move_11 rfl rfl ?_
    exact k_iret rfl dX9_move_12 h
abbrev rmX9_setsTorn : Room := { frames := 0, cells := 0, slots := 0, locals := 0 }
abbrev mX9_setsTorn : MT := (rmX9_setsTorn, wsX9_setsTorn, cX9_setsTorn, 4, RX9, none)
theorem hd_X9_setsTorn : yX9_setsTorn.cls = RX9 ∧ yX9_setsTorn.cls ≠ "java/lang/invoke/MethodHandle" ∧ yX9_setsTorn.cls ≠ "java/lang/invoke/VarHandle" ∧ (parseMethodDescriptor yX9_setsTorn.desc).map (fun d => d.parameters.length) = some 3 := by decide +kernel
theorem inX9_setsTorn_9 : ∀ w ∈ wsX90, w ∈ wsX9_setsTorn := fun w h => List.mem_cons_of_mem _ (List.mem_append_right _ h)
set_option maxHeartbeats 4000000 in
set_option maxRecDepth 100000 in
theorem cm_X9_setsTorn (l : Launch) {X : XT} (hX : XD X) (g : Nat) (σ : Mem) (o : Nat) (hL : L9 o) (p1 : Int32) (p2 : Int32) (p3 : Int32) {σ' : Mem} (h : fX9_setsTorn g σ o p1 p2 p3 = some σ') : Met l yX9_setsTorn wsX9_setsTorn rmX9_setsTorn (va_Pc [.ref (xad X o), .int p1, .int p2, .int p3] (WW X σ)) (QV X σ') 0 0 (XA X) := by
  refine met_x (M := mX9_setsTorn) (lv := [(0, .ref (xad X o)), (1, .int p1), (2, .int p2), (3, .int p3)]) hX (by decide) rfl rfl (Nat.le_of_ble_eq_true rfl) rfl ?_
  unfold fX9_setsTorn at h
  refine k_aload_n (q := 0) dX9_setsTorn_0 rfl rfl ?_
  refine kg_9 (v := .ref (xad X (o + 1))) hL.1 inX9_setsTorn_9 0 (by decide) (List.mem_of_getElem? (i := 1) rfl) rfl dX9_setsTorn_1 ?_
  refine k_bipush (v := (nI 32)) dX9_setsTorn_4 (by decide) ?_
  refine k_iconst (v := (nI 2)) dX9_setsTorn_6 (by decide) ?_
  refine k_bipush (v := (nI 40)) dX9_setsTorn_7 (by decide) ?_
  refine k_iload_n (q := 1) dX9_setsTorn_9 rfl rfl ?_
  refine k_imul dX9_setsTorn_10 ?_
  refine k_iload_n (q := 2) dX9_setsTorn_11 rfl rfl ?_
  refine k_iadd dX9_setsTorn_12 ?_
  refine k_imul dX9_setsTorn_13 ?_
  refine k_iadd dX9_setsTorn_14 ?_
  refine k_iload_n (q := 3) dX9_setsTorn_15 rfl rfl ?_
  refine k_iast (n := 6036) hL.2.1 dX9_setsTorn_16 h (fun σ1 h => ?_)
  exact k_vret rfl dX9_setsTorn_17 h
abbrev rmX9_tear : Room := { frames := 3, cells := 0, slots := 0, locals := 65 }
abbrev mX9_tear : MT := (rmX9_tear, wsX9_tear, cX9_tear, 4, RX9, some .int)
theorem hd_X9_tear : yX9_tear.cls = RX9 ∧ yX9_tear.cls ≠ "java/lang/invoke/MethodHandle" ∧ yX9_tear.cls ≠ "java/lang/invoke/VarHandle" ∧ (parseMethodDescriptor yX9_tear.desc).map (fun d => d.parameters.length) = some 3 := by decide +kernel
theorem inX9_tear_9 : ∀ w ∈ wsX90, w ∈ wsX9_tear := fun w h => List.mem_cons_of_mem _ (List.mem_append_right _ h)
set_option maxHeartbeats 4000000 in
set_option maxRecDepth 100000 in
theorem cm_X9_tear (l : Launch) {X : XT} (hX : XD X) (g : Nat) (σ : Mem) (o : Nat) (hL : L9 o) (p1 : Int32) (p2 : Int32) (p3 : Int32) {r : Int32} {σ' : Mem} (h : fX9_tear g σ o p1 p2 p3 = some (r, σ')) : Met l yX9_tear wsX9_tear rmX9_tear (va_Pc [.ref (xad X o), .int p1, .int p2, .int p3] (WW X σ)) (QI X r σ') 0 0 (XA X) := by
  refine met_x (M := mX9_tear) (lv := [(0, .ref (xad X o)), (1, .int p1), (2, .int p2), (3, .int p3)]) hX (by decide) rfl rfl (Nat.le_of_ble_eq_true rfl) rfl ?_
  unfold fX9_tear at h
  refine k_aload_n (q := 0) dX9_tear_0 rfl rfl ?_
  refine k_iload_n (q := 1) dX9_tear_1 rfl rfl ?_
  refine k_iload_n (q := 2) dX9_tear_2 rfl rfl ?_
  obtain ⟨r2, hc1, h⟩ := bnd_e h
  refine k_cv (q := (RX9, TX9, 12)) (As := [.int p1, .int p2]) 2 (cm_X9_isFrame l hX g σ o hL p1 p2 hc1) gX9_tear_X9_isFrame rfl ⟨rfl, rfl⟩ hd_X9_isFrame ⟨Nat.le_of_ble_eq_true rfl, Nat.le_of_ble_eq_true rfl⟩ ⟨Nat.le_refl _, Nat.le_refl _⟩ (lay_lt hL.1 (by decide)) (ce_of hL.1) rfl rfl (Nat.le_of_ble_eq_true rfl) rfl dX9_tear_3 ?_
  refine k_if_ne (tgt := 11) dX9_tear_6 (by decide) h (fun h => ?_) (fun h => ?_)
  · refine k_iload_n (q := 3) dX9_tear_11 rfl rfl ?_
    refine k_iconst (v := (nI 0)) dX9_tear_12 (by decide) ?_
    refine k_iconst (v := (nI 3)) dX9_tear_13 (by decide) ?_
    obtain ⟨r4, hc3, h⟩ := bnd_e h
    refine k_cs (As := [.int p3, .int (nI 0), .int (nI 3)]) 3 (cm_X9_isIn l hX g σ p3 (nI 0) (nI 3) hc3) gX9_tear_X9_isIn rfl ⟨rfl, rfl⟩ hd_X9_isIn ⟨Nat.le_of_ble_eq_true rfl, Nat.le_of_ble_eq_true rfl⟩ ⟨Nat.le_refl _, Nat.le_refl _⟩ rfl (Nat.le_of_ble_eq_true rfl) rfl dX9_tear_14 ?_
    refine k_if_ne (tgt := 23) dX9_tear_17 (by decide) h (fun h => ?_) (fun h => ?_)
    · refine k_aload_n (q := 0) dX9_tear_23 rfl rfl ?_
      refine k_iload_n (q := 1) dX9_tear_24 rfl rfl ?_
      refine k_iload_n (q := 2) dX9_tear_25 rfl rfl ?_
      obtain ⟨r6, hc5, h⟩ := bnd_e h
      refine k_cv (q := (RX9, TX9, 12)) (As := [.int p1, .int p2]) 2 (cm_X9_torn l hX g σ o hL p1 p2 hc5) gX9_tear_X9_torn rfl ⟨rfl, rfl⟩ hd_X9_torn ⟨Nat.le_of_ble_eq_true rfl, Nat.le_of_ble_eq_true rfl⟩ ⟨Nat.le_refl _, Nat.le_refl _⟩ (lay_lt hL.1 (by decide)) (ce_of hL.1) rfl rfl (Nat.le_of_ble_eq_true rfl) rfl dX9_tear_26 ?_
      refine k_iload_n (q := 3) dX9_tear_29 rfl rfl ?_
      refine k_ishr dX9_tear_30 ?_
      refine k_iconst (v := (nI 1)) dX9_tear_31 (by decide) ?_
      refine k_iand dX9_tear_32 ?_
      refine k_iconst (v := (nI 1)) dX9_tear_33 (by decide) ?_
      refine k_icmp_ne (tgt := 40) dX9_tear_34 (by decide) h (fun h => ?_) (fun h => ?_)
      · refine k_aload_n (q := 0) dX9_tear_40 rfl rfl ?_
        refine k_iconst (v := (nI 0)) dX9_tear_41 (by decide) ?_
        obtain ⟨σ8, hc7, h⟩ := bnd_e h
        refine k_cvv (q := (RX9, TX9, 12)) (As := [.int (nI 0)]) 1 (cm_X9_records l hX g σ o hL (nI 0) hc7) gX9_tear_X9_records rfl ⟨rfl, rfl⟩ hd_X9_records ⟨Nat.le_of_ble_eq_true rfl, Nat.le_of_ble_eq_true rfl⟩ ⟨Nat.le_refl _, Nat.le_refl _⟩ (lay_lt hL.1 (by decide)) (ce_of hL.1) rfl rfl (Nat.le_of_ble_eq_true rfl) rfl dX9_tear_42 ?_
        refine k_aload_n (q := 0) dX9_tear_45 rfl rfl ?_
        refine k_iload_n (q := 1) dX9_tear_46 rfl rfl ?_
        refine k_iload_n (q := 2) dX9_tear_47 rfl rfl ?_
        refine k_aload_n (q := 0) dX9_tear_48 rfl rfl ?_
        refine k_iload_n (q := 1) dX9_tear_49 rfl rfl ?_
        refine k_iload_n (q := 2) dX9_tear_50 rfl rfl ?_
        obtain ⟨r10, hc9, h⟩ := bnd_e h
        refine k_cv (q := (RX9, TX9, 12)) (As := [.int p1, .int p2]) 2 (cm_X9_torn l hX g σ8 o hL p1 p2 hc9) gX9_tear_X9_torn rfl ⟨rfl, rfl⟩ hd_X9_torn ⟨Nat.le_of_ble_eq_true rfl, Nat.le_of_ble_eq_true rfl⟩ ⟨Nat.le_refl _, Nat.le_refl _⟩ (lay_lt hL.1 (by decide)) (ce_of hL.1) rfl rfl (Nat.le_of_ble_eq_true rfl) rfl dX9_tear_51 ?_
        refine k_iconst (v := (nI 1)) dX9_tear_54 (by decide) ?_
        refine k_iload_n (q := 3) dX9_tear_55 rfl rfl ?_
        refine k_ishl dX9_tear_56 ?_
        refine k_ior dX9_tear_57 ?_
        obtain ⟨σ12, hc11, h⟩ := bnd_e h
        refine k_cvv (q := (RX9, TX9, 12)) (As := [.int p1, .int p2, .int (r10 ||| ((nI 1) <<< (p3 &&& 31)))]) 3 (cm_X9_setsTorn l hX g σ8 o hL p1 p2 (r10 ||| ((nI 1) <<< (p3 &&& 31))) hc11) gX9_tear_X9_setsTorn rfl ⟨rfl, rfl⟩ hd_X9_setsTorn ⟨Nat.le_of_ble_eq_true rfl, Nat.le_of_ble_eq_true rfl⟩ ⟨Nat.le_refl _, Nat.le_refl _⟩ (lay_lt hL.1 (by decide)) (ce_of hL.1) rfl rfl (Nat.le_of_ble_eq_true rfl) rfl dX9_tear_58 ?_
        refine k_aload_n (q := 0) dX9_tear_61 rfl rfl ?_
        refine k_iload_n (q := 1) dX9_tear_62 rfl rfl ?_
        refine k_iload_n (q := 2) dX9_tear_63 rfl rfl ?_
        obtain ⟨r14, hc13, h⟩ := bnd_e h
        refine k_cv (q := (RX9, TX9, 12)) (As := [.int p1, .int p2]) 2 (cm_X9_good l hX g σ12 o hL p1 p2 hc13) gX9_tear_X9_good rfl ⟨rfl, rfl⟩ hd_X9_good ⟨Nat.le_of_ble_eq_true rfl, Nat.le_of_ble_eq_true rfl⟩ ⟨Nat.le_refl _, Nat.le_refl _⟩ (lay_lt hL.1 (by decide)) (ce_of hL.1) rfl rfl (Nat.le_of_ble_eq_true rfl) rfl dX9_tear_64 ?_
        exact k_iret rfl dX9_tear_67 h
      · refine k_bipush (v := (nN 5)) dX9_tear_37 (by decide) ?_
        exact k_iret rfl dX9_tear_39 h
    · refine k_bipush (v := (nN 2)) dX9_tear_20 (by decide) ?_
      exact k_iret rfl dX9_tear_22 h
  · refine k_iconst (v := (nN 1)) dX9_tear_9 (by decide) ?_
    exact k_iret rfl dX9_tear_10 h
abbrev rmX9_patch : Room := { frames := 3, cells := 0, slots := 0, locals := 65 }
abbrev mX9_patch : MT := (rmX9_patch, wsX9_patch, cX9_patch, 4, RX9, some .int)
theorem hd_X9_patch : yX9_patch.cls = RX9 ∧ yX9_patch.cls ≠ "java/lang/invoke/MethodHandle" ∧ yX9_patch.cls ≠ "java/lang/invoke/VarHandle" ∧ (parseMethodDescriptor yX9_patch.desc).map (fun d => d.parameters.length) = some 2 := by decide +kernel
theorem inX9_patch_9 : ∀ w ∈ wsX90, w ∈ wsX9_patch := fun w h => List.mem_cons_of_mem _ (List.mem_append_right _ h)
set_option maxHeartbeats 4000000 in
set_option maxRecDepth 100000 in
theorem cm_X9_patch (l : Launch) {X : XT} (hX : XD X) (g : Nat) (σ : Mem) (o : Nat) (hL : L9 o) (p1 : Int32) (p2 : Int32) {r : Int32} {σ' : Mem} (h : fX9_patch g σ o p1 p2 = some (r, σ')) : Met l yX9_patch wsX9_patch rmX9_patch (va_Pc [.ref (xad X o), .int p1, .int p2] (WW X σ)) (QI X r σ') 0 0 (XA X) := by
  refine met_x (M := mX9_patch) (lv := [(0, .ref (xad X o)), (1, .int p1), (2, .int p2)]) hX (by decide) rfl rfl (Nat.le_of_ble_eq_true rfl) rfl ?_
  unfold fX9_patch at h
  refine k_aload_n (q := 0) dX9_patch_0 rfl rfl ?_
  refine k_iload_n (q := 1) dX9_patch_1 rfl rfl ?_
  refine k_iload_n (q := 2) dX9_patch_2 rfl rfl ?_
  obtain ⟨r2, hc1, h⟩ := bnd_e h
  refine k_cv (q := (RX9, TX9, 12)) (As := [.int p1, .int p2]) 2 (cm_X9_isFrame l hX g σ o hL p1 p2 hc1) gX9_patch_X9_isFrame rfl ⟨rfl, rfl⟩ hd_X9_isFrame ⟨Nat.le_of_ble_eq_true rfl, Nat.le_of_ble_eq_true rfl⟩ ⟨Nat.le_refl _, Nat.le_refl _⟩ (lay_lt hL.1 (by decide)) (ce_of hL.1) rfl rfl (Nat.le_of_ble_eq_true rfl) rfl dX9_patch_3 ?_
  refine k_if_ne (tgt := 11) dX9_patch_6 (by decide) h (fun h => ?_) (fun h => ?_)
  · refine k_aload_n (q := 0) dX9_patch_11 rfl rfl ?_
    refine k_iload_n (q := 1) dX9_patch_12 rfl rfl ?_
    refine k_iload_n (q := 2) dX9_patch_13 rfl rfl ?_
    obtain ⟨r4, hc3, h⟩ := bnd_e h
    refine k_cv (q := (RX9, TX9, 12)) (As := [.int p1, .int p2]) 2 (cm_X9_torn l hX g σ o hL p1 p2 hc3) gX9_patch_X9_torn rfl ⟨rfl, rfl⟩ hd_X9_torn ⟨Nat.le_of_ble_eq_true rfl, Nat.le_of_ble_eq_true rfl⟩ ⟨Nat.le_refl _, Nat.le_refl _⟩ (lay_lt hL.1 (by decide)) (ce_of hL.1) rfl rfl (Nat.le_of_ble_eq_true rfl) rfl dX9_patch_14 ?_
    obtain ⟨r6, hc5, h⟩ := bnd_e h
    refine k_cs (As := [.int r4]) 1 (cm_X9_ones l hX g σ r4 hc5) gX9_patch_X9_ones rfl ⟨rfl, rfl⟩ hd_X9_ones ⟨Nat.le_of_ble_eq_true rfl, Nat.le_of_ble_eq_true rfl⟩ ⟨Nat.le_refl _, Nat.le_refl _⟩ rfl (Nat.le_of_ble_eq_true rfl) rfl dX9_patch_17 ?_
    refine k_istore_n (lv' := [(3, .int r6), (0, .ref (xad X o)), (1, .int p1), (2, .int p2)]) dX9_patch_20 rfl (Nat.le_of_ble_eq_true rfl) rfl ?_
    refine k_iload_n (q := 0) dX9_patch_21 rfl rfl ?_
    refine k_if_ne (tgt := 28) dX9_patch_22 (by decide) h (fun h => ?_) (fun h => ?_)
    · refine k_aload_n (q := 1) dX9_patch_28 rfl rfl ?_
      refine k_iconst (v := (nI 0)) dX9_patch_29 (by decide) ?_
      obtain ⟨σ8, hc7, h⟩ := bnd_e h
      refine k_cvv (q := (RX9, TX9, 12)) (As := [.int (nI 0)]) 1 (cm_X9_records l hX g σ o hL (nI 0) hc7) gX9_patch_X9_records rfl ⟨rfl, rfl⟩ hd_X9_records ⟨Nat.le_of_ble_eq_true rfl, Nat.le_of_ble_eq_true rfl⟩ ⟨Nat.le_refl _, Nat.le_refl _⟩ (lay_lt hL.1 (by decide)) (ce_of hL.1) rfl rfl (Nat.le_of_ble_eq_true rfl) rfl dX9_patch_30 ?_
      refine k_aload_n (q := 1) dX9_patch_33 rfl rfl ?_
      refine k_iload_n (q := 2) dX9_patch_34 rfl rfl ?_
      refine k_iload_n (q := 3) dX9_patch_35 rfl rfl ?_
      refine k_iconst (v := (nI 0)) dX9_patch_36 (by decide) ?_
      obtain ⟨σ10, hc9, h⟩ := bnd_e h
      refine k_cvv (q := (RX9, TX9, 12)) (As := [.int p1, .int p2, .int (nI 0)]) 3 (cm_X9_setsTorn l hX g σ8 o hL p1 p2 (nI 0) hc9) gX9_patch_X9_setsTorn rfl ⟨rfl, rfl⟩ hd_X9_setsTorn ⟨Nat.le_of_ble_eq_true rfl, Nat.le_of_ble_eq_true rfl⟩ ⟨Nat.le_refl _, Nat.le_refl _⟩ (lay_lt hL.1 (by decide)) (ce_of hL.1) rfl rfl (Nat.le_of_ble_eq_true rfl) rfl dX9_patch_37 ?_
      refine k_iload_n (q := 0) dX9_patch_40 rfl rfl ?_
      exact k_iret rfl dX9_patch_41 h
    · refine k_bipush (v := (nN 5)) dX9_patch_25 (by decide) ?_
      exact k_iret rfl dX9_patch_27 h
  · refine k_iconst (v := (nN 1)) dX9_patch_9 (by decide) ?_
    exact k_iret rfl dX9_patch_10 h
abbrev rmX9_splice : Room := { frames := 2, cells := 0, slots := 0, locals := 43 }
abbrev mX9_splice : MT := (rmX9_splice, wsX9_splice, cX9_splice, 3, RX9, some .int)
theorem hd_X9_splice : yX9_splice.cls = RX9 ∧ yX9_splice.cls ≠ "java/lang/invoke/MethodHandle" ∧ yX9_splice.cls ≠ "java/lang/invoke/VarHandle" ∧ (parseMethodDescriptor yX9_splice.desc).map (fun d => d.parameters.length) = some 1 := by decide +kernel
theorem inX9_splice_9 : ∀ w ∈ wsX90, w ∈ wsX9_splice := fun w h => List.mem_cons_of_mem _ (List.mem_append_right _ h)
set_option maxHeartbeats 4000000 in
set_option maxRecDepth 100000 in
theorem cm_X9_splice (l : Launch) {X : XT} (hX : XD X) (g : Nat) (σ : Mem) (o : Nat) (hL : L9 o) (p1 : Int32) {r : Int32} {σ' : Mem} (h : fX9_splice g σ o p1 = some (r, σ')) : Met l yX9_splice wsX9_splice rmX9_splice (va_Pc [.ref (xad X o), .int p1] (WW X σ)) (QI X r σ') 0 0 (XA X) := by
  refine met_x (M := mX9_splice) (lv := [(0, .ref (xad X o)), (1, .int p1)]) hX (by decide) rfl rfl (Nat.le_of_ble_eq_true rfl) rfl ?_
  unfold fX9_splice at h
  refine k_aload_n (q := 0) dX9_splice_0 rfl rfl ?_
  refine k_iload_n (q := 1) dX9_splice_1 rfl rfl ?_
  obtain ⟨r2, hc1, h⟩ := bnd_e h
  refine k_cv (q := (RX9, TX9, 12)) (As := [.int p1]) 1 (cm_X9_isPiece l hX g σ o hL p1 hc1) gX9_splice_X9_isPiece rfl ⟨rfl, rfl⟩ hd_X9_isPiece ⟨Nat.le_of_ble_eq_true rfl, Nat.le_of_ble_eq_true rfl⟩ ⟨Nat.le_refl _, Nat.le_refl _⟩ (lay_lt hL.1 (by decide)) (ce_of hL.1) rfl rfl (Nat.le_of_ble_eq_true rfl) rfl dX9_splice_2 ?_
  refine k_if_ne (tgt := 10) dX9_splice_5 (by decide) h (fun h => ?_) (fun h => ?_)
  · refine k_aload_n (q := 0) dX9_splice_10 rfl rfl ?_
    refine k_iload_n (q := 1) dX9_splice_11 rfl rfl ?_
    refine k_iconst (v := (nI 3)) dX9_splice_12 (by decide) ?_
    obtain ⟨r4, hc3, h⟩ := bnd_e h
    refine k_cv (q := (RX9, TX9, 12)) (As := [.int p1, .int (nI 3)]) 2 (cm_X9_ofP l hX g σ o hL p1 (nI 3) hc3) gX9_splice_X9_ofP rfl ⟨rfl, rfl⟩ hd_X9_ofP ⟨Nat.le_of_ble_eq_true rfl, Nat.le_of_ble_eq_true rfl⟩ ⟨Nat.le_refl _, Nat.le_refl _⟩ (lay_lt hL.1 (by decide)) (ce_of hL.1) rfl rfl (Nat.le_of_ble_eq_true rfl) rfl dX9_splice_13 ?_
    refine k_istore_n (lv' := [(2, .int r4), (0, .ref (xad X o)), (1, .int p1)]) dX9_splice_16 rfl (Nat.le_of_ble_eq_true rfl) rfl ?_
    refine k_iload_n (q := 0) dX9_splice_17 rfl rfl ?_
    refine k_if_ne (tgt := 24) dX9_splice_18 (by decide) h (fun h => ?_) (fun h => ?_)
    · refine k_aload_n (q := 1) dX9_splice_24 rfl rfl ?_
      refine k_iconst (v := (nI 0)) dX9_splice_25 (by decide) ?_
      obtain ⟨σ6, hc5, h⟩ := bnd_e h
      refine k_cvv (q := (RX9, TX9, 12)) (As := [.int (nI 0)]) 1 (cm_X9_records l hX g σ o hL (nI 0) hc5) gX9_splice_X9_records rfl ⟨rfl, rfl⟩ hd_X9_records ⟨Nat.le_of_ble_eq_true rfl, Nat.le_of_ble_eq_true rfl⟩ ⟨Nat.le_refl _, Nat.le_refl _⟩ (lay_lt hL.1 (by decide)) (ce_of hL.1) rfl rfl (Nat.le_of_ble_eq_true rfl) rfl dX9_splice_26 ?_
      refine k_aload_n (q := 1) dX9_splice_29 rfl rfl ?_
      refine k_iload_n (q := 2) dX9_splice_30 rfl rfl ?_
      refine k_iconst (v := (nI 3)) dX9_splice_31 (by decide) ?_
      refine k_iconst (v := (nI 0)) dX9_splice_32 (by decide) ?_
      obtain ⟨σ8, hc7, h⟩ := bnd_e h
      refine k_cvv (q := (RX9, TX9, 12)) (As := [.int p1, .int (nI 3), .int (nI 0)]) 3 (cm_X9_setsP l hX g σ6 o hL p1 (nI 3) (nI 0) hc7) gX9_splice_X9_setsP rfl ⟨rfl, rfl⟩ hd_X9_setsP ⟨Nat.le_of_ble_eq_true rfl, Nat.le_of_ble_eq_true rfl⟩ ⟨Nat.le_refl _, Nat.le_refl _⟩ (lay_lt hL.1 (by decide)) (ce_of hL.1) rfl rfl (Nat.le_of_ble_eq_true rfl) rfl dX9_splice_33 ?_
      refine k_iload_n (q := 0) dX9_splice_36 rfl rfl ?_
      exact k_iret rfl dX9_splice_37 h
    · refine k_bipush (v := (nN 5)) dX9_splice_21 (by decide) ?_
      exact k_iret rfl dX9_splice_23 h
  · refine k_iconst (v := (nN 1)) dX9_splice_8 (by decide) ?_
    exact k_iret rfl dX9_splice_9 h
