/-! THE WALKS (laid by wip/whole/gen_walk.py) -/
abbrev rmX9_dislike : Room := { frames := 1, cells := 0, slots := 0, locals := 22 }
abbrev mX9_dislike : MT := (rmX9_dislike, wsX9_dislike, cX9_dislike, 3, RX9, some .int)
theorem hd_X9_dislike : yX9_dislike.cls = RX9 ∧ yX9_dislike.cls ≠ "java/lang/invoke/MethodHandle" ∧ yX9_dislike.cls ≠ "java/lang/invoke/VarHandle" ∧ (parseMethodDescriptor yX9_dislike.desc).map (fun d => d.parameters.length) = some 2 := by decide +kernel
theorem inX9_dislike_9 : ∀ w ∈ wsX90, w ∈ wsX9_dislike := fun w h => List.mem_cons_of_mem _ (List.mem_append_right _ h)
set_option maxHeartbeats 4000000 in
set_option maxRecDepth 100000 in
theorem cm_X9_dislike (l : Launch) {X : XT} (hX : XD X) (g : Nat) (σ : Mem) (o : Nat) (hL : L9 o) (p1 : Int32) (p2 : Int32) {r : Int32} {σ' : Mem} (h : fX9_dislike g σ o p1 p2 = some (r, σ')) : Met l yX9_dislike wsX9_dislike rmX9_dislike (va_Pc [.ref (xad X o), .int p1, .int p2] (WW X σ)) (QI X r σ') 0 0 (XA X) := by
  refine met_x (M := mX9_dislike) (lv := [(0, .ref (xad X o)), (1, .int p1), (2, .int p2)]) hX (by decide) rfl rfl (Nat.le_of_ble_eq_true rfl) rfl ?_
  unfold fX9_dislike at h
  refine k_iload_n (q := 1) dX9_dislike_0 rfl rfl ?_
  refine k_iconst (v := (nI 0)) dX9_dislike_1 (by decide) ?_
  refine k_iconst (v := (nI 5)) dX9_dislike_2 (by decide) ?_
  obtain ⟨r2, hc1, h⟩ := bnd_e h
  refine k_cs (As := [.int p1, .int (nI 0), .int (nI 5)]) 3 (cm_X9_isIn l hX g σ p1 (nI 0) (nI 5) hc1) gX9_dislike_X9_isIn rfl ⟨rfl, rfl⟩ hd_X9_isIn ⟨Nat.le_of_ble_eq_true rfl, Nat.le_of_ble_eq_true rfl⟩ ⟨Nat.le_refl _, Nat.le_refl _⟩ rfl (Nat.le_of_ble_eq_true rfl) rfl dX9_dislike_3 ?_
  refine k_if_ne (tgt := 12) dX9_dislike_6 (by decide) h (fun h => ?_) (fun h => ?_)
  · refine k_aload_n (q := 0) dX9_dislike_12 rfl rfl ?_
    refine kg_9 (v := .ref (xad X (o + 1))) hL.1 inX9_dislike_9 0 (by decide) (List.mem_of_getElem? (i := 1) rfl) rfl dX9_dislike_13 ?_
    refine k_iconst (v := (nI 5)) dX9_dislike_16 (by decide) ?_
    refine k_iald (n := 6036) hL.2.1 dX9_dislike_17 h (fun h => ?_)
    refine k_iload_n (q := 1) dX9_dislike_18 rfl rfl ?_
    refine k_ishr dX9_dislike_19 ?_
    refine k_iconst (v := (nI 1)) dX9_dislike_20 (by decide) ?_
    refine k_iand dX9_dislike_21 ?_
    refine k_iload_n (q := 2) dX9_dislike_22 rfl rfl ?_
    have key : WG X l mX9_dislike (fun _ _ => True) 0 0 (QM X (QI X r σ')) 31 σ [(0, .ref (xad X o)), (1, .int p1), (2, .int p2)] [.int (if p2 = 0 then (nI 0) else (nI 1)), .int (((σ (o + 1) (nI 5).toNatClampNeg) >>> (p1 &&& 31)) &&& (nI 1))] := by
      refine k_icmp_ne (tgt := 37) dX9_dislike_31 (by decide) h (fun h => ?_) (fun h => ?_)
      · refine k_aload_n (q := 0) dX9_dislike_37 rfl rfl ?_
        refine k_iconst (v := (nI 0)) dX9_dislike_38 (by decide) ?_
        obtain ⟨σ4, hc3, h⟩ := bnd_e h
        refine k_cvv (q := (RX9, TX9, 12)) (As := [.int (nI 0)]) 1 (cm_X9_records l hX g σ o hL (nI 0) hc3) gX9_dislike_X9_records rfl ⟨rfl, rfl⟩ hd_X9_records ⟨Nat.le_of_ble_eq_true rfl, Nat.le_of_ble_eq_true rfl⟩ ⟨Nat.le_refl _, Nat.le_refl _⟩ (lay_lt hL.1 (by decide)) (ce_of hL.1) rfl rfl (Nat.le_of_ble_eq_true rfl) rfl dX9_dislike_39 ?_
        refine k_aload_n (q := 0) dX9_dislike_42 rfl rfl ?_
        refine kg_9 (v := .ref (xad X (o + 1))) hL.1 inX9_dislike_9 0 (by decide) (List.mem_of_getElem? (i := 1) rfl) rfl dX9_dislike_43 ?_
        refine k_iconst (v := (nI 5)) dX9_dislike_46 (by decide) ?_
        refine k_dup2 dX9_dislike_47 rfl rfl ?_
        refine k_iald (n := 6036) hL.2.1 dX9_dislike_48 h (fun h => ?_)
        refine k_iload_n (q := 2) dX9_dislike_49 rfl rfl ?_
        have key : WG X l mX9_dislike (fun _ _ => True) 0 0 (QM X (QI X r σ')) 63 σ4 [(0, .ref (xad X o)), (1, .int p1), (2, .int p2)] [.int (if p2 = 0 then (-((nI 1) <<< (p1 &&& 31))) else ((nI 1) <<< (p1 &&& 31))), .int (σ4 (o + 1) (nI 5).toNatClampNeg), .int (nI 5), .ref (xad X (o + 1))] := by
          refine k_iadd dX9_dislike_63 ?_
          refine k_iast (n := 6036) hL.2.1 dX9_dislike_64 h (fun σ5 h => ?_)
          refine k_aload_n (q := 0) dX9_dislike_65 rfl rfl ?_
          refine kg_9 (v := .ref (xad X (o + 1))) hL.1 inX9_dislike_9 0 (by decide) (List.mem_of_getElem? (i := 1) rfl) rfl dX9_dislike_66 ?_
          refine k_iconst (v := (nI 5)) dX9_dislike_69 (by decide) ?_
          refine k_iald (n := 6036) hL.2.1 dX9_dislike_70 h (fun h => ?_)
          obtain ⟨r7, hc6, h⟩ := bnd_e h
          refine k_cs (As := [.int (σ5 (o + 1) (nI 5).toNatClampNeg)]) 1 (cm_X9_ones l hX g σ5 (σ5 (o + 1) (nI 5).toNatClampNeg) hc6) gX9_dislike_X9_ones rfl ⟨rfl, rfl⟩ hd_X9_ones ⟨Nat.le_of_ble_eq_true rfl, Nat.le_of_ble_eq_true rfl⟩ ⟨Nat.le_refl _, Nat.le_refl _⟩ rfl (Nat.le_of_ble_eq_true rfl) rfl dX9_dislike_71 ?_
          exact k_iret rfl dX9_dislike_74 h
        refine k_ifc_eq (tgt := 59) dX9_dislike_50 (by decide) (fun hq => ?_) (fun hq => ?_)
        · rw [if_pos hq] at key
          refine k_iconst (v := (nI 1)) dX9_dislike_59 (by decide) ?_
          refine k_iload_n (q := 1) dX9_dislike_60 rfl rfl ?_
          refine k_ishl dX9_dislike_61 ?_
          refine k_ineg dX9_dislike_62 ?_
          exact key
        · rw [if_neg hq] at key
          refine k_iconst (v := (nI 1)) dX9_dislike_53 (by decide) ?_
          refine k_iload_n (q := 1) dX9_dislike_54 rfl rfl ?_
          refine k_ishl dX9_dislike_55 ?_
          refine k_goto (tgt := 63) dX9_dislike_56 (by decide) ?_
          exact key
      · refine k_bipush (v := (nN 5)) dX9_dislike_34 (by decide) ?_
        exact k_iret rfl dX9_dislike_36 h
    refine k_ifc_eq (tgt := 30) dX9_dislike_23 (by decide) (fun hq => ?_) (fun hq => ?_)
    · rw [if_pos hq] at key
      refine k_iconst (v := (nI 0)) dX9_dislike_30 (by decide) ?_
      exact key
    · rw [if_neg hq] at key
      refine k_iconst (v := (nI 1)) dX9_dislike_26 (by decide) ?_
      refine k_goto (tgt := 31) dX9_dislike_27 (by decide) ?_
      exact key
  · refine k_bipush (v := (nN 2)) dX9_dislike_9 (by decide) ?_
    exact k_iret rfl dX9_dislike_11 h
abbrev rmX9_set : Room := { frames := 1, cells := 0, slots := 0, locals := 22 }
abbrev mX9_set : MT := (rmX9_set, wsX9_set, cX9_set, 4, RX9, some .int)
theorem hd_X9_set : yX9_set.cls = RX9 ∧ yX9_set.cls ≠ "java/lang/invoke/MethodHandle" ∧ yX9_set.cls ≠ "java/lang/invoke/VarHandle" ∧ (parseMethodDescriptor yX9_set.desc).map (fun d => d.parameters.length) = some 2 := by decide +kernel
theorem inX9_set_9 : ∀ w ∈ wsX90, w ∈ wsX9_set := fun w h => List.mem_cons_of_mem _ (List.mem_append_right _ h)
set_option maxHeartbeats 4000000 in
set_option maxRecDepth 100000 in
theorem cm_X9_set (l : Launch) {X : XT} (hX : XD X) (g : Nat) (σ : Mem) (o : Nat) (hL : L9 o) (p1 : Int32) (p2 : Int32) {r : Int32} {σ' : Mem} (h : fX9_set g σ o p1 p2 = some (r, σ')) : Met l yX9_set wsX9_set rmX9_set (va_Pc [.ref (xad X o), .int p1, .int p2] (WW X σ)) (QI X r σ') 0 0 (XA X) := by
  refine met_x (M := mX9_set) (lv := [(0, .ref (xad X o)), (1, .int p1), (2, .int p2)]) hX (by decide) rfl rfl (Nat.le_of_ble_eq_true rfl) rfl ?_
  unfold fX9_set at h
  refine k_iload_n (q := 1) dX9_set_0 rfl rfl ?_
  refine k_iconst (v := (nI 0)) dX9_set_1 (by decide) ?_
  refine k_iconst (v := (nI 1)) dX9_set_2 (by decide) ?_
  obtain ⟨r2, hc1, h⟩ := bnd_e h
  refine k_cs (As := [.int p1, .int (nI 0), .int (nI 1)]) 3 (cm_X9_isIn l hX g σ p1 (nI 0) (nI 1) hc1) gX9_set_X9_isIn rfl ⟨rfl, rfl⟩ hd_X9_isIn ⟨Nat.le_of_ble_eq_true rfl, Nat.le_of_ble_eq_true rfl⟩ ⟨Nat.le_refl _, Nat.le_refl _⟩ rfl (Nat.le_of_ble_eq_true rfl) rfl dX9_set_3 ?_
  refine k_if_eq (tgt := 19) dX9_set_6 (by decide) h (fun h => ?_) (fun h => ?_)
  · refine k_bipush (v := (nN 2)) dX9_set_19 (by decide) ?_
    exact k_iret rfl dX9_set_21 h
  · refine k_iload_n (q := 2) dX9_set_9 rfl rfl ?_
    refine k_iload_n (q := 1) dX9_set_10 rfl rfl ?_
    refine k_bipush (v := (nI 20)) dX9_set_11 (by decide) ?_
    obtain ⟨r4, hc3, h⟩ := bnd_e h
    refine k_cs (As := [.int p2, .int p1, .int (nI 20)]) 3 (cm_X9_isIn l hX g σ p2 p1 (nI 20) hc3) gX9_set_X9_isIn rfl ⟨rfl, rfl⟩ hd_X9_isIn ⟨Nat.le_of_ble_eq_true rfl, Nat.le_of_ble_eq_true rfl⟩ ⟨Nat.le_refl _, Nat.le_refl _⟩ rfl (Nat.le_of_ble_eq_true rfl) rfl dX9_set_13 ?_
    refine k_if_ne (tgt := 22) dX9_set_16 (by decide) h (fun h => ?_) (fun h => ?_)
    · refine k_aload_n (q := 0) dX9_set_22 rfl rfl ?_
      refine kg_9 (v := .ref (xad X (o + 1))) hL.1 inX9_set_9 0 (by decide) (List.mem_of_getElem? (i := 1) rfl) rfl dX9_set_23 ?_
      refine k_bipush (v := (nI 6)) dX9_set_26 (by decide) ?_
      refine k_iload_n (q := 1) dX9_set_28 rfl rfl ?_
      refine k_iadd dX9_set_29 ?_
      refine k_iald (n := 6036) hL.2.1 dX9_set_30 h (fun h => ?_)
      refine k_istore_n (lv' := [(3, .int (σ (o + 1) ((nI 6) + p1).toNatClampNeg)), (0, .ref (xad X o)), (1, .int p1), (2, .int p2)]) dX9_set_31 rfl (Nat.le_of_ble_eq_true rfl) rfl ?_
      refine k_iload_n (q := 0) dX9_set_32 rfl rfl ?_
      refine k_iload_n (q := 3) dX9_set_33 rfl rfl ?_
      refine k_icmp_ne (tgt := 40) dX9_set_34 (by decide) h (fun h => ?_) (fun h => ?_)
      · refine k_aload_n (q := 1) dX9_set_40 rfl rfl ?_
        refine k_iconst (v := (nI 0)) dX9_set_41 (by decide) ?_
        obtain ⟨σ6, hc5, h⟩ := bnd_e h
        refine k_cvv (q := (RX9, TX9, 12)) (As := [.int (nI 0)]) 1 (cm_X9_records l hX g σ o hL (nI 0) hc5) gX9_set_X9_records rfl ⟨rfl, rfl⟩ hd_X9_records ⟨Nat.le_of_ble_eq_true rfl, Nat.le_of_ble_eq_true rfl⟩ ⟨Nat.le_refl _, Nat.le_refl _⟩ (lay_lt hL.1 (by decide)) (ce_of hL.1) rfl rfl (Nat.le_of_ble_eq_true rfl) rfl dX9_set_42 ?_
        refine k_aload_n (q := 1) dX9_set_45 rfl rfl ?_
        refine kg_9 (v := .ref (xad X (o + 1))) hL.1 inX9_set_9 0 (by decide) (List.mem_of_getElem? (i := 1) rfl) rfl dX9_set_46 ?_
        refine k_bipush (v := (nI 6)) dX9_set_49 (by decide) ?_
        refine k_iload_n (q := 2) dX9_set_51 rfl rfl ?_
        refine k_iadd dX9_set_52 ?_
        refine k_iload_n (q := 3) dX9_set_53 rfl rfl ?_
        refine k_iast (n := 6036) hL.2.1 dX9_set_54 h (fun σ7 h => ?_)
        refine k_iload_n (q := 0) dX9_set_55 rfl rfl ?_
        exact k_iret rfl dX9_set_56 h
      · refine k_bipush (v := (nN 5)) dX9_set_37 (by decide) ?_
        exact k_iret rfl dX9_set_39 h
    · refine k_bipush (v := (nN 2)) dX9_set_19 (by decide) ?_
      exact k_iret rfl dX9_set_21 h
abbrev rmX9_counts : Room := { frames := 2, cells := 0, slots := 0, locals := 44 }
abbrev mX9_counts : MT := (rmX9_counts, wsX9_counts, cX9_counts, 8, RX9, none)
theorem hd_X9_counts : yX9_counts.cls = RX9 ∧ yX9_counts.cls ≠ "java/lang/invoke/MethodHandle" ∧ yX9_counts.cls ≠ "java/lang/invoke/VarHandle" ∧ (parseMethodDescriptor yX9_counts.desc).map (fun d => d.parameters.length) = some 3 := by decide +kernel
theorem inX9_counts_9 : ∀ w ∈ wsX90, w ∈ wsX9_counts := fun w h => List.mem_cons_of_mem _ (List.mem_append_right _ h)
set_option maxHeartbeats 4000000 in
set_option maxRecDepth 100000 in
theorem wX9_counts_211 (l : Launch) {X : XT} (hX : XD X) (g : Nat) (o : Nat) (hL : L9 o) {σ' : Mem} : ∀ (n : Nat) (σ : Mem) (x1 : Int32) (x2 : Int32) (x6 : Int32) (x7 : Int32), fX9_counts_211 g o n σ x1 x2 x6 x7 = some σ' → WG X l mX9_counts (fun _ _ => True) 0 0 (QM X (QV X σ')) 211 σ [(0, .ref (xad X o)), (1, .int x1), (2, .int x2), (6, .int x6), (7, .int x7)] [] := by
  intro n
  induction n with
  | zero => intro σ x1 x2 x6 x7 h; exact nomatch (show (none : Option _) = some _ from h)
  | succ n ih =>
    intro σ x1 x2 x6 x7 h
    rw [fX9_counts_211] at h
    refine k_iload (q := 3) dX9_counts_211 rfl ?_
    refine k_iload (q := 4) dX9_counts_213 rfl ?_
    refine k_ishr dX9_counts_215 ?_
    refine k_iconst (v := (nI 1)) dX9_counts_216 (by decide) ?_
    refine k_iand dX9_counts_217 ?_
    refine k_iconst (v := (nI 1)) dX9_counts_218 (by decide) ?_
    refine k_icmp_ne (tgt := 228) dX9_counts_219 (by decide) h (fun h => ?_) (fun h => ?_)
    · refine k_aload_n (q := 0) dX9_counts_228 rfl rfl ?_
      refine k_iload_n (q := 1) dX9_counts_229 rfl rfl ?_
      refine k_iload_n (q := 2) dX9_counts_230 rfl rfl ?_
      refine k_iload (q := 3) dX9_counts_231 rfl ?_
      refine k_iconst (v := (nI 1)) dX9_counts_233 (by decide) ?_
      refine k_iload (q := 4) dX9_counts_234 rfl ?_
      refine k_ishl dX9_counts_236 ?_
      refine k_ior dX9_counts_237 ?_
      obtain ⟨σ15, hc14, h⟩ := bnd_e h
      refine k_cvv (q := (RX9, TX9, 12)) (As := [.int x1, .int x2, .int (x6 ||| ((nI 1) <<< (x7 &&& 31)))]) 3 (cm_X9_setsTorn l hX g σ o hL x1 x2 (x6 ||| ((nI 1) <<< (x7 &&& 31))) hc14) gX9_counts_X9_setsTorn rfl ⟨rfl, rfl⟩ hd_X9_setsTorn ⟨Nat.le_of_ble_eq_true rfl, Nat.le_of_ble_eq_true rfl⟩ ⟨Nat.le_refl _, Nat.le_refl _⟩ (lay_lt hL.1 (by decide)) (ce_of hL.1) rfl rfl (Nat.le_of_ble_eq_true rfl) rfl dX9_counts_238 ?_
      exact k_vret rfl dX9_counts_241 h
    · refine k_iinc (q := 4) (v := (x7 + (nI 1))) (lv' := [(7, .int (x7 + (nI 1))), (0, .ref (xad X o)), (1, .int x1), (2, .int x2), (6, .int x6)]) dX9_counts_222 rfl rfl (Nat.le_of_ble_eq_true rfl) rfl ?_
      refine k_goto (tgt := 211) dX9_counts_225 (by decide) ?_
      refine k_sub (ks' := [1, 2, 3, 4, 0]) rfl ?_
      exact ih σ x1 x2 x6 (x7 + (nI 1)) h
set_option maxHeartbeats 4000000 in
set_option maxRecDepth 100000 in
theorem wX9_counts_156 (l : Launch) {X : XT} (hX : XD X) (g : Nat) (o : Nat) (hL : L9 o) {σ' : Mem} (σ : Mem) (x1 : Int32) (x2 : Int32) (x4 : Int32) (h : fX9_counts_156 g o σ x1 x2 x4 = some σ') : WG X l mX9_counts (fun _ _ => True) 0 0 (QM X (QV X σ')) 156 σ [(0, .ref (xad X o)), (1, .int x1), (2, .int x2), (4, .int x4)] [] := by
  unfold fX9_counts_156 at h
  refine k_aload_n (q := 0) dX9_counts_156 rfl rfl ?_
  refine kg_9 (v := .ref (xad X (o + 1))) hL.1 inX9_counts_9 0 (by decide) (List.mem_of_getElem? (i := 2) rfl) rfl dX9_counts_157 ?_
  refine k_bipush (v := (nI 32)) dX9_counts_160 (by decide) ?_
  refine k_iconst (v := (nI 2)) dX9_counts_162 (by decide) ?_
  refine k_bipush (v := (nI 40)) dX9_counts_163 (by decide) ?_
  refine k_iload_n (q := 1) dX9_counts_165 rfl rfl ?_
  refine k_imul dX9_counts_166 ?_
  refine k_iload_n (q := 2) dX9_counts_167 rfl rfl ?_
  refine k_iadd dX9_counts_168 ?_
  refine k_imul dX9_counts_169 ?_
  refine k_iadd dX9_counts_170 ?_
  refine k_iconst (v := (nI 1)) dX9_counts_171 (by decide) ?_
  refine k_iadd dX9_counts_172 ?_
  refine k_dup2 dX9_counts_173 rfl rfl ?_
  refine k_iald (n := 6036) hL.2.1 dX9_counts_174 h (fun h => ?_)
  refine k_iconst (v := (nI 1)) dX9_counts_175 (by decide) ?_
  refine k_iadd dX9_counts_176 ?_
  refine k_iast (n := 6036) hL.2.1 dX9_counts_177 h (fun σ9 h => ?_)
  refine k_aload_n (q := 0) dX9_counts_178 rfl rfl ?_
  refine k_iload_n (q := 1) dX9_counts_179 rfl rfl ?_
  refine k_iload_n (q := 2) dX9_counts_180 rfl rfl ?_
  obtain ⟨r11, hc10, h⟩ := bnd_e h
  refine k_cv (q := (RX9, TX9, 12)) (As := [.int x1, .int x2]) 2 (cm_X9_torn l hX g σ9 o hL x1 x2 hc10) gX9_counts_X9_torn rfl ⟨rfl, rfl⟩ hd_X9_torn ⟨Nat.le_of_ble_eq_true rfl, Nat.le_of_ble_eq_true rfl⟩ ⟨Nat.le_refl _, Nat.le_refl _⟩ (lay_lt hL.1 (by decide)) (ce_of hL.1) rfl rfl (Nat.le_of_ble_eq_true rfl) rfl dX9_counts_181 ?_
  refine k_istore (lv' := [(6, .int r11), (0, .ref (xad X o)), (1, .int x1), (2, .int x2), (4, .int x4)]) dX9_counts_184 (Nat.le_of_ble_eq_true rfl) rfl ?_
  refine k_iload (q := 4) dX9_counts_186 rfl ?_
  refine k_iconst (v := (nI 4)) dX9_counts_188 (by decide) ?_
  refine k_icmp_ge (tgt := 241) dX9_counts_189 (by decide) h (fun h => ?_) (fun h => ?_)
  · exact k_vret rfl dX9_counts_241 h
  · refine k_iload (q := 4) dX9_counts_192 rfl ?_
    refine k_if_le (tgt := 241) dX9_counts_194 (by decide) h (fun h => ?_) (fun h => ?_)
    · exact k_vret rfl dX9_counts_241 h
    · refine k_aload_n (q := 1) dX9_counts_197 rfl rfl ?_
      refine k_iload_n (q := 2) dX9_counts_198 rfl rfl ?_
      refine k_iload_n (q := 3) dX9_counts_199 rfl rfl ?_
      obtain ⟨r13, hc12, h⟩ := bnd_e h
      refine k_cv (q := (RX9, TX9, 12)) (As := [.int x1, .int x2]) 2 (cm_X9_passes l hX g σ9 o hL x1 x2 hc12) gX9_counts_X9_passes rfl ⟨rfl, rfl⟩ hd_X9_passes ⟨Nat.le_of_ble_eq_true rfl, Nat.le_of_ble_eq_true rfl⟩ ⟨Nat.le_refl _, Nat.le_refl _⟩ (lay_lt hL.1 (by decide)) (ce_of hL.1) rfl rfl (Nat.le_of_ble_eq_true rfl) rfl dX9_counts_200 ?_
      refine k_iconst (v := (nI 3)) dX9_counts_203 (by decide) ?_
      refine k_irem dX9_counts_204 (by decide) ?_
      refine k_if_ne (tgt := 241) dX9_counts_205 (by decide) h (fun h => ?_) (fun h => ?_)
      · exact k_vret rfl dX9_counts_241 h
      · refine k_iconst (v := (nI 0)) dX9_counts_208 (by decide) ?_
        refine k_istore (lv' := [(7, .int (nI 0)), (6, .int r11), (0, .ref (xad X o)), (1, .int x1), (2, .int x2), (4, .int x4)]) dX9_counts_209 (Nat.le_of_ble_eq_true rfl) rfl ?_
        refine k_sub (ks' := [2, 3, 4, 1, 0]) rfl ?_
        exact wX9_counts_211 l hX g o hL g σ9 x1 x2 r11 (nI 0) h
set_option maxHeartbeats 4000000 in
set_option maxRecDepth 100000 in
theorem cm_X9_counts (l : Launch) {X : XT} (hX : XD X) (g : Nat) (σ : Mem) (o : Nat) (hL : L9 o) (p1 : Int32) (p2 : Int32) (p3 : Int32) {σ' : Mem} (h : fX9_counts g σ o p1 p2 p3 = some σ') : Met l yX9_counts wsX9_counts rmX9_counts (va_Pc [.ref (xad X o), .int p1, .int p2, .int p3] (WW X σ)) (QV X σ') 0 0 (XA X) := by
  refine met_x (M := mX9_counts) (lv := [(0, .ref (xad X o)), (1, .int p1), (2, .int p2), (3, .int p3)]) hX (by decide) rfl rfl (Nat.le_of_ble_eq_true rfl) rfl ?_
  unfold fX9_counts at h
  refine k_aload_n (q := 0) dX9_counts_0 rfl rfl ?_
  refine k_iload_n (q := 1) dX9_counts_1 rfl rfl ?_
  refine k_iload_n (q := 2) dX9_counts_2 rfl rfl ?_
  obtain ⟨r2, hc1, h⟩ := bnd_e h
  refine k_cv (q := (RX9, TX9, 12)) (As := [.int p1, .int p2]) 2 (cm_X9_good l hX g σ o hL p1 p2 hc1) gX9_counts_X9_good rfl ⟨rfl, rfl⟩ hd_X9_good ⟨Nat.le_of_ble_eq_true rfl, Nat.le_of_ble_eq_true rfl⟩ ⟨Nat.le_refl _, Nat.le_refl _⟩ (lay_lt hL.1 (by decide)) (ce_of hL.1) rfl rfl (Nat.le_of_ble_eq_true rfl) rfl dX9_counts_3 ?_
  refine k_istore (lv' := [(4, .int r2), (0, .ref (xad X o)), (1, .int p1), (2, .int p2), (3, .int p3)]) dX9_counts_6 (Nat.le_of_ble_eq_true rfl) rfl ?_
  refine k_iload_n (q := 4) dX9_counts_8 rfl rfl ?_
  have key : WG X l mX9_counts (fun _ _ => True) 0 0 (QM X (QV X σ')) 21 σ [(4, .int r2), (0, .ref (xad X o)), (1, .int p1), (2, .int p2), (3, .int p3)] [.int (if p3 = 0 then r2 else (r2 / (nI 2)))] := by
    refine k_istore (lv' := [(5, .int (if p3 = 0 then r2 else (r2 / (nI 2)))), (4, .int r2), (0, .ref (xad X o)), (1, .int p1), (2, .int p2), (3, .int p3)]) dX9_counts_21 (Nat.le_of_ble_eq_true rfl) rfl ?_
    refine k_aload_n (q := 2) dX9_counts_23 rfl rfl ?_
    refine kg_9 (v := .ref (xad X (o + 3))) hL.1 inX9_counts_9 4 (by decide) (List.mem_of_getElem? (i := 1) rfl) rfl dX9_counts_24 ?_
    refine k_iconst (v := (nI 4)) dX9_counts_27 (by decide) ?_
    refine k_dup2 dX9_counts_28 rfl rfl ?_
    refine k_iald (n := 488) hL.2.2.2.1 dX9_counts_29 h (fun h => ?_)
    refine k_iload (q := 0) dX9_counts_30 rfl ?_
    refine k_iadd dX9_counts_32 ?_
    refine k_iast (n := 488) hL.2.2.2.1 dX9_counts_33 h (fun σ3 h => ?_)
    refine k_aload_n (q := 2) dX9_counts_34 rfl rfl ?_
    refine kg_9 (v := .ref (xad X (o + 3))) hL.1 inX9_counts_9 4 (by decide) (List.mem_of_getElem? (i := 1) rfl) rfl dX9_counts_35 ?_
    refine k_iconst (v := (nI 5)) dX9_counts_38 (by decide) ?_
    refine k_dup2 dX9_counts_39 rfl rfl ?_
    refine k_iald (n := 488) hL.2.2.2.1 dX9_counts_40 h (fun h => ?_)
    refine k_iload (q := 1) dX9_counts_41 rfl ?_
    refine k_iload (q := 0) dX9_counts_43 rfl ?_
    refine k_isub dX9_counts_45 ?_
    refine k_iadd dX9_counts_46 ?_
    refine k_iast (n := 488) hL.2.2.2.1 dX9_counts_47 h (fun σ4 h => ?_)
    refine k_iload_n (q := 5) dX9_counts_48 rfl rfl ?_
    refine k_if_eq (tgt := 65) dX9_counts_49 (by decide) h (fun h => ?_) (fun h => ?_)
    · refine k_iload (q := 1) dX9_counts_65 rfl ?_
      refine k_iconst (v := (nI 2)) dX9_counts_67 (by decide) ?_
      have key : WG X l mX9_counts (fun _ _ => True) 0 0 (QM X (QV X σ')) 76 σ4 [(5, .int (if p3 = 0 then r2 else (r2 / (nI 2)))), (4, .int r2), (0, .ref (xad X o)), (1, .int p1), (2, .int p2), (3, .int p3)] [.int (if r2 < (nI 2) then (nI 0) else (nI 1))] := by
        refine k_istore (lv' := [(6, .int (if r2 < (nI 2) then (nI 0) else (nI 1))), (5, .int (if p3 = 0 then r2 else (r2 / (nI 2)))), (4, .int r2), (0, .ref (xad X o)), (1, .int p1), (2, .int p2), (3, .int p3)]) dX9_counts_76 (Nat.le_of_ble_eq_true rfl) rfl ?_
        refine k_aload_n (q := 3) dX9_counts_78 rfl rfl ?_
        refine kg_9 (v := .ref (xad X (o + 3))) hL.1 inX9_counts_9 4 (by decide) (List.mem_of_getElem? (i := 1) rfl) rfl dX9_counts_79 ?_
        refine k_bipush (v := (nI 8)) dX9_counts_82 (by decide) ?_
        refine k_aload_n (q := 3) dX9_counts_84 rfl rfl ?_
        refine kg_9 (v := .ref (xad X (o + 3))) hL.1 inX9_counts_9 4 (by decide) (List.mem_of_getElem? (i := 1) rfl) rfl dX9_counts_85 ?_
        refine k_iconst (v := (nI 0)) dX9_counts_88 (by decide) ?_
        refine k_iald (n := 488) hL.2.2.2.1 dX9_counts_89 h (fun h => ?_)
        refine k_iadd dX9_counts_90 ?_
        refine k_iload (q := 0) dX9_counts_91 rfl ?_
        have key : WG X l mX9_counts (fun _ _ => True) 0 0 (QM X (QV X σ')) 107 σ4 [(6, .int (if r2 < (nI 2) then (nI 0) else (nI 1))), (5, .int (if p3 = 0 then r2 else (r2 / (nI 2)))), (4, .int r2), (0, .ref (xad X o)), (1, .int p1), (2, .int p2), (3, .int p3)] [.int (if (if r2 < (nI 2) then (nI 0) else (nI 1)) = 0 then (nN 5) else (((nI 100) * p1) + p2)), .int ((nI 8) + (σ4 (o + 3) (nI 0).toNatClampNeg)), .ref (xad X (o + 3))] := by
          refine k_iast (n := 488) hL.2.2.2.1 dX9_counts_107 h (fun σ5 h => ?_)
          refine k_aload_n (q := 3) dX9_counts_108 rfl rfl ?_
          refine kg_9 (v := .ref (xad X (o + 3))) hL.1 inX9_counts_9 4 (by decide) (List.mem_of_getElem? (i := 1) rfl) rfl dX9_counts_109 ?_
          refine k_iconst (v := (nI 0)) dX9_counts_112 (by decide) ?_
          refine k_dup2 dX9_counts_113 rfl rfl ?_
          refine k_iald (n := 488) hL.2.2.2.1 dX9_counts_114 h (fun h => ?_)
          refine k_iconst (v := (nI 1)) dX9_counts_115 (by decide) ?_
          refine k_iadd dX9_counts_116 ?_
          refine k_iast (n := 488) hL.2.2.2.1 dX9_counts_117 h (fun σ6 h => ?_)
          refine k_aload_n (q := 3) dX9_counts_118 rfl rfl ?_
          refine kg_9 (v := .ref (xad X (o + 3))) hL.1 inX9_counts_9 4 (by decide) (List.mem_of_getElem? (i := 1) rfl) rfl dX9_counts_119 ?_
          refine k_iconst (v := (nI 1)) dX9_counts_122 (by decide) ?_
          refine k_dup2 dX9_counts_123 rfl rfl ?_
          refine k_iald (n := 488) hL.2.2.2.1 dX9_counts_124 h (fun h => ?_)
          refine k_iload (q := 0) dX9_counts_125 rfl ?_
          have key : WG X l mX9_counts (fun _ _ => True) 0 0 (QM X (QV X σ')) 135 σ6 [(6, .int (if r2 < (nI 2) then (nI 0) else (nI 1))), (5, .int (if p3 = 0 then r2 else (r2 / (nI 2)))), (4, .int r2), (0, .ref (xad X o)), (1, .int p1), (2, .int p2), (3, .int p3)] [.int (if (if r2 < (nI 2) then (nI 0) else (nI 1)) = 0 then (nI 0) else (nI 1)), .int (σ6 (o + 3) (nI 1).toNatClampNeg), .int (nI 1), .ref (xad X (o + 3))] := by
            refine k_iadd dX9_counts_135 ?_
            refine k_iast (n := 488) hL.2.2.2.1 dX9_counts_136 h (fun σ7 h => ?_)
            refine k_aload_n (q := 3) dX9_counts_137 rfl rfl ?_
            refine kg_9 (v := .ref (xad X (o + 3))) hL.1 inX9_counts_9 4 (by decide) (List.mem_of_getElem? (i := 1) rfl) rfl dX9_counts_138 ?_
            refine k_iconst (v := (nI 2)) dX9_counts_141 (by decide) ?_
            refine k_dup2 dX9_counts_142 rfl rfl ?_
            refine k_iald (n := 488) hL.2.2.2.1 dX9_counts_143 h (fun h => ?_)
            refine k_iload (q := 0) dX9_counts_144 rfl ?_
            have key : WG X l mX9_counts (fun _ _ => True) 0 0 (QM X (QV X σ')) 154 σ7 [(6, .int (if r2 < (nI 2) then (nI 0) else (nI 1))), (5, .int (if p3 = 0 then r2 else (r2 / (nI 2)))), (4, .int r2), (0, .ref (xad X o)), (1, .int p1), (2, .int p2), (3, .int p3)] [.int (if (if r2 < (nI 2) then (nI 0) else (nI 1)) = 0 then (nI 1) else (nI 0)), .int (σ7 (o + 3) (nI 2).toNatClampNeg), .int (nI 2), .ref (xad X (o + 3))] := by
              refine k_iadd dX9_counts_154 ?_
              refine k_iast (n := 488) hL.2.2.2.1 dX9_counts_155 h (fun σ8 h => ?_)
              refine k_sub (ks' := [3, 4, 5, 2]) rfl ?_
              exact wX9_counts_156 l hX g o hL σ8 p1 p2 r2 h
            refine k_ifc_eq (tgt := 153) dX9_counts_146 (by decide) (fun hq => ?_) (fun hq => ?_)
            · rw [if_pos hq] at key
              refine k_iconst (v := (nI 1)) dX9_counts_153 (by decide) ?_
              exact key
            · rw [if_neg hq] at key
              refine k_iconst (v := (nI 0)) dX9_counts_149 (by decide) ?_
              refine k_goto (tgt := 154) dX9_counts_150 (by decide) ?_
              exact key
          refine k_ifc_eq (tgt := 134) dX9_counts_127 (by decide) (fun hq => ?_) (fun hq => ?_)
          · rw [if_pos hq] at key
            refine k_iconst (v := (nI 0)) dX9_counts_134 (by decide) ?_
            exact key
          · rw [if_neg hq] at key
            refine k_iconst (v := (nI 1)) dX9_counts_130 (by decide) ?_
            refine k_goto (tgt := 135) dX9_counts_131 (by decide) ?_
            exact key
        refine k_ifc_eq (tgt := 105) dX9_counts_93 (by decide) (fun hq => ?_) (fun hq => ?_)
        · rw [if_pos hq] at key
          refine k_bipush (v := (nN 5)) dX9_counts_105 (by decide) ?_
          exact key
        · rw [if_neg hq] at key
          refine k_bipush (v := (nI 100)) dX9_counts_96 (by decide) ?_
          refine k_iload_n (q := 4) dX9_counts_98 rfl rfl ?_
          refine k_imul dX9_counts_99 ?_
          refine k_iload_n (q := 5) dX9_counts_100 rfl rfl ?_
          refine k_iadd dX9_counts_101 ?_
          refine k_goto (tgt := 107) dX9_counts_102 (by decide) ?_
          exact key
      refine k_icmpc_lt (tgt := 75) dX9_counts_68 (by decide) (fun hq => ?_) (fun hq => ?_)
      · rw [if_pos hq] at key
        refine k_iconst (v := (nI 0)) dX9_counts_75 (by decide) ?_
        exact key
      · rw [if_neg hq] at key
        refine k_iconst (v := (nI 1)) dX9_counts_71 (by decide) ?_
        refine k_goto (tgt := 76) dX9_counts_72 (by decide) ?_
        exact key
    · refine k_aload_n (q := 2) dX9_counts_52 rfl rfl ?_
      refine kg_9 (v := .ref (xad X (o + 3))) hL.1 inX9_counts_9 4 (by decide) (List.mem_of_getElem? (i := 1) rfl) rfl dX9_counts_53 ?_
      refine k_iconst (v := (nI 3)) dX9_counts_56 (by decide) ?_
      refine k_dup2 dX9_counts_57 rfl rfl ?_
      refine k_iald (n := 488) hL.2.2.2.1 dX9_counts_58 h (fun h => ?_)
      refine k_iconst (v := (nI 1)) dX9_counts_59 (by decide) ?_
      refine k_iadd dX9_counts_60 ?_
      refine k_iast (n := 488) hL.2.2.2.1 dX9_counts_61 h (fun σ16 h => ?_)
      refine k_goto (tgt := 156) dX9_counts_62 (by decide) ?_
      refine k_sub (ks' := [2, 3, 4, 1]) rfl ?_
      exact wX9_counts_156 l hX g o hL σ16 p1 p2 r2 h
  refine k_ifc_eq (tgt := 19) dX9_counts_9 (by decide) (fun hq => ?_) (fun hq => ?_)
  · rw [if_pos hq] at key
    refine k_iload (q := 0) dX9_counts_19 rfl ?_
    exact key
  · rw [if_neg hq] at key
    refine k_iload (q := 0) dX9_counts_12 rfl ?_
    refine k_iconst (v := (nI 2)) dX9_counts_14 (by decide) ?_
    refine k_idiv dX9_counts_15 (by decide) ?_
    refine k_goto (tgt := 21) dX9_counts_16 (by decide) ?_
    exact key
abbrev rmX9_goesThrough : Room := { frames := 3, cells := 0, slots := 0, locals := 71 }
abbrev mX9_goesThrough : MT := (rmX9_goesThrough, wsX9_goesThrough, cX9_goesThrough, 4, RX9, none)
theorem hd_X9_goesThrough : yX9_goesThrough.cls = RX9 ∧ yX9_goesThrough.cls ≠ "java/lang/invoke/MethodHandle" ∧ yX9_goesThrough.cls ≠ "java/lang/invoke/VarHandle" ∧ (parseMethodDescriptor yX9_goesThrough.desc).map (fun d => d.parameters.length) = some 2 := by decide +kernel
theorem inX9_goesThrough_9 : ∀ w ∈ wsX90, w ∈ wsX9_goesThrough := fun w h => List.mem_cons_of_mem _ (List.mem_append_right _ h)
set_option maxHeartbeats 4000000 in
set_option maxRecDepth 100000 in
theorem wX9_goesThrough_60 (l : Launch) {X : XT} (hX : XD X) (g : Nat) (o : Nat) (hL : L9 o) {σ' : Mem} : ∀ (n : Nat) (σ : Mem) (x3 : Int32), fX9_goesThrough_60 g o n σ x3 = some σ' → WG X l mX9_goesThrough (fun _ _ => True) 0 0 (QM X (QV X σ')) 60 σ [(0, .ref (xad X o)), (3, .int x3)] [] := by
  intro n
  induction n with
  | zero => intro σ x3 h; exact nomatch (show (none : Option _) = some _ from h)
  | succ n ih =>
    intro σ x3 h
    rw [fX9_goesThrough_60] at h
    refine k_iload_n (q := 1) dX9_goesThrough_60 rfl rfl ?_
    refine k_if_le (tgt := 96) dX9_goesThrough_61 (by decide) h (fun h => ?_) (fun h => ?_)
    · exact k_vret rfl dX9_goesThrough_96 h
    · refine k_aload_n (q := 0) dX9_goesThrough_64 rfl rfl ?_
      refine kg_9 (v := .ref (xad X (o + 3))) hL.1 inX9_goesThrough_9 4 (by decide) (List.mem_of_getElem? (i := 1) rfl) rfl dX9_goesThrough_65 ?_
      refine k_bipush (v := (nI 8)) dX9_goesThrough_68 (by decide) ?_
      refine k_aload_n (q := 0) dX9_goesThrough_70 rfl rfl ?_
      refine kg_9 (v := .ref (xad X (o + 3))) hL.1 inX9_goesThrough_9 4 (by decide) (List.mem_of_getElem? (i := 1) rfl) rfl dX9_goesThrough_71 ?_
      refine k_iconst (v := (nI 0)) dX9_goesThrough_74 (by decide) ?_
      refine k_iald (n := 488) hL.2.2.2.1 dX9_goesThrough_75 h (fun h => ?_)
      refine k_iadd dX9_goesThrough_76 ?_
      refine k_bipush (v := (nN 5)) dX9_goesThrough_77 (by decide) ?_
      refine k_iast (n := 488) hL.2.2.2.1 dX9_goesThrough_79 h (fun σ8 h => ?_)
      refine k_aload_n (q := 0) dX9_goesThrough_80 rfl rfl ?_
      refine kg_9 (v := .ref (xad X (o + 3))) hL.1 inX9_goesThrough_9 4 (by decide) (List.mem_of_getElem? (i := 1) rfl) rfl dX9_goesThrough_81 ?_
      refine k_iconst (v := (nI 0)) dX9_goesThrough_84 (by decide) ?_
      refine k_dup2 dX9_goesThrough_85 rfl rfl ?_
      refine k_iald (n := 488) hL.2.2.2.1 dX9_goesThrough_86 h (fun h => ?_)
      refine k_iconst (v := (nI 1)) dX9_goesThrough_87 (by decide) ?_
      refine k_iadd dX9_goesThrough_88 ?_
      refine k_iast (n := 488) hL.2.2.2.1 dX9_goesThrough_89 h (fun σ9 h => ?_)
      refine k_iinc (q := 1) (v := (x3 + (nN 1))) (lv' := [(3, .int (x3 + (nN 1))), (0, .ref (xad X o))]) dX9_goesThrough_90 rfl rfl (Nat.le_of_ble_eq_true rfl) rfl ?_
      refine k_goto (tgt := 60) dX9_goesThrough_93 (by decide) ?_
      refine k_sub (ks' := [1, 0]) rfl ?_
      exact ih σ9 (x3 + (nN 1)) h
set_option maxHeartbeats 4000000 in
set_option maxRecDepth 100000 in
theorem wX9_goesThrough_7 (l : Launch) {X : XT} (hX : XD X) (g : Nat) (o : Nat) (hL : L9 o) {σ' : Mem} : ∀ (n : Nat) (σ : Mem) (x1 : Int32) (x2 : Int32) (x3 : Int32), fX9_goesThrough_7 g o n σ x1 x2 x3 = some σ' → WG X l mX9_goesThrough (fun _ _ => True) 0 0 (QM X (QV X σ')) 7 σ [(0, .ref (xad X o)), (1, .int x1), (2, .int x2), (3, .int x3)] [] := by
  intro n
  induction n with
  | zero => intro σ x1 x2 x3 h; exact nomatch (show (none : Option _) = some _ from h)
  | succ n ih =>
    intro σ x1 x2 x3 h
    rw [fX9_goesThrough_7] at h
    refine k_iload_n (q := 3) dX9_goesThrough_7 rfl rfl ?_
    refine k_aload_n (q := 0) dX9_goesThrough_8 rfl rfl ?_
    refine k_iload_n (q := 1) dX9_goesThrough_9 rfl rfl ?_
    refine k_iconst (v := (nI 2)) dX9_goesThrough_10 (by decide) ?_
    obtain ⟨r4, hc3, h⟩ := bnd_e h
    refine k_cv (q := (RX9, TX9, 12)) (As := [.int x1, .int (nI 2)]) 2 (cm_X9_ofP l hX g σ o hL x1 (nI 2) hc3) gX9_goesThrough_X9_ofP rfl ⟨rfl, rfl⟩ hd_X9_ofP ⟨Nat.le_of_ble_eq_true rfl, Nat.le_of_ble_eq_true rfl⟩ ⟨Nat.le_refl _, Nat.le_refl _⟩ (lay_lt hL.1 (by decide)) (ce_of hL.1) rfl rfl (Nat.le_of_ble_eq_true rfl) rfl dX9_goesThrough_11 ?_
    refine k_icmp_gt (tgt := 35) dX9_goesThrough_14 (by decide) h (fun h => ?_) (fun h => ?_)
    · refine k_iload_n (q := 2) dX9_goesThrough_35 rfl rfl ?_
      refine k_if_eq (tgt := 96) dX9_goesThrough_36 (by decide) h (fun h => ?_) (fun h => ?_)
      · exact k_vret rfl dX9_goesThrough_96 h
      · refine k_aload_n (q := 0) dX9_goesThrough_39 rfl rfl ?_
        refine kg_9 (v := .ref (xad X (o + 3))) hL.1 inX9_goesThrough_9 4 (by decide) (List.mem_of_getElem? (i := 1) rfl) rfl dX9_goesThrough_40 ?_
        refine k_bipush (v := (nI 7)) dX9_goesThrough_43 (by decide) ?_
        refine k_dup2 dX9_goesThrough_45 rfl rfl ?_
        refine k_iald (n := 488) hL.2.2.2.1 dX9_goesThrough_46 h (fun h => ?_)
        refine k_iconst (v := (nI 1)) dX9_goesThrough_47 (by decide) ?_
        refine k_iadd dX9_goesThrough_48 ?_
        refine k_iast (n := 488) hL.2.2.2.1 dX9_goesThrough_49 h (fun σ5 h => ?_)
        refine k_aload_n (q := 0) dX9_goesThrough_50 rfl rfl ?_
        refine k_iload_n (q := 1) dX9_goesThrough_51 rfl rfl ?_
        obtain ⟨r7, hc6, h⟩ := bnd_e h
        refine k_cv (q := (RX9, TX9, 12)) (As := [.int x1]) 1 (cm_X9_framesIn l hX g σ5 o hL x1 hc6) gX9_goesThrough_X9_framesIn rfl ⟨rfl, rfl⟩ hd_X9_framesIn ⟨Nat.le_of_ble_eq_true rfl, Nat.le_of_ble_eq_true rfl⟩ ⟨Nat.le_refl _, Nat.le_refl _⟩ (lay_lt hL.1 (by decide)) (ce_of hL.1) rfl rfl (Nat.le_of_ble_eq_true rfl) rfl dX9_goesThrough_52 ?_
        refine k_iconst (v := (nI 3)) dX9_goesThrough_55 (by decide) ?_
        refine k_iadd dX9_goesThrough_56 ?_
        refine k_iconst (v := (nI 4)) dX9_goesThrough_57 (by decide) ?_
        refine k_idiv dX9_goesThrough_58 (by decide) ?_
        refine k_istore_n (lv' := [(3, .int ((r7 + (nI 3)) / (nI 4))), (0, .ref (xad X o)), (1, .int x1), (2, .int x2)]) dX9_goesThrough_59 rfl (Nat.le_of_ble_eq_true rfl) rfl ?_
        refine k_sub (ks' := [1, 0]) rfl ?_
        exact wX9_goesThrough_60 l hX g o hL g σ5 ((r7 + (nI 3)) / (nI 4)) h
    · refine k_aload_n (q := 0) dX9_goesThrough_17 rfl rfl ?_
      refine k_aload_n (q := 0) dX9_goesThrough_18 rfl rfl ?_
      refine k_iload_n (q := 1) dX9_goesThrough_19 rfl rfl ?_
      refine k_iconst (v := (nI 0)) dX9_goesThrough_20 (by decide) ?_
      obtain ⟨r11, hc10, h⟩ := bnd_e h
      refine k_cv (q := (RX9, TX9, 12)) (As := [.int x1, .int (nI 0)]) 2 (cm_X9_ofP l hX g σ o hL x1 (nI 0) hc10) gX9_goesThrough_X9_ofP rfl ⟨rfl, rfl⟩ hd_X9_ofP ⟨Nat.le_of_ble_eq_true rfl, Nat.le_of_ble_eq_true rfl⟩ ⟨Nat.le_refl _, Nat.le_refl _⟩ (lay_lt hL.1 (by decide)) (ce_of hL.1) rfl rfl (Nat.le_of_ble_eq_true rfl) rfl dX9_goesThrough_21 ?_
      refine k_iload_n (q := 3) dX9_goesThrough_24 rfl rfl ?_
      refine k_iload_n (q := 2) dX9_goesThrough_25 rfl rfl ?_
      obtain ⟨σ13, hc12, h⟩ := bnd_e h
      refine k_cvv (q := (RX9, TX9, 12)) (As := [.int r11, .int x3, .int x2]) 3 (cm_X9_counts l hX g σ o hL r11 x3 x2 hc12) gX9_goesThrough_X9_counts rfl ⟨rfl, rfl⟩ hd_X9_counts ⟨Nat.le_of_ble_eq_true rfl, Nat.le_of_ble_eq_true rfl⟩ ⟨Nat.le_refl _, Nat.le_refl _⟩ (lay_lt hL.1 (by decide)) (ce_of hL.1) rfl rfl (Nat.le_of_ble_eq_true rfl) rfl dX9_goesThrough_26 ?_
      refine k_iinc (q := 3) (v := (x3 + (nI 1))) (lv' := [(3, .int (x3 + (nI 1))), (0, .ref (xad X o)), (1, .int x1), (2, .int x2)]) dX9_goesThrough_29 rfl rfl (Nat.le_of_ble_eq_true rfl) rfl ?_
      refine k_goto (tgt := 7) dX9_goesThrough_32 (by decide) ?_
      refine k_sub (ks' := [1, 2, 3, 0]) rfl ?_
      exact ih σ13 x1 x2 (x3 + (nI 1)) h
set_option maxHeartbeats 4000000 in
set_option maxRecDepth 100000 in
theorem cm_X9_goesThrough (l : Launch) {X : XT} (hX : XD X) (g : Nat) (σ : Mem) (o : Nat) (hL : L9 o) (p1 : Int32) (p2 : Int32) {σ' : Mem} (h : fX9_goesThrough g σ o p1 p2 = some σ') : Met l yX9_goesThrough wsX9_goesThrough rmX9_goesThrough (va_Pc [.ref (xad X o), .int p1, .int p2] (WW X σ)) (QV X σ') 0 0 (XA X) := by
  refine met_x (M := mX9_goesThrough) (lv := [(0, .ref (xad X o)), (1, .int p1), (2, .int p2)]) hX (by decide) rfl rfl (Nat.le_of_ble_eq_true rfl) rfl ?_
  unfold fX9_goesThrough at h
  refine k_aload_n (q := 0) dX9_goesThrough_0 rfl rfl ?_
  refine k_iload_n (q := 1) dX9_goesThrough_1 rfl rfl ?_
  refine k_iconst (v := (nI 1)) dX9_goesThrough_2 (by decide) ?_
  obtain ⟨r2, hc1, h⟩ := bnd_e h
  refine k_cv (q := (RX9, TX9, 12)) (As := [.int p1, .int (nI 1)]) 2 (cm_X9_ofP l hX g σ o hL p1 (nI 1) hc1) gX9_goesThrough_X9_ofP rfl ⟨rfl, rfl⟩ hd_X9_ofP ⟨Nat.le_of_ble_eq_true rfl, Nat.le_of_ble_eq_true rfl⟩ ⟨Nat.le_refl _, Nat.le_refl _⟩ (lay_lt hL.1 (by decide)) (ce_of hL.1) rfl rfl (Nat.le_of_ble_eq_true rfl) rfl dX9_goesThrough_3 ?_
  refine k_istore_n (lv' := [(3, .int r2), (0, .ref (xad X o)), (1, .int p1), (2, .int p2)]) dX9_goesThrough_6 rfl (Nat.le_of_ble_eq_true rfl) rfl ?_
  refine k_sub (ks' := [1, 2, 3, 0]) rfl ?_
  exact wX9_goesThrough_7 l hX g o hL g σ p1 p2 r2 h
abbrev rmX9_shows : Room := { frames := 4, cells := 0, slots := 0, locals := 94 }
abbrev mX9_shows : MT := (rmX9_shows, wsX9_shows, cX9_shows, 3, RX9, none)
theorem hd_X9_shows : yX9_shows.cls = RX9 ∧ yX9_shows.cls ≠ "java/lang/invoke/MethodHandle" ∧ yX9_shows.cls ≠ "java/lang/invoke/VarHandle" ∧ (parseMethodDescriptor yX9_shows.desc).map (fun d => d.parameters.length) = some 0 := by decide +kernel
theorem inX9_shows_9 : ∀ w ∈ wsX90, w ∈ wsX9_shows := fun w h => List.mem_cons_of_mem _ (List.mem_append_right _ h)
set_option maxHeartbeats 4000000 in
set_option maxRecDepth 100000 in
theorem wX9_shows_33 (l : Launch) {X : XT} (hX : XD X) (g : Nat) (o : Nat) (hL : L9 o) {σ' : Mem} : ∀ (n : Nat) (σ : Mem) (x1 : Int32), fX9_shows_33 g o n σ x1 = some σ' → WG X l mX9_shows (fun _ _ => True) 0 0 (QM X (QV X σ')) 33 σ [(0, .ref (xad X o)), (1, .int x1)] [] := by
  intro n
  induction n with
  | zero => intro σ x1 h; exact nomatch (show (none : Option _) = some _ from h)
  | succ n ih =>
    intro σ x1 h
    rw [fX9_shows_33] at h
    refine k_iload_n (q := 1) dX9_shows_33 rfl rfl ?_
    refine k_aload_n (q := 0) dX9_shows_34 rfl rfl ?_
    refine kg_9 (v := .ref (xad X (o + 1))) hL.1 inX9_shows_9 0 (by decide) (List.mem_of_getElem? (i := 2) rfl) rfl dX9_shows_35 ?_
    refine k_iconst (v := (nI 1)) dX9_shows_38 (by decide) ?_
    refine k_iald (n := 6036) hL.2.1 dX9_shows_39 h (fun h => ?_)
    refine k_icmp_ge (tgt := 186) dX9_shows_40 (by decide) h (fun h => ?_) (fun h => ?_)
    · exact k_vret rfl dX9_shows_186 h
    · refine k_aload_n (q := 0) dX9_shows_43 rfl rfl ?_
      refine kg_9 (v := .ref (xad X (o + 3))) hL.1 inX9_shows_9 4 (by decide) (List.mem_of_getElem? (i := 1) rfl) rfl dX9_shows_44 ?_
      refine k_bipush (v := (nI 6)) dX9_shows_47 (by decide) ?_
      refine k_iald (n := 488) hL.2.2.2.1 dX9_shows_49 h (fun h => ?_)
      refine k_bipush (v := (nN 5)) dX9_shows_50 (by decide) ?_
      refine k_icmp_ne (tgt := 186) dX9_shows_52 (by decide) h (fun h => ?_) (fun h => ?_)
      · exact k_vret rfl dX9_shows_186 h
      · refine k_iload_n (q := 1) dX9_shows_55 rfl rfl ?_
        refine k_if_le (tgt := 102) dX9_shows_56 (by decide) h (fun h => ?_) (fun h => ?_)
        · refine k_aload_n (q := 0) dX9_shows_102 rfl rfl ?_
          refine kg_9 (v := .ref (xad X (o + 3))) hL.1 inX9_shows_9 4 (by decide) (List.mem_of_getElem? (i := 1) rfl) rfl dX9_shows_103 ?_
          refine k_bipush (v := (nI 6)) dX9_shows_106 (by decide) ?_
          refine k_iald (n := 488) hL.2.2.2.1 dX9_shows_108 h (fun h => ?_)
          refine k_bipush (v := (nN 5)) dX9_shows_109 (by decide) ?_
          refine k_icmp_ne (tgt := 180) dX9_shows_111 (by decide) h (fun h => ?_) (fun h => ?_)
          · refine k_iinc (q := 1) (v := (x1 + (nI 1))) (lv' := [(1, .int (x1 + (nI 1))), (0, .ref (xad X o))]) dX9_shows_180 rfl rfl (Nat.le_of_ble_eq_true rfl) rfl ?_
            refine k_goto (tgt := 33) dX9_shows_183 (by decide) ?_
            refine k_sub (ks' := [1, 0]) rfl ?_
            exact ih σ (x1 + (nI 1)) h
          · refine k_aload_n (q := 0) dX9_shows_114 rfl rfl ?_
            refine kg_9 (v := .ref (xad X (o + 1))) hL.1 inX9_shows_9 0 (by decide) (List.mem_of_getElem? (i := 2) rfl) rfl dX9_shows_115 ?_
            refine k_iconst (v := (nI 5)) dX9_shows_118 (by decide) ?_
            refine k_iald (n := 6036) hL.2.1 dX9_shows_119 h (fun h => ?_)
            refine k_aload_n (q := 0) dX9_shows_120 rfl rfl ?_
            refine kg_9 (v := .ref (xad X (o + 1))) hL.1 inX9_shows_9 0 (by decide) (List.mem_of_getElem? (i := 2) rfl) rfl dX9_shows_121 ?_
            refine k_bipush (v := (nI 8)) dX9_shows_124 (by decide) ?_
            refine k_iconst (v := (nI 2)) dX9_shows_126 (by decide) ?_
            refine k_aload_n (q := 0) dX9_shows_127 rfl rfl ?_
            refine k_iload_n (q := 1) dX9_shows_128 rfl rfl ?_
            refine k_iconst (v := (nI 0)) dX9_shows_129 (by decide) ?_
            obtain ⟨r3, hc2, h⟩ := bnd_e h
            refine k_cv (q := (RX9, TX9, 12)) (As := [.int x1, .int (nI 0)]) 2 (cm_X9_ofP l hX g σ o hL x1 (nI 0) hc2) gX9_shows_X9_ofP rfl ⟨rfl, rfl⟩ hd_X9_ofP ⟨Nat.le_of_ble_eq_true rfl, Nat.le_of_ble_eq_true rfl⟩ ⟨Nat.le_refl _, Nat.le_refl _⟩ (lay_lt hL.1 (by decide)) (ce_of hL.1) rfl rfl (Nat.le_of_ble_eq_true rfl) rfl dX9_shows_130 ?_
            refine k_imul dX9_shows_133 ?_
            refine k_iadd dX9_shows_134 ?_
            refine k_iald (n := 6036) hL.2.1 dX9_shows_135 h (fun h => ?_)
            refine k_ishr dX9_shows_136 ?_
            refine k_iconst (v := (nI 1)) dX9_shows_137 (by decide) ?_
            refine k_iand dX9_shows_138 ?_
            refine k_iconst (v := (nI 1)) dX9_shows_139 (by decide) ?_
            have key : WG X l mX9_shows (fun _ _ => True) 0 0 (QM X (QV X σ')) 148 σ [(0, .ref (xad X o)), (1, .int x1)] [.int (if (((σ (o + 1) (nI 5).toNatClampNeg) >>> ((σ (o + 1) ((nI 8) + ((nI 2) * r3)).toNatClampNeg) &&& 31)) &&& (nI 1)) = (nI 1) then (nI 1) else (nI 0))] := by
              refine k_istore_n (lv' := [(2, .int (if (((σ (o + 1) (nI 5).toNatClampNeg) >>> ((σ (o + 1) ((nI 8) + ((nI 2) * r3)).toNatClampNeg) &&& 31)) &&& (nI 1)) = (nI 1) then (nI 1) else (nI 0))), (0, .ref (xad X o)), (1, .int x1)]) dX9_shows_148 rfl (Nat.le_of_ble_eq_true rfl) rfl ?_
              refine k_aload_n (q := 1) dX9_shows_149 rfl rfl ?_
              refine k_iload_n (q := 2) dX9_shows_150 rfl rfl ?_
              refine k_iload_n (q := 0) dX9_shows_151 rfl rfl ?_
              refine k_if_eq (tgt := 176) dX9_shows_152 (by decide) h (fun h => ?_) (fun h => ?_)
              · refine k_iconst (v := (nI 0)) dX9_shows_176 (by decide) ?_
                obtain ⟨σ5, hc4, h⟩ := bnd_e h
                refine k_cvv (q := (RX9, TX9, 12)) (As := [.int x1, .int (nI 0)]) 2 (cm_X9_goesThrough l hX g σ o hL x1 (nI 0) hc4) gX9_shows_X9_goesThrough rfl ⟨rfl, rfl⟩ hd_X9_goesThrough ⟨Nat.le_of_ble_eq_true rfl, Nat.le_of_ble_eq_true rfl⟩ ⟨Nat.le_refl _, Nat.le_refl _⟩ (lay_lt hL.1 (by decide)) (ce_of hL.1) rfl rfl (Nat.le_of_ble_eq_true rfl) rfl dX9_shows_177 ?_
                refine k_iinc (q := 2) (v := (x1 + (nI 1))) (lv' := [(1, .int (x1 + (nI 1))), (2, .int (if (((σ (o + 1) (nI 5).toNatClampNeg) >>> ((σ (o + 1) ((nI 8) + ((nI 2) * r3)).toNatClampNeg) &&& 31)) &&& (nI 1)) = (nI 1) then (nI 1) else (nI 0))), (0, .ref (xad X o))]) dX9_shows_180 rfl rfl (Nat.le_of_ble_eq_true rfl) rfl ?_
                refine k_goto (tgt := 33) dX9_shows_183 (by decide) ?_
                refine k_sub (ks' := [2, 0]) rfl ?_
                exact ih σ5 (x1 + (nI 1)) h
              · refine k_aload_n (q := 1) dX9_shows_155 rfl rfl ?_
                refine kg_9 (v := .ref (xad X (o + 3))) hL.1 inX9_shows_9 4 (by decide) (List.mem_of_getElem? (i := 1) rfl) rfl dX9_shows_156 ?_
                refine k_bipush (v := (nI 7)) dX9_shows_159 (by decide) ?_
                refine k_iald (n := 488) hL.2.2.2.1 dX9_shows_161 h (fun h => ?_)
                refine k_aload_n (q := 1) dX9_shows_162 rfl rfl ?_
                refine kg_9 (v := .ref (xad X (o + 1))) hL.1 inX9_shows_9 0 (by decide) (List.mem_of_getElem? (i := 2) rfl) rfl dX9_shows_163 ?_
                refine k_bipush (v := (nI 6)) dX9_shows_166 (by decide) ?_
                refine k_iald (n := 6036) hL.2.1 dX9_shows_168 h (fun h => ?_)
                refine k_icmp_ge (tgt := 176) dX9_shows_169 (by decide) h (fun h => ?_) (fun h => ?_)
                · refine k_iconst (v := (nI 0)) dX9_shows_176 (by decide) ?_
                  obtain ⟨σ7, hc6, h⟩ := bnd_e h
                  refine k_cvv (q := (RX9, TX9, 12)) (As := [.int x1, .int (nI 0)]) 2 (cm_X9_goesThrough l hX g σ o hL x1 (nI 0) hc6) gX9_shows_X9_goesThrough rfl ⟨rfl, rfl⟩ hd_X9_goesThrough ⟨Nat.le_of_ble_eq_true rfl, Nat.le_of_ble_eq_true rfl⟩ ⟨Nat.le_refl _, Nat.le_refl _⟩ (lay_lt hL.1 (by decide)) (ce_of hL.1) rfl rfl (Nat.le_of_ble_eq_true rfl) rfl dX9_shows_177 ?_
                  refine k_iinc (q := 2) (v := (x1 + (nI 1))) (lv' := [(1, .int (x1 + (nI 1))), (2, .int (if (((σ (o + 1) (nI 5).toNatClampNeg) >>> ((σ (o + 1) ((nI 8) + ((nI 2) * r3)).toNatClampNeg) &&& 31)) &&& (nI 1)) = (nI 1) then (nI 1) else (nI 0))), (0, .ref (xad X o))]) dX9_shows_180 rfl rfl (Nat.le_of_ble_eq_true rfl) rfl ?_
                  refine k_goto (tgt := 33) dX9_shows_183 (by decide) ?_
                  refine k_sub (ks' := [2, 0]) rfl ?_
                  exact ih σ7 (x1 + (nI 1)) h
                · refine k_iconst (v := (nI 1)) dX9_shows_172 (by decide) ?_
                  refine k_goto (tgt := 177) dX9_shows_173 (by decide) ?_
                  obtain ⟨σ9, hc8, h⟩ := bnd_e h
                  refine k_cvv (q := (RX9, TX9, 12)) (As := [.int x1, .int (nI 1)]) 2 (cm_X9_goesThrough l hX g σ o hL x1 (nI 1) hc8) gX9_shows_X9_goesThrough rfl ⟨rfl, rfl⟩ hd_X9_goesThrough ⟨Nat.le_of_ble_eq_true rfl, Nat.le_of_ble_eq_true rfl⟩ ⟨Nat.le_refl _, Nat.le_refl _⟩ (lay_lt hL.1 (by decide)) (ce_of hL.1) rfl rfl (Nat.le_of_ble_eq_true rfl) rfl dX9_shows_177 ?_
                  refine k_iinc (q := 2) (v := (x1 + (nI 1))) (lv' := [(1, .int (x1 + (nI 1))), (2, .int (if (((σ (o + 1) (nI 5).toNatClampNeg) >>> ((σ (o + 1) ((nI 8) + ((nI 2) * r3)).toNatClampNeg) &&& 31)) &&& (nI 1)) = (nI 1) then (nI 1) else (nI 0))), (0, .ref (xad X o))]) dX9_shows_180 rfl rfl (Nat.le_of_ble_eq_true rfl) rfl ?_
                  refine k_goto (tgt := 33) dX9_shows_183 (by decide) ?_
                  refine k_sub (ks' := [2, 0]) rfl ?_
                  exact ih σ9 (x1 + (nI 1)) h
            refine k_icmpc_ne (tgt := 147) dX9_shows_140 (by decide) (fun hq => ?_) (fun hq => ?_)
            · rw [if_neg hq] at key
              refine k_iconst (v := (nI 0)) dX9_shows_147 (by decide) ?_
              exact key
            · rw [if_pos hq] at key
              refine k_iconst (v := (nI 1)) dX9_shows_143 (by decide) ?_
              refine k_goto (tgt := 148) dX9_shows_144 (by decide) ?_
              exact key
        · refine k_aload_n (q := 0) dX9_shows_59 rfl rfl ?_
          refine k_iload_n (q := 1) dX9_shows_60 rfl rfl ?_
          refine k_iconst (v := (nI 3)) dX9_shows_61 (by decide) ?_
          refine k_aload_n (q := 0) dX9_shows_62 rfl rfl ?_
          refine k_iload_n (q := 1) dX9_shows_63 rfl rfl ?_
          refine k_iconst (v := (nI 3)) dX9_shows_64 (by decide) ?_
          obtain ⟨r11, hc10, h⟩ := bnd_e h
          refine k_cv (q := (RX9, TX9, 12)) (As := [.int x1, .int (nI 3)]) 2 (cm_X9_ofP l hX g σ o hL x1 (nI 3) hc10) gX9_shows_X9_ofP rfl ⟨rfl, rfl⟩ hd_X9_ofP ⟨Nat.le_of_ble_eq_true rfl, Nat.le_of_ble_eq_true rfl⟩ ⟨Nat.le_refl _, Nat.le_refl _⟩ (lay_lt hL.1 (by decide)) (ce_of hL.1) rfl rfl (Nat.le_of_ble_eq_true rfl) rfl dX9_shows_65 ?_
          refine k_iconst (v := (nI 1)) dX9_shows_68 (by decide) ?_
          refine k_iadd dX9_shows_69 ?_
          obtain ⟨σ13, hc12, h⟩ := bnd_e h
          refine k_cvv (q := (RX9, TX9, 12)) (As := [.int x1, .int (nI 3), .int (r11 + (nI 1))]) 3 (cm_X9_setsP l hX g σ o hL x1 (nI 3) (r11 + (nI 1)) hc12) gX9_shows_X9_setsP rfl ⟨rfl, rfl⟩ hd_X9_setsP ⟨Nat.le_of_ble_eq_true rfl, Nat.le_of_ble_eq_true rfl⟩ ⟨Nat.le_refl _, Nat.le_refl _⟩ (lay_lt hL.1 (by decide)) (ce_of hL.1) rfl rfl (Nat.le_of_ble_eq_true rfl) rfl dX9_shows_70 ?_
          refine k_aload_n (q := 0) dX9_shows_73 rfl rfl ?_
          refine kg_9 (v := .ref (xad X (o + 3))) hL.1 inX9_shows_9 4 (by decide) (List.mem_of_getElem? (i := 1) rfl) rfl dX9_shows_74 ?_
          refine k_bipush (v := (nI 6)) dX9_shows_77 (by decide) ?_
          refine k_aload_n (q := 0) dX9_shows_79 rfl rfl ?_
          refine k_iload_n (q := 1) dX9_shows_80 rfl rfl ?_
          refine k_iconst (v := (nI 3)) dX9_shows_81 (by decide) ?_
          obtain ⟨r15, hc14, h⟩ := bnd_e h
          refine k_cv (q := (RX9, TX9, 12)) (As := [.int x1, .int (nI 3)]) 2 (cm_X9_ofP l hX g σ13 o hL x1 (nI 3) hc14) gX9_shows_X9_ofP rfl ⟨rfl, rfl⟩ hd_X9_ofP ⟨Nat.le_of_ble_eq_true rfl, Nat.le_of_ble_eq_true rfl⟩ ⟨Nat.le_refl _, Nat.le_refl _⟩ (lay_lt hL.1 (by decide)) (ce_of hL.1) rfl rfl (Nat.le_of_ble_eq_true rfl) rfl dX9_shows_82 ?_
          refine k_aload_n (q := 0) dX9_shows_85 rfl rfl ?_
          refine kg_9 (v := .ref (xad X (o + 1))) hL.1 inX9_shows_9 0 (by decide) (List.mem_of_getElem? (i := 2) rfl) rfl dX9_shows_86 ?_
          refine k_bipush (v := (nI 7)) dX9_shows_89 (by decide) ?_
          refine k_iald (n := 6036) hL.2.1 dX9_shows_91 h (fun h => ?_)
          have key : WG X l mX9_shows (fun _ _ => True) 0 0 (QM X (QV X σ')) 101 σ13 [(0, .ref (xad X o)), (1, .int x1)] [.int (if r15 ≤ (σ13 (o + 1) (nI 7).toNatClampNeg) then (nN 5) else x1), .int (nI 6), .ref (xad X (o + 3))] := by
            refine k_iast (n := 488) hL.2.2.2.1 dX9_shows_101 h (fun σ16 h => ?_)
            refine k_aload_n (q := 0) dX9_shows_102 rfl rfl ?_
            refine kg_9 (v := .ref (xad X (o + 3))) hL.1 inX9_shows_9 4 (by decide) (List.mem_of_getElem? (i := 1) rfl) rfl dX9_shows_103 ?_
            refine k_bipush (v := (nI 6)) dX9_shows_106 (by decide) ?_
            refine k_iald (n := 488) hL.2.2.2.1 dX9_shows_108 h (fun h => ?_)
            refine k_bipush (v := (nN 5)) dX9_shows_109 (by decide) ?_
            refine k_icmp_ne (tgt := 180) dX9_shows_111 (by decide) h (fun h => ?_) (fun h => ?_)
            · refine k_iinc (q := 1) (v := (x1 + (nI 1))) (lv' := [(1, .int (x1 + (nI 1))), (0, .ref (xad X o))]) dX9_shows_180 rfl rfl (Nat.le_of_ble_eq_true rfl) rfl ?_
              refine k_goto (tgt := 33) dX9_shows_183 (by decide) ?_
              refine k_sub (ks' := [1, 0]) rfl ?_
              exact ih σ16 (x1 + (nI 1)) h
            · refine k_aload_n (q := 0) dX9_shows_114 rfl rfl ?_
              refine kg_9 (v := .ref (xad X (o + 1))) hL.1 inX9_shows_9 0 (by decide) (List.mem_of_getElem? (i := 2) rfl) rfl dX9_shows_115 ?_
              refine k_iconst (v := (nI 5)) dX9_shows_118 (by decide) ?_
              refine k_iald (n := 6036) hL.2.1 dX9_shows_119 h (fun h => ?_)
              refine k_aload_n (q := 0) dX9_shows_120 rfl rfl ?_
              refine kg_9 (v := .ref (xad X (o + 1))) hL.1 inX9_shows_9 0 (by decide) (List.mem_of_getElem? (i := 2) rfl) rfl dX9_shows_121 ?_
              refine k_bipush (v := (nI 8)) dX9_shows_124 (by decide) ?_
              refine k_iconst (v := (nI 2)) dX9_shows_126 (by decide) ?_
              refine k_aload_n (q := 0) dX9_shows_127 rfl rfl ?_
              refine k_iload_n (q := 1) dX9_shows_128 rfl rfl ?_
              refine k_iconst (v := (nI 0)) dX9_shows_129 (by decide) ?_
              obtain ⟨r18, hc17, h⟩ := bnd_e h
              refine k_cv (q := (RX9, TX9, 12)) (As := [.int x1, .int (nI 0)]) 2 (cm_X9_ofP l hX g σ16 o hL x1 (nI 0) hc17) gX9_shows_X9_ofP rfl ⟨rfl, rfl⟩ hd_X9_ofP ⟨Nat.le_of_ble_eq_true rfl, Nat.le_of_ble_eq_true rfl⟩ ⟨Nat.le_refl _, Nat.le_refl _⟩ (lay_lt hL.1 (by decide)) (ce_of hL.1) rfl rfl (Nat.le_of_ble_eq_true rfl) rfl dX9_shows_130 ?_
              refine k_imul dX9_shows_133 ?_
              refine k_iadd dX9_shows_134 ?_
              refine k_iald (n := 6036) hL.2.1 dX9_shows_135 h (fun h => ?_)
              refine k_ishr dX9_shows_136 ?_
              refine k_iconst (v := (nI 1)) dX9_shows_137 (by decide) ?_
              refine k_iand dX9_shows_138 ?_
              refine k_iconst (v := (nI 1)) dX9_shows_139 (by decide) ?_
              have key : WG X l mX9_shows (fun _ _ => True) 0 0 (QM X (QV X σ')) 148 σ16 [(0, .ref (xad X o)), (1, .int x1)] [.int (if (((σ16 (o + 1) (nI 5).toNatClampNeg) >>> ((σ16 (o + 1) ((nI 8) + ((nI 2) * r18)).toNatClampNeg) &&& 31)) &&& (nI 1)) = (nI 1) then (nI 1) else (nI 0))] := by
                refine k_istore_n (lv' := [(2, .int (if (((σ16 (o + 1) (nI 5).toNatClampNeg) >>> ((σ16 (o + 1) ((nI 8) + ((nI 2) * r18)).toNatClampNeg) &&& 31)) &&& (nI 1)) = (nI 1) then (nI 1) else (nI 0))), (0, .ref (xad X o)), (1, .int x1)]) dX9_shows_148 rfl (Nat.le_of_ble_eq_true rfl) rfl ?_
                refine k_aload_n (q := 1) dX9_shows_149 rfl rfl ?_
                refine k_iload_n (q := 2) dX9_shows_150 rfl rfl ?_
                refine k_iload_n (q := 0) dX9_shows_151 rfl rfl ?_
                refine k_if_eq (tgt := 176) dX9_shows_152 (by decide) h (fun h => ?_) (fun h => ?_)
                · refine k_iconst (v := (nI 0)) dX9_shows_176 (by decide) ?_
                  obtain ⟨σ20, hc19, h⟩ := bnd_e h
                  refine k_cvv (q := (RX9, TX9, 12)) (As := [.int x1, .int (nI 0)]) 2 (cm_X9_goesThrough l hX g σ16 o hL x1 (nI 0) hc19) gX9_shows_X9_goesThrough rfl ⟨rfl, rfl⟩ hd_X9_goesThrough ⟨Nat.le_of_ble_eq_true rfl, Nat.le_of_ble_eq_true rfl⟩ ⟨Nat.le_refl _, Nat.le_refl _⟩ (lay_lt hL.1 (by decide)) (ce_of hL.1) rfl rfl (Nat.le_of_ble_eq_true rfl) rfl dX9_shows_177 ?_
                  refine k_iinc (q := 2) (v := (x1 + (nI 1))) (lv' := [(1, .int (x1 + (nI 1))), (2, .int (if (((σ16 (o + 1) (nI 5).toNatClampNeg) >>> ((σ16 (o + 1) ((nI 8) + ((nI 2) * r18)).toNatClampNeg) &&& 31)) &&& (nI 1)) = (nI 1) then (nI 1) else (nI 0))), (0, .ref (xad X o))]) dX9_shows_180 rfl rfl (Nat.le_of_ble_eq_true rfl) rfl ?_
                  refine k_goto (tgt := 33) dX9_shows_183 (by decide) ?_
                  refine k_sub (ks' := [2, 0]) rfl ?_
                  exact ih σ20 (x1 + (nI 1)) h
                · refine k_aload_n (q := 1) dX9_shows_155 rfl rfl ?_
                  refine kg_9 (v := .ref (xad X (o + 3))) hL.1 inX9_shows_9 4 (by decide) (List.mem_of_getElem? (i := 1) rfl) rfl dX9_shows_156 ?_
                  refine k_bipush (v := (nI 7)) dX9_shows_159 (by decide) ?_
                  refine k_iald (n := 488) hL.2.2.2.1 dX9_shows_161 h (fun h => ?_)
                  refine k_aload_n (q := 1) dX9_shows_162 rfl rfl ?_
                  refine kg_9 (v := .ref (xad X (o + 1))) hL.1 inX9_shows_9 0 (by decide) (List.mem_of_getElem? (i := 2) rfl) rfl dX9_shows_163 ?_
                  refine k_bipush (v := (nI 6)) dX9_shows_166 (by decide) ?_
                  refine k_iald (n := 6036) hL.2.1 dX9_shows_168 h (fun h => ?_)
                  refine k_icmp_ge (tgt := 176) dX9_shows_169 (by decide) h (fun h => ?_) (fun h => ?_)
                  · refine k_iconst (v := (nI 0)) dX9_shows_176 (by decide) ?_
                    obtain ⟨σ22, hc21, h⟩ := bnd_e h
                    refine k_cvv (q := (RX9, TX9, 12)) (As := [.int x1, .int (nI 0)]) 2 (cm_X9_goesThrough l hX g σ16 o hL x1 (nI 0) hc21) gX9_shows_X9_goesThrough rfl ⟨rfl, rfl⟩ hd_X9_goesThrough ⟨Nat.le_of_ble_eq_true rfl, Nat.le_of_ble_eq_true rfl⟩ ⟨Nat.le_refl _, Nat.le_refl _⟩ (lay_lt hL.1 (by decide)) (ce_of hL.1) rfl rfl (Nat.le_of_ble_eq_true rfl) rfl dX9_shows_177 ?_
                    refine k_iinc (q := 2) (v := (x1 + (nI 1))) (lv' := [(1, .int (x1 + (nI 1))), (2, .int (if (((σ16 (o + 1) (nI 5).toNatClampNeg) >>> ((σ16 (o + 1) ((nI 8) + ((nI 2) * r18)).toNatClampNeg) &&& 31)) &&& (nI 1)) = (nI 1) then (nI 1) else (nI 0))), (0, .ref (xad X o))]) dX9_shows_180 rfl rfl (Nat.le_of_ble_eq_true rfl) rfl ?_
                    refine k_goto (tgt := 33) dX9_shows_183 (by decide) ?_
                    refine k_sub (ks' := [2, 0]) rfl ?_
                    exact ih σ22 (x1 + (nI 1)) h
                  · refine k_iconst (v := (nI 1)) dX9_shows_172 (by decide) ?_
                    refine k_goto (tgt := 177) dX9_shows_173 (by decide) ?_
                    obtain ⟨σ24, hc23, h⟩ := bnd_e h
                    refine k_cvv (q := (RX9, TX9, 12)) (As := [.int x1, .int (nI 1)]) 2 (cm_X9_goesThrough l hX g σ16 o hL x1 (nI 1) hc23) gX9_shows_X9_goesThrough rfl ⟨rfl, rfl⟩ hd_X9_goesThrough ⟨Nat.le_of_ble_eq_true rfl, Nat.le_of_ble_eq_true rfl⟩ ⟨Nat.le_refl _, Nat.le_refl _⟩ (lay_lt hL.1 (by decide)) (ce_of hL.1) rfl rfl (Nat.le_of_ble_eq_true rfl) rfl dX9_shows_177 ?_
                    refine k_iinc (q := 2) (v := (x1 + (nI 1))) (lv' := [(1, .int (x1 + (nI 1))), (2, .int (if (((σ16 (o + 1) (nI 5).toNatClampNeg) >>> ((σ16 (o + 1) ((nI 8) + ((nI 2) * r18)).toNatClampNeg) &&& 31)) &&& (nI 1)) = (nI 1) then (nI 1) else (nI 0))), (0, .ref (xad X o))]) dX9_shows_180 rfl rfl (Nat.le_of_ble_eq_true rfl) rfl ?_
                    refine k_goto (tgt := 33) dX9_shows_183 (by decide) ?_
                    refine k_sub (ks' := [2, 0]) rfl ?_
                    exact ih σ24 (x1 + (nI 1)) h
              refine k_icmpc_ne (tgt := 147) dX9_shows_140 (by decide) (fun hq => ?_) (fun hq => ?_)
              · rw [if_neg hq] at key
                refine k_iconst (v := (nI 0)) dX9_shows_147 (by decide) ?_
                exact key
              · rw [if_pos hq] at key
                refine k_iconst (v := (nI 1)) dX9_shows_143 (by decide) ?_
                refine k_goto (tgt := 148) dX9_shows_144 (by decide) ?_
                exact key
          refine k_icmpc_le (tgt := 99) dX9_shows_92 (by decide) (fun hq => ?_) (fun hq => ?_)
          · rw [if_pos hq] at key
            refine k_bipush (v := (nN 5)) dX9_shows_99 (by decide) ?_
            exact key
          · rw [if_neg hq] at key
            refine k_iload_n (q := 1) dX9_shows_95 rfl rfl ?_
            refine k_goto (tgt := 101) dX9_shows_96 (by decide) ?_
            exact key
set_option maxHeartbeats 4000000 in
set_option maxRecDepth 100000 in
theorem wX9_shows_2 (l : Launch) {X : XT} (hX : XD X) (g : Nat) (o : Nat) (hL : L9 o) {σ' : Mem} : ∀ (n : Nat) (σ : Mem) (x1 : Int32), fX9_shows_2 g o n σ x1 = some σ' → WG X l mX9_shows (fun _ _ => True) 0 0 (QM X (QV X σ')) 2 σ [(0, .ref (xad X o)), (1, .int x1)] [] := by
  intro n
  induction n with
  | zero => intro σ x1 h; exact nomatch (show (none : Option _) = some _ from h)
  | succ n ih =>
    intro σ x1 h
    rw [fX9_shows_2] at h
    refine k_iload_n (q := 1) dX9_shows_2 rfl rfl ?_
    refine k_sipush (v := (nI 488)) dX9_shows_3 (by decide) ?_
    refine k_icmp_ge (tgt := 22) dX9_shows_6 (by decide) h (fun h => ?_) (fun h => ?_)
    · refine k_aload_n (q := 0) dX9_shows_22 rfl rfl ?_
      refine kg_9 (v := .ref (xad X (o + 3))) hL.1 inX9_shows_9 4 (by decide) (List.mem_of_getElem? (i := 1) rfl) rfl dX9_shows_23 ?_
      refine k_bipush (v := (nI 6)) dX9_shows_26 (by decide) ?_
      refine k_bipush (v := (nN 5)) dX9_shows_28 (by decide) ?_
      refine k_iast (n := 488) hL.2.2.2.1 dX9_shows_30 h (fun σ1 h => ?_)
      refine k_iconst (v := (nI 0)) dX9_shows_31 (by decide) ?_
      refine k_istore_n (lv' := [(1, .int (nI 0)), (0, .ref (xad X o))]) dX9_shows_32 rfl (Nat.le_of_ble_eq_true rfl) rfl ?_
      refine k_sub (ks' := [1, 0]) rfl ?_
      exact wX9_shows_33 l hX g o hL g σ1 (nI 0) h
    · refine k_aload_n (q := 0) dX9_shows_9 rfl rfl ?_
      refine kg_9 (v := .ref (xad X (o + 3))) hL.1 inX9_shows_9 4 (by decide) (List.mem_of_getElem? (i := 1) rfl) rfl dX9_shows_10 ?_
      refine k_iload_n (q := 1) dX9_shows_13 rfl rfl ?_
      refine k_iconst (v := (nI 0)) dX9_shows_14 (by decide) ?_
      refine k_iast (n := 488) hL.2.2.2.1 dX9_shows_15 h (fun σ25 h => ?_)
      refine k_iinc (q := 1) (v := (x1 + (nI 1))) (lv' := [(1, .int (x1 + (nI 1))), (0, .ref (xad X o))]) dX9_shows_16 rfl rfl (Nat.le_of_ble_eq_true rfl) rfl ?_
      refine k_goto (tgt := 2) dX9_shows_19 (by decide) ?_
      refine k_sub (ks' := [1, 0]) rfl ?_
      exact ih σ25 (x1 + (nI 1)) h
set_option maxHeartbeats 4000000 in
set_option maxRecDepth 100000 in
theorem cm_X9_shows (l : Launch) {X : XT} (hX : XD X) (g : Nat) (σ : Mem) (o : Nat) (hL : L9 o) {σ' : Mem} (h : fX9_shows g σ o = some σ') : Met l yX9_shows wsX9_shows rmX9_shows (va_Pc [.ref (xad X o)] (WW X σ)) (QV X σ') 0 0 (XA X) := by
  refine met_x (M := mX9_shows) (lv := [(0, .ref (xad X o))]) hX (by decide) rfl rfl (Nat.le_of_ble_eq_true rfl) rfl ?_
  unfold fX9_shows at h
  refine k_iconst (v := (nI 0)) dX9_shows_0 (by decide) ?_
  refine k_istore_n (lv' := [(1, .int (nI 0)), (0, .ref (xad X o))]) dX9_shows_1 rfl (Nat.le_of_ble_eq_true rfl) rfl ?_
  refine k_sub (ks' := [1, 0]) rfl ?_
  exact wX9_shows_2 l hX g o hL g σ (nI 0) h
abbrev rmX9_run : Room := { frames := 5, cells := 0, slots := 0, locals := 116 }
abbrev mX9_run : MT := (rmX9_run, wsX9_run, cX9_run, 2, RX9, some .int)
theorem hd_X9_run : yX9_run.cls = RX9 ∧ yX9_run.cls ≠ "java/lang/invoke/MethodHandle" ∧ yX9_run.cls ≠ "java/lang/invoke/VarHandle" ∧ (parseMethodDescriptor yX9_run.desc).map (fun d => d.parameters.length) = some 0 := by decide +kernel
theorem inX9_run_9 : ∀ w ∈ wsX90, w ∈ wsX9_run := fun w h => List.mem_cons_of_mem _ (List.mem_append_right _ h)
set_option maxHeartbeats 4000000 in
set_option maxRecDepth 100000 in
theorem wX9_run_37 (l : Launch) {X : XT} (hX : XD X) (g : Nat) (o : Nat) (hL : L9 o) {r : Int32} {σ' : Mem} : ∀ (n : Nat) (σ : Mem) (x1 : Int32), fX9_run_37 g o n σ x1 = some (r, σ') → WG X l mX9_run (fun _ _ => True) 0 0 (QM X (QI X r σ')) 37 σ [(0, .ref (xad X o)), (1, .int x1)] [] := by
  intro n
  induction n with
  | zero => intro σ x1 h; exact nomatch (show (none : Option _) = some _ from h)
  | succ n ih =>
    intro σ x1 h
    rw [fX9_run_37] at h
    refine k_iload_n (q := 1) dX9_run_37 rfl rfl ?_
    refine k_sipush (v := (nI 488)) dX9_run_38 (by decide) ?_
    refine k_icmp_ge (tgt := 77) dX9_run_41 (by decide) h (fun h => ?_) (fun h => ?_)
    · refine k_aload_n (q := 0) dX9_run_77 rfl rfl ?_
      refine kg_9 (v := .ref (xad X (o + 1))) hL.1 inX9_run_9 0 (by decide) (List.mem_of_getElem? (i := 1) rfl) rfl dX9_run_78 ?_
      refine k_iconst (v := (nI 3)) dX9_run_81 (by decide) ?_
      refine k_dup2 dX9_run_82 rfl rfl ?_
      refine k_iald (n := 6036) hL.2.1 dX9_run_83 h (fun h => ?_)
      refine k_iconst (v := (nI 1)) dX9_run_84 (by decide) ?_
      refine k_iadd dX9_run_85 ?_
      refine k_iast (n := 6036) hL.2.1 dX9_run_86 h (fun σ5 h => ?_)
      refine k_aload_n (q := 0) dX9_run_87 rfl rfl ?_
      refine kg_9 (v := .ref (xad X (o + 1))) hL.1 inX9_run_9 0 (by decide) (List.mem_of_getElem? (i := 1) rfl) rfl dX9_run_88 ?_
      refine k_iconst (v := (nI 3)) dX9_run_91 (by decide) ?_
      refine k_iald (n := 6036) hL.2.1 dX9_run_92 h (fun h => ?_)
      refine k_iconst (v := (nI 1)) dX9_run_93 (by decide) ?_
      refine k_isub dX9_run_94 ?_
      exact k_iret rfl dX9_run_95 h
    · refine k_aload_n (q := 0) dX9_run_44 rfl rfl ?_
      refine kg_9 (v := .ref (xad X (o + 1))) hL.1 inX9_run_9 0 (by decide) (List.mem_of_getElem? (i := 1) rfl) rfl dX9_run_45 ?_
      refine k_sipush (v := (nI 1132)) dX9_run_48 (by decide) ?_
      refine k_sipush (v := (nI 488)) dX9_run_51 (by decide) ?_
      refine k_aload_n (q := 0) dX9_run_54 rfl rfl ?_
      refine kg_9 (v := .ref (xad X (o + 1))) hL.1 inX9_run_9 0 (by decide) (List.mem_of_getElem? (i := 1) rfl) rfl dX9_run_55 ?_
      refine k_iconst (v := (nI 3)) dX9_run_58 (by decide) ?_
      refine k_iald (n := 6036) hL.2.1 dX9_run_59 h (fun h => ?_)
      refine k_imul dX9_run_60 ?_
      refine k_iadd dX9_run_61 ?_
      refine k_iload_n (q := 1) dX9_run_62 rfl rfl ?_
      refine k_iadd dX9_run_63 ?_
      refine k_aload_n (q := 0) dX9_run_64 rfl rfl ?_
      refine kg_9 (v := .ref (xad X (o + 3))) hL.1 inX9_run_9 4 (by decide) (List.mem_of_getElem? (i := 2) rfl) rfl dX9_run_65 ?_
      refine k_iload_n (q := 1) dX9_run_68 rfl rfl ?_
      refine k_iald (n := 488) hL.2.2.2.1 dX9_run_69 h (fun h => ?_)
      refine k_iast (n := 6036) hL.2.1 dX9_run_70 h (fun σ6 h => ?_)
      refine k_iinc (q := 1) (v := (x1 + (nI 1))) (lv' := [(1, .int (x1 + (nI 1))), (0, .ref (xad X o))]) dX9_run_71 rfl rfl (Nat.le_of_ble_eq_true rfl) rfl ?_
      refine k_goto (tgt := 37) dX9_run_74 (by decide) ?_
      refine k_sub (ks' := [1, 0]) rfl ?_
      exact ih σ6 (x1 + (nI 1)) h
set_option maxHeartbeats 4000000 in
set_option maxRecDepth 100000 in
theorem cm_X9_run (l : Launch) {X : XT} (hX : XD X) (g : Nat) (σ : Mem) (o : Nat) (hL : L9 o) {r : Int32} {σ' : Mem} (h : fX9_run g σ o = some (r, σ')) : Met l yX9_run wsX9_run rmX9_run (va_Pc [.ref (xad X o)] (WW X σ)) (QI X r σ') 0 0 (XA X) := by
  refine met_x (M := mX9_run) (lv := [(0, .ref (xad X o))]) hX (by decide) rfl rfl (Nat.le_of_ble_eq_true rfl) rfl ?_
  unfold fX9_run at h
  refine k_aload_n (q := 0) dX9_run_0 rfl rfl ?_
  refine kg_9 (v := .ref (xad X (o + 1))) hL.1 inX9_run_9 0 (by decide) (List.mem_of_getElem? (i := 1) rfl) rfl dX9_run_1 ?_
  refine k_iconst (v := (nI 1)) dX9_run_4 (by decide) ?_
  refine k_iald (n := 6036) hL.2.1 dX9_run_5 h (fun h => ?_)
  refine k_if_ne (tgt := 12) dX9_run_6 (by decide) h (fun h => ?_) (fun h => ?_)
  · refine k_aload_n (q := 0) dX9_run_12 rfl rfl ?_
    refine kg_9 (v := .ref (xad X (o + 1))) hL.1 inX9_run_9 0 (by decide) (List.mem_of_getElem? (i := 1) rfl) rfl dX9_run_13 ?_
    refine k_iconst (v := (nI 3)) dX9_run_16 (by decide) ?_
    refine k_iald (n := 6036) hL.2.1 dX9_run_17 h (fun h => ?_)
    refine k_bipush (v := (nI 10)) dX9_run_18 (by decide) ?_
    refine k_icmp_ne (tgt := 26) dX9_run_20 (by decide) h (fun h => ?_) (fun h => ?_)
    · refine k_aload_n (q := 0) dX9_run_26 rfl rfl ?_
      refine k_iconst (v := (nI 0)) dX9_run_27 (by decide) ?_
      obtain ⟨σ2, hc1, h⟩ := bnd_e h
      refine k_cvv (q := (RX9, TX9, 12)) (As := [.int (nI 0)]) 1 (cm_X9_records l hX g σ o hL (nI 0) hc1) gX9_run_X9_records rfl ⟨rfl, rfl⟩ hd_X9_records ⟨Nat.le_of_ble_eq_true rfl, Nat.le_of_ble_eq_true rfl⟩ ⟨Nat.le_refl _, Nat.le_refl _⟩ (lay_lt hL.1 (by decide)) (ce_of hL.1) rfl rfl (Nat.le_of_ble_eq_true rfl) rfl dX9_run_28 ?_
      refine k_aload_n (q := 0) dX9_run_31 rfl rfl ?_
      obtain ⟨σ4, hc3, h⟩ := bnd_e h
      refine k_cvv (q := (RX9, TX9, 12)) (As := []) 0 (cm_X9_shows l hX g σ2 o hL hc3) gX9_run_X9_shows rfl ⟨rfl, rfl⟩ hd_X9_shows ⟨Nat.le_of_ble_eq_true rfl, Nat.le_of_ble_eq_true rfl⟩ ⟨Nat.le_refl _, Nat.le_refl _⟩ (lay_lt hL.1 (by decide)) (ce_of hL.1) rfl rfl (Nat.le_of_ble_eq_true rfl) rfl dX9_run_32 ?_
      refine k_iconst (v := (nI 0)) dX9_run_35 (by decide) ?_
      refine k_istore_n (lv' := [(1, .int (nI 0)), (0, .ref (xad X o))]) dX9_run_36 rfl (Nat.le_of_ble_eq_true rfl) rfl ?_
      refine k_sub (ks' := [1, 0]) rfl ?_
      exact wX9_run_37 l hX g o hL g σ4 (nI 0) h
    · refine k_bipush (v := (nN 3)) dX9_run_23 (by decide) ?_
      exact k_iret rfl dX9_run_25 h
  · refine k_bipush (v := (nN 4)) dX9_run_9 (by decide) ?_
    exact k_iret rfl dX9_run_11 h
abbrev rmX9_tries : Room := { frames := 5, cells := 0, slots := 0, locals := 116 }
abbrev mX9_tries : MT := (rmX9_tries, wsX9_tries, cX9_tries, 2, RX9, some .int)
theorem hd_X9_tries : yX9_tries.cls = RX9 ∧ yX9_tries.cls ≠ "java/lang/invoke/MethodHandle" ∧ yX9_tries.cls ≠ "java/lang/invoke/VarHandle" ∧ (parseMethodDescriptor yX9_tries.desc).map (fun d => d.parameters.length) = some 1 := by decide +kernel
theorem inX9_tries_9 : ∀ w ∈ wsX90, w ∈ wsX9_tries := fun w h => List.mem_cons_of_mem _ (List.mem_append_right _ h)
set_option maxHeartbeats 4000000 in
set_option maxRecDepth 100000 in
theorem cm_X9_tries (l : Launch) {X : XT} (hX : XD X) (g : Nat) (σ : Mem) (o : Nat) (hL : L9 o) (p1 : Int32) {r : Int32} {σ' : Mem} (h : fX9_tries g σ o p1 = some (r, σ')) : Met l yX9_tries wsX9_tries rmX9_tries (va_Pc [.ref (xad X o), .int p1] (WW X σ)) (QI X r σ') 0 0 (XA X) := by
  refine met_x (M := mX9_tries) (lv := [(0, .ref (xad X o)), (1, .int p1)]) hX (by decide) rfl rfl (Nat.le_of_ble_eq_true rfl) rfl ?_
  unfold fX9_tries at h
  refine k_aload_n (q := 0) dX9_tries_0 rfl rfl ?_
  refine k_iconst (v := (nI 5)) dX9_tries_1 (by decide) ?_
  obtain ⟨σ2, hc1, h⟩ := bnd_e h
  refine k_cvv (q := (RX9, TX9, 12)) (As := [.int (nI 5)]) 1 (cm_X9_keeps l hX g σ o hL (nI 5) hc1) gX9_tries_X9_keeps rfl ⟨rfl, rfl⟩ hd_X9_keeps ⟨Nat.le_of_ble_eq_true rfl, Nat.le_of_ble_eq_true rfl⟩ ⟨Nat.le_refl _, Nat.le_refl _⟩ (lay_lt hL.1 (by decide)) (ce_of hL.1) rfl rfl (Nat.le_of_ble_eq_true rfl) rfl dX9_tries_2 ?_
  refine k_aload_n (q := 0) dX9_tries_5 rfl rfl ?_
  obtain ⟨σ4, hc3, h⟩ := bnd_e h
  refine k_cvv (q := (RX9, TX9, 12)) (As := []) 0 (cm_X9_shows l hX g σ2 o hL hc3) gX9_tries_X9_shows rfl ⟨rfl, rfl⟩ hd_X9_shows ⟨Nat.le_of_ble_eq_true rfl, Nat.le_of_ble_eq_true rfl⟩ ⟨Nat.le_refl _, Nat.le_refl _⟩ (lay_lt hL.1 (by decide)) (ce_of hL.1) rfl rfl (Nat.le_of_ble_eq_true rfl) rfl dX9_tries_6 ?_
  refine k_aload_n (q := 0) dX9_tries_9 rfl rfl ?_
  refine k_iconst (v := (nI 5)) dX9_tries_10 (by decide) ?_
  obtain ⟨σ6, hc5, h⟩ := bnd_e h
  refine k_cvv (q := (RX9, TX9, 12)) (As := [.int (nI 5)]) 1 (cm_X9_brings l hX g σ4 o hL (nI 5) hc5) gX9_tries_X9_brings rfl ⟨rfl, rfl⟩ hd_X9_brings ⟨Nat.le_of_ble_eq_true rfl, Nat.le_of_ble_eq_true rfl⟩ ⟨Nat.le_refl _, Nat.le_refl _⟩ (lay_lt hL.1 (by decide)) (ce_of hL.1) rfl rfl (Nat.le_of_ble_eq_true rfl) rfl dX9_tries_11 ?_
  refine k_aload_n (q := 0) dX9_tries_14 rfl rfl ?_
  refine kg_9 (v := .ref (xad X (o + 3))) hL.1 inX9_tries_9 4 (by decide) (List.mem_of_getElem? (i := 1) rfl) rfl dX9_tries_15 ?_
  refine k_iload_n (q := 1) dX9_tries_18 rfl rfl ?_
  refine k_iald (n := 488) hL.2.2.2.1 dX9_tries_19 h (fun h => ?_)
  exact k_iret rfl dX9_tries_20 h
abbrev rmX9_next : Room := { frames := 6, cells := 0, slots := 0, locals := 137 }
abbrev mX9_next : MT := (rmX9_next, wsX9_next, cX9_next, 2, RX9, some .int)
theorem hd_X9_next : yX9_next.cls = RX9 ∧ yX9_next.cls ≠ "java/lang/invoke/MethodHandle" ∧ yX9_next.cls ≠ "java/lang/invoke/VarHandle" ∧ (parseMethodDescriptor yX9_next.desc).map (fun d => d.parameters.length) = some 1 := by decide +kernel
theorem inX9_next_9 : ∀ w ∈ wsX90, w ∈ wsX9_next := fun w h => List.mem_cons_of_mem _ (List.mem_append_right _ h)
set_option maxHeartbeats 4000000 in
set_option maxRecDepth 100000 in
theorem cm_X9_next (l : Launch) {X : XT} (hX : XD X) (g : Nat) (σ : Mem) (o : Nat) (hL : L9 o) (p1 : Int32) {r : Int32} {σ' : Mem} (h : fX9_next g σ o p1 = some (r, σ')) : Met l yX9_next wsX9_next rmX9_next (va_Pc [.ref (xad X o), .int p1] (WW X σ)) (QI X r σ') 0 0 (XA X) := by
  refine met_x (M := mX9_next) (lv := [(0, .ref (xad X o)), (1, .int p1)]) hX (by decide) rfl rfl (Nat.le_of_ble_eq_true rfl) rfl ?_
  unfold fX9_next at h
  refine k_iload_n (q := 1) dX9_next_0 rfl rfl ?_
  refine k_iconst (v := (nI 0)) dX9_next_1 (by decide) ?_
  refine k_bipush (v := (nI 7)) dX9_next_2 (by decide) ?_
  obtain ⟨r2, hc1, h⟩ := bnd_e h
  refine k_cs (As := [.int p1, .int (nI 0), .int (nI 7)]) 3 (cm_X9_isIn l hX g σ p1 (nI 0) (nI 7) hc1) gX9_next_X9_isIn rfl ⟨rfl, rfl⟩ hd_X9_isIn ⟨Nat.le_of_ble_eq_true rfl, Nat.le_of_ble_eq_true rfl⟩ ⟨Nat.le_refl _, Nat.le_refl _⟩ rfl (Nat.le_of_ble_eq_true rfl) rfl dX9_next_4 ?_
  refine k_if_ne (tgt := 13) dX9_next_7 (by decide) h (fun h => ?_) (fun h => ?_)
  · refine k_aload_n (q := 0) dX9_next_13 rfl rfl ?_
    refine kg_9 (v := .ref (xad X (o + 1))) hL.1 inX9_next_9 0 (by decide) (List.mem_of_getElem? (i := 1) rfl) rfl dX9_next_14 ?_
    refine k_iconst (v := (nI 1)) dX9_next_17 (by decide) ?_
    refine k_iald (n := 6036) hL.2.1 dX9_next_18 h (fun h => ?_)
    refine k_if_ne (tgt := 27) dX9_next_19 (by decide) h (fun h => ?_) (fun h => ?_)
    · refine k_aload_n (q := 0) dX9_next_27 rfl rfl ?_
      refine k_iload_n (q := 1) dX9_next_28 rfl rfl ?_
      obtain ⟨r4, σ5, hc3, h⟩ := bnd2_e h
      refine k_cv (q := (RX9, TX9, 12)) (As := [.int p1]) 1 (cm_X9_tries l hX g σ o hL p1 hc3) gX9_next_X9_tries rfl ⟨rfl, rfl⟩ hd_X9_tries ⟨Nat.le_of_ble_eq_true rfl, Nat.le_of_ble_eq_true rfl⟩ ⟨Nat.le_refl _, Nat.le_refl _⟩ (lay_lt hL.1 (by decide)) (ce_of hL.1) rfl rfl (Nat.le_of_ble_eq_true rfl) rfl dX9_next_29 ?_
      exact k_iret rfl dX9_next_32 h
    · refine k_bipush (v := (nN 4)) dX9_next_22 (by decide) ?_
      refine k_goto (tgt := 32) dX9_next_24 (by decide) ?_
      exact k_iret rfl dX9_next_32 h
  · refine k_bipush (v := (nN 2)) dX9_next_10 (by decide) ?_
    exact k_iret rfl dX9_next_12 h
abbrev rmX9_isShow : Room := { frames := 1, cells := 0, slots := 0, locals := 22 }
abbrev mX9_isShow : MT := (rmX9_isShow, wsX9_isShow, cX9_isShow, 2, RX9, some .boolean)
theorem hd_X9_isShow : yX9_isShow.cls = RX9 ∧ yX9_isShow.cls ≠ "java/lang/invoke/MethodHandle" ∧ yX9_isShow.cls ≠ "java/lang/invoke/VarHandle" ∧ (parseMethodDescriptor yX9_isShow.desc).map (fun d => d.parameters.length) = some 1 := by decide +kernel
theorem inX9_isShow_9 : ∀ w ∈ wsX90, w ∈ wsX9_isShow := fun w h => List.mem_cons_of_mem _ (List.mem_append_right _ h)
set_option maxHeartbeats 4000000 in
set_option maxRecDepth 100000 in
theorem cm_X9_isShow (l : Launch) {X : XT} (hX : XD X) (g : Nat) (σ : Mem) (o : Nat) (hL : L9 o) (p1 : Int32) {r : Int32} (h : fX9_isShow g σ o p1 = some r) : Met l yX9_isShow wsX9_isShow rmX9_isShow (va_Pc [.ref (xad X o), .int p1] (WW X σ)) (QI X r σ) 0 0 (XA X) := by
  refine met_x (M := mX9_isShow) (lv := [(0, .ref (xad X o)), (1, .int p1)]) hX (by decide) rfl rfl (Nat.le_of_ble_eq_true rfl) rfl ?_
  unfold fX9_isShow at h
  refine k_iload_n (q := 1) dX9_isShow_0 rfl rfl ?_
  refine k_iconst (v := (nI 0)) dX9_isShow_1 (by decide) ?_
  refine k_aload_n (q := 0) dX9_isShow_2 rfl rfl ?_
  refine kg_9 (v := .ref (xad X (o + 1))) hL.1 inX9_isShow_9 0 (by decide) (List.mem_of_getElem? (i := 1) rfl) rfl dX9_isShow_3 ?_
  refine k_iconst (v := (nI 3)) dX9_isShow_6 (by decide) ?_
  refine k_iald (n := 6036) hL.2.1 dX9_isShow_7 h (fun h => ?_)
  refine k_iconst (v := (nI 1)) dX9_isShow_8 (by decide) ?_
  refine k_isub dX9_isShow_9 ?_
  obtain ⟨r2, hc1, h⟩ := bnd_e h
  refine k_cs (As := [.int p1, .int (nI 0), .int ((σ (o + 1) (nI 3).toNatClampNeg) - (nI 1))]) 3 (cm_X9_isIn l hX g σ p1 (nI 0) ((σ (o + 1) (nI 3).toNatClampNeg) - (nI 1)) hc1) gX9_isShow_X9_isIn rfl ⟨rfl, rfl⟩ hd_X9_isIn ⟨Nat.le_of_ble_eq_true rfl, Nat.le_of_ble_eq_true rfl⟩ ⟨Nat.le_refl _, Nat.le_refl _⟩ rfl (Nat.le_of_ble_eq_true rfl) rfl dX9_isShow_10 ?_
  exact k_zretR rfl dX9_isShow_13 (isZ_n (chk_e h).1) (chk_e h).2
abbrev rmX9_ofS : Room := { frames := 0, cells := 0, slots := 0, locals := 0 }
abbrev mX9_ofS : MT := (rmX9_ofS, wsX9_ofS, cX9_ofS, 3, RX9, some .int)
theorem hd_X9_ofS : yX9_ofS.cls = RX9 ∧ yX9_ofS.cls ≠ "java/lang/invoke/MethodHandle" ∧ yX9_ofS.cls ≠ "java/lang/invoke/VarHandle" ∧ (parseMethodDescriptor yX9_ofS.desc).map (fun d => d.parameters.length) = some 2 := by decide +kernel
theorem inX9_ofS_9 : ∀ w ∈ wsX90, w ∈ wsX9_ofS := fun w h => List.mem_cons_of_mem _ (List.mem_append_right _ h)
set_option maxHeartbeats 4000000 in
set_option maxRecDepth 100000 in
theorem cm_X9_ofS (l : Launch) {X : XT} (hX : XD X) (g : Nat) (σ : Mem) (o : Nat) (hL : L9 o) (p1 : Int32) (p2 : Int32) {r : Int32} (h : fX9_ofS g σ o p1 p2 = some r) : Met l yX9_ofS wsX9_ofS rmX9_ofS (va_Pc [.ref (xad X o), .int p1, .int p2] (WW X σ)) (QI X r σ) 0 0 (XA X) := by
  refine met_x (M := mX9_ofS) (lv := [(0, .ref (xad X o)), (1, .int p1), (2, .int p2)]) hX (by decide) rfl rfl (Nat.le_of_ble_eq_true rfl) rfl ?_
  unfold fX9_ofS at h
  refine k_aload_n (q := 0) dX9_ofS_0 rfl rfl ?_
  refine kg_9 (v := .ref (xad X (o + 1))) hL.1 inX9_ofS_9 0 (by decide) (List.mem_of_getElem? (i := 1) rfl) rfl dX9_ofS_1 ?_
  refine k_sipush (v := (nI 1132)) dX9_ofS_4 (by decide) ?_
  refine k_sipush (v := (nI 488)) dX9_ofS_7 (by decide) ?_
  refine k_iload_n (q := 1) dX9_ofS_10 rfl rfl ?_
  refine k_imul dX9_ofS_11 ?_
  refine k_iadd dX9_ofS_12 ?_
  refine k_iload_n (q := 2) dX9_ofS_13 rfl rfl ?_
  refine k_iadd dX9_ofS_14 ?_
  refine k_iald (n := 6036) hL.2.1 dX9_ofS_15 h (fun h => ?_)
  exact k_iretR rfl dX9_ofS_16 h
abbrev rmX9_show : Room := { frames := 2, cells := 0, slots := 0, locals := 43 }
abbrev mX9_show : MT := (rmX9_show, wsX9_show, cX9_show, 3, RX9, some .int)
theorem hd_X9_show : yX9_show.cls = RX9 ∧ yX9_show.cls ≠ "java/lang/invoke/MethodHandle" ∧ yX9_show.cls ≠ "java/lang/invoke/VarHandle" ∧ (parseMethodDescriptor yX9_show.desc).map (fun d => d.parameters.length) = some 2 := by decide +kernel
theorem inX9_show_9 : ∀ w ∈ wsX90, w ∈ wsX9_show := fun w h => List.mem_cons_of_mem _ (List.mem_append_right _ h)
set_option maxHeartbeats 4000000 in
set_option maxRecDepth 100000 in
theorem cm_X9_show (l : Launch) {X : XT} (hX : XD X) (g : Nat) (σ : Mem) (o : Nat) (hL : L9 o) (p1 : Int32) (p2 : Int32) {r : Int32} (h : fX9_show g σ o p1 p2 = some r) : Met l yX9_show wsX9_show rmX9_show (va_Pc [.ref (xad X o), .int p1, .int p2] (WW X σ)) (QI X r σ) 0 0 (XA X) := by
  refine met_x (M := mX9_show) (lv := [(0, .ref (xad X o)), (1, .int p1), (2, .int p2)]) hX (by decide) rfl rfl (Nat.le_of_ble_eq_true rfl) rfl ?_
  unfold fX9_show at h
  refine k_aload_n (q := 0) dX9_show_0 rfl rfl ?_
  refine k_iload_n (q := 1) dX9_show_1 rfl rfl ?_
  obtain ⟨r2, hc1, h⟩ := bnd_e h
  refine k_cv (q := (RX9, TX9, 12)) (As := [.int p1]) 1 (cm_X9_isShow l hX g σ o hL p1 hc1) gX9_show_X9_isShow rfl ⟨rfl, rfl⟩ hd_X9_isShow ⟨Nat.le_of_ble_eq_true rfl, Nat.le_of_ble_eq_true rfl⟩ ⟨Nat.le_refl _, Nat.le_refl _⟩ (lay_lt hL.1 (by decide)) (ce_of hL.1) rfl rfl (Nat.le_of_ble_eq_true rfl) rfl dX9_show_2 ?_
  refine k_if_ne (tgt := 10) dX9_show_5 (by decide) h (fun h => ?_) (fun h => ?_)
  · refine k_iload_n (q := 2) dX9_show_10 rfl rfl ?_
    refine k_iconst (v := (nI 0)) dX9_show_11 (by decide) ?_
    refine k_bipush (v := (nI 7)) dX9_show_12 (by decide) ?_
    obtain ⟨r4, hc3, h⟩ := bnd_e h
    refine k_cs (As := [.int p2, .int (nI 0), .int (nI 7)]) 3 (cm_X9_isIn l hX g σ p2 (nI 0) (nI 7) hc3) gX9_show_X9_isIn rfl ⟨rfl, rfl⟩ hd_X9_isIn ⟨Nat.le_of_ble_eq_true rfl, Nat.le_of_ble_eq_true rfl⟩ ⟨Nat.le_refl _, Nat.le_refl _⟩ rfl (Nat.le_of_ble_eq_true rfl) rfl dX9_show_14 ?_
    refine k_if_eq (tgt := 29) dX9_show_17 (by decide) h (fun h => ?_) (fun h => ?_)
    · refine k_bipush (v := (nN 2)) dX9_show_29 (by decide) ?_
      exact k_iretR rfl dX9_show_31 h
    · refine k_aload_n (q := 0) dX9_show_20 rfl rfl ?_
      refine k_iload_n (q := 1) dX9_show_21 rfl rfl ?_
      refine k_iload_n (q := 2) dX9_show_22 rfl rfl ?_
      obtain ⟨r6, hc5, h⟩ := bnd_e h
      refine k_cv (q := (RX9, TX9, 12)) (As := [.int p1, .int p2]) 2 (cm_X9_ofS l hX g σ o hL p1 p2 hc5) gX9_show_X9_ofS rfl ⟨rfl, rfl⟩ hd_X9_ofS ⟨Nat.le_of_ble_eq_true rfl, Nat.le_of_ble_eq_true rfl⟩ ⟨Nat.le_refl _, Nat.le_refl _⟩ (lay_lt hL.1 (by decide)) (ce_of hL.1) rfl rfl (Nat.le_of_ble_eq_true rfl) rfl dX9_show_23 ?_
      refine k_goto (tgt := 31) dX9_show_26 (by decide) ?_
      exact k_iretR rfl dX9_show_31 h
  · refine k_iconst (v := (nN 1)) dX9_show_8 (by decide) ?_
    exact k_iretR rfl dX9_show_9 h
abbrev rmX9_seen : Room := { frames := 2, cells := 0, slots := 0, locals := 43 }
abbrev mX9_seen : MT := (rmX9_seen, wsX9_seen, cX9_seen, 3, RX9, some .int)
theorem hd_X9_seen : yX9_seen.cls = RX9 ∧ yX9_seen.cls ≠ "java/lang/invoke/MethodHandle" ∧ yX9_seen.cls ≠ "java/lang/invoke/VarHandle" ∧ (parseMethodDescriptor yX9_seen.desc).map (fun d => d.parameters.length) = some 2 := by decide +kernel
theorem inX9_seen_9 : ∀ w ∈ wsX90, w ∈ wsX9_seen := fun w h => List.mem_cons_of_mem _ (List.mem_append_right _ h)
set_option maxHeartbeats 4000000 in
set_option maxRecDepth 100000 in
theorem cm_X9_seen (l : Launch) {X : XT} (hX : XD X) (g : Nat) (σ : Mem) (o : Nat) (hL : L9 o) (p1 : Int32) (p2 : Int32) {r : Int32} (h : fX9_seen g σ o p1 p2 = some r) : Met l yX9_seen wsX9_seen rmX9_seen (va_Pc [.ref (xad X o), .int p1, .int p2] (WW X σ)) (QI X r σ) 0 0 (XA X) := by
  refine met_x (M := mX9_seen) (lv := [(0, .ref (xad X o)), (1, .int p1), (2, .int p2)]) hX (by decide) rfl rfl (Nat.le_of_ble_eq_true rfl) rfl ?_
  unfold fX9_seen at h
  refine k_aload_n (q := 0) dX9_seen_0 rfl rfl ?_
  refine k_iload_n (q := 1) dX9_seen_1 rfl rfl ?_
  obtain ⟨r2, hc1, h⟩ := bnd_e h
  refine k_cv (q := (RX9, TX9, 12)) (As := [.int p1]) 1 (cm_X9_isShow l hX g σ o hL p1 hc1) gX9_seen_X9_isShow rfl ⟨rfl, rfl⟩ hd_X9_isShow ⟨Nat.le_of_ble_eq_true rfl, Nat.le_of_ble_eq_true rfl⟩ ⟨Nat.le_refl _, Nat.le_refl _⟩ (lay_lt hL.1 (by decide)) (ce_of hL.1) rfl rfl (Nat.le_of_ble_eq_true rfl) rfl dX9_seen_2 ?_
  refine k_if_ne (tgt := 10) dX9_seen_5 (by decide) h (fun h => ?_) (fun h => ?_)
  · refine k_iload_n (q := 2) dX9_seen_10 rfl rfl ?_
    refine k_iconst (v := (nI 0)) dX9_seen_11 (by decide) ?_
    refine k_aload_n (q := 0) dX9_seen_12 rfl rfl ?_
    refine k_iload_n (q := 1) dX9_seen_13 rfl rfl ?_
    refine k_iconst (v := (nI 0)) dX9_seen_14 (by decide) ?_
    obtain ⟨r4, hc3, h⟩ := bnd_e h
    refine k_cv (q := (RX9, TX9, 12)) (As := [.int p1, .int (nI 0)]) 2 (cm_X9_ofS l hX g σ o hL p1 (nI 0) hc3) gX9_seen_X9_ofS rfl ⟨rfl, rfl⟩ hd_X9_ofS ⟨Nat.le_of_ble_eq_true rfl, Nat.le_of_ble_eq_true rfl⟩ ⟨Nat.le_refl _, Nat.le_refl _⟩ (lay_lt hL.1 (by decide)) (ce_of hL.1) rfl rfl (Nat.le_of_ble_eq_true rfl) rfl dX9_seen_15 ?_
    refine k_iconst (v := (nI 1)) dX9_seen_18 (by decide) ?_
    refine k_isub dX9_seen_19 ?_
    obtain ⟨r6, hc5, h⟩ := bnd_e h
    refine k_cs (As := [.int p2, .int (nI 0), .int (r4 - (nI 1))]) 3 (cm_X9_isIn l hX g σ p2 (nI 0) (r4 - (nI 1)) hc5) gX9_seen_X9_isIn rfl ⟨rfl, rfl⟩ hd_X9_isIn ⟨Nat.le_of_ble_eq_true rfl, Nat.le_of_ble_eq_true rfl⟩ ⟨Nat.le_refl _, Nat.le_refl _⟩ rfl (Nat.le_of_ble_eq_true rfl) rfl dX9_seen_20 ?_
    refine k_if_eq (tgt := 38) dX9_seen_23 (by decide) h (fun h => ?_) (fun h => ?_)
    · refine k_bipush (v := (nN 2)) dX9_seen_38 (by decide) ?_
      exact k_iretR rfl dX9_seen_40 h
    · refine k_aload_n (q := 0) dX9_seen_26 rfl rfl ?_
      refine k_iload_n (q := 1) dX9_seen_27 rfl rfl ?_
      refine k_bipush (v := (nI 8)) dX9_seen_28 (by decide) ?_
      refine k_iload_n (q := 2) dX9_seen_30 rfl rfl ?_
      refine k_iadd dX9_seen_31 ?_
      obtain ⟨r8, hc7, h⟩ := bnd_e h
      refine k_cv (q := (RX9, TX9, 12)) (As := [.int p1, .int ((nI 8) + p2)]) 2 (cm_X9_ofS l hX g σ o hL p1 ((nI 8) + p2) hc7) gX9_seen_X9_ofS rfl ⟨rfl, rfl⟩ hd_X9_ofS ⟨Nat.le_of_ble_eq_true rfl, Nat.le_of_ble_eq_true rfl⟩ ⟨Nat.le_refl _, Nat.le_refl _⟩ (lay_lt hL.1 (by decide)) (ce_of hL.1) rfl rfl (Nat.le_of_ble_eq_true rfl) rfl dX9_seen_32 ?_
      refine k_goto (tgt := 40) dX9_seen_35 (by decide) ?_
      exact k_iretR rfl dX9_seen_40 h
  · refine k_iconst (v := (nN 1)) dX9_seen_8 (by decide) ?_
    exact k_iretR rfl dX9_seen_9 h
abbrev rmX9_addWitness : Room := { frames := 2, cells := 0, slots := 0, locals := 43 }
abbrev mX9_addWitness : MT := (rmX9_addWitness, wsX9_addWitness, cX9_addWitness, 5, RX9, some .int)
theorem hd_X9_addWitness : yX9_addWitness.cls = RX9 ∧ yX9_addWitness.cls ≠ "java/lang/invoke/MethodHandle" ∧ yX9_addWitness.cls ≠ "java/lang/invoke/VarHandle" ∧ (parseMethodDescriptor yX9_addWitness.desc).map (fun d => d.parameters.length) = some 3 := by decide +kernel
theorem inX9_addWitness_9 : ∀ w ∈ wsX90, w ∈ wsX9_addWitness := fun w h => List.mem_cons_of_mem _ (List.mem_append_right _ h)
set_option maxHeartbeats 4000000 in
set_option maxRecDepth 100000 in
theorem cm_X9_addWitness (l : Launch) {X : XT} (hX : XD X) (g : Nat) (σ : Mem) (o : Nat) (hL : L9 o) (p1 : Int32) (p2 : Int32) (p3 : Int32) {r : Int32} {σ' : Mem} (h : fX9_addWitness g σ o p1 p2 p3 = some (r, σ')) : Met l yX9_addWitness wsX9_addWitness rmX9_addWitness (va_Pc [.ref (xad X o), .int p1, .int p2, .int p3] (WW X σ)) (QI X r σ') 0 0 (XA X) := by
  refine met_x (M := mX9_addWitness) (lv := [(0, .ref (xad X o)), (1, .int p1), (2, .int p2), (3, .int p3)]) hX (by decide) rfl rfl (Nat.le_of_ble_eq_true rfl) rfl ?_
  unfold fX9_addWitness at h
  refine k_aload_n (q := 0) dX9_addWitness_0 rfl rfl ?_
  refine k_iload_n (q := 1) dX9_addWitness_1 rfl rfl ?_
  obtain ⟨r2, hc1, h⟩ := bnd_e h
  refine k_cv (q := (RX9, TX9, 12)) (As := [.int p1]) 1 (cm_X9_isShow l hX g σ o hL p1 hc1) gX9_addWitness_X9_isShow rfl ⟨rfl, rfl⟩ hd_X9_isShow ⟨Nat.le_of_ble_eq_true rfl, Nat.le_of_ble_eq_true rfl⟩ ⟨Nat.le_refl _, Nat.le_refl _⟩ (lay_lt hL.1 (by decide)) (ce_of hL.1) rfl rfl (Nat.le_of_ble_eq_true rfl) rfl dX9_addWitness_2 ?_
  refine k_if_ne (tgt := 10) dX9_addWitness_5 (by decide) h (fun h => ?_) (fun h => ?_)
  · refine k_iload_n (q := 2) dX9_addWitness_10 rfl rfl ?_
    refine k_if_lt (tgt := 29) dX9_addWitness_11 (by decide) h (fun h => ?_) (fun h => ?_)
    · refine k_bipush (v := (nN 2)) dX9_addWitness_29 (by decide) ?_
      exact k_iret rfl dX9_addWitness_31 h
    · refine k_iload_n (q := 3) dX9_addWitness_14 rfl rfl ?_
      refine k_iload_n (q := 2) dX9_addWitness_15 rfl rfl ?_
      refine k_icmp_le (tgt := 29) dX9_addWitness_16 (by decide) h (fun h => ?_) (fun h => ?_)
      · refine k_bipush (v := (nN 2)) dX9_addWitness_29 (by decide) ?_
        exact k_iret rfl dX9_addWitness_31 h
      · refine k_iload_n (q := 3) dX9_addWitness_19 rfl rfl ?_
        refine k_aload_n (q := 0) dX9_addWitness_20 rfl rfl ?_
        refine k_iload_n (q := 1) dX9_addWitness_21 rfl rfl ?_
        refine k_iconst (v := (nI 0)) dX9_addWitness_22 (by decide) ?_
        obtain ⟨r4, hc3, h⟩ := bnd_e h
        refine k_cv (q := (RX9, TX9, 12)) (As := [.int p1, .int (nI 0)]) 2 (cm_X9_ofS l hX g σ o hL p1 (nI 0) hc3) gX9_addWitness_X9_ofS rfl ⟨rfl, rfl⟩ hd_X9_ofS ⟨Nat.le_of_ble_eq_true rfl, Nat.le_of_ble_eq_true rfl⟩ ⟨Nat.le_refl _, Nat.le_refl _⟩ (lay_lt hL.1 (by decide)) (ce_of hL.1) rfl rfl (Nat.le_of_ble_eq_true rfl) rfl dX9_addWitness_23 ?_
        refine k_icmp_le (tgt := 32) dX9_addWitness_26 (by decide) h (fun h => ?_) (fun h => ?_)
        · refine k_aload_n (q := 0) dX9_addWitness_32 rfl rfl ?_
          refine kg_9 (v := .ref (xad X (o + 1))) hL.1 inX9_addWitness_9 0 (by decide) (List.mem_of_getElem? (i := 1) rfl) rfl dX9_addWitness_33 ?_
          refine k_iconst (v := (nI 4)) dX9_addWitness_36 (by decide) ?_
          refine k_iald (n := 6036) hL.2.1 dX9_addWitness_37 h (fun h => ?_)
          refine k_bipush (v := (nI 8)) dX9_addWitness_38 (by decide) ?_
          refine k_icmp_ne (tgt := 46) dX9_addWitness_40 (by decide) h (fun h => ?_) (fun h => ?_)
          · refine k_aload_n (q := 0) dX9_addWitness_46 rfl rfl ?_
            refine k_iconst (v := (nI 0)) dX9_addWitness_47 (by decide) ?_
            obtain ⟨σ6, hc5, h⟩ := bnd_e h
            refine k_cvv (q := (RX9, TX9, 12)) (As := [.int (nI 0)]) 1 (cm_X9_records l hX g σ o hL (nI 0) hc5) gX9_addWitness_X9_records rfl ⟨rfl, rfl⟩ hd_X9_records ⟨Nat.le_of_ble_eq_true rfl, Nat.le_of_ble_eq_true rfl⟩ ⟨Nat.le_refl _, Nat.le_refl _⟩ (lay_lt hL.1 (by decide)) (ce_of hL.1) rfl rfl (Nat.le_of_ble_eq_true rfl) rfl dX9_addWitness_48 ?_
            refine k_sipush (v := (nI 6012)) dX9_addWitness_51 (by decide) ?_
            refine k_iconst (v := (nI 3)) dX9_addWitness_54 (by decide) ?_
            refine k_aload_n (q := 0) dX9_addWitness_55 rfl rfl ?_
            refine kg_9 (v := .ref (xad X (o + 1))) hL.1 inX9_addWitness_9 0 (by decide) (List.mem_of_getElem? (i := 1) rfl) rfl dX9_addWitness_56 ?_
            refine k_iconst (v := (nI 4)) dX9_addWitness_59 (by decide) ?_
            refine k_iald (n := 6036) hL.2.1 dX9_addWitness_60 h (fun h => ?_)
            refine k_imul dX9_addWitness_61 ?_
            refine k_iadd dX9_addWitness_62 ?_
            refine k_istore (lv' := [(4, .int ((nI 6012) + ((nI 3) * (σ6 (o + 1) (nI 4).toNatClampNeg)))), (0, .ref (xad X o)), (1, .int p1), (2, .int p2), (3, .int p3)]) dX9_addWitness_63 (Nat.le_of_ble_eq_true rfl) rfl ?_
            refine k_aload_n (q := 1) dX9_addWitness_65 rfl rfl ?_
            refine kg_9 (v := .ref (xad X (o + 1))) hL.1 inX9_addWitness_9 0 (by decide) (List.mem_of_getElem? (i := 1) rfl) rfl dX9_addWitness_66 ?_
            refine k_iload (q := 0) dX9_addWitness_69 rfl ?_
            refine k_iload_n (q := 2) dX9_addWitness_71 rfl rfl ?_
            refine k_iast (n := 6036) hL.2.1 dX9_addWitness_72 h (fun σ7 h => ?_)
            refine k_aload_n (q := 1) dX9_addWitness_73 rfl rfl ?_
            refine kg_9 (v := .ref (xad X (o + 1))) hL.1 inX9_addWitness_9 0 (by decide) (List.mem_of_getElem? (i := 1) rfl) rfl dX9_addWitness_74 ?_
            refine k_iload (q := 0) dX9_addWitness_77 rfl ?_
            refine k_iconst (v := (nI 1)) dX9_addWitness_79 (by decide) ?_
            refine k_iadd dX9_addWitness_80 ?_
            refine k_iload_n (q := 3) dX9_addWitness_81 rfl rfl ?_
            refine k_iast (n := 6036) hL.2.1 dX9_addWitness_82 h (fun σ8 h => ?_)
            refine k_aload_n (q := 1) dX9_addWitness_83 rfl rfl ?_
            refine kg_9 (v := .ref (xad X (o + 1))) hL.1 inX9_addWitness_9 0 (by decide) (List.mem_of_getElem? (i := 1) rfl) rfl dX9_addWitness_84 ?_
            refine k_iload (q := 0) dX9_addWitness_87 rfl ?_
            refine k_iconst (v := (nI 2)) dX9_addWitness_89 (by decide) ?_
            refine k_iadd dX9_addWitness_90 ?_
            refine k_iload_n (q := 4) dX9_addWitness_91 rfl rfl ?_
            refine k_iast (n := 6036) hL.2.1 dX9_addWitness_92 h (fun σ9 h => ?_)
            refine k_aload_n (q := 1) dX9_addWitness_93 rfl rfl ?_
            refine kg_9 (v := .ref (xad X (o + 1))) hL.1 inX9_addWitness_9 0 (by decide) (List.mem_of_getElem? (i := 1) rfl) rfl dX9_addWitness_94 ?_
            refine k_iconst (v := (nI 4)) dX9_addWitness_97 (by decide) ?_
            refine k_dup2 dX9_addWitness_98 rfl rfl ?_
            refine k_iald (n := 6036) hL.2.1 dX9_addWitness_99 h (fun h => ?_)
            refine k_iconst (v := (nI 1)) dX9_addWitness_100 (by decide) ?_
            refine k_iadd dX9_addWitness_101 ?_
            refine k_iast (n := 6036) hL.2.1 dX9_addWitness_102 h (fun σ10 h => ?_)
            refine k_aload_n (q := 1) dX9_addWitness_103 rfl rfl ?_
            refine kg_9 (v := .ref (xad X (o + 1))) hL.1 inX9_addWitness_9 0 (by decide) (List.mem_of_getElem? (i := 1) rfl) rfl dX9_addWitness_104 ?_
            refine k_iconst (v := (nI 4)) dX9_addWitness_107 (by decide) ?_
            refine k_iald (n := 6036) hL.2.1 dX9_addWitness_108 h (fun h => ?_)
            refine k_iconst (v := (nI 1)) dX9_addWitness_109 (by decide) ?_
            refine k_isub dX9_addWitness_110 ?_
            exact k_iret rfl dX9_addWitness_111 h
          · refine k_bipush (v := (nN 3)) dX9_addWitness_43 (by decide) ?_
            exact k_iret rfl dX9_addWitness_45 h
        · refine k_bipush (v := (nN 2)) dX9_addWitness_29 (by decide) ?_
          exact k_iret rfl dX9_addWitness_31 h
  · refine k_iconst (v := (nN 1)) dX9_addWitness_8 (by decide) ?_
    exact k_iret rfl dX9_addWitness_9 h
abbrev rmX9_isWitness : Room := { frames := 1, cells := 0, slots := 0, locals := 22 }
abbrev mX9_isWitness : MT := (rmX9_isWitness, wsX9_isWitness, cX9_isWitness, 2, RX9, some .boolean)
theorem hd_X9_isWitness : yX9_isWitness.cls = RX9 ∧ yX9_isWitness.cls ≠ "java/lang/invoke/MethodHandle" ∧ yX9_isWitness.cls ≠ "java/lang/invoke/VarHandle" ∧ (parseMethodDescriptor yX9_isWitness.desc).map (fun d => d.parameters.length) = some 1 := by decide +kernel
theorem inX9_isWitness_9 : ∀ w ∈ wsX90, w ∈ wsX9_isWitness := fun w h => List.mem_cons_of_mem _ (List.mem_append_right _ h)
set_option maxHeartbeats 4000000 in
set_option maxRecDepth 100000 in
theorem cm_X9_isWitness (l : Launch) {X : XT} (hX : XD X) (g : Nat) (σ : Mem) (o : Nat) (hL : L9 o) (p1 : Int32) {r : Int32} (h : fX9_isWitness g σ o p1 = some r) : Met l yX9_isWitness wsX9_isWitness rmX9_isWitness (va_Pc [.ref (xad X o), .int p1] (WW X σ)) (QI X r σ) 0 0 (XA X) := by
  refine met_x (M := mX9_isWitness) (lv := [(0, .ref (xad X o)), (1, .int p1)]) hX (by decide) rfl rfl (Nat.le_of_ble_eq_true rfl) rfl ?_
  unfold fX9_isWitness at h
  refine k_iload_n (q := 1) dX9_isWitness_0 rfl rfl ?_
  refine k_iconst (v := (nI 0)) dX9_isWitness_1 (by decide) ?_
  refine k_aload_n (q := 0) dX9_isWitness_2 rfl rfl ?_
  refine kg_9 (v := .ref (xad X (o + 1))) hL.1 inX9_isWitness_9 0 (by decide) (List.mem_of_getElem? (i := 1) rfl) rfl dX9_isWitness_3 ?_
  refine k_iconst (v := (nI 4)) dX9_isWitness_6 (by decide) ?_
  refine k_iald (n := 6036) hL.2.1 dX9_isWitness_7 h (fun h => ?_)
  refine k_iconst (v := (nI 1)) dX9_isWitness_8 (by decide) ?_
  refine k_isub dX9_isWitness_9 ?_
  obtain ⟨r2, hc1, h⟩ := bnd_e h
  refine k_cs (As := [.int p1, .int (nI 0), .int ((σ (o + 1) (nI 4).toNatClampNeg) - (nI 1))]) 3 (cm_X9_isIn l hX g σ p1 (nI 0) ((σ (o + 1) (nI 4).toNatClampNeg) - (nI 1)) hc1) gX9_isWitness_X9_isIn rfl ⟨rfl, rfl⟩ hd_X9_isIn ⟨Nat.le_of_ble_eq_true rfl, Nat.le_of_ble_eq_true rfl⟩ ⟨Nat.le_refl _, Nat.le_refl _⟩ rfl (Nat.le_of_ble_eq_true rfl) rfl dX9_isWitness_10 ?_
  exact k_zretR rfl dX9_isWitness_13 (isZ_n (chk_e h).1) (chk_e h).2
abbrev rmX9_ofW : Room := { frames := 0, cells := 0, slots := 0, locals := 0 }
abbrev mX9_ofW : MT := (rmX9_ofW, wsX9_ofW, cX9_ofW, 3, RX9, some .int)
theorem hd_X9_ofW : yX9_ofW.cls = RX9 ∧ yX9_ofW.cls ≠ "java/lang/invoke/MethodHandle" ∧ yX9_ofW.cls ≠ "java/lang/invoke/VarHandle" ∧ (parseMethodDescriptor yX9_ofW.desc).map (fun d => d.parameters.length) = some 2 := by decide +kernel
theorem inX9_ofW_9 : ∀ w ∈ wsX90, w ∈ wsX9_ofW := fun w h => List.mem_cons_of_mem _ (List.mem_append_right _ h)
set_option maxHeartbeats 4000000 in
set_option maxRecDepth 100000 in
theorem cm_X9_ofW (l : Launch) {X : XT} (hX : XD X) (g : Nat) (σ : Mem) (o : Nat) (hL : L9 o) (p1 : Int32) (p2 : Int32) {r : Int32} (h : fX9_ofW g σ o p1 p2 = some r) : Met l yX9_ofW wsX9_ofW rmX9_ofW (va_Pc [.ref (xad X o), .int p1, .int p2] (WW X σ)) (QI X r σ) 0 0 (XA X) := by
  refine met_x (M := mX9_ofW) (lv := [(0, .ref (xad X o)), (1, .int p1), (2, .int p2)]) hX (by decide) rfl rfl (Nat.le_of_ble_eq_true rfl) rfl ?_
  unfold fX9_ofW at h
  refine k_aload_n (q := 0) dX9_ofW_0 rfl rfl ?_
  refine kg_9 (v := .ref (xad X (o + 1))) hL.1 inX9_ofW_9 0 (by decide) (List.mem_of_getElem? (i := 1) rfl) rfl dX9_ofW_1 ?_
  refine k_sipush (v := (nI 6012)) dX9_ofW_4 (by decide) ?_
  refine k_iconst (v := (nI 3)) dX9_ofW_7 (by decide) ?_
  refine k_iload_n (q := 1) dX9_ofW_8 rfl rfl ?_
  refine k_imul dX9_ofW_9 ?_
  refine k_iadd dX9_ofW_10 ?_
  refine k_iload_n (q := 2) dX9_ofW_11 rfl rfl ?_
  refine k_iadd dX9_ofW_12 ?_
  refine k_iald (n := 6036) hL.2.1 dX9_ofW_13 h (fun h => ?_)
  exact k_iretR rfl dX9_ofW_14 h
abbrev rmX9_sees : Room := { frames := 1, cells := 0, slots := 0, locals := 22 }
abbrev mX9_sees : MT := (rmX9_sees, wsX9_sees, cX9_sees, 6, RX9, some .int)
theorem hd_X9_sees : yX9_sees.cls = RX9 ∧ yX9_sees.cls ≠ "java/lang/invoke/MethodHandle" ∧ yX9_sees.cls ≠ "java/lang/invoke/VarHandle" ∧ (parseMethodDescriptor yX9_sees.desc).map (fun d => d.parameters.length) = some 2 := by decide +kernel
theorem inX9_sees_9 : ∀ w ∈ wsX90, w ∈ wsX9_sees := fun w h => List.mem_cons_of_mem _ (List.mem_append_right _ h)
set_option maxHeartbeats 4000000 in
set_option maxRecDepth 100000 in
theorem wX9_sees_10 (l : Launch) {X : XT} (hX : XD X) (g : Nat) (o : Nat) (hL : L9 o) {r : Int32} : ∀ (n : Nat) (σ : Mem) (x1 : Int32) (x2 : Int32) (x3 : Int32) (x4 : Int32), fX9_sees_10 g o n σ x1 x2 x3 x4 = some r → WG X l mX9_sees (fun _ _ => True) 0 0 (QM X (QI X r σ)) 10 σ [(0, .ref (xad X o)), (1, .int x1), (2, .int x2), (3, .int x3), (4, .int x4)] [] := by
  intro n
  induction n with
  | zero => intro σ x1 x2 x3 x4 h; exact nomatch (show (none : Option _) = some _ from h)
  | succ n ih =>
    intro σ x1 x2 x3 x4 h
    rw [fX9_sees_10] at h
    refine k_iload (q := 4) dX9_sees_10 rfl ?_
    refine k_aload_n (q := 0) dX9_sees_12 rfl rfl ?_
    refine k_iload_n (q := 1) dX9_sees_13 rfl rfl ?_
    refine k_iconst (v := (nI 2)) dX9_sees_14 (by decide) ?_
    obtain ⟨r4, hc3, h⟩ := bnd_e h
    refine k_cv (q := (RX9, TX9, 12)) (As := [.int x1, .int (nI 2)]) 2 (cm_X9_ofW l hX g σ o hL x1 (nI 2) hc3) gX9_sees_X9_ofW rfl ⟨rfl, rfl⟩ hd_X9_ofW ⟨Nat.le_of_ble_eq_true rfl, Nat.le_of_ble_eq_true rfl⟩ ⟨Nat.le_refl _, Nat.le_refl _⟩ (lay_lt hL.1 (by decide)) (ce_of hL.1) rfl rfl (Nat.le_of_ble_eq_true rfl) rfl dX9_sees_15 ?_
    refine k_icmp_ge (tgt := 68) dX9_sees_18 (by decide) h (fun h => ?_) (fun h => ?_)
    · refine k_iload_n (q := 3) dX9_sees_68 rfl rfl ?_
      exact k_iretR rfl dX9_sees_69 h
    · refine k_aload_n (q := 0) dX9_sees_21 rfl rfl ?_
      refine k_aload_n (q := 0) dX9_sees_22 rfl rfl ?_
      refine k_iload_n (q := 1) dX9_sees_23 rfl rfl ?_
      refine k_iconst (v := (nI 0)) dX9_sees_24 (by decide) ?_
      obtain ⟨r6, hc5, h⟩ := bnd_e h
      refine k_cv (q := (RX9, TX9, 12)) (As := [.int x1, .int (nI 0)]) 2 (cm_X9_ofW l hX g σ o hL x1 (nI 0) hc5) gX9_sees_X9_ofW rfl ⟨rfl, rfl⟩ hd_X9_ofW ⟨Nat.le_of_ble_eq_true rfl, Nat.le_of_ble_eq_true rfl⟩ ⟨Nat.le_refl _, Nat.le_refl _⟩ (lay_lt hL.1 (by decide)) (ce_of hL.1) rfl rfl (Nat.le_of_ble_eq_true rfl) rfl dX9_sees_25 ?_
      refine k_bipush (v := (nI 8)) dX9_sees_28 (by decide) ?_
      refine k_iload (q := 4) dX9_sees_30 rfl ?_
      refine k_iadd dX9_sees_32 ?_
      obtain ⟨r8, hc7, h⟩ := bnd_e h
      refine k_cv (q := (RX9, TX9, 12)) (As := [.int r6, .int ((nI 8) + x4)]) 2 (cm_X9_ofS l hX g σ o hL r6 ((nI 8) + x4) hc7) gX9_sees_X9_ofS rfl ⟨rfl, rfl⟩ hd_X9_ofS ⟨Nat.le_of_ble_eq_true rfl, Nat.le_of_ble_eq_true rfl⟩ ⟨Nat.le_refl _, Nat.le_refl _⟩ (lay_lt hL.1 (by decide)) (ce_of hL.1) rfl rfl (Nat.le_of_ble_eq_true rfl) rfl dX9_sees_33 ?_
      refine k_istore (lv' := [(5, .int r8), (0, .ref (xad X o)), (1, .int x1), (2, .int x2), (3, .int x3), (4, .int x4)]) dX9_sees_36 (Nat.le_of_ble_eq_true rfl) rfl ?_
      refine k_iload_n (q := 4) dX9_sees_38 rfl rfl ?_
      refine k_iload (q := 0) dX9_sees_39 rfl ?_
      refine k_bipush (v := (nN 5)) dX9_sees_41 (by decide) ?_
      refine k_icmp_eq (tgt := 59) dX9_sees_43 (by decide) h (fun h => ?_) (fun h => ?_)
      · refine k_iconst (v := (nI 0)) dX9_sees_59 (by decide) ?_
        refine k_iadd dX9_sees_60 ?_
        refine k_istore_n (lv' := [(3, .int (x3 + (nI 0))), (5, .int r8), (0, .ref (xad X o)), (1, .int x1), (2, .int x2), (4, .int x4)]) dX9_sees_61 rfl (Nat.le_of_ble_eq_true rfl) rfl ?_
        refine k_iinc (q := 5) (v := (x4 + (nI 1))) (lv' := [(4, .int (x4 + (nI 1))), (3, .int (x3 + (nI 0))), (5, .int r8), (0, .ref (xad X o)), (1, .int x1), (2, .int x2)]) dX9_sees_62 rfl rfl (Nat.le_of_ble_eq_true rfl) rfl ?_
        refine k_goto (tgt := 10) dX9_sees_65 (by decide) ?_
        refine k_sub (ks' := [3, 4, 5, 1, 0]) rfl ?_
        exact ih σ x1 x2 (x3 + (nI 0)) (x4 + (nI 1)) h
      · refine k_iload (q := 0) dX9_sees_46 rfl ?_
        refine k_bipush (v := (nI 100)) dX9_sees_48 (by decide) ?_
        refine k_idiv dX9_sees_50 (by decide) ?_
        refine k_iload_n (q := 3) dX9_sees_51 rfl rfl ?_
        refine k_icmp_ne (tgt := 59) dX9_sees_52 (by decide) h (fun h => ?_) (fun h => ?_)
        · refine k_iconst (v := (nI 0)) dX9_sees_59 (by decide) ?_
          refine k_iadd dX9_sees_60 ?_
          refine k_istore_n (lv' := [(3, .int (x3 + (nI 0))), (5, .int r8), (0, .ref (xad X o)), (1, .int x1), (2, .int x2), (4, .int x4)]) dX9_sees_61 rfl (Nat.le_of_ble_eq_true rfl) rfl ?_
          refine k_iinc (q := 5) (v := (x4 + (nI 1))) (lv' := [(4, .int (x4 + (nI 1))), (3, .int (x3 + (nI 0))), (5, .int r8), (0, .ref (xad X o)), (1, .int x1), (2, .int x2)]) dX9_sees_62 rfl rfl (Nat.le_of_ble_eq_true rfl) rfl ?_
          refine k_goto (tgt := 10) dX9_sees_65 (by decide) ?_
          refine k_sub (ks' := [3, 4, 5, 1, 0]) rfl ?_
          exact ih σ x1 x2 (x3 + (nI 0)) (x4 + (nI 1)) h
        · refine k_iconst (v := (nI 1)) dX9_sees_55 (by decide) ?_
          refine k_goto (tgt := 60) dX9_sees_56 (by decide) ?_
          refine k_iadd dX9_sees_60 ?_
          refine k_istore_n (lv' := [(3, .int (x3 + (nI 1))), (5, .int r8), (0, .ref (xad X o)), (1, .int x1), (2, .int x2), (4, .int x4)]) dX9_sees_61 rfl (Nat.le_of_ble_eq_true rfl) rfl ?_
          refine k_iinc (q := 5) (v := (x4 + (nI 1))) (lv' := [(4, .int (x4 + (nI 1))), (3, .int (x3 + (nI 1))), (5, .int r8), (0, .ref (xad X o)), (1, .int x1), (2, .int x2)]) dX9_sees_62 rfl rfl (Nat.le_of_ble_eq_true rfl) rfl ?_
          refine k_goto (tgt := 10) dX9_sees_65 (by decide) ?_
          refine k_sub (ks' := [3, 4, 5, 1, 0]) rfl ?_
          exact ih σ x1 x2 (x3 + (nI 1)) (x4 + (nI 1)) h
set_option maxHeartbeats 4000000 in
set_option maxRecDepth 100000 in
theorem cm_X9_sees (l : Launch) {X : XT} (hX : XD X) (g : Nat) (σ : Mem) (o : Nat) (hL : L9 o) (p1 : Int32) (p2 : Int32) {r : Int32} (h : fX9_sees g σ o p1 p2 = some r) : Met l yX9_sees wsX9_sees rmX9_sees (va_Pc [.ref (xad X o), .int p1, .int p2] (WW X σ)) (QI X r σ) 0 0 (XA X) := by
  refine met_x (M := mX9_sees) (lv := [(0, .ref (xad X o)), (1, .int p1), (2, .int p2)]) hX (by decide) rfl rfl (Nat.le_of_ble_eq_true rfl) rfl ?_
  unfold fX9_sees at h
  refine k_iconst (v := (nI 0)) dX9_sees_0 (by decide) ?_
  refine k_istore_n (lv' := [(3, .int (nI 0)), (0, .ref (xad X o)), (1, .int p1), (2, .int p2)]) dX9_sees_1 rfl (Nat.le_of_ble_eq_true rfl) rfl ?_
  refine k_aload_n (q := 1) dX9_sees_2 rfl rfl ?_
  refine k_iload_n (q := 2) dX9_sees_3 rfl rfl ?_
  refine k_iconst (v := (nI 1)) dX9_sees_4 (by decide) ?_
  obtain ⟨r2, hc1, h⟩ := bnd_e h
  refine k_cv (q := (RX9, TX9, 12)) (As := [.int p1, .int (nI 1)]) 2 (cm_X9_ofW l hX g σ o hL p1 (nI 1) hc1) gX9_sees_X9_ofW rfl ⟨rfl, rfl⟩ hd_X9_ofW ⟨Nat.le_of_ble_eq_true rfl, Nat.le_of_ble_eq_true rfl⟩ ⟨Nat.le_refl _, Nat.le_refl _⟩ (lay_lt hL.1 (by decide)) (ce_of hL.1) rfl rfl (Nat.le_of_ble_eq_true rfl) rfl dX9_sees_5 ?_
  refine k_istore (lv' := [(4, .int r2), (3, .int (nI 0)), (0, .ref (xad X o)), (1, .int p1), (2, .int p2)]) dX9_sees_8 (Nat.le_of_ble_eq_true rfl) rfl ?_
  refine k_sub (ks' := [2, 3, 4, 1, 0]) rfl ?_
  exact wX9_sees_10 l hX g o hL g σ p1 p2 (nI 0) r2 h
abbrev rmX9_scenesBy : Room := { frames := 2, cells := 0, slots := 0, locals := 47 }
abbrev mX9_scenesBy : MT := (rmX9_scenesBy, wsX9_scenesBy, cX9_scenesBy, 4, RX9, some .int)
theorem hd_X9_scenesBy : yX9_scenesBy.cls = RX9 ∧ yX9_scenesBy.cls ≠ "java/lang/invoke/MethodHandle" ∧ yX9_scenesBy.cls ≠ "java/lang/invoke/VarHandle" ∧ (parseMethodDescriptor yX9_scenesBy.desc).map (fun d => d.parameters.length) = some 1 := by decide +kernel
theorem inX9_scenesBy_9 : ∀ w ∈ wsX90, w ∈ wsX9_scenesBy := fun w h => List.mem_cons_of_mem _ (List.mem_append_right _ h)
set_option maxHeartbeats 4000000 in
set_option maxRecDepth 100000 in
theorem wX9_scenesBy_4 (l : Launch) {X : XT} (hX : XD X) (g : Nat) (o : Nat) (hL : L9 o) {r : Int32} : ∀ (n : Nat) (σ : Mem) (x1 : Int32) (x2 : Int32) (x3 : Int32), fX9_scenesBy_4 g o n σ x1 x2 x3 = some r → WG X l mX9_scenesBy (fun _ _ => True) 0 0 (QM X (QI X r σ)) 4 σ [(0, .ref (xad X o)), (1, .int x1), (2, .int x2), (3, .int x3)] [] := by
  intro n
  induction n with
  | zero => intro σ x1 x2 x3 h; exact nomatch (show (none : Option _) = some _ from h)
  | succ n ih =>
    intro σ x1 x2 x3 h
    rw [fX9_scenesBy_4] at h
    refine k_iload_n (q := 3) dX9_scenesBy_4 rfl rfl ?_
    refine k_bipush (v := (nI 12)) dX9_scenesBy_5 (by decide) ?_
    refine k_icmp_ge (tgt := 35) dX9_scenesBy_7 (by decide) h (fun h => ?_) (fun h => ?_)
    · refine k_iload_n (q := 2) dX9_scenesBy_35 rfl rfl ?_
      exact k_iretR rfl dX9_scenesBy_36 h
    · refine k_iload_n (q := 2) dX9_scenesBy_10 rfl rfl ?_
      refine k_aload_n (q := 0) dX9_scenesBy_11 rfl rfl ?_
      refine k_iload_n (q := 1) dX9_scenesBy_12 rfl rfl ?_
      refine k_iload_n (q := 3) dX9_scenesBy_13 rfl rfl ?_
      obtain ⟨r2, hc1, h⟩ := bnd_e h
      refine k_cv (q := (RX9, TX9, 12)) (As := [.int x1, .int x3]) 2 (cm_X9_sees l hX g σ o hL x1 x3 hc1) gX9_scenesBy_X9_sees rfl ⟨rfl, rfl⟩ hd_X9_sees ⟨Nat.le_of_ble_eq_true rfl, Nat.le_of_ble_eq_true rfl⟩ ⟨Nat.le_refl _, Nat.le_refl _⟩ (lay_lt hL.1 (by decide)) (ce_of hL.1) rfl rfl (Nat.le_of_ble_eq_true rfl) rfl dX9_scenesBy_14 ?_
      have key : WG X l mX9_scenesBy (fun _ _ => True) 0 0 (QM X (QI X r σ)) 27 σ [(0, .ref (xad X o)), (1, .int x1), (2, .int x2), (3, .int x3)] [.int (if r2 ≤ 0 then (nI 0) else ((nI 1) <<< (x3 &&& 31))), .int x2] := by
        refine k_ior dX9_scenesBy_27 ?_
        refine k_istore_n (lv' := [(2, .int (x2 ||| (if r2 ≤ 0 then (nI 0) else ((nI 1) <<< (x3 &&& 31))))), (0, .ref (xad X o)), (1, .int x1), (3, .int x3)]) dX9_scenesBy_28 rfl (Nat.le_of_ble_eq_true rfl) rfl ?_
        refine k_iinc (q := 3) (v := (x3 + (nI 1))) (lv' := [(3, .int (x3 + (nI 1))), (2, .int (x2 ||| (if r2 ≤ 0 then (nI 0) else ((nI 1) <<< (x3 &&& 31))))), (0, .ref (xad X o)), (1, .int x1)]) dX9_scenesBy_29 rfl rfl (Nat.le_of_ble_eq_true rfl) rfl ?_
        refine k_goto (tgt := 4) dX9_scenesBy_32 (by decide) ?_
        refine k_sub (ks' := [2, 3, 1, 0]) rfl ?_
        exact ih σ x1 (x2 ||| (if r2 ≤ 0 then (nI 0) else ((nI 1) <<< (x3 &&& 31)))) (x3 + (nI 1)) h
      refine k_ifc_le (tgt := 26) dX9_scenesBy_17 (by decide) (fun hq => ?_) (fun hq => ?_)
      · rw [if_pos hq] at key
        refine k_iconst (v := (nI 0)) dX9_scenesBy_26 (by decide) ?_
        exact key
      · rw [if_neg hq] at key
        refine k_iconst (v := (nI 1)) dX9_scenesBy_20 (by decide) ?_
        refine k_iload_n (q := 3) dX9_scenesBy_21 rfl rfl ?_
        refine k_ishl dX9_scenesBy_22 ?_
        refine k_goto (tgt := 27) dX9_scenesBy_23 (by decide) ?_
        exact key
set_option maxHeartbeats 4000000 in
set_option maxRecDepth 100000 in
theorem cm_X9_scenesBy (l : Launch) {X : XT} (hX : XD X) (g : Nat) (σ : Mem) (o : Nat) (hL : L9 o) (p1 : Int32) {r : Int32} (h : fX9_scenesBy g σ o p1 = some r) : Met l yX9_scenesBy wsX9_scenesBy rmX9_scenesBy (va_Pc [.ref (xad X o), .int p1] (WW X σ)) (QI X r σ) 0 0 (XA X) := by
  refine met_x (M := mX9_scenesBy) (lv := [(0, .ref (xad X o)), (1, .int p1)]) hX (by decide) rfl rfl (Nat.le_of_ble_eq_true rfl) rfl ?_
  unfold fX9_scenesBy at h
  refine k_iconst (v := (nI 0)) dX9_scenesBy_0 (by decide) ?_
  refine k_istore_n (lv' := [(2, .int (nI 0)), (0, .ref (xad X o)), (1, .int p1)]) dX9_scenesBy_1 rfl (Nat.le_of_ble_eq_true rfl) rfl ?_
  refine k_iconst (v := (nI 0)) dX9_scenesBy_2 (by decide) ?_
  refine k_istore_n (lv' := [(3, .int (nI 0)), (2, .int (nI 0)), (0, .ref (xad X o)), (1, .int p1)]) dX9_scenesBy_3 rfl (Nat.le_of_ble_eq_true rfl) rfl ?_
  refine k_sub (ks' := [2, 3, 1, 0]) rfl ?_
  exact wX9_scenesBy_4 l hX g o hL g σ p1 (nI 0) (nI 0) h
abbrev rmX9_framesBy : Room := { frames := 2, cells := 0, slots := 0, locals := 47 }
abbrev mX9_framesBy : MT := (rmX9_framesBy, wsX9_framesBy, cX9_framesBy, 4, RX9, some .int)
theorem hd_X9_framesBy : yX9_framesBy.cls = RX9 ∧ yX9_framesBy.cls ≠ "java/lang/invoke/MethodHandle" ∧ yX9_framesBy.cls ≠ "java/lang/invoke/VarHandle" ∧ (parseMethodDescriptor yX9_framesBy.desc).map (fun d => d.parameters.length) = some 1 := by decide +kernel
theorem inX9_framesBy_9 : ∀ w ∈ wsX90, w ∈ wsX9_framesBy := fun w h => List.mem_cons_of_mem _ (List.mem_append_right _ h)
set_option maxHeartbeats 4000000 in
set_option maxRecDepth 100000 in
theorem wX9_framesBy_4 (l : Launch) {X : XT} (hX : XD X) (g : Nat) (o : Nat) (hL : L9 o) {r : Int32} : ∀ (n : Nat) (σ : Mem) (x1 : Int32) (x2 : Int32) (x3 : Int32), fX9_framesBy_4 g o n σ x1 x2 x3 = some r → WG X l mX9_framesBy (fun _ _ => True) 0 0 (QM X (QI X r σ)) 4 σ [(0, .ref (xad X o)), (1, .int x1), (2, .int x2), (3, .int x3)] [] := by
  intro n
  induction n with
  | zero => intro σ x1 x2 x3 h; exact nomatch (show (none : Option _) = some _ from h)
  | succ n ih =>
    intro σ x1 x2 x3 h
    rw [fX9_framesBy_4] at h
    refine k_iload_n (q := 3) dX9_framesBy_4 rfl rfl ?_
    refine k_bipush (v := (nI 12)) dX9_framesBy_5 (by decide) ?_
    refine k_icmp_ge (tgt := 25) dX9_framesBy_7 (by decide) h (fun h => ?_) (fun h => ?_)
    · refine k_iload_n (q := 2) dX9_framesBy_25 rfl rfl ?_
      exact k_iretR rfl dX9_framesBy_26 h
    · refine k_iload_n (q := 2) dX9_framesBy_10 rfl rfl ?_
      refine k_aload_n (q := 0) dX9_framesBy_11 rfl rfl ?_
      refine k_iload_n (q := 1) dX9_framesBy_12 rfl rfl ?_
      refine k_iload_n (q := 3) dX9_framesBy_13 rfl rfl ?_
      obtain ⟨r2, hc1, h⟩ := bnd_e h
      refine k_cv (q := (RX9, TX9, 12)) (As := [.int x1, .int x3]) 2 (cm_X9_sees l hX g σ o hL x1 x3 hc1) gX9_framesBy_X9_sees rfl ⟨rfl, rfl⟩ hd_X9_sees ⟨Nat.le_of_ble_eq_true rfl, Nat.le_of_ble_eq_true rfl⟩ ⟨Nat.le_refl _, Nat.le_refl _⟩ (lay_lt hL.1 (by decide)) (ce_of hL.1) rfl rfl (Nat.le_of_ble_eq_true rfl) rfl dX9_framesBy_14 ?_
      refine k_iadd dX9_framesBy_17 ?_
      refine k_istore_n (lv' := [(2, .int (x2 + r2)), (0, .ref (xad X o)), (1, .int x1), (3, .int x3)]) dX9_framesBy_18 rfl (Nat.le_of_ble_eq_true rfl) rfl ?_
      refine k_iinc (q := 3) (v := (x3 + (nI 1))) (lv' := [(3, .int (x3 + (nI 1))), (2, .int (x2 + r2)), (0, .ref (xad X o)), (1, .int x1)]) dX9_framesBy_19 rfl rfl (Nat.le_of_ble_eq_true rfl) rfl ?_
      refine k_goto (tgt := 4) dX9_framesBy_22 (by decide) ?_
      refine k_sub (ks' := [2, 3, 1, 0]) rfl ?_
      exact ih σ x1 (x2 + r2) (x3 + (nI 1)) h
set_option maxHeartbeats 4000000 in
set_option maxRecDepth 100000 in
theorem cm_X9_framesBy (l : Launch) {X : XT} (hX : XD X) (g : Nat) (σ : Mem) (o : Nat) (hL : L9 o) (p1 : Int32) {r : Int32} (h : fX9_framesBy g σ o p1 = some r) : Met l yX9_framesBy wsX9_framesBy rmX9_framesBy (va_Pc [.ref (xad X o), .int p1] (WW X σ)) (QI X r σ) 0 0 (XA X) := by
  refine met_x (M := mX9_framesBy) (lv := [(0, .ref (xad X o)), (1, .int p1)]) hX (by decide) rfl rfl (Nat.le_of_ble_eq_true rfl) rfl ?_
  unfold fX9_framesBy at h
  refine k_iconst (v := (nI 0)) dX9_framesBy_0 (by decide) ?_
  refine k_istore_n (lv' := [(2, .int (nI 0)), (0, .ref (xad X o)), (1, .int p1)]) dX9_framesBy_1 rfl (Nat.le_of_ble_eq_true rfl) rfl ?_
  refine k_iconst (v := (nI 0)) dX9_framesBy_2 (by decide) ?_
  refine k_istore_n (lv' := [(3, .int (nI 0)), (2, .int (nI 0)), (0, .ref (xad X o)), (1, .int p1)]) dX9_framesBy_3 rfl (Nat.le_of_ble_eq_true rfl) rfl ?_
  refine k_sub (ks' := [2, 3, 1, 0]) rfl ?_
  exact wX9_framesBy_4 l hX g o hL g σ p1 (nI 0) (nI 0) h
abbrev rmX9_witness : Room := { frames := 3, cells := 0, slots := 0, locals := 70 }
abbrev mX9_witness : MT := (rmX9_witness, wsX9_witness, cX9_witness, 3, RX9, some .int)
theorem hd_X9_witness : yX9_witness.cls = RX9 ∧ yX9_witness.cls ≠ "java/lang/invoke/MethodHandle" ∧ yX9_witness.cls ≠ "java/lang/invoke/VarHandle" ∧ (parseMethodDescriptor yX9_witness.desc).map (fun d => d.parameters.length) = some 2 := by decide +kernel
theorem inX9_witness_9 : ∀ w ∈ wsX90, w ∈ wsX9_witness := fun w h => List.mem_cons_of_mem _ (List.mem_append_right _ h)
set_option maxHeartbeats 4000000 in
set_option maxRecDepth 100000 in
theorem cm_X9_witness (l : Launch) {X : XT} (hX : XD X) (g : Nat) (σ : Mem) (o : Nat) (hL : L9 o) (p1 : Int32) (p2 : Int32) {r : Int32} (h : fX9_witness g σ o p1 p2 = some r) : Met l yX9_witness wsX9_witness rmX9_witness (va_Pc [.ref (xad X o), .int p1, .int p2] (WW X σ)) (QI X r σ) 0 0 (XA X) := by
  refine met_x (M := mX9_witness) (lv := [(0, .ref (xad X o)), (1, .int p1), (2, .int p2)]) hX (by decide) rfl rfl (Nat.le_of_ble_eq_true rfl) rfl ?_
  unfold fX9_witness at h
  refine k_aload_n (q := 0) dX9_witness_0 rfl rfl ?_
  refine k_iload_n (q := 1) dX9_witness_1 rfl rfl ?_
  obtain ⟨r2, hc1, h⟩ := bnd_e h
  refine k_cv (q := (RX9, TX9, 12)) (As := [.int p1]) 1 (cm_X9_isWitness l hX g σ o hL p1 hc1) gX9_witness_X9_isWitness rfl ⟨rfl, rfl⟩ hd_X9_isWitness ⟨Nat.le_of_ble_eq_true rfl, Nat.le_of_ble_eq_true rfl⟩ ⟨Nat.le_refl _, Nat.le_refl _⟩ (lay_lt hL.1 (by decide)) (ce_of hL.1) rfl rfl (Nat.le_of_ble_eq_true rfl) rfl dX9_witness_2 ?_
  refine k_if_ne (tgt := 10) dX9_witness_5 (by decide) h (fun h => ?_) (fun h => ?_)
  · refine k_iload_n (q := 2) dX9_witness_10 rfl rfl ?_
    refine k_if h (fun c0 h => ?_) (fun c0 h => ?_)
    · refine k_tabIn (off := 37) (tgt := 48) dX9_witness_11 (by rw [c0]; decide) (by rw [c0]; decide) (by rw [c0]; rfl) (by decide) ?_
      refine k_aload_n (q := 0) dX9_witness_48 rfl rfl ?_
      refine k_iload_n (q := 1) dX9_witness_49 rfl rfl ?_
      refine k_iload_n (q := 2) dX9_witness_50 rfl rfl ?_
      obtain ⟨r4, hc3, h⟩ := bnd_e h
      refine k_cv (q := (RX9, TX9, 12)) (As := [.int p1, .int p2]) 2 (cm_X9_ofW l hX g σ o hL p1 p2 hc3) gX9_witness_X9_ofW rfl ⟨rfl, rfl⟩ hd_X9_ofW ⟨Nat.le_of_ble_eq_true rfl, Nat.le_of_ble_eq_true rfl⟩ ⟨Nat.le_refl _, Nat.le_refl _⟩ (lay_lt hL.1 (by decide)) (ce_of hL.1) rfl rfl (Nat.le_of_ble_eq_true rfl) rfl dX9_witness_51 ?_
      exact k_iretR rfl dX9_witness_54 h
    · refine k_if h (fun c1 h => ?_) (fun c1 h => ?_)
      · refine k_tabIn (off := 37) (tgt := 48) dX9_witness_11 (by rw [c1]; decide) (by rw [c1]; decide) (by rw [c1]; rfl) (by decide) ?_
        refine k_aload_n (q := 0) dX9_witness_48 rfl rfl ?_
        refine k_iload_n (q := 1) dX9_witness_49 rfl rfl ?_
        refine k_iload_n (q := 2) dX9_witness_50 rfl rfl ?_
        obtain ⟨r6, hc5, h⟩ := bnd_e h
        refine k_cv (q := (RX9, TX9, 12)) (As := [.int p1, .int p2]) 2 (cm_X9_ofW l hX g σ o hL p1 p2 hc5) gX9_witness_X9_ofW rfl ⟨rfl, rfl⟩ hd_X9_ofW ⟨Nat.le_of_ble_eq_true rfl, Nat.le_of_ble_eq_true rfl⟩ ⟨Nat.le_refl _, Nat.le_refl _⟩ (lay_lt hL.1 (by decide)) (ce_of hL.1) rfl rfl (Nat.le_of_ble_eq_true rfl) rfl dX9_witness_51 ?_
        exact k_iretR rfl dX9_witness_54 h
      · refine k_if h (fun c2 h => ?_) (fun c2 h => ?_)
        · refine k_tabIn (off := 37) (tgt := 48) dX9_witness_11 (by rw [c2]; decide) (by rw [c2]; decide) (by rw [c2]; rfl) (by decide) ?_
          refine k_aload_n (q := 0) dX9_witness_48 rfl rfl ?_
          refine k_iload_n (q := 1) dX9_witness_49 rfl rfl ?_
          refine k_iload_n (q := 2) dX9_witness_50 rfl rfl ?_
          obtain ⟨r8, hc7, h⟩ := bnd_e h
          refine k_cv (q := (RX9, TX9, 12)) (As := [.int p1, .int p2]) 2 (cm_X9_ofW l hX g σ o hL p1 p2 hc7) gX9_witness_X9_ofW rfl ⟨rfl, rfl⟩ hd_X9_ofW ⟨Nat.le_of_ble_eq_true rfl, Nat.le_of_ble_eq_true rfl⟩ ⟨Nat.le_refl _, Nat.le_refl _⟩ (lay_lt hL.1 (by decide)) (ce_of hL.1) rfl rfl (Nat.le_of_ble_eq_true rfl) rfl dX9_witness_51 ?_
          exact k_iretR rfl dX9_witness_54 h
        · refine k_if h (fun c3 h => ?_) (fun c3 h => ?_)
          · refine k_tabIn (off := 44) (tgt := 55) dX9_witness_11 (by rw [c3]; decide) (by rw [c3]; decide) (by rw [c3]; rfl) (by decide) ?_
            refine k_aload_n (q := 0) dX9_witness_55 rfl rfl ?_
            refine k_iload_n (q := 1) dX9_witness_56 rfl rfl ?_
            obtain ⟨r10, hc9, h⟩ := bnd_e h
            refine k_cv (q := (RX9, TX9, 12)) (As := [.int p1]) 1 (cm_X9_framesBy l hX g σ o hL p1 hc9) gX9_witness_X9_framesBy rfl ⟨rfl, rfl⟩ hd_X9_framesBy ⟨Nat.le_of_ble_eq_true rfl, Nat.le_of_ble_eq_true rfl⟩ ⟨Nat.le_refl _, Nat.le_refl _⟩ (lay_lt hL.1 (by decide)) (ce_of hL.1) rfl rfl (Nat.le_of_ble_eq_true rfl) rfl dX9_witness_57 ?_
            exact k_iretR rfl dX9_witness_60 h
          · refine k_if h (fun c4 h => ?_) (fun c4 h => ?_)
            · refine k_tabIn (off := 50) (tgt := 61) dX9_witness_11 (by rw [c4]; decide) (by rw [c4]; decide) (by rw [c4]; rfl) (by decide) ?_
              refine k_aload_n (q := 0) dX9_witness_61 rfl rfl ?_
              refine k_iload_n (q := 1) dX9_witness_62 rfl rfl ?_
              refine k_iconst (v := (nI 2)) dX9_witness_63 (by decide) ?_
              obtain ⟨r12, hc11, h⟩ := bnd_e h
              refine k_cv (q := (RX9, TX9, 12)) (As := [.int p1, .int (nI 2)]) 2 (cm_X9_ofW l hX g σ o hL p1 (nI 2) hc11) gX9_witness_X9_ofW rfl ⟨rfl, rfl⟩ hd_X9_ofW ⟨Nat.le_of_ble_eq_true rfl, Nat.le_of_ble_eq_true rfl⟩ ⟨Nat.le_refl _, Nat.le_refl _⟩ (lay_lt hL.1 (by decide)) (ce_of hL.1) rfl rfl (Nat.le_of_ble_eq_true rfl) rfl dX9_witness_64 ?_
              refine k_aload_n (q := 0) dX9_witness_67 rfl rfl ?_
              refine k_iload_n (q := 1) dX9_witness_68 rfl rfl ?_
              refine k_iconst (v := (nI 1)) dX9_witness_69 (by decide) ?_
              obtain ⟨r14, hc13, h⟩ := bnd_e h
              refine k_cv (q := (RX9, TX9, 12)) (As := [.int p1, .int (nI 1)]) 2 (cm_X9_ofW l hX g σ o hL p1 (nI 1) hc13) gX9_witness_X9_ofW rfl ⟨rfl, rfl⟩ hd_X9_ofW ⟨Nat.le_of_ble_eq_true rfl, Nat.le_of_ble_eq_true rfl⟩ ⟨Nat.le_refl _, Nat.le_refl _⟩ (lay_lt hL.1 (by decide)) (ce_of hL.1) rfl rfl (Nat.le_of_ble_eq_true rfl) rfl dX9_witness_70 ?_
              refine k_isub dX9_witness_73 ?_
              refine k_aload_n (q := 0) dX9_witness_74 rfl rfl ?_
              refine k_iload_n (q := 1) dX9_witness_75 rfl rfl ?_
              obtain ⟨r16, hc15, h⟩ := bnd_e h
              refine k_cv (q := (RX9, TX9, 12)) (As := [.int p1]) 1 (cm_X9_framesBy l hX g σ o hL p1 hc15) gX9_witness_X9_framesBy rfl ⟨rfl, rfl⟩ hd_X9_framesBy ⟨Nat.le_of_ble_eq_true rfl, Nat.le_of_ble_eq_true rfl⟩ ⟨Nat.le_refl _, Nat.le_refl _⟩ (lay_lt hL.1 (by decide)) (ce_of hL.1) rfl rfl (Nat.le_of_ble_eq_true rfl) rfl dX9_witness_76 ?_
              refine k_isub dX9_witness_79 ?_
              exact k_iretR rfl dX9_witness_80 h
            · refine k_if h (fun c5 h => ?_) (fun c5 h => ?_)
              · refine k_tabIn (off := 70) (tgt := 81) dX9_witness_11 (by rw [c5]; decide) (by rw [c5]; decide) (by rw [c5]; rfl) (by decide) ?_
                refine k_aload_n (q := 0) dX9_witness_81 rfl rfl ?_
                refine k_iload_n (q := 1) dX9_witness_82 rfl rfl ?_
                obtain ⟨r18, hc17, h⟩ := bnd_e h
                refine k_cv (q := (RX9, TX9, 12)) (As := [.int p1]) 1 (cm_X9_scenesBy l hX g σ o hL p1 hc17) gX9_witness_X9_scenesBy rfl ⟨rfl, rfl⟩ hd_X9_scenesBy ⟨Nat.le_of_ble_eq_true rfl, Nat.le_of_ble_eq_true rfl⟩ ⟨Nat.le_refl _, Nat.le_refl _⟩ (lay_lt hL.1 (by decide)) (ce_of hL.1) rfl rfl (Nat.le_of_ble_eq_true rfl) rfl dX9_witness_83 ?_
                exact k_iretR rfl dX9_witness_86 h
              · refine k_tabOut (tgt := 87) dX9_witness_11 (by have e0 := lv_neT c0 (show Int32.toInt (nI 0) = 0 from rfl); have e1 := lv_neT c1 (show Int32.toInt (nI 1) = 1 from rfl); have e2 := lv_neT c2 (show Int32.toInt (nI 2) = 2 from rfl); have e3 := lv_neT c3 (show Int32.toInt (nI 3) = 3 from rfl); have e4 := lv_neT c4 (show Int32.toInt (nI 4) = 4 from rfl); have e5 := lv_neT c5 (show Int32.toInt (nI 5) = 5 from rfl); omega) (by decide) ?_
                refine k_bipush (v := (nN 2)) dX9_witness_87 (by decide) ?_
                exact k_iretR rfl dX9_witness_89 h
  · refine k_iconst (v := (nN 1)) dX9_witness_8 (by decide) ?_
    exact k_iretR rfl dX9_witness_9 h
abbrev rmX9_saw : Room := { frames := 2, cells := 0, slots := 0, locals := 47 }
abbrev mX9_saw : MT := (rmX9_saw, wsX9_saw, cX9_saw, 3, RX9, some .int)
theorem hd_X9_saw : yX9_saw.cls = RX9 ∧ yX9_saw.cls ≠ "java/lang/invoke/MethodHandle" ∧ yX9_saw.cls ≠ "java/lang/invoke/VarHandle" ∧ (parseMethodDescriptor yX9_saw.desc).map (fun d => d.parameters.length) = some 2 := by decide +kernel
theorem inX9_saw_9 : ∀ w ∈ wsX90, w ∈ wsX9_saw := fun w h => List.mem_cons_of_mem _ (List.mem_append_right _ h)
set_option maxHeartbeats 4000000 in
set_option maxRecDepth 100000 in
theorem cm_X9_saw (l : Launch) {X : XT} (hX : XD X) (g : Nat) (σ : Mem) (o : Nat) (hL : L9 o) (p1 : Int32) (p2 : Int32) {r : Int32} (h : fX9_saw g σ o p1 p2 = some r) : Met l yX9_saw wsX9_saw rmX9_saw (va_Pc [.ref (xad X o), .int p1, .int p2] (WW X σ)) (QI X r σ) 0 0 (XA X) := by
  refine met_x (M := mX9_saw) (lv := [(0, .ref (xad X o)), (1, .int p1), (2, .int p2)]) hX (by decide) rfl rfl (Nat.le_of_ble_eq_true rfl) rfl ?_
  unfold fX9_saw at h
  refine k_aload_n (q := 0) dX9_saw_0 rfl rfl ?_
  refine k_iload_n (q := 1) dX9_saw_1 rfl rfl ?_
  obtain ⟨r2, hc1, h⟩ := bnd_e h
  refine k_cv (q := (RX9, TX9, 12)) (As := [.int p1]) 1 (cm_X9_isWitness l hX g σ o hL p1 hc1) gX9_saw_X9_isWitness rfl ⟨rfl, rfl⟩ hd_X9_isWitness ⟨Nat.le_of_ble_eq_true rfl, Nat.le_of_ble_eq_true rfl⟩ ⟨Nat.le_refl _, Nat.le_refl _⟩ (lay_lt hL.1 (by decide)) (ce_of hL.1) rfl rfl (Nat.le_of_ble_eq_true rfl) rfl dX9_saw_2 ?_
  refine k_if_eq (tgt := 25) dX9_saw_5 (by decide) h (fun h => ?_) (fun h => ?_)
  · refine k_iconst (v := (nN 1)) dX9_saw_25 (by decide) ?_
    exact k_iretR rfl dX9_saw_26 h
  · refine k_aload_n (q := 0) dX9_saw_8 rfl rfl ?_
    refine k_iload_n (q := 2) dX9_saw_9 rfl rfl ?_
    obtain ⟨r4, hc3, h⟩ := bnd_e h
    refine k_cv (q := (RX9, TX9, 12)) (As := [.int p2]) 1 (cm_X9_isScene l hX g σ o hL p2 hc3) gX9_saw_X9_isScene rfl ⟨rfl, rfl⟩ hd_X9_isScene ⟨Nat.le_of_ble_eq_true rfl, Nat.le_of_ble_eq_true rfl⟩ ⟨Nat.le_refl _, Nat.le_refl _⟩ (lay_lt hL.1 (by decide)) (ce_of hL.1) rfl rfl (Nat.le_of_ble_eq_true rfl) rfl dX9_saw_10 ?_
    refine k_if_eq (tgt := 25) dX9_saw_13 (by decide) h (fun h => ?_) (fun h => ?_)
    · refine k_iconst (v := (nN 1)) dX9_saw_25 (by decide) ?_
      exact k_iretR rfl dX9_saw_26 h
    · refine k_aload_n (q := 0) dX9_saw_16 rfl rfl ?_
      refine k_iload_n (q := 1) dX9_saw_17 rfl rfl ?_
      refine k_iload_n (q := 2) dX9_saw_18 rfl rfl ?_
      obtain ⟨r6, hc5, h⟩ := bnd_e h
      refine k_cv (q := (RX9, TX9, 12)) (As := [.int p1, .int p2]) 2 (cm_X9_sees l hX g σ o hL p1 p2 hc5) gX9_saw_X9_sees rfl ⟨rfl, rfl⟩ hd_X9_sees ⟨Nat.le_of_ble_eq_true rfl, Nat.le_of_ble_eq_true rfl⟩ ⟨Nat.le_refl _, Nat.le_refl _⟩ (lay_lt hL.1 (by decide)) (ce_of hL.1) rfl rfl (Nat.le_of_ble_eq_true rfl) rfl dX9_saw_19 ?_
      refine k_goto (tgt := 26) dX9_saw_22 (by decide) ?_
      exact k_iretR rfl dX9_saw_26 h
abbrev rmX9_differ : Room := { frames := 3, cells := 0, slots := 0, locals := 70 }
abbrev mX9_differ : MT := (rmX9_differ, wsX9_differ, cX9_differ, 3, RX9, some .int)
theorem hd_X9_differ : yX9_differ.cls = RX9 ∧ yX9_differ.cls ≠ "java/lang/invoke/MethodHandle" ∧ yX9_differ.cls ≠ "java/lang/invoke/VarHandle" ∧ (parseMethodDescriptor yX9_differ.desc).map (fun d => d.parameters.length) = some 2 := by decide +kernel
theorem inX9_differ_9 : ∀ w ∈ wsX90, w ∈ wsX9_differ := fun w h => List.mem_cons_of_mem _ (List.mem_append_right _ h)
set_option maxHeartbeats 4000000 in
set_option maxRecDepth 100000 in
theorem cm_X9_differ (l : Launch) {X : XT} (hX : XD X) (g : Nat) (σ : Mem) (o : Nat) (hL : L9 o) (p1 : Int32) (p2 : Int32) {r : Int32} (h : fX9_differ g σ o p1 p2 = some r) : Met l yX9_differ wsX9_differ rmX9_differ (va_Pc [.ref (xad X o), .int p1, .int p2] (WW X σ)) (QI X r σ) 0 0 (XA X) := by
  refine met_x (M := mX9_differ) (lv := [(0, .ref (xad X o)), (1, .int p1), (2, .int p2)]) hX (by decide) rfl rfl (Nat.le_of_ble_eq_true rfl) rfl ?_
  unfold fX9_differ at h
  refine k_aload_n (q := 0) dX9_differ_0 rfl rfl ?_
  refine k_iload_n (q := 1) dX9_differ_1 rfl rfl ?_
  obtain ⟨r2, hc1, h⟩ := bnd_e h
  refine k_cv (q := (RX9, TX9, 12)) (As := [.int p1]) 1 (cm_X9_isWitness l hX g σ o hL p1 hc1) gX9_differ_X9_isWitness rfl ⟨rfl, rfl⟩ hd_X9_isWitness ⟨Nat.le_of_ble_eq_true rfl, Nat.le_of_ble_eq_true rfl⟩ ⟨Nat.le_refl _, Nat.le_refl _⟩ (lay_lt hL.1 (by decide)) (ce_of hL.1) rfl rfl (Nat.le_of_ble_eq_true rfl) rfl dX9_differ_2 ?_
  refine k_if_eq (tgt := 16) dX9_differ_5 (by decide) h (fun h => ?_) (fun h => ?_)
  · refine k_iconst (v := (nN 1)) dX9_differ_16 (by decide) ?_
    exact k_iretR rfl dX9_differ_17 h
  · refine k_aload_n (q := 0) dX9_differ_8 rfl rfl ?_
    refine k_iload_n (q := 2) dX9_differ_9 rfl rfl ?_
    obtain ⟨r4, hc3, h⟩ := bnd_e h
    refine k_cv (q := (RX9, TX9, 12)) (As := [.int p2]) 1 (cm_X9_isWitness l hX g σ o hL p2 hc3) gX9_differ_X9_isWitness rfl ⟨rfl, rfl⟩ hd_X9_isWitness ⟨Nat.le_of_ble_eq_true rfl, Nat.le_of_ble_eq_true rfl⟩ ⟨Nat.le_refl _, Nat.le_refl _⟩ (lay_lt hL.1 (by decide)) (ce_of hL.1) rfl rfl (Nat.le_of_ble_eq_true rfl) rfl dX9_differ_10 ?_
    refine k_if_ne (tgt := 18) dX9_differ_13 (by decide) h (fun h => ?_) (fun h => ?_)
    · refine k_aload_n (q := 0) dX9_differ_18 rfl rfl ?_
      refine k_iload_n (q := 1) dX9_differ_19 rfl rfl ?_
      refine k_iconst (v := (nI 0)) dX9_differ_20 (by decide) ?_
      obtain ⟨r6, hc5, h⟩ := bnd_e h
      refine k_cv (q := (RX9, TX9, 12)) (As := [.int p1, .int (nI 0)]) 2 (cm_X9_ofW l hX g σ o hL p1 (nI 0) hc5) gX9_differ_X9_ofW rfl ⟨rfl, rfl⟩ hd_X9_ofW ⟨Nat.le_of_ble_eq_true rfl, Nat.le_of_ble_eq_true rfl⟩ ⟨Nat.le_refl _, Nat.le_refl _⟩ (lay_lt hL.1 (by decide)) (ce_of hL.1) rfl rfl (Nat.le_of_ble_eq_true rfl) rfl dX9_differ_21 ?_
      refine k_aload_n (q := 0) dX9_differ_24 rfl rfl ?_
      refine k_iload_n (q := 2) dX9_differ_25 rfl rfl ?_
      refine k_iconst (v := (nI 0)) dX9_differ_26 (by decide) ?_
      obtain ⟨r8, hc7, h⟩ := bnd_e h
      refine k_cv (q := (RX9, TX9, 12)) (As := [.int p2, .int (nI 0)]) 2 (cm_X9_ofW l hX g σ o hL p2 (nI 0) hc7) gX9_differ_X9_ofW rfl ⟨rfl, rfl⟩ hd_X9_ofW ⟨Nat.le_of_ble_eq_true rfl, Nat.le_of_ble_eq_true rfl⟩ ⟨Nat.le_refl _, Nat.le_refl _⟩ (lay_lt hL.1 (by decide)) (ce_of hL.1) rfl rfl (Nat.le_of_ble_eq_true rfl) rfl dX9_differ_27 ?_
      refine k_icmp_ne (tgt := 50) dX9_differ_30 (by decide) h (fun h => ?_) (fun h => ?_)
      · refine k_bipush (v := (nN 4)) dX9_differ_50 (by decide) ?_
        exact k_iretR rfl dX9_differ_52 h
      · refine k_aload_n (q := 0) dX9_differ_33 rfl rfl ?_
        refine k_iload_n (q := 1) dX9_differ_34 rfl rfl ?_
        obtain ⟨r10, hc9, h⟩ := bnd_e h
        refine k_cv (q := (RX9, TX9, 12)) (As := [.int p1]) 1 (cm_X9_scenesBy l hX g σ o hL p1 hc9) gX9_differ_X9_scenesBy rfl ⟨rfl, rfl⟩ hd_X9_scenesBy ⟨Nat.le_of_ble_eq_true rfl, Nat.le_of_ble_eq_true rfl⟩ ⟨Nat.le_refl _, Nat.le_refl _⟩ (lay_lt hL.1 (by decide)) (ce_of hL.1) rfl rfl (Nat.le_of_ble_eq_true rfl) rfl dX9_differ_35 ?_
        refine k_aload_n (q := 0) dX9_differ_38 rfl rfl ?_
        refine k_iload_n (q := 2) dX9_differ_39 rfl rfl ?_
        obtain ⟨r12, hc11, h⟩ := bnd_e h
        refine k_cv (q := (RX9, TX9, 12)) (As := [.int p2]) 1 (cm_X9_scenesBy l hX g σ o hL p2 hc11) gX9_differ_X9_scenesBy rfl ⟨rfl, rfl⟩ hd_X9_scenesBy ⟨Nat.le_of_ble_eq_true rfl, Nat.le_of_ble_eq_true rfl⟩ ⟨Nat.le_refl _, Nat.le_refl _⟩ (lay_lt hL.1 (by decide)) (ce_of hL.1) rfl rfl (Nat.le_of_ble_eq_true rfl) rfl dX9_differ_40 ?_
        refine k_ixor dX9_differ_43 ?_
        obtain ⟨r14, hc13, h⟩ := bnd_e h
        refine k_cs (As := [.int (r10 ^^^ r12)]) 1 (cm_X9_ones l hX g σ (r10 ^^^ r12) hc13) gX9_differ_X9_ones rfl ⟨rfl, rfl⟩ hd_X9_ones ⟨Nat.le_of_ble_eq_true rfl, Nat.le_of_ble_eq_true rfl⟩ ⟨Nat.le_refl _, Nat.le_refl _⟩ rfl (Nat.le_of_ble_eq_true rfl) rfl dX9_differ_44 ?_
        refine k_goto (tgt := 52) dX9_differ_47 (by decide) ?_
        exact k_iretR rfl dX9_differ_52 h
    · refine k_iconst (v := (nN 1)) dX9_differ_16 (by decide) ?_
      exact k_iretR rfl dX9_differ_17 h
abbrev rmX9_type : Room := { frames := 0, cells := 0, slots := 0, locals := 0 }
abbrev mX9_type : MT := (rmX9_type, wsX9_type, cX9_type, 2, RX9, some .int)
theorem hd_X9_type : yX9_type.cls = RX9 ∧ yX9_type.cls ≠ "java/lang/invoke/MethodHandle" ∧ yX9_type.cls ≠ "java/lang/invoke/VarHandle" ∧ (parseMethodDescriptor yX9_type.desc).map (fun d => d.parameters.length) = some 1 := by decide +kernel
theorem inX9_type_9 : ∀ w ∈ wsX90, w ∈ wsX9_type := fun w h => List.mem_cons_of_mem _ (List.mem_append_right _ h)
set_option maxHeartbeats 4000000 in
set_option maxRecDepth 100000 in
theorem cm_X9_type (l : Launch) {X : XT} (hX : XD X) (g : Nat) (σ : Mem) (o : Nat) (hL : L9 o) (p1 : Int32) {r : Int32} {σ' : Mem} (h : fX9_type g σ o p1 = some (r, σ')) : Met l yX9_type wsX9_type rmX9_type (va_Pc [.ref (xad X o), .int p1] (WW X σ)) (QI X r σ') 0 0 (XA X) := by
  refine met_x (M := mX9_type) (lv := [(0, .ref (xad X o)), (1, .int p1)]) hX (by decide) rfl rfl (Nat.le_of_ble_eq_true rfl) rfl ?_
  unfold fX9_type at h
  refine k_aload_n (q := 0) dX9_type_0 rfl rfl ?_
  refine kg_9 (v := .int (σ o 6)) hL.1 inX9_type_9 6 (by decide) (List.mem_of_getElem? (i := 1) rfl) rfl dX9_type_1 ?_
  refine k_bipush (v := (nI 60)) dX9_type_4 (by decide) ?_
  refine k_icmp_ne (tgt := 12) dX9_type_6 (by decide) h (fun h => ?_) (fun h => ?_)
  · refine k_aload_n (q := 0) dX9_type_12 rfl rfl ?_
    refine kg_9 (v := .ref (xad X (o + 4))) hL.1 inX9_type_9 5 (by decide) (List.mem_of_getElem? (i := 2) rfl) rfl dX9_type_13 ?_
    refine k_aload_n (q := 0) dX9_type_16 rfl rfl ?_
    refine kg_9 (v := .int (σ o 6)) hL.1 inX9_type_9 6 (by decide) (List.mem_of_getElem? (i := 1) rfl) rfl dX9_type_17 ?_
    refine k_iload_n (q := 1) dX9_type_20 rfl rfl ?_
    refine k_iast (n := 60) hL.2.2.2.2 dX9_type_21 h (fun σ1 h => ?_)
    refine k_aload_n (q := 0) dX9_type_22 rfl rfl ?_
    refine k_dup dX9_type_23 rfl ?_
    refine kg_9 (v := .int (σ1 o 6)) hL.1 inX9_type_9 6 (by decide) (List.mem_of_getElem? (i := 1) rfl) rfl dX9_type_24 ?_
    refine k_iconst (v := (nI 1)) dX9_type_27 (by decide) ?_
    refine k_iadd dX9_type_28 ?_
    refine kp_9_6 hL.1 inX9_type_9 (List.mem_of_getElem? (i := 1) rfl) dX9_type_29 h (fun σ2 h => ?_)
    refine k_aload_n (q := 0) dX9_type_32 rfl rfl ?_
    refine kg_9 (v := .int (σ2 o 6)) hL.1 inX9_type_9 6 (by decide) (List.mem_of_getElem? (i := 1) rfl) rfl dX9_type_33 ?_
    exact k_iret rfl dX9_type_36 h
  · refine k_bipush (v := (nN 3)) dX9_type_9 (by decide) ?_
    exact k_iret rfl dX9_type_11 h
abbrev rmX9_clearText : Room := { frames := 0, cells := 0, slots := 0, locals := 0 }
abbrev mX9_clearText : MT := (rmX9_clearText, wsX9_clearText, cX9_clearText, 2, RX9, some .int)
theorem hd_X9_clearText : yX9_clearText.cls = RX9 ∧ yX9_clearText.cls ≠ "java/lang/invoke/MethodHandle" ∧ yX9_clearText.cls ≠ "java/lang/invoke/VarHandle" ∧ (parseMethodDescriptor yX9_clearText.desc).map (fun d => d.parameters.length) = some 0 := by decide +kernel
theorem inX9_clearText_9 : ∀ w ∈ wsX90, w ∈ wsX9_clearText := fun w h => List.mem_cons_of_mem _ (List.mem_append_right _ h)
set_option maxHeartbeats 4000000 in
set_option maxRecDepth 100000 in
theorem cm_X9_clearText (l : Launch) {X : XT} (hX : XD X) (g : Nat) (σ : Mem) (o : Nat) (hL : L9 o) {r : Int32} {σ' : Mem} (h : fX9_clearText g σ o = some (r, σ')) : Met l yX9_clearText wsX9_clearText rmX9_clearText (va_Pc [.ref (xad X o)] (WW X σ)) (QI X r σ') 0 0 (XA X) := by
  refine met_x (M := mX9_clearText) (lv := [(0, .ref (xad X o))]) hX (by decide) rfl rfl (Nat.le_of_ble_eq_true rfl) rfl ?_
  unfold fX9_clearText at h
  refine k_aload_n (q := 0) dX9_clearText_0 rfl rfl ?_
  refine kg_9 (v := .int (σ o 6)) hL.1 inX9_clearText_9 6 (by decide) (List.mem_of_getElem? (i := 1) rfl) rfl dX9_clearText_1 ?_
  refine k_istore_n (lv' := [(1, .int (σ o 6)), (0, .ref (xad X o))]) dX9_clearText_4 rfl (Nat.le_of_ble_eq_true rfl) rfl ?_
  refine k_aload_n (q := 1) dX9_clearText_5 rfl rfl ?_
  refine k_iconst (v := (nI 0)) dX9_clearText_6 (by decide) ?_
  refine kp_9_6 hL.1 inX9_clearText_9 (List.mem_of_getElem? (i := 1) rfl) dX9_clearText_7 h (fun σ1 h => ?_)
  refine k_iload_n (q := 0) dX9_clearText_10 rfl rfl ?_
  exact k_iret rfl dX9_clearText_11 h
abbrev rmX9_isHere : Room := { frames := 1, cells := 0, slots := 0, locals := 22 }
abbrev mX9_isHere : MT := (rmX9_isHere, wsX9_isHere, cX9_isHere, 3, RX9, some .boolean)
theorem hd_X9_isHere : yX9_isHere.cls = RX9 ∧ yX9_isHere.cls ≠ "java/lang/invoke/MethodHandle" ∧ yX9_isHere.cls ≠ "java/lang/invoke/VarHandle" ∧ (parseMethodDescriptor yX9_isHere.desc).map (fun d => d.parameters.length) = some 2 := by decide +kernel
theorem inX9_isHere_9 : ∀ w ∈ wsX90, w ∈ wsX9_isHere := fun w h => List.mem_cons_of_mem _ (List.mem_append_right _ h)
set_option maxHeartbeats 4000000 in
set_option maxRecDepth 100000 in
theorem cm_X9_isHere (l : Launch) {X : XT} (hX : XD X) (g : Nat) (σ : Mem) (o : Nat) (hL : L9 o) (p1 : Int32) (p2 : Int32) {r : Int32} (h : fX9_isHere g σ o p1 p2 = some r) : Met l yX9_isHere wsX9_isHere rmX9_isHere (va_Pc [.ref (xad X o), .int p1, .int p2] (WW X σ)) (QI X r σ) 0 0 (XA X) := by
  refine met_x (M := mX9_isHere) (lv := [(0, .ref (xad X o)), (1, .int p1), (2, .int p2)]) hX (by decide) rfl rfl (Nat.le_of_ble_eq_true rfl) rfl ?_
  unfold fX9_isHere at h
  refine k_aload_n (q := 0) dX9_isHere_0 rfl rfl ?_
  refine kg_9 (v := .int (σ o 7)) hL.1 inX9_isHere_9 7 (by decide) (List.mem_of_getElem? (i := 1) rfl) rfl dX9_isHere_1 ?_
  refine k_aload_n (q := 0) dX9_isHere_4 rfl rfl ?_
  refine kg_9 (v := .int (σ o 6)) hL.1 inX9_isHere_9 6 (by decide) (List.mem_of_getElem? (i := 2) rfl) rfl dX9_isHere_5 ?_
  refine k_icmp_ge (tgt := 32) dX9_isHere_8 (by decide) h (fun h => ?_) (fun h => ?_)
  · refine k_iconst (v := (nI 0)) dX9_isHere_32 (by decide) ?_
    exact k_zretR rfl dX9_isHere_33 rfl h
  · refine k_aload_n (q := 0) dX9_isHere_11 rfl rfl ?_
    refine kg_9 (v := .ref (xad X (o + 4))) hL.1 inX9_isHere_9 5 (by decide) (List.mem_of_getElem? (i := 3) rfl) rfl dX9_isHere_12 ?_
    refine k_aload_n (q := 0) dX9_isHere_15 rfl rfl ?_
    refine kg_9 (v := .int (σ o 7)) hL.1 inX9_isHere_9 7 (by decide) (List.mem_of_getElem? (i := 1) rfl) rfl dX9_isHere_16 ?_
    refine k_iald (n := 60) hL.2.2.2.2 dX9_isHere_19 h (fun h => ?_)
    refine k_iload_n (q := 1) dX9_isHere_20 rfl rfl ?_
    refine k_iload_n (q := 2) dX9_isHere_21 rfl rfl ?_
    obtain ⟨r2, hc1, h⟩ := bnd_e h
    refine k_cs (As := [.int (σ (o + 4) (σ o 7).toNatClampNeg), .int p1, .int p2]) 3 (cm_X9_isIn l hX g σ (σ (o + 4) (σ o 7).toNatClampNeg) p1 p2 hc1) gX9_isHere_X9_isIn rfl ⟨rfl, rfl⟩ hd_X9_isIn ⟨Nat.le_of_ble_eq_true rfl, Nat.le_of_ble_eq_true rfl⟩ ⟨Nat.le_refl _, Nat.le_refl _⟩ rfl (Nat.le_of_ble_eq_true rfl) rfl dX9_isHere_22 ?_
    refine k_if_eq (tgt := 32) dX9_isHere_25 (by decide) h (fun h => ?_) (fun h => ?_)
    · refine k_iconst (v := (nI 0)) dX9_isHere_32 (by decide) ?_
      exact k_zretR rfl dX9_isHere_33 rfl h
    · refine k_iconst (v := (nI 1)) dX9_isHere_28 (by decide) ?_
      refine k_goto (tgt := 33) dX9_isHere_29 (by decide) ?_
      exact k_zretR rfl dX9_isHere_33 rfl h
abbrev rmX9_passesSign : Room := { frames := 2, cells := 0, slots := 0, locals := 44 }
abbrev mX9_passesSign : MT := (rmX9_passesSign, wsX9_passesSign, cX9_passesSign, 3, RX9, some .boolean)
theorem hd_X9_passesSign : yX9_passesSign.cls = RX9 ∧ yX9_passesSign.cls ≠ "java/lang/invoke/MethodHandle" ∧ yX9_passesSign.cls ≠ "java/lang/invoke/VarHandle" ∧ (parseMethodDescriptor yX9_passesSign.desc).map (fun d => d.parameters.length) = some 1 := by decide +kernel
theorem inX9_passesSign_9 : ∀ w ∈ wsX90, w ∈ wsX9_passesSign := fun w h => List.mem_cons_of_mem _ (List.mem_append_right _ h)
set_option maxHeartbeats 4000000 in
set_option maxRecDepth 100000 in
theorem cm_X9_passesSign (l : Launch) {X : XT} (hX : XD X) (g : Nat) (σ : Mem) (o : Nat) (hL : L9 o) (p1 : Int32) {r : Int32} {σ' : Mem} (h : fX9_passesSign g σ o p1 = some (r, σ')) : Met l yX9_passesSign wsX9_passesSign rmX9_passesSign (va_Pc [.ref (xad X o), .int p1] (WW X σ)) (QI X r σ') 0 0 (XA X) := by
  refine met_x (M := mX9_passesSign) (lv := [(0, .ref (xad X o)), (1, .int p1)]) hX (by decide) rfl rfl (Nat.le_of_ble_eq_true rfl) rfl ?_
  unfold fX9_passesSign at h
  refine k_aload_n (q := 0) dX9_passesSign_0 rfl rfl ?_
  refine k_iload_n (q := 1) dX9_passesSign_1 rfl rfl ?_
  refine k_iload_n (q := 1) dX9_passesSign_2 rfl rfl ?_
  obtain ⟨r2, hc1, h⟩ := bnd_e h
  refine k_cv (q := (RX9, TX9, 12)) (As := [.int p1, .int p1]) 2 (cm_X9_isHere l hX g σ o hL p1 p1 hc1) gX9_passesSign_X9_isHere rfl ⟨rfl, rfl⟩ hd_X9_isHere ⟨Nat.le_of_ble_eq_true rfl, Nat.le_of_ble_eq_true rfl⟩ ⟨Nat.le_refl _, Nat.le_refl _⟩ (lay_lt hL.1 (by decide)) (ce_of hL.1) rfl rfl (Nat.le_of_ble_eq_true rfl) rfl dX9_passesSign_3 ?_
  refine k_istore_n (lv' := [(2, .int r2), (0, .ref (xad X o)), (1, .int p1)]) dX9_passesSign_6 rfl (Nat.le_of_ble_eq_true rfl) rfl ?_
  refine k_aload_n (q := 1) dX9_passesSign_7 rfl rfl ?_
  refine k_dup dX9_passesSign_8 rfl ?_
  refine kg_9 (v := .int (σ o 7)) hL.1 inX9_passesSign_9 7 (by decide) (List.mem_of_getElem? (i := 1) rfl) rfl dX9_passesSign_9 ?_
  refine k_iload_n (q := 0) dX9_passesSign_12 rfl rfl ?_
  have key : WG X l mX9_passesSign (fun _ _ => True) 0 0 (QM X (QI X r σ')) 21 σ [(2, .int r2), (0, .ref (xad X o)), (1, .int p1)] [.int (if r2 = 0 then (nI 0) else (nI 1)), .int (σ o 7), .ref (xad X o)] := by
    refine k_iadd dX9_passesSign_21 ?_
    refine kp_9_7 hL.1 inX9_passesSign_9 (List.mem_of_getElem? (i := 1) rfl) dX9_passesSign_22 h (fun σ3 h => ?_)
    refine k_iload_n (q := 0) dX9_passesSign_25 rfl rfl ?_
    exact k_zret rfl dX9_passesSign_26 (isZ_n (chk_e h).1) (chk_e h).2
  refine k_ifc_eq (tgt := 20) dX9_passesSign_13 (by decide) (fun hq => ?_) (fun hq => ?_)
  · rw [if_pos hq] at key
    refine k_iconst (v := (nI 0)) dX9_passesSign_20 (by decide) ?_
    exact key
  · rw [if_neg hq] at key
    refine k_iconst (v := (nI 1)) dX9_passesSign_16 (by decide) ?_
    refine k_goto (tgt := 21) dX9_passesSign_17 (by decide) ?_
    exact key
abbrev rmX9_passesNumber : Room := { frames := 2, cells := 0, slots := 0, locals := 44 }
abbrev mX9_passesNumber : MT := (rmX9_passesNumber, wsX9_passesNumber, cX9_passesNumber, 3, RX9, some .boolean)
theorem hd_X9_passesNumber : yX9_passesNumber.cls = RX9 ∧ yX9_passesNumber.cls ≠ "java/lang/invoke/MethodHandle" ∧ yX9_passesNumber.cls ≠ "java/lang/invoke/VarHandle" ∧ (parseMethodDescriptor yX9_passesNumber.desc).map (fun d => d.parameters.length) = some 0 := by decide +kernel
theorem inX9_passesNumber_9 : ∀ w ∈ wsX90, w ∈ wsX9_passesNumber := fun w h => List.mem_cons_of_mem _ (List.mem_append_right _ h)
set_option maxHeartbeats 4000000 in
set_option maxRecDepth 100000 in
theorem wX9_passesNumber_38 (l : Launch) {X : XT} (hX : XD X) (g : Nat) (o : Nat) (hL : L9 o) {r : Int32} {σ' : Mem} : ∀ (n : Nat) (σ : Mem) (x1 : Int32) (x2 : Int32), fX9_passesNumber_38 g o n σ x1 x2 = some (r, σ') → WG X l mX9_passesNumber (fun _ _ => True) 0 0 (QM X (QI X r σ')) 38 σ [(0, .ref (xad X o)), (1, .int x1), (2, .int x2)] [] := by
  intro n
  induction n with
  | zero => intro σ x1 x2 h; exact nomatch (show (none : Option _) = some _ from h)
  | succ n ih =>
    intro σ x1 x2 h
    rw [fX9_passesNumber_38] at h
    refine k_iload_n (q := 2) dX9_passesNumber_38 rfl rfl ?_
    refine k_iconst (v := (nI 3)) dX9_passesNumber_39 (by decide) ?_
    refine k_icmp_ge (tgt := 92) dX9_passesNumber_40 (by decide) h (fun h => ?_) (fun h => ?_)
    · refine k_aload_n (q := 0) dX9_passesNumber_92 rfl rfl ?_
      refine k_iload_n (q := 1) dX9_passesNumber_93 rfl rfl ?_
      refine kp_9_9 hL.1 inX9_passesNumber_9 (List.mem_of_getElem? (i := 3) rfl) dX9_passesNumber_94 h (fun σ4 h => ?_)
      refine k_iconst (v := (nI 1)) dX9_passesNumber_97 (by decide) ?_
      exact k_zret rfl dX9_passesNumber_98 rfl h
    · refine k_iload_n (q := 1) dX9_passesNumber_43 rfl rfl ?_
      refine k_if_le (tgt := 92) dX9_passesNumber_44 (by decide) h (fun h => ?_) (fun h => ?_)
      · refine k_aload_n (q := 0) dX9_passesNumber_92 rfl rfl ?_
        refine k_iload_n (q := 1) dX9_passesNumber_93 rfl rfl ?_
        refine kp_9_9 hL.1 inX9_passesNumber_9 (List.mem_of_getElem? (i := 3) rfl) dX9_passesNumber_94 h (fun σ5 h => ?_)
        refine k_iconst (v := (nI 1)) dX9_passesNumber_97 (by decide) ?_
        exact k_zret rfl dX9_passesNumber_98 rfl h
      · refine k_aload_n (q := 0) dX9_passesNumber_47 rfl rfl ?_
        refine k_bipush (v := (nI 48)) dX9_passesNumber_48 (by decide) ?_
        refine k_bipush (v := (nI 57)) dX9_passesNumber_50 (by decide) ?_
        obtain ⟨r7, hc6, h⟩ := bnd_e h
        refine k_cv (q := (RX9, TX9, 12)) (As := [.int (nI 48), .int (nI 57)]) 2 (cm_X9_isHere l hX g σ o hL (nI 48) (nI 57) hc6) gX9_passesNumber_X9_isHere rfl ⟨rfl, rfl⟩ hd_X9_isHere ⟨Nat.le_of_ble_eq_true rfl, Nat.le_of_ble_eq_true rfl⟩ ⟨Nat.le_refl _, Nat.le_refl _⟩ (lay_lt hL.1 (by decide)) (ce_of hL.1) rfl rfl (Nat.le_of_ble_eq_true rfl) rfl dX9_passesNumber_52 ?_
        refine k_if_eq (tgt := 92) dX9_passesNumber_55 (by decide) h (fun h => ?_) (fun h => ?_)
        · refine k_aload_n (q := 0) dX9_passesNumber_92 rfl rfl ?_
          refine k_iload_n (q := 1) dX9_passesNumber_93 rfl rfl ?_
          refine kp_9_9 hL.1 inX9_passesNumber_9 (List.mem_of_getElem? (i := 3) rfl) dX9_passesNumber_94 h (fun σ8 h => ?_)
          refine k_iconst (v := (nI 1)) dX9_passesNumber_97 (by decide) ?_
          exact k_zret rfl dX9_passesNumber_98 rfl h
        · refine k_bipush (v := (nI 10)) dX9_passesNumber_58 (by decide) ?_
          refine k_iload_n (q := 1) dX9_passesNumber_60 rfl rfl ?_
          refine k_imul dX9_passesNumber_61 ?_
          refine k_aload_n (q := 0) dX9_passesNumber_62 rfl rfl ?_
          refine kg_9 (v := .ref (xad X (o + 4))) hL.1 inX9_passesNumber_9 5 (by decide) (List.mem_of_getElem? (i := 1) rfl) rfl dX9_passesNumber_63 ?_
          refine k_aload_n (q := 0) dX9_passesNumber_66 rfl rfl ?_
          refine kg_9 (v := .int (σ o 7)) hL.1 inX9_passesNumber_9 7 (by decide) (List.mem_of_getElem? (i := 2) rfl) rfl dX9_passesNumber_67 ?_
          refine k_iald (n := 60) hL.2.2.2.2 dX9_passesNumber_70 h (fun h => ?_)
          refine k_iadd dX9_passesNumber_71 ?_
          refine k_bipush (v := (nI 48)) dX9_passesNumber_72 (by decide) ?_
          refine k_isub dX9_passesNumber_74 ?_
          refine k_istore_n (lv' := [(1, .int ((((nI 10) * x1) + (σ (o + 4) (σ o 7).toNatClampNeg)) - (nI 48))), (0, .ref (xad X o)), (2, .int x2)]) dX9_passesNumber_75 rfl (Nat.le_of_ble_eq_true rfl) rfl ?_
          refine k_aload_n (q := 1) dX9_passesNumber_76 rfl rfl ?_
          refine k_dup dX9_passesNumber_77 rfl ?_
          refine kg_9 (v := .int (σ o 7)) hL.1 inX9_passesNumber_9 7 (by decide) (List.mem_of_getElem? (i := 2) rfl) rfl dX9_passesNumber_78 ?_
          refine k_iconst (v := (nI 1)) dX9_passesNumber_81 (by decide) ?_
          refine k_iadd dX9_passesNumber_82 ?_
          refine kp_9_7 hL.1 inX9_passesNumber_9 (List.mem_of_getElem? (i := 2) rfl) dX9_passesNumber_83 h (fun σ9 h => ?_)
          refine k_iinc (q := 2) (v := (x2 + (nI 1))) (lv' := [(2, .int (x2 + (nI 1))), (1, .int ((((nI 10) * x1) + (σ (o + 4) (σ o 7).toNatClampNeg)) - (nI 48))), (0, .ref (xad X o))]) dX9_passesNumber_86 rfl rfl (Nat.le_of_ble_eq_true rfl) rfl ?_
          refine k_goto (tgt := 38) dX9_passesNumber_89 (by decide) ?_
          refine k_sub (ks' := [2, 1, 0]) rfl ?_
          exact ih σ9 ((((nI 10) * x1) + (σ (o + 4) (σ o 7).toNatClampNeg)) - (nI 48)) (x2 + (nI 1)) h
set_option maxHeartbeats 4000000 in
set_option maxRecDepth 100000 in
theorem cm_X9_passesNumber (l : Launch) {X : XT} (hX : XD X) (g : Nat) (σ : Mem) (o : Nat) (hL : L9 o) {r : Int32} {σ' : Mem} (h : fX9_passesNumber g σ o = some (r, σ')) : Met l yX9_passesNumber wsX9_passesNumber rmX9_passesNumber (va_Pc [.ref (xad X o)] (WW X σ)) (QI X r σ') 0 0 (XA X) := by
  refine met_x (M := mX9_passesNumber) (lv := [(0, .ref (xad X o))]) hX (by decide) rfl rfl (Nat.le_of_ble_eq_true rfl) rfl ?_
  unfold fX9_passesNumber at h
  refine k_aload_n (q := 0) dX9_passesNumber_0 rfl rfl ?_
  refine k_bipush (v := (nI 48)) dX9_passesNumber_1 (by decide) ?_
  refine k_bipush (v := (nI 57)) dX9_passesNumber_3 (by decide) ?_
  obtain ⟨r2, hc1, h⟩ := bnd_e h
  refine k_cv (q := (RX9, TX9, 12)) (As := [.int (nI 48), .int (nI 57)]) 2 (cm_X9_isHere l hX g σ o hL (nI 48) (nI 57) hc1) gX9_passesNumber_X9_isHere rfl ⟨rfl, rfl⟩ hd_X9_isHere ⟨Nat.le_of_ble_eq_true rfl, Nat.le_of_ble_eq_true rfl⟩ ⟨Nat.le_refl _, Nat.le_refl _⟩ (lay_lt hL.1 (by decide)) (ce_of hL.1) rfl rfl (Nat.le_of_ble_eq_true rfl) rfl dX9_passesNumber_5 ?_
  refine k_if_ne (tgt := 13) dX9_passesNumber_8 (by decide) h (fun h => ?_) (fun h => ?_)
  · refine k_aload_n (q := 0) dX9_passesNumber_13 rfl rfl ?_
    refine kg_9 (v := .ref (xad X (o + 4))) hL.1 inX9_passesNumber_9 5 (by decide) (List.mem_of_getElem? (i := 1) rfl) rfl dX9_passesNumber_14 ?_
    refine k_aload_n (q := 0) dX9_passesNumber_17 rfl rfl ?_
    refine kg_9 (v := .int (σ o 7)) hL.1 inX9_passesNumber_9 7 (by decide) (List.mem_of_getElem? (i := 2) rfl) rfl dX9_passesNumber_18 ?_
    refine k_iald (n := 60) hL.2.2.2.2 dX9_passesNumber_21 h (fun h => ?_)
    refine k_bipush (v := (nI 48)) dX9_passesNumber_22 (by decide) ?_
    refine k_isub dX9_passesNumber_24 ?_
    refine k_istore_n (lv' := [(1, .int ((σ (o + 4) (σ o 7).toNatClampNeg) - (nI 48))), (0, .ref (xad X o))]) dX9_passesNumber_25 rfl (Nat.le_of_ble_eq_true rfl) rfl ?_
    refine k_aload_n (q := 1) dX9_passesNumber_26 rfl rfl ?_
    refine k_dup dX9_passesNumber_27 rfl ?_
    refine kg_9 (v := .int (σ o 7)) hL.1 inX9_passesNumber_9 7 (by decide) (List.mem_of_getElem? (i := 2) rfl) rfl dX9_passesNumber_28 ?_
    refine k_iconst (v := (nI 1)) dX9_passesNumber_31 (by decide) ?_
    refine k_iadd dX9_passesNumber_32 ?_
    refine kp_9_7 hL.1 inX9_passesNumber_9 (List.mem_of_getElem? (i := 2) rfl) dX9_passesNumber_33 h (fun σ3 h => ?_)
    refine k_iconst (v := (nI 1)) dX9_passesNumber_36 (by decide) ?_
    refine k_istore_n (lv' := [(2, .int (nI 1)), (1, .int ((σ (o + 4) (σ o 7).toNatClampNeg) - (nI 48))), (0, .ref (xad X o))]) dX9_passesNumber_37 rfl (Nat.le_of_ble_eq_true rfl) rfl ?_
    refine k_sub (ks' := [2, 1, 0]) rfl ?_
    exact wX9_passesNumber_38 l hX g o hL g σ3 ((σ (o + 4) (σ o 7).toNatClampNeg) - (nI 48)) (nI 1) h
  · refine k_iconst (v := (nI 0)) dX9_passesNumber_11 (by decide) ?_
    exact k_zret rfl dX9_passesNumber_12 rfl h
abbrev rmX9_passesEdit : Room := { frames := 3, cells := 0, slots := 0, locals := 66 }
abbrev mX9_passesEdit : MT := (rmX9_passesEdit, wsX9_passesEdit, cX9_passesEdit, 1, RX9, some .boolean)
theorem hd_X9_passesEdit : yX9_passesEdit.cls = RX9 ∧ yX9_passesEdit.cls ≠ "java/lang/invoke/MethodHandle" ∧ yX9_passesEdit.cls ≠ "java/lang/invoke/VarHandle" ∧ (parseMethodDescriptor yX9_passesEdit.desc).map (fun d => d.parameters.length) = some 0 := by decide +kernel
theorem inX9_passesEdit_9 : ∀ w ∈ wsX90, w ∈ wsX9_passesEdit := fun w h => List.mem_cons_of_mem _ (List.mem_append_right _ h)
set_option maxHeartbeats 4000000 in
set_option maxRecDepth 100000 in
theorem wX9_passesEdit_120 (l : Launch) {X : XT} (hX : XD X) (g : Nat) (o : Nat) (hL : L9 o) {r : Int32} {σ' : Mem} (σ : Mem) (h : fX9_passesEdit_120 g o σ = some (r, σ')) : WG X l mX9_passesEdit (fun _ _ => True) 0 0 (QM X (QI X r σ')) 120 σ [(0, .ref (xad X o))] [] := by
  unfold fX9_passesEdit_120 at h
  refine k_aload_n (q := 0) dX9_passesEdit_120 rfl rfl ?_
  refine k_bipush (v := (nI 44)) dX9_passesEdit_121 (by decide) ?_
  obtain ⟨r8, σ9, hc7, h⟩ := bnd2_e h
  refine k_cv (q := (RX9, TX9, 12)) (As := [.int (nI 44)]) 1 (cm_X9_passesSign l hX g σ o hL (nI 44) hc7) gX9_passesEdit_X9_passesSign rfl ⟨rfl, rfl⟩ hd_X9_passesSign ⟨Nat.le_of_ble_eq_true rfl, Nat.le_of_ble_eq_true rfl⟩ ⟨Nat.le_refl _, Nat.le_refl _⟩ (lay_lt hL.1 (by decide)) (ce_of hL.1) rfl rfl (Nat.le_of_ble_eq_true rfl) rfl dX9_passesEdit_123 ?_
  refine k_if_eq (tgt := 136) dX9_passesEdit_126 (by decide) h (fun h => ?_) (fun h => ?_)
  · refine k_iconst (v := (nI 0)) dX9_passesEdit_136 (by decide) ?_
    exact k_zret rfl dX9_passesEdit_137 rfl h
  · refine k_aload_n (q := 0) dX9_passesEdit_129 rfl rfl ?_
    obtain ⟨r11, σ12, hc10, h⟩ := bnd2_e h
    refine k_cv (q := (RX9, TX9, 12)) (As := []) 0 (cm_X9_passesNumber l hX g σ9 o hL hc10) gX9_passesEdit_X9_passesNumber rfl ⟨rfl, rfl⟩ hd_X9_passesNumber ⟨Nat.le_of_ble_eq_true rfl, Nat.le_of_ble_eq_true rfl⟩ ⟨Nat.le_refl _, Nat.le_refl _⟩ (lay_lt hL.1 (by decide)) (ce_of hL.1) rfl rfl (Nat.le_of_ble_eq_true rfl) rfl dX9_passesEdit_130 ?_
    refine k_if_ne (tgt := 138) dX9_passesEdit_133 (by decide) h (fun h => ?_) (fun h => ?_)
    · refine k_aload_n (q := 0) dX9_passesEdit_138 rfl rfl ?_
      refine k_aload_n (q := 0) dX9_passesEdit_139 rfl rfl ?_
      refine kg_9 (v := .int (σ12 o 9)) hL.1 inX9_passesEdit_9 9 (by decide) (List.mem_of_getElem? (i := 5) rfl) rfl dX9_passesEdit_140 ?_
      refine kp_9_11 hL.1 inX9_passesEdit_9 (List.mem_of_getElem? (i := 7) rfl) dX9_passesEdit_143 h (fun σ13 h => ?_)
      refine k_iconst (v := (nI 1)) dX9_passesEdit_146 (by decide) ?_
      exact k_zret rfl dX9_passesEdit_147 rfl h
    · refine k_iconst (v := (nI 0)) dX9_passesEdit_136 (by decide) ?_
      exact k_zret rfl dX9_passesEdit_137 rfl h
set_option maxHeartbeats 4000000 in
set_option maxRecDepth 100000 in
theorem wX9_passesEdit_75 (l : Launch) {X : XT} (hX : XD X) (g : Nat) (o : Nat) (hL : L9 o) {r : Int32} {σ' : Mem} (σ : Mem) (h : fX9_passesEdit_75 g o σ = some (r, σ')) : WG X l mX9_passesEdit (fun _ _ => True) 0 0 (QM X (QI X r σ')) 75 σ [(0, .ref (xad X o))] [] := by
  unfold fX9_passesEdit_75 at h
  refine k_aload_n (q := 0) dX9_passesEdit_75 rfl rfl ?_
  refine k_dup dX9_passesEdit_76 rfl ?_
  refine kg_9 (v := .int (σ o 7)) hL.1 inX9_passesEdit_9 7 (by decide) (List.mem_of_getElem? (i := 1) rfl) rfl dX9_passesEdit_77 ?_
  refine k_iconst (v := (nI 1)) dX9_passesEdit_80 (by decide) ?_
  refine k_iadd dX9_passesEdit_81 ?_
  refine kp_9_7 hL.1 inX9_passesEdit_9 (List.mem_of_getElem? (i := 1) rfl) dX9_passesEdit_82 h (fun σ2 h => ?_)
  refine k_aload_n (q := 0) dX9_passesEdit_85 rfl rfl ?_
  obtain ⟨r4, σ5, hc3, h⟩ := bnd2_e h
  refine k_cv (q := (RX9, TX9, 12)) (As := []) 0 (cm_X9_passesNumber l hX g σ2 o hL hc3) gX9_passesEdit_X9_passesNumber rfl ⟨rfl, rfl⟩ hd_X9_passesNumber ⟨Nat.le_of_ble_eq_true rfl, Nat.le_of_ble_eq_true rfl⟩ ⟨Nat.le_refl _, Nat.le_refl _⟩ (lay_lt hL.1 (by decide)) (ce_of hL.1) rfl rfl (Nat.le_of_ble_eq_true rfl) rfl dX9_passesEdit_86 ?_
  refine k_if_ne (tgt := 94) dX9_passesEdit_89 (by decide) h (fun h => ?_) (fun h => ?_)
  · refine k_aload_n (q := 0) dX9_passesEdit_94 rfl rfl ?_
    refine k_aload_n (q := 0) dX9_passesEdit_95 rfl rfl ?_
    refine kg_9 (v := .int (σ5 o 9)) hL.1 inX9_passesEdit_9 9 (by decide) (List.mem_of_getElem? (i := 5) rfl) rfl dX9_passesEdit_96 ?_
    refine kp_9_10 hL.1 inX9_passesEdit_9 (List.mem_of_getElem? (i := 6) rfl) dX9_passesEdit_99 h (fun σ6 h => ?_)
    refine k_aload_n (q := 0) dX9_passesEdit_102 rfl rfl ?_
    refine kg_9 (v := .int (σ6 o 8)) hL.1 inX9_passesEdit_9 8 (by decide) (List.mem_of_getElem? (i := 4) rfl) rfl dX9_passesEdit_103 ?_
    refine k_bipush (v := (nI 105)) dX9_passesEdit_106 (by decide) ?_
    refine k_icmp_eq (tgt := 120) dX9_passesEdit_108 (by decide) h (fun h => ?_) (fun h => ?_)
    · exact wX9_passesEdit_120 l hX g o hL σ6 h
    · refine k_aload_n (q := 0) dX9_passesEdit_111 rfl rfl ?_
      refine kg_9 (v := .int (σ6 o 8)) hL.1 inX9_passesEdit_9 8 (by decide) (List.mem_of_getElem? (i := 4) rfl) rfl dX9_passesEdit_112 ?_
      refine k_bipush (v := (nI 109)) dX9_passesEdit_115 (by decide) ?_
      refine k_icmp_ne (tgt := 146) dX9_passesEdit_117 (by decide) h (fun h => ?_) (fun h => ?_)
      · refine k_iconst (v := (nI 1)) dX9_passesEdit_146 (by decide) ?_
        exact k_zret rfl dX9_passesEdit_147 rfl h
      · exact wX9_passesEdit_120 l hX g o hL σ6 h
  · refine k_iconst (v := (nI 0)) dX9_passesEdit_92 (by decide) ?_
    exact k_zret rfl dX9_passesEdit_93 rfl h
set_option maxHeartbeats 4000000 in
set_option maxRecDepth 100000 in
theorem cm_X9_passesEdit (l : Launch) {X : XT} (hX : XD X) (g : Nat) (σ : Mem) (o : Nat) (hL : L9 o) {r : Int32} {σ' : Mem} (h : fX9_passesEdit g σ o = some (r, σ')) : Met l yX9_passesEdit wsX9_passesEdit rmX9_passesEdit (va_Pc [.ref (xad X o)] (WW X σ)) (QI X r σ') 0 0 (XA X) := by
  refine met_x (M := mX9_passesEdit) (lv := [(0, .ref (xad X o))]) hX (by decide) rfl rfl (Nat.le_of_ble_eq_true rfl) rfl ?_
  unfold fX9_passesEdit at h
  refine k_aload_n (q := 0) dX9_passesEdit_0 rfl rfl ?_
  refine k_aload_n (q := 0) dX9_passesEdit_1 rfl rfl ?_
  refine kg_9 (v := .int (σ o 7)) hL.1 inX9_passesEdit_9 7 (by decide) (List.mem_of_getElem? (i := 1) rfl) rfl dX9_passesEdit_2 ?_
  refine k_aload_n (q := 0) dX9_passesEdit_5 rfl rfl ?_
  refine kg_9 (v := .int (σ o 6)) hL.1 inX9_passesEdit_9 6 (by decide) (List.mem_of_getElem? (i := 2) rfl) rfl dX9_passesEdit_6 ?_
  refine k_icmp_ge (tgt := 24) dX9_passesEdit_9 (by decide) h (fun h => ?_) (fun h => ?_)
  · refine k_iconst (v := (nI 0)) dX9_passesEdit_24 (by decide) ?_
    refine kp_9_8 hL.1 inX9_passesEdit_9 (List.mem_of_getElem? (i := 4) rfl) dX9_passesEdit_25 h (fun σ1 h => ?_)
    refine k_aload_n (q := 0) dX9_passesEdit_28 rfl rfl ?_
    refine kg_9 (v := .int (σ1 o 8)) hL.1 inX9_passesEdit_9 8 (by decide) (List.mem_of_getElem? (i := 4) rfl) rfl dX9_passesEdit_29 ?_
    refine k_bipush (v := (nI 99)) dX9_passesEdit_32 (by decide) ?_
    refine k_icmp_eq (tgt := 75) dX9_passesEdit_34 (by decide) h (fun h => ?_) (fun h => ?_)
    · exact wX9_passesEdit_75 l hX g o hL σ1 h
    · refine k_aload_n (q := 0) dX9_passesEdit_37 rfl rfl ?_
      refine kg_9 (v := .int (σ1 o 8)) hL.1 inX9_passesEdit_9 8 (by decide) (List.mem_of_getElem? (i := 4) rfl) rfl dX9_passesEdit_38 ?_
      refine k_bipush (v := (nI 106)) dX9_passesEdit_41 (by decide) ?_
      refine k_icmp_eq (tgt := 75) dX9_passesEdit_43 (by decide) h (fun h => ?_) (fun h => ?_)
      · exact wX9_passesEdit_75 l hX g o hL σ1 h
      · refine k_aload_n (q := 0) dX9_passesEdit_46 rfl rfl ?_
        refine kg_9 (v := .int (σ1 o 8)) hL.1 inX9_passesEdit_9 8 (by decide) (List.mem_of_getElem? (i := 4) rfl) rfl dX9_passesEdit_47 ?_
        refine k_bipush (v := (nI 111)) dX9_passesEdit_50 (by decide) ?_
        refine k_icmp_eq (tgt := 75) dX9_passesEdit_52 (by decide) h (fun h => ?_) (fun h => ?_)
        · exact wX9_passesEdit_75 l hX g o hL σ1 h
        · refine k_aload_n (q := 0) dX9_passesEdit_55 rfl rfl ?_
          refine kg_9 (v := .int (σ1 o 8)) hL.1 inX9_passesEdit_9 8 (by decide) (List.mem_of_getElem? (i := 4) rfl) rfl dX9_passesEdit_56 ?_
          refine k_bipush (v := (nI 105)) dX9_passesEdit_59 (by decide) ?_
          refine k_icmp_eq (tgt := 75) dX9_passesEdit_61 (by decide) h (fun h => ?_) (fun h => ?_)
          · exact wX9_passesEdit_75 l hX g o hL σ1 h
          · refine k_aload_n (q := 0) dX9_passesEdit_64 rfl rfl ?_
            refine kg_9 (v := .int (σ1 o 8)) hL.1 inX9_passesEdit_9 8 (by decide) (List.mem_of_getElem? (i := 4) rfl) rfl dX9_passesEdit_65 ?_
            refine k_bipush (v := (nI 109)) dX9_passesEdit_68 (by decide) ?_
            refine k_icmp_eq (tgt := 75) dX9_passesEdit_70 (by decide) h (fun h => ?_) (fun h => ?_)
            · exact wX9_passesEdit_75 l hX g o hL σ1 h
            · refine k_iconst (v := (nI 0)) dX9_passesEdit_73 (by decide) ?_
              exact k_zret rfl dX9_passesEdit_74 rfl h
  · refine k_aload_n (q := 0) dX9_passesEdit_12 rfl rfl ?_
    refine kg_9 (v := .ref (xad X (o + 4))) hL.1 inX9_passesEdit_9 5 (by decide) (List.mem_of_getElem? (i := 3) rfl) rfl dX9_passesEdit_13 ?_
    refine k_aload_n (q := 0) dX9_passesEdit_16 rfl rfl ?_
    refine kg_9 (v := .int (σ o 7)) hL.1 inX9_passesEdit_9 7 (by decide) (List.mem_of_getElem? (i := 1) rfl) rfl dX9_passesEdit_17 ?_
    refine k_iald (n := 60) hL.2.2.2.2 dX9_passesEdit_20 h (fun h => ?_)
    refine k_goto (tgt := 25) dX9_passesEdit_21 (by decide) ?_
    refine kp_9_8 hL.1 inX9_passesEdit_9 (List.mem_of_getElem? (i := 4) rfl) dX9_passesEdit_25 h (fun σ14 h => ?_)
    refine k_aload_n (q := 0) dX9_passesEdit_28 rfl rfl ?_
    refine kg_9 (v := .int (σ14 o 8)) hL.1 inX9_passesEdit_9 8 (by decide) (List.mem_of_getElem? (i := 4) rfl) rfl dX9_passesEdit_29 ?_
    refine k_bipush (v := (nI 99)) dX9_passesEdit_32 (by decide) ?_
    refine k_icmp_eq (tgt := 75) dX9_passesEdit_34 (by decide) h (fun h => ?_) (fun h => ?_)
    · exact wX9_passesEdit_75 l hX g o hL σ14 h
    · refine k_aload_n (q := 0) dX9_passesEdit_37 rfl rfl ?_
      refine kg_9 (v := .int (σ14 o 8)) hL.1 inX9_passesEdit_9 8 (by decide) (List.mem_of_getElem? (i := 4) rfl) rfl dX9_passesEdit_38 ?_
      refine k_bipush (v := (nI 106)) dX9_passesEdit_41 (by decide) ?_
      refine k_icmp_eq (tgt := 75) dX9_passesEdit_43 (by decide) h (fun h => ?_) (fun h => ?_)
      · exact wX9_passesEdit_75 l hX g o hL σ14 h
      · refine k_aload_n (q := 0) dX9_passesEdit_46 rfl rfl ?_
        refine kg_9 (v := .int (σ14 o 8)) hL.1 inX9_passesEdit_9 8 (by decide) (List.mem_of_getElem? (i := 4) rfl) rfl dX9_passesEdit_47 ?_
        refine k_bipush (v := (nI 111)) dX9_passesEdit_50 (by decide) ?_
        refine k_icmp_eq (tgt := 75) dX9_passesEdit_52 (by decide) h (fun h => ?_) (fun h => ?_)
        · exact wX9_passesEdit_75 l hX g o hL σ14 h
        · refine k_aload_n (q := 0) dX9_passesEdit_55 rfl rfl ?_
          refine kg_9 (v := .int (σ14 o 8)) hL.1 inX9_passesEdit_9 8 (by decide) (List.mem_of_getElem? (i := 4) rfl) rfl dX9_passesEdit_56 ?_
          refine k_bipush (v := (nI 105)) dX9_passesEdit_59 (by decide) ?_
          refine k_icmp_eq (tgt := 75) dX9_passesEdit_61 (by decide) h (fun h => ?_) (fun h => ?_)
          · exact wX9_passesEdit_75 l hX g o hL σ14 h
          · refine k_aload_n (q := 0) dX9_passesEdit_64 rfl rfl ?_
            refine kg_9 (v := .int (σ14 o 8)) hL.1 inX9_passesEdit_9 8 (by decide) (List.mem_of_getElem? (i := 4) rfl) rfl dX9_passesEdit_65 ?_
            refine k_bipush (v := (nI 109)) dX9_passesEdit_68 (by decide) ?_
            refine k_icmp_eq (tgt := 75) dX9_passesEdit_70 (by decide) h (fun h => ?_) (fun h => ?_)
            · exact wX9_passesEdit_75 l hX g o hL σ14 h
            · refine k_iconst (v := (nI 0)) dX9_passesEdit_73 (by decide) ?_
              exact k_zret rfl dX9_passesEdit_74 rfl h
abbrev rmX9_faultOf : Room := { frames := 4, cells := 0, slots := 0, locals := 86 }
abbrev mX9_faultOf : MT := (rmX9_faultOf, wsX9_faultOf, cX9_faultOf, 1, RX9, some .int)
theorem hd_X9_faultOf : yX9_faultOf.cls = RX9 ∧ yX9_faultOf.cls ≠ "java/lang/invoke/MethodHandle" ∧ yX9_faultOf.cls ≠ "java/lang/invoke/VarHandle" ∧ (parseMethodDescriptor yX9_faultOf.desc).map (fun d => d.parameters.length) = some 0 := by decide +kernel
theorem inX9_faultOf_9 : ∀ w ∈ wsX90, w ∈ wsX9_faultOf := fun w h => List.mem_cons_of_mem _ (List.mem_append_right _ h)
set_option maxHeartbeats 4000000 in
set_option maxRecDepth 100000 in
theorem wX9_faultOf_17 (l : Launch) {X : XT} (hX : XD X) (g : Nat) (o : Nat) (hL : L9 o) {r : Int32} {σ' : Mem} : ∀ (n : Nat) (σ : Mem), fX9_faultOf_17 g o n σ = some (r, σ') → WG X l mX9_faultOf (fun _ _ => True) 0 0 (QM X (QI X r σ')) 17 σ [(0, .ref (xad X o))] [] := by
  intro n
  induction n with
  | zero => intro σ h; exact nomatch (show (none : Option _) = some _ from h)
  | succ n ih =>
    intro σ h
    rw [fX9_faultOf_17] at h
    refine k_aload_n (q := 0) dX9_faultOf_17 rfl rfl ?_
    refine kg_9 (v := .int (σ o 7)) hL.1 inX9_faultOf_9 7 (by decide) (List.mem_of_getElem? (i := 1) rfl) rfl dX9_faultOf_18 ?_
    refine k_aload_n (q := 0) dX9_faultOf_21 rfl rfl ?_
    refine kg_9 (v := .int (σ o 6)) hL.1 inX9_faultOf_9 6 (by decide) (List.mem_of_getElem? (i := 2) rfl) rfl dX9_faultOf_22 ?_
    refine k_icmp_ge (tgt := 49) dX9_faultOf_25 (by decide) h (fun h => ?_) (fun h => ?_)
    · refine k_bipush (v := (nN 5)) dX9_faultOf_49 (by decide) ?_
      exact k_iret rfl dX9_faultOf_51 h
    · refine k_aload_n (q := 0) dX9_faultOf_28 rfl rfl ?_
      refine k_bipush (v := (nI 59)) dX9_faultOf_29 (by decide) ?_
      obtain ⟨r6, σ7, hc5, h⟩ := bnd2_e h
      refine k_cv (q := (RX9, TX9, 12)) (As := [.int (nI 59)]) 1 (cm_X9_passesSign l hX g σ o hL (nI 59) hc5) gX9_faultOf_X9_passesSign rfl ⟨rfl, rfl⟩ hd_X9_passesSign ⟨Nat.le_of_ble_eq_true rfl, Nat.le_of_ble_eq_true rfl⟩ ⟨Nat.le_refl _, Nat.le_refl _⟩ (lay_lt hL.1 (by decide)) (ce_of hL.1) rfl rfl (Nat.le_of_ble_eq_true rfl) rfl dX9_faultOf_31 ?_
      refine k_if_eq (tgt := 44) dX9_faultOf_34 (by decide) h (fun h => ?_) (fun h => ?_)
      · refine k_aload_n (q := 0) dX9_faultOf_44 rfl rfl ?_
        refine kg_9 (v := .int (σ7 o 7)) hL.1 inX9_faultOf_9 7 (by decide) (List.mem_of_getElem? (i := 1) rfl) rfl dX9_faultOf_45 ?_
        exact k_iret rfl dX9_faultOf_48 h
      · refine k_aload_n (q := 0) dX9_faultOf_37 rfl rfl ?_
        obtain ⟨r9, σ10, hc8, h⟩ := bnd2_e h
        refine k_cv (q := (RX9, TX9, 12)) (As := []) 0 (cm_X9_passesEdit l hX g σ7 o hL hc8) gX9_faultOf_X9_passesEdit rfl ⟨rfl, rfl⟩ hd_X9_passesEdit ⟨Nat.le_of_ble_eq_true rfl, Nat.le_of_ble_eq_true rfl⟩ ⟨Nat.le_refl _, Nat.le_refl _⟩ (lay_lt hL.1 (by decide)) (ce_of hL.1) rfl rfl (Nat.le_of_ble_eq_true rfl) rfl dX9_faultOf_38 ?_
        refine k_if_ne (tgt := 17) dX9_faultOf_41 (by decide) h (fun h => ?_) (fun h => ?_)
        · exact ih σ10 h
        · refine k_aload_n (q := 0) dX9_faultOf_44 rfl rfl ?_
          refine kg_9 (v := .int (σ10 o 7)) hL.1 inX9_faultOf_9 7 (by decide) (List.mem_of_getElem? (i := 1) rfl) rfl dX9_faultOf_45 ?_
          exact k_iret rfl dX9_faultOf_48 h
set_option maxHeartbeats 4000000 in
set_option maxRecDepth 100000 in
theorem cm_X9_faultOf (l : Launch) {X : XT} (hX : XD X) (g : Nat) (σ : Mem) (o : Nat) (hL : L9 o) {r : Int32} {σ' : Mem} (h : fX9_faultOf g σ o = some (r, σ')) : Met l yX9_faultOf wsX9_faultOf rmX9_faultOf (va_Pc [.ref (xad X o)] (WW X σ)) (QI X r σ') 0 0 (XA X) := by
  refine met_x (M := mX9_faultOf) (lv := [(0, .ref (xad X o))]) hX (by decide) rfl rfl (Nat.le_of_ble_eq_true rfl) rfl ?_
  unfold fX9_faultOf at h
  refine k_aload_n (q := 0) dX9_faultOf_0 rfl rfl ?_
  refine k_iconst (v := (nI 0)) dX9_faultOf_1 (by decide) ?_
  refine kp_9_7 hL.1 inX9_faultOf_9 (List.mem_of_getElem? (i := 1) rfl) dX9_faultOf_2 h (fun σ1 h => ?_)
  refine k_aload_n (q := 0) dX9_faultOf_5 rfl rfl ?_
  obtain ⟨r3, σ4, hc2, h⟩ := bnd2_e h
  refine k_cv (q := (RX9, TX9, 12)) (As := []) 0 (cm_X9_passesEdit l hX g σ1 o hL hc2) gX9_faultOf_X9_passesEdit rfl ⟨rfl, rfl⟩ hd_X9_passesEdit ⟨Nat.le_of_ble_eq_true rfl, Nat.le_of_ble_eq_true rfl⟩ ⟨Nat.le_refl _, Nat.le_refl _⟩ (lay_lt hL.1 (by decide)) (ce_of hL.1) rfl rfl (Nat.le_of_ble_eq_true rfl) rfl dX9_faultOf_6 ?_
  refine k_if_ne (tgt := 17) dX9_faultOf_9 (by decide) h (fun h => ?_) (fun h => ?_)
  · exact wX9_faultOf_17 l hX g o hL g σ4 h
  · refine k_aload_n (q := 0) dX9_faultOf_12 rfl rfl ?_
    refine kg_9 (v := .int (σ4 o 7)) hL.1 inX9_faultOf_9 7 (by decide) (List.mem_of_getElem? (i := 1) rfl) rfl dX9_faultOf_13 ?_
    exact k_iret rfl dX9_faultOf_16 h
abbrev rmX9_editError : Room := { frames := 5, cells := 0, slots := 0, locals := 109 }
abbrev mX9_editError : MT := (rmX9_editError, wsX9_editError, cX9_editError, 1, RX9, some .int)
theorem hd_X9_editError : yX9_editError.cls = RX9 ∧ yX9_editError.cls ≠ "java/lang/invoke/MethodHandle" ∧ yX9_editError.cls ≠ "java/lang/invoke/VarHandle" ∧ (parseMethodDescriptor yX9_editError.desc).map (fun d => d.parameters.length) = some 0 := by decide +kernel
theorem inX9_editError_9 : ∀ w ∈ wsX90, w ∈ wsX9_editError := fun w h => List.mem_cons_of_mem _ (List.mem_append_right _ h)
set_option maxHeartbeats 4000000 in
set_option maxRecDepth 100000 in
theorem cm_X9_editError (l : Launch) {X : XT} (hX : XD X) (g : Nat) (σ : Mem) (o : Nat) (hL : L9 o) {r : Int32} (h : fX9_editError g σ o = some r) : Met l yX9_editError wsX9_editError rmX9_editError (va_Pc [.ref (xad X o)] (WW X σ)) (QI X r σ) 0 0 (XA X) := by
  refine met_x (M := mX9_editError) (lv := [(0, .ref (xad X o))]) hX (by decide) rfl rfl (Nat.le_of_ble_eq_true rfl) rfl ?_
  unfold fX9_editError at h
  refine k_aload_n (q := 0) dX9_editError_0 rfl rfl ?_
  refine kg_9 (v := .int (σ o 8)) hL.1 inX9_editError_9 8 (by decide) (List.mem_of_getElem? (i := 1) rfl) rfl dX9_editError_1 ?_
  refine k_if h (fun c0 h => ?_) (fun c0 h => ?_)
  · refine k_look (off := 44) (tgt := 48) dX9_editError_4 (by decide) (by rw [c0]; rfl) (by decide) ?_
    refine k_aload_n (q := 0) dX9_editError_48 rfl rfl ?_
    refine k_aload_n (q := 0) dX9_editError_49 rfl rfl ?_
    refine kg_9 (v := .int (σ o 10)) hL.1 inX9_editError_9 10 (by decide) (List.mem_of_getElem? (i := 2) rfl) rfl dX9_editError_50 ?_
    obtain ⟨r2, hc1, h⟩ := bnd_e h
    refine k_cv (q := (RX9, TX9, 12)) (As := [.int (σ o 10)]) 1 (cm_X9_cutError l hX g σ o hL (σ o 10) hc1) gX9_editError_X9_cutError rfl ⟨rfl, rfl⟩ hd_X9_cutError ⟨Nat.le_of_ble_eq_true rfl, Nat.le_of_ble_eq_true rfl⟩ ⟨Nat.le_refl _, Nat.le_refl _⟩ (lay_lt hL.1 (by decide)) (ce_of hL.1) rfl rfl (Nat.le_of_ble_eq_true rfl) rfl dX9_editError_53 ?_
    exact k_iretR rfl dX9_editError_56 h
  · refine k_if h (fun c1 h => ?_) (fun c1 h => ?_)
    · refine k_look (off := 71) (tgt := 75) dX9_editError_4 (by decide) (by rw [c1]; rfl) (by decide) ?_
      refine k_aload_n (q := 0) dX9_editError_75 rfl rfl ?_
      refine k_aload_n (q := 0) dX9_editError_76 rfl rfl ?_
      refine kg_9 (v := .int (σ o 10)) hL.1 inX9_editError_9 10 (by decide) (List.mem_of_getElem? (i := 2) rfl) rfl dX9_editError_77 ?_
      refine k_aload_n (q := 0) dX9_editError_80 rfl rfl ?_
      refine kg_9 (v := .int (σ o 11)) hL.1 inX9_editError_9 11 (by decide) (List.mem_of_getElem? (i := 3) rfl) rfl dX9_editError_81 ?_
      obtain ⟨r4, hc3, h⟩ := bnd_e h
      refine k_cv (q := (RX9, TX9, 12)) (As := [.int (σ o 10), .int (σ o 11)]) 2 (cm_X9_putError l hX g σ o hL (σ o 10) (σ o 11) hc3) gX9_editError_X9_putError rfl ⟨rfl, rfl⟩ hd_X9_putError ⟨Nat.le_of_ble_eq_true rfl, Nat.le_of_ble_eq_true rfl⟩ ⟨Nat.le_refl _, Nat.le_refl _⟩ (lay_lt hL.1 (by decide)) (ce_of hL.1) rfl rfl (Nat.le_of_ble_eq_true rfl) rfl dX9_editError_84 ?_
      exact k_iretR rfl dX9_editError_87 h
    · refine k_if h (fun c2 h => ?_) (fun c2 h => ?_)
      · refine k_look (off := 53) (tgt := 57) dX9_editError_4 (by decide) (by rw [c2]; rfl) (by decide) ?_
        refine k_aload_n (q := 0) dX9_editError_57 rfl rfl ?_
        refine k_aload_n (q := 0) dX9_editError_58 rfl rfl ?_
        refine kg_9 (v := .int (σ o 10)) hL.1 inX9_editError_9 10 (by decide) (List.mem_of_getElem? (i := 2) rfl) rfl dX9_editError_59 ?_
        obtain ⟨r6, hc5, h⟩ := bnd_e h
        refine k_cv (q := (RX9, TX9, 12)) (As := [.int (σ o 10)]) 1 (cm_X9_joinError l hX g σ o hL (σ o 10) hc5) gX9_editError_X9_joinError rfl ⟨rfl, rfl⟩ hd_X9_joinError ⟨Nat.le_of_ble_eq_true rfl, Nat.le_of_ble_eq_true rfl⟩ ⟨Nat.le_refl _, Nat.le_refl _⟩ (lay_lt hL.1 (by decide)) (ce_of hL.1) rfl rfl (Nat.le_of_ble_eq_true rfl) rfl dX9_editError_62 ?_
        exact k_iretR rfl dX9_editError_65 h
      · refine k_if h (fun c3 h => ?_) (fun c3 h => ?_)
        · refine k_look (off := 62) (tgt := 66) dX9_editError_4 (by decide) (by rw [c3]; rfl) (by decide) ?_
          refine k_aload_n (q := 0) dX9_editError_66 rfl rfl ?_
          refine k_aload_n (q := 0) dX9_editError_67 rfl rfl ?_
          refine kg_9 (v := .int (σ o 10)) hL.1 inX9_editError_9 10 (by decide) (List.mem_of_getElem? (i := 2) rfl) rfl dX9_editError_68 ?_
          obtain ⟨r8, hc7, h⟩ := bnd_e h
          refine k_cv (q := (RX9, TX9, 12)) (As := [.int (σ o 10)]) 1 (cm_X9_takeError l hX g σ o hL (σ o 10) hc7) gX9_editError_X9_takeError rfl ⟨rfl, rfl⟩ hd_X9_takeError ⟨Nat.le_of_ble_eq_true rfl, Nat.le_of_ble_eq_true rfl⟩ ⟨Nat.le_refl _, Nat.le_refl _⟩ (lay_lt hL.1 (by decide)) (ce_of hL.1) rfl rfl (Nat.le_of_ble_eq_true rfl) rfl dX9_editError_71 ?_
          exact k_iretR rfl dX9_editError_74 h
        · refine k_look (off := 84) (tgt := 88) dX9_editError_4 (by decide) ((lv_osw c0 (show Int32.toInt (nI 99) = 99 from rfl)).trans ((lv_osw c1 (show Int32.toInt (nI 105) = 105 from rfl)).trans ((lv_osw c2 (show Int32.toInt (nI 106) = 106 from rfl)).trans ((lv_osw c3 (show Int32.toInt (nI 111) = 111 from rfl)).trans (rfl))))) (by decide) ?_
          refine k_aload_n (q := 0) dX9_editError_88 rfl rfl ?_
          refine k_aload_n (q := 0) dX9_editError_89 rfl rfl ?_
          refine kg_9 (v := .int (σ o 10)) hL.1 inX9_editError_9 10 (by decide) (List.mem_of_getElem? (i := 2) rfl) rfl dX9_editError_90 ?_
          refine k_aload_n (q := 0) dX9_editError_93 rfl rfl ?_
          refine kg_9 (v := .int (σ o 11)) hL.1 inX9_editError_9 11 (by decide) (List.mem_of_getElem? (i := 3) rfl) rfl dX9_editError_94 ?_
          obtain ⟨r10, hc9, h⟩ := bnd_e h
          refine k_cv (q := (RX9, TX9, 12)) (As := [.int (σ o 10), .int (σ o 11)]) 2 (cm_X9_moveError l hX g σ o hL (σ o 10) (σ o 11) hc9) gX9_editError_X9_moveError rfl ⟨rfl, rfl⟩ hd_X9_moveError ⟨Nat.le_of_ble_eq_true rfl, Nat.le_of_ble_eq_true rfl⟩ ⟨Nat.le_refl _, Nat.le_refl _⟩ (lay_lt hL.1 (by decide)) (ce_of hL.1) rfl rfl (Nat.le_of_ble_eq_true rfl) rfl dX9_editError_97 ?_
          exact k_iretR rfl dX9_editError_100 h
abbrev rmX9_does : Room := { frames := 5, cells := 0, slots := 0, locals := 113 }
abbrev mX9_does : MT := (rmX9_does, wsX9_does, cX9_does, 1, RX9, some .int)
theorem hd_X9_does : yX9_does.cls = RX9 ∧ yX9_does.cls ≠ "java/lang/invoke/MethodHandle" ∧ yX9_does.cls ≠ "java/lang/invoke/VarHandle" ∧ (parseMethodDescriptor yX9_does.desc).map (fun d => d.parameters.length) = some 0 := by decide +kernel
theorem inX9_does_9 : ∀ w ∈ wsX90, w ∈ wsX9_does := fun w h => List.mem_cons_of_mem _ (List.mem_append_right _ h)
set_option maxHeartbeats 4000000 in
set_option maxRecDepth 100000 in
theorem cm_X9_does (l : Launch) {X : XT} (hX : XD X) (g : Nat) (σ : Mem) (o : Nat) (hL : L9 o) {r : Int32} {σ' : Mem} (h : fX9_does g σ o = some (r, σ')) : Met l yX9_does wsX9_does rmX9_does (va_Pc [.ref (xad X o)] (WW X σ)) (QI X r σ') 0 0 (XA X) := by
  refine met_x (M := mX9_does) (lv := [(0, .ref (xad X o))]) hX (by decide) rfl rfl (Nat.le_of_ble_eq_true rfl) rfl ?_
  unfold fX9_does at h
  refine k_aload_n (q := 0) dX9_does_0 rfl rfl ?_
  refine kg_9 (v := .int (σ o 8)) hL.1 inX9_does_9 8 (by decide) (List.mem_of_getElem? (i := 1) rfl) rfl dX9_does_1 ?_
  refine k_if h (fun c0 h => ?_) (fun c0 h => ?_)
  · refine k_look (off := 44) (tgt := 48) dX9_does_4 (by decide) (by rw [c0]; rfl) (by decide) ?_
    refine k_aload_n (q := 0) dX9_does_48 rfl rfl ?_
    refine k_aload_n (q := 0) dX9_does_49 rfl rfl ?_
    refine kg_9 (v := .int (σ o 10)) hL.1 inX9_does_9 10 (by decide) (List.mem_of_getElem? (i := 2) rfl) rfl dX9_does_50 ?_
    obtain ⟨r2, σ3, hc1, h⟩ := bnd2_e h
    refine k_cv (q := (RX9, TX9, 12)) (As := [.int (σ o 10)]) 1 (cm_X9_cuts l hX g σ o hL (σ o 10) hc1) gX9_does_X9_cuts rfl ⟨rfl, rfl⟩ hd_X9_cuts ⟨Nat.le_of_ble_eq_true rfl, Nat.le_of_ble_eq_true rfl⟩ ⟨Nat.le_refl _, Nat.le_refl _⟩ (lay_lt hL.1 (by decide)) (ce_of hL.1) rfl rfl (Nat.le_of_ble_eq_true rfl) rfl dX9_does_53 ?_
    exact k_iret rfl dX9_does_56 h
  · refine k_if h (fun c1 h => ?_) (fun c1 h => ?_)
    · refine k_look (off := 71) (tgt := 75) dX9_does_4 (by decide) (by rw [c1]; rfl) (by decide) ?_
      refine k_aload_n (q := 0) dX9_does_75 rfl rfl ?_
      refine k_aload_n (q := 0) dX9_does_76 rfl rfl ?_
      refine kg_9 (v := .int (σ o 10)) hL.1 inX9_does_9 10 (by decide) (List.mem_of_getElem? (i := 2) rfl) rfl dX9_does_77 ?_
      refine k_aload_n (q := 0) dX9_does_80 rfl rfl ?_
      refine kg_9 (v := .int (σ o 11)) hL.1 inX9_does_9 11 (by decide) (List.mem_of_getElem? (i := 3) rfl) rfl dX9_does_81 ?_
      obtain ⟨r5, σ6, hc4, h⟩ := bnd2_e h
      refine k_cv (q := (RX9, TX9, 12)) (As := [.int (σ o 10), .int (σ o 11)]) 2 (cm_X9_puts l hX g σ o hL (σ o 10) (σ o 11) hc4) gX9_does_X9_puts rfl ⟨rfl, rfl⟩ hd_X9_puts ⟨Nat.le_of_ble_eq_true rfl, Nat.le_of_ble_eq_true rfl⟩ ⟨Nat.le_refl _, Nat.le_refl _⟩ (lay_lt hL.1 (by decide)) (ce_of hL.1) rfl rfl (Nat.le_of_ble_eq_true rfl) rfl dX9_does_84 ?_
      exact k_iret rfl dX9_does_87 h
    · refine k_if h (fun c2 h => ?_) (fun c2 h => ?_)
      · refine k_look (off := 53) (tgt := 57) dX9_does_4 (by decide) (by rw [c2]; rfl) (by decide) ?_
        refine k_aload_n (q := 0) dX9_does_57 rfl rfl ?_
        refine k_aload_n (q := 0) dX9_does_58 rfl rfl ?_
        refine kg_9 (v := .int (σ o 10)) hL.1 inX9_does_9 10 (by decide) (List.mem_of_getElem? (i := 2) rfl) rfl dX9_does_59 ?_
        obtain ⟨r8, σ9, hc7, h⟩ := bnd2_e h
        refine k_cv (q := (RX9, TX9, 12)) (As := [.int (σ o 10)]) 1 (cm_X9_joins l hX g σ o hL (σ o 10) hc7) gX9_does_X9_joins rfl ⟨rfl, rfl⟩ hd_X9_joins ⟨Nat.le_of_ble_eq_true rfl, Nat.le_of_ble_eq_true rfl⟩ ⟨Nat.le_refl _, Nat.le_refl _⟩ (lay_lt hL.1 (by decide)) (ce_of hL.1) rfl rfl (Nat.le_of_ble_eq_true rfl) rfl dX9_does_62 ?_
        exact k_iret rfl dX9_does_65 h
      · refine k_if h (fun c3 h => ?_) (fun c3 h => ?_)
        · refine k_look (off := 62) (tgt := 66) dX9_does_4 (by decide) (by rw [c3]; rfl) (by decide) ?_
          refine k_aload_n (q := 0) dX9_does_66 rfl rfl ?_
          refine k_aload_n (q := 0) dX9_does_67 rfl rfl ?_
          refine kg_9 (v := .int (σ o 10)) hL.1 inX9_does_9 10 (by decide) (List.mem_of_getElem? (i := 2) rfl) rfl dX9_does_68 ?_
          obtain ⟨r11, σ12, hc10, h⟩ := bnd2_e h
          refine k_cv (q := (RX9, TX9, 12)) (As := [.int (σ o 10)]) 1 (cm_X9_takes l hX g σ o hL (σ o 10) hc10) gX9_does_X9_takes rfl ⟨rfl, rfl⟩ hd_X9_takes ⟨Nat.le_of_ble_eq_true rfl, Nat.le_of_ble_eq_true rfl⟩ ⟨Nat.le_refl _, Nat.le_refl _⟩ (lay_lt hL.1 (by decide)) (ce_of hL.1) rfl rfl (Nat.le_of_ble_eq_true rfl) rfl dX9_does_71 ?_
          exact k_iret rfl dX9_does_74 h
        · refine k_look (off := 84) (tgt := 88) dX9_does_4 (by decide) ((lv_osw c0 (show Int32.toInt (nI 99) = 99 from rfl)).trans ((lv_osw c1 (show Int32.toInt (nI 105) = 105 from rfl)).trans ((lv_osw c2 (show Int32.toInt (nI 106) = 106 from rfl)).trans ((lv_osw c3 (show Int32.toInt (nI 111) = 111 from rfl)).trans (rfl))))) (by decide) ?_
          refine k_aload_n (q := 0) dX9_does_88 rfl rfl ?_
          refine k_aload_n (q := 0) dX9_does_89 rfl rfl ?_
          refine kg_9 (v := .int (σ o 10)) hL.1 inX9_does_9 10 (by decide) (List.mem_of_getElem? (i := 2) rfl) rfl dX9_does_90 ?_
          refine k_aload_n (q := 0) dX9_does_93 rfl rfl ?_
          refine kg_9 (v := .int (σ o 11)) hL.1 inX9_does_9 11 (by decide) (List.mem_of_getElem? (i := 3) rfl) rfl dX9_does_94 ?_
          obtain ⟨r14, σ15, hc13, h⟩ := bnd2_e h
          refine k_cv (q := (RX9, TX9, 12)) (As := [.int (σ o 10), .int (σ o 11)]) 2 (cm_X9_moves l hX g σ o hL (σ o 10) (σ o 11) hc13) gX9_does_X9_moves rfl ⟨rfl, rfl⟩ hd_X9_moves ⟨Nat.le_of_ble_eq_true rfl, Nat.le_of_ble_eq_true rfl⟩ ⟨Nat.le_refl _, Nat.le_refl _⟩ (lay_lt hL.1 (by decide)) (ce_of hL.1) rfl rfl (Nat.le_of_ble_eq_true rfl) rfl dX9_does_97 ?_
          exact k_iret rfl dX9_does_100 h
abbrev rmX9_edit : Room := { frames := 6, cells := 0, slots := 0, locals := 133 }
abbrev mX9_edit : MT := (rmX9_edit, wsX9_edit, cX9_edit, 5, RX9, some .int)
theorem hd_X9_edit : yX9_edit.cls = RX9 ∧ yX9_edit.cls ≠ "java/lang/invoke/MethodHandle" ∧ yX9_edit.cls ≠ "java/lang/invoke/VarHandle" ∧ (parseMethodDescriptor yX9_edit.desc).map (fun d => d.parameters.length) = some 0 := by decide +kernel
theorem inX9_edit_9 : ∀ w ∈ wsX90, w ∈ wsX9_edit := fun w h => List.mem_cons_of_mem _ (List.mem_append_right _ h)
set_option maxHeartbeats 4000000 in
set_option maxRecDepth 100000 in
theorem wX9_edit_28 (l : Launch) {X : XT} (hX : XD X) (g : Nat) (o : Nat) (hL : L9 o) {r : Int32} {σ' : Mem} : ∀ (n : Nat) (σ : Mem) (x2 : Int32), fX9_edit_28 g o n σ x2 = some (r, σ') → WG X l mX9_edit (fun _ _ => True) 0 0 (QM X (QI X r σ')) 28 σ [(0, .ref (xad X o)), (2, .int x2)] [] := by
  intro n
  induction n with
  | zero => intro σ x2 h; exact nomatch (show (none : Option _) = some _ from h)
  | succ n ih =>
    intro σ x2 h
    rw [fX9_edit_28] at h
    refine k_aload_n (q := 0) dX9_edit_28 rfl rfl ?_
    refine kg_9 (v := .int (σ o 7)) hL.1 inX9_edit_9 7 (by decide) (List.mem_of_getElem? (i := 1) rfl) rfl dX9_edit_29 ?_
    refine k_aload_n (q := 0) dX9_edit_32 rfl rfl ?_
    refine kg_9 (v := .int (σ o 6)) hL.1 inX9_edit_9 6 (by decide) (List.mem_of_getElem? (i := 2) rfl) rfl dX9_edit_33 ?_
    refine k_icmp_ge (tgt := 115) dX9_edit_36 (by decide) h (fun h => ?_) (fun h => ?_)
    · refine k_aload_n (q := 0) dX9_edit_115 rfl rfl ?_
      refine k_iconst (v := (nI 1)) dX9_edit_116 (by decide) ?_
      obtain ⟨σ8, hc7, h⟩ := bnd_e h
      refine k_cvv (q := (RX9, TX9, 12)) (As := [.int (nI 1)]) 1 (cm_X9_records l hX g σ o hL (nI 1) hc7) gX9_edit_X9_records rfl ⟨rfl, rfl⟩ hd_X9_records ⟨Nat.le_of_ble_eq_true rfl, Nat.le_of_ble_eq_true rfl⟩ ⟨Nat.le_refl _, Nat.le_refl _⟩ (lay_lt hL.1 (by decide)) (ce_of hL.1) rfl rfl (Nat.le_of_ble_eq_true rfl) rfl dX9_edit_117 ?_
      refine k_iload_n (q := 1) dX9_edit_120 rfl rfl ?_
      exact k_iret rfl dX9_edit_121 h
    · refine k_aload_n (q := 0) dX9_edit_39 rfl rfl ?_
      obtain ⟨r10, σ11, hc9, h⟩ := bnd2_e h
      refine k_cv (q := (RX9, TX9, 12)) (As := []) 0 (cm_X9_passesEdit l hX g σ o hL hc9) gX9_edit_X9_passesEdit rfl ⟨rfl, rfl⟩ hd_X9_passesEdit ⟨Nat.le_of_ble_eq_true rfl, Nat.le_of_ble_eq_true rfl⟩ ⟨Nat.le_refl _, Nat.le_refl _⟩ (lay_lt hL.1 (by decide)) (ce_of hL.1) rfl rfl (Nat.le_of_ble_eq_true rfl) rfl dX9_edit_40 ?_
      refine k_istore_n (lv' := [(3, .int r10), (0, .ref (xad X o)), (2, .int x2)]) dX9_edit_43 rfl (Nat.le_of_ble_eq_true rfl) rfl ?_
      refine k_aload_n (q := 1) dX9_edit_44 rfl rfl ?_
      obtain ⟨r13, hc12, h⟩ := bnd_e h
      refine k_cv (q := (RX9, TX9, 12)) (As := []) 0 (cm_X9_editError l hX g σ11 o hL hc12) gX9_edit_X9_editError rfl ⟨rfl, rfl⟩ hd_X9_editError ⟨Nat.le_of_ble_eq_true rfl, Nat.le_of_ble_eq_true rfl⟩ ⟨Nat.le_refl _, Nat.le_refl _⟩ (lay_lt hL.1 (by decide)) (ce_of hL.1) rfl rfl (Nat.le_of_ble_eq_true rfl) rfl dX9_edit_45 ?_
      refine k_istore (lv' := [(4, .int r13), (3, .int r10), (0, .ref (xad X o)), (2, .int x2)]) dX9_edit_48 (Nat.le_of_ble_eq_true rfl) rfl ?_
      refine k_iload (q := 0) dX9_edit_50 rfl ?_
      refine k_if_ne (tgt := 73) dX9_edit_52 (by decide) h (fun h => ?_) (fun h => ?_)
      · refine k_iload (q := 0) dX9_edit_73 rfl ?_
        refine k_bipush (v := (nN 5)) dX9_edit_75 (by decide) ?_
        refine k_icmp_ne (tgt := 86) dX9_edit_77 (by decide) h (fun h => ?_) (fun h => ?_)
        · refine k_aload_n (q := 2) dX9_edit_86 rfl rfl ?_
          refine k_iconst (v := (nI 5)) dX9_edit_87 (by decide) ?_
          obtain ⟨σ15, hc14, h⟩ := bnd_e h
          refine k_cvv (q := (RX9, TX9, 12)) (As := [.int (nI 5)]) 1 (cm_X9_brings l hX g σ11 o hL (nI 5) hc14) gX9_edit_X9_brings rfl ⟨rfl, rfl⟩ hd_X9_brings ⟨Nat.le_of_ble_eq_true rfl, Nat.le_of_ble_eq_true rfl⟩ ⟨Nat.le_refl _, Nat.le_refl _⟩ (lay_lt hL.1 (by decide)) (ce_of hL.1) rfl rfl (Nat.le_of_ble_eq_true rfl) rfl dX9_edit_88 ?_
          refine k_iload (q := 0) dX9_edit_91 rfl ?_
          exact k_iret rfl dX9_edit_93 h
        · refine k_iinc (q := 3) (v := (x2 + (nI 1))) (lv' := [(2, .int (x2 + (nI 1))), (4, .int r13), (3, .int r10), (0, .ref (xad X o))]) dX9_edit_80 rfl rfl (Nat.le_of_ble_eq_true rfl) rfl ?_
          refine k_goto (tgt := 94) dX9_edit_83 (by decide) ?_
          refine k_aload_n (q := 3) dX9_edit_94 rfl rfl ?_
          refine k_dup dX9_edit_95 rfl ?_
          refine kg_9 (v := .int (σ11 o 7)) hL.1 inX9_edit_9 7 (by decide) (List.mem_of_getElem? (i := 1) rfl) rfl dX9_edit_96 ?_
          refine k_iload_n (q := 2) dX9_edit_99 rfl rfl ?_
          have key : WG X l mX9_edit (fun _ _ => True) 0 0 (QM X (QI X r σ')) 108 σ11 [(2, .int (x2 + (nI 1))), (4, .int r13), (3, .int r10), (0, .ref (xad X o))] [.int (if r10 = 0 then (nI 0) else (nI 1)), .int (σ11 o 7), .ref (xad X o)] := by
            refine k_iadd dX9_edit_108 ?_
            refine kp_9_7 hL.1 inX9_edit_9 (List.mem_of_getElem? (i := 1) rfl) dX9_edit_109 h (fun σ16 h => ?_)
            refine k_goto (tgt := 28) dX9_edit_112 (by decide) ?_
            refine k_sub (ks' := [3, 0]) rfl ?_
            exact ih σ16 (x2 + (nI 1)) h
          refine k_ifc_eq (tgt := 107) dX9_edit_100 (by decide) (fun hq => ?_) (fun hq => ?_)
          · rw [if_pos hq] at key
            refine k_iconst (v := (nI 0)) dX9_edit_107 (by decide) ?_
            exact key
          · rw [if_neg hq] at key
            refine k_iconst (v := (nI 1)) dX9_edit_103 (by decide) ?_
            refine k_goto (tgt := 108) dX9_edit_104 (by decide) ?_
            exact key
      · refine k_iload_n (q := 3) dX9_edit_55 rfl rfl ?_
        refine k_aload_n (q := 2) dX9_edit_56 rfl rfl ?_
        obtain ⟨r18, σ19, hc17, h⟩ := bnd2_e h
        refine k_cv (q := (RX9, TX9, 12)) (As := []) 0 (cm_X9_does l hX g σ11 o hL hc17) gX9_edit_X9_does rfl ⟨rfl, rfl⟩ hd_X9_does ⟨Nat.le_of_ble_eq_true rfl, Nat.le_of_ble_eq_true rfl⟩ ⟨Nat.le_refl _, Nat.le_refl _⟩ (lay_lt hL.1 (by decide)) (ce_of hL.1) rfl rfl (Nat.le_of_ble_eq_true rfl) rfl dX9_edit_57 ?_
        have key : WG X l mX9_edit (fun _ _ => True) 0 0 (QM X (QI X r σ')) 68 σ19 [(4, .int r13), (3, .int r10), (0, .ref (xad X o)), (2, .int x2)] [.int (if (0 : Int32) ≤ r18 then (nI 1) else (nI 0)), .int x2] := by
          refine k_iadd dX9_edit_68 ?_
          refine k_istore_n (lv' := [(2, .int (x2 + (if (0 : Int32) ≤ r18 then (nI 1) else (nI 0)))), (4, .int r13), (3, .int r10), (0, .ref (xad X o))]) dX9_edit_69 rfl (Nat.le_of_ble_eq_true rfl) rfl ?_
          refine k_goto (tgt := 94) dX9_edit_70 (by decide) ?_
          refine k_aload_n (q := 3) dX9_edit_94 rfl rfl ?_
          refine k_dup dX9_edit_95 rfl ?_
          refine kg_9 (v := .int (σ19 o 7)) hL.1 inX9_edit_9 7 (by decide) (List.mem_of_getElem? (i := 1) rfl) rfl dX9_edit_96 ?_
          refine k_iload_n (q := 2) dX9_edit_99 rfl rfl ?_
          have key : WG X l mX9_edit (fun _ _ => True) 0 0 (QM X (QI X r σ')) 108 σ19 [(2, .int (x2 + (if (0 : Int32) ≤ r18 then (nI 1) else (nI 0)))), (4, .int r13), (3, .int r10), (0, .ref (xad X o))] [.int (if r10 = 0 then (nI 0) else (nI 1)), .int (σ19 o 7), .ref (xad X o)] := by
            refine k_iadd dX9_edit_108 ?_
            refine kp_9_7 hL.1 inX9_edit_9 (List.mem_of_getElem? (i := 1) rfl) dX9_edit_109 h (fun σ20 h => ?_)
            refine k_goto (tgt := 28) dX9_edit_112 (by decide) ?_
            refine k_sub (ks' := [3, 0]) rfl ?_
            exact ih σ20 (x2 + (if (0 : Int32) ≤ r18 then (nI 1) else (nI 0))) h
          refine k_ifc_eq (tgt := 107) dX9_edit_100 (by decide) (fun hq => ?_) (fun hq => ?_)
          · rw [if_pos hq] at key
            refine k_iconst (v := (nI 0)) dX9_edit_107 (by decide) ?_
            exact key
          · rw [if_neg hq] at key
            refine k_iconst (v := (nI 1)) dX9_edit_103 (by decide) ?_
            refine k_goto (tgt := 108) dX9_edit_104 (by decide) ?_
            exact key
        refine k_ifc_ge (tgt := 67) dX9_edit_60 (by decide) (fun hq => ?_) (fun hq => ?_)
        · rw [if_pos hq] at key
          refine k_iconst (v := (nI 1)) dX9_edit_67 (by decide) ?_
          exact key
        · rw [if_neg hq] at key
          refine k_iconst (v := (nI 0)) dX9_edit_63 (by decide) ?_
          refine k_goto (tgt := 68) dX9_edit_64 (by decide) ?_
          exact key
set_option maxHeartbeats 4000000 in
set_option maxRecDepth 100000 in
theorem cm_X9_edit (l : Launch) {X : XT} (hX : XD X) (g : Nat) (σ : Mem) (o : Nat) (hL : L9 o) {r : Int32} {σ' : Mem} (h : fX9_edit g σ o = some (r, σ')) : Met l yX9_edit wsX9_edit rmX9_edit (va_Pc [.ref (xad X o)] (WW X σ)) (QI X r σ') 0 0 (XA X) := by
  refine met_x (M := mX9_edit) (lv := [(0, .ref (xad X o))]) hX (by decide) rfl rfl (Nat.le_of_ble_eq_true rfl) rfl ?_
  unfold fX9_edit at h
  refine k_aload_n (q := 0) dX9_edit_0 rfl rfl ?_
  obtain ⟨r2, σ3, hc1, h⟩ := bnd2_e h
  refine k_cv (q := (RX9, TX9, 12)) (As := []) 0 (cm_X9_faultOf l hX g σ o hL hc1) gX9_edit_X9_faultOf rfl ⟨rfl, rfl⟩ hd_X9_faultOf ⟨Nat.le_of_ble_eq_true rfl, Nat.le_of_ble_eq_true rfl⟩ ⟨Nat.le_refl _, Nat.le_refl _⟩ (lay_lt hL.1 (by decide)) (ce_of hL.1) rfl rfl (Nat.le_of_ble_eq_true rfl) rfl dX9_edit_1 ?_
  refine k_istore_n (lv' := [(1, .int r2), (0, .ref (xad X o))]) dX9_edit_4 rfl (Nat.le_of_ble_eq_true rfl) rfl ?_
  refine k_iload_n (q := 0) dX9_edit_5 rfl rfl ?_
  refine k_bipush (v := (nN 5)) dX9_edit_6 (by decide) ?_
  refine k_icmp_eq (tgt := 16) dX9_edit_8 (by decide) h (fun h => ?_) (fun h => ?_)
  · refine k_aload_n (q := 1) dX9_edit_16 rfl rfl ?_
    refine k_iconst (v := (nI 5)) dX9_edit_17 (by decide) ?_
    obtain ⟨σ5, hc4, h⟩ := bnd_e h
    refine k_cvv (q := (RX9, TX9, 12)) (As := [.int (nI 5)]) 1 (cm_X9_keeps l hX g σ3 o hL (nI 5) hc4) gX9_edit_X9_keeps rfl ⟨rfl, rfl⟩ hd_X9_keeps ⟨Nat.le_of_ble_eq_true rfl, Nat.le_of_ble_eq_true rfl⟩ ⟨Nat.le_refl _, Nat.le_refl _⟩ (lay_lt hL.1 (by decide)) (ce_of hL.1) rfl rfl (Nat.le_of_ble_eq_true rfl) rfl dX9_edit_18 ?_
    refine k_iconst (v := (nI 0)) dX9_edit_21 (by decide) ?_
    refine k_istore_n (lv' := [(2, .int (nI 0)), (1, .int r2), (0, .ref (xad X o))]) dX9_edit_22 rfl (Nat.le_of_ble_eq_true rfl) rfl ?_
    refine k_aload_n (q := 2) dX9_edit_23 rfl rfl ?_
    refine k_iconst (v := (nI 0)) dX9_edit_24 (by decide) ?_
    refine kp_9_7 hL.1 inX9_edit_9 (List.mem_of_getElem? (i := 1) rfl) dX9_edit_25 h (fun σ6 h => ?_)
    refine k_sub (ks' := [2, 0]) rfl ?_
    exact wX9_edit_28 l hX g o hL g σ6 (nI 0) h
  · refine k_bipush (v := (nN 100)) dX9_edit_11 (by decide) ?_
    refine k_iload_n (q := 0) dX9_edit_13 rfl rfl ?_
    refine k_isub dX9_edit_14 ?_
    exact k_iret rfl dX9_edit_15 h
abbrev rmX9_placeOf : Room := { frames := 3, cells := 0, slots := 0, locals := 66 }
abbrev mX9_placeOf : MT := (rmX9_placeOf, wsX9_placeOf, cX9_placeOf, 4, RX9, some .int)
theorem hd_X9_placeOf : yX9_placeOf.cls = RX9 ∧ yX9_placeOf.cls ≠ "java/lang/invoke/MethodHandle" ∧ yX9_placeOf.cls ≠ "java/lang/invoke/VarHandle" ∧ (parseMethodDescriptor yX9_placeOf.desc).map (fun d => d.parameters.length) = some 2 := by decide +kernel
theorem inX9_placeOf_9 : ∀ w ∈ wsX90, w ∈ wsX9_placeOf := fun w h => List.mem_cons_of_mem _ (List.mem_append_right _ h)
set_option maxHeartbeats 4000000 in
set_option maxRecDepth 100000 in
theorem wX9_placeOf_2 (l : Launch) {X : XT} (hX : XD X) (g : Nat) (o : Nat) (hL : L9 o) {r : Int32} : ∀ (n : Nat) (σ : Mem) (x1 : Int32) (x2 : Int32) (x3 : Int32), fX9_placeOf_2 g o n σ x1 x2 x3 = some r → WG X l mX9_placeOf (fun _ _ => True) 0 0 (QM X (QI X r σ)) 2 σ [(0, .ref (xad X o)), (1, .int x1), (2, .int x2), (3, .int x3)] [] := by
  intro n
  induction n with
  | zero => intro σ x1 x2 x3 h; exact nomatch (show (none : Option _) = some _ from h)
  | succ n ih =>
    intro σ x1 x2 x3 h
    rw [fX9_placeOf_2] at h
    refine k_iload_n (q := 3) dX9_placeOf_2 rfl rfl ?_
    refine k_aload_n (q := 0) dX9_placeOf_3 rfl rfl ?_
    refine kg_9 (v := .ref (xad X (o + 1))) hL.1 inX9_placeOf_9 0 (by decide) (List.mem_of_getElem? (i := 1) rfl) rfl dX9_placeOf_4 ?_
    refine k_iconst (v := (nI 1)) dX9_placeOf_7 (by decide) ?_
    refine k_iald (n := 6036) hL.2.1 dX9_placeOf_8 h (fun h => ?_)
    refine k_icmp_ge (tgt := 62) dX9_placeOf_9 (by decide) h (fun h => ?_) (fun h => ?_)
    · refine k_bipush (v := (nN 5)) dX9_placeOf_62 (by decide) ?_
      exact k_iretR rfl dX9_placeOf_64 h
    · refine k_aload_n (q := 0) dX9_placeOf_12 rfl rfl ?_
      refine k_iload_n (q := 3) dX9_placeOf_13 rfl rfl ?_
      refine k_iconst (v := (nI 0)) dX9_placeOf_14 (by decide) ?_
      obtain ⟨r2, hc1, h⟩ := bnd_e h
      refine k_cv (q := (RX9, TX9, 12)) (As := [.int x3, .int (nI 0)]) 2 (cm_X9_ofP l hX g σ o hL x3 (nI 0) hc1) gX9_placeOf_X9_ofP rfl ⟨rfl, rfl⟩ hd_X9_ofP ⟨Nat.le_of_ble_eq_true rfl, Nat.le_of_ble_eq_true rfl⟩ ⟨Nat.le_refl _, Nat.le_refl _⟩ (lay_lt hL.1 (by decide)) (ce_of hL.1) rfl rfl (Nat.le_of_ble_eq_true rfl) rfl dX9_placeOf_15 ?_
      refine k_iload_n (q := 1) dX9_placeOf_18 rfl rfl ?_
      refine k_icmp_ne (tgt := 56) dX9_placeOf_19 (by decide) h (fun h => ?_) (fun h => ?_)
      · refine k_iinc (q := 3) (v := (x3 + (nI 1))) (lv' := [(3, .int (x3 + (nI 1))), (0, .ref (xad X o)), (1, .int x1), (2, .int x2)]) dX9_placeOf_56 rfl rfl (Nat.le_of_ble_eq_true rfl) rfl ?_
        refine k_goto (tgt := 2) dX9_placeOf_59 (by decide) ?_
        refine k_sub (ks' := [1, 2, 3, 0]) rfl ?_
        exact ih σ x1 x2 (x3 + (nI 1)) h
      · refine k_iload_n (q := 2) dX9_placeOf_22 rfl rfl ?_
        refine k_aload_n (q := 0) dX9_placeOf_23 rfl rfl ?_
        refine k_iload_n (q := 3) dX9_placeOf_24 rfl rfl ?_
        refine k_iconst (v := (nI 1)) dX9_placeOf_25 (by decide) ?_
        obtain ⟨r4, hc3, h⟩ := bnd_e h
        refine k_cv (q := (RX9, TX9, 12)) (As := [.int x3, .int (nI 1)]) 2 (cm_X9_ofP l hX g σ o hL x3 (nI 1) hc3) gX9_placeOf_X9_ofP rfl ⟨rfl, rfl⟩ hd_X9_ofP ⟨Nat.le_of_ble_eq_true rfl, Nat.le_of_ble_eq_true rfl⟩ ⟨Nat.le_refl _, Nat.le_refl _⟩ (lay_lt hL.1 (by decide)) (ce_of hL.1) rfl rfl (Nat.le_of_ble_eq_true rfl) rfl dX9_placeOf_26 ?_
        refine k_aload_n (q := 0) dX9_placeOf_29 rfl rfl ?_
        refine k_iload_n (q := 3) dX9_placeOf_30 rfl rfl ?_
        refine k_iconst (v := (nI 2)) dX9_placeOf_31 (by decide) ?_
        obtain ⟨r6, hc5, h⟩ := bnd_e h
        refine k_cv (q := (RX9, TX9, 12)) (As := [.int x3, .int (nI 2)]) 2 (cm_X9_ofP l hX g σ o hL x3 (nI 2) hc5) gX9_placeOf_X9_ofP rfl ⟨rfl, rfl⟩ hd_X9_ofP ⟨Nat.le_of_ble_eq_true rfl, Nat.le_of_ble_eq_true rfl⟩ ⟨Nat.le_refl _, Nat.le_refl _⟩ (lay_lt hL.1 (by decide)) (ce_of hL.1) rfl rfl (Nat.le_of_ble_eq_true rfl) rfl dX9_placeOf_32 ?_
        obtain ⟨r8, hc7, h⟩ := bnd_e h
        refine k_cs (As := [.int x2, .int r4, .int r6]) 3 (cm_X9_isIn l hX g σ x2 r4 r6 hc7) gX9_placeOf_X9_isIn rfl ⟨rfl, rfl⟩ hd_X9_isIn ⟨Nat.le_of_ble_eq_true rfl, Nat.le_of_ble_eq_true rfl⟩ ⟨Nat.le_refl _, Nat.le_refl _⟩ rfl (Nat.le_of_ble_eq_true rfl) rfl dX9_placeOf_35 ?_
        refine k_if_eq (tgt := 56) dX9_placeOf_38 (by decide) h (fun h => ?_) (fun h => ?_)
        · refine k_iinc (q := 3) (v := (x3 + (nI 1))) (lv' := [(3, .int (x3 + (nI 1))), (0, .ref (xad X o)), (1, .int x1), (2, .int x2)]) dX9_placeOf_56 rfl rfl (Nat.le_of_ble_eq_true rfl) rfl ?_
          refine k_goto (tgt := 2) dX9_placeOf_59 (by decide) ?_
          refine k_sub (ks' := [1, 2, 3, 0]) rfl ?_
          exact ih σ x1 x2 (x3 + (nI 1)) h
        · refine k_aload_n (q := 0) dX9_placeOf_41 rfl rfl ?_
          refine k_iload_n (q := 3) dX9_placeOf_42 rfl rfl ?_
          obtain ⟨r10, hc9, h⟩ := bnd_e h
          refine k_cv (q := (RX9, TX9, 12)) (As := [.int x3]) 1 (cm_X9_positionOf l hX g σ o hL x3 hc9) gX9_placeOf_X9_positionOf rfl ⟨rfl, rfl⟩ hd_X9_positionOf ⟨Nat.le_of_ble_eq_true rfl, Nat.le_of_ble_eq_true rfl⟩ ⟨Nat.le_refl _, Nat.le_refl _⟩ (lay_lt hL.1 (by decide)) (ce_of hL.1) rfl rfl (Nat.le_of_ble_eq_true rfl) rfl dX9_placeOf_43 ?_
          refine k_iload_n (q := 2) dX9_placeOf_46 rfl rfl ?_
          refine k_iadd dX9_placeOf_47 ?_
          refine k_aload_n (q := 0) dX9_placeOf_48 rfl rfl ?_
          refine k_iload_n (q := 3) dX9_placeOf_49 rfl rfl ?_
          refine k_iconst (v := (nI 1)) dX9_placeOf_50 (by decide) ?_
          obtain ⟨r12, hc11, h⟩ := bnd_e h
          refine k_cv (q := (RX9, TX9, 12)) (As := [.int x3, .int (nI 1)]) 2 (cm_X9_ofP l hX g σ o hL x3 (nI 1) hc11) gX9_placeOf_X9_ofP rfl ⟨rfl, rfl⟩ hd_X9_ofP ⟨Nat.le_of_ble_eq_true rfl, Nat.le_of_ble_eq_true rfl⟩ ⟨Nat.le_refl _, Nat.le_refl _⟩ (lay_lt hL.1 (by decide)) (ce_of hL.1) rfl rfl (Nat.le_of_ble_eq_true rfl) rfl dX9_placeOf_51 ?_
          refine k_isub dX9_placeOf_54 ?_
          exact k_iretR rfl dX9_placeOf_55 h
set_option maxHeartbeats 4000000 in
set_option maxRecDepth 100000 in
theorem cm_X9_placeOf (l : Launch) {X : XT} (hX : XD X) (g : Nat) (σ : Mem) (o : Nat) (hL : L9 o) (p1 : Int32) (p2 : Int32) {r : Int32} (h : fX9_placeOf g σ o p1 p2 = some r) : Met l yX9_placeOf wsX9_placeOf rmX9_placeOf (va_Pc [.ref (xad X o), .int p1, .int p2] (WW X σ)) (QI X r σ) 0 0 (XA X) := by
  refine met_x (M := mX9_placeOf) (lv := [(0, .ref (xad X o)), (1, .int p1), (2, .int p2)]) hX (by decide) rfl rfl (Nat.le_of_ble_eq_true rfl) rfl ?_
  unfold fX9_placeOf at h
  refine k_iconst (v := (nI 0)) dX9_placeOf_0 (by decide) ?_
  refine k_istore_n (lv' := [(3, .int (nI 0)), (0, .ref (xad X o)), (1, .int p1), (2, .int p2)]) dX9_placeOf_1 rfl (Nat.le_of_ble_eq_true rfl) rfl ?_
  refine k_sub (ks' := [1, 2, 3, 0]) rfl ?_
  exact wX9_placeOf_2 l hX g o hL g σ p1 p2 (nI 0) h
abbrev rmX9_framesOnReel : Room := { frames := 2, cells := 0, slots := 0, locals := 43 }
abbrev mX9_framesOnReel : MT := (rmX9_framesOnReel, wsX9_framesOnReel, cX9_framesOnReel, 4, RX9, some .int)
theorem hd_X9_framesOnReel : yX9_framesOnReel.cls = RX9 ∧ yX9_framesOnReel.cls ≠ "java/lang/invoke/MethodHandle" ∧ yX9_framesOnReel.cls ≠ "java/lang/invoke/VarHandle" ∧ (parseMethodDescriptor yX9_framesOnReel.desc).map (fun d => d.parameters.length) = some 1 := by decide +kernel
theorem inX9_framesOnReel_9 : ∀ w ∈ wsX90, w ∈ wsX9_framesOnReel := fun w h => List.mem_cons_of_mem _ (List.mem_append_right _ h)
set_option maxHeartbeats 4000000 in
set_option maxRecDepth 100000 in
theorem wX9_framesOnReel_4 (l : Launch) {X : XT} (hX : XD X) (g : Nat) (o : Nat) (hL : L9 o) {r : Int32} : ∀ (n : Nat) (σ : Mem) (x1 : Int32) (x2 : Int32) (x3 : Int32), fX9_framesOnReel_4 g o n σ x1 x2 x3 = some r → WG X l mX9_framesOnReel (fun _ _ => True) 0 0 (QM X (QI X r σ)) 4 σ [(0, .ref (xad X o)), (1, .int x1), (2, .int x2), (3, .int x3)] [] := by
  intro n
  induction n with
  | zero => intro σ x1 x2 x3 h; exact nomatch (show (none : Option _) = some _ from h)
  | succ n ih =>
    intro σ x1 x2 x3 h
    rw [fX9_framesOnReel_4] at h
    refine k_iload_n (q := 3) dX9_framesOnReel_4 rfl rfl ?_
    refine k_aload_n (q := 0) dX9_framesOnReel_5 rfl rfl ?_
    refine kg_9 (v := .ref (xad X (o + 1))) hL.1 inX9_framesOnReel_9 0 (by decide) (List.mem_of_getElem? (i := 1) rfl) rfl dX9_framesOnReel_6 ?_
    refine k_iconst (v := (nI 1)) dX9_framesOnReel_9 (by decide) ?_
    refine k_iald (n := 6036) hL.2.1 dX9_framesOnReel_10 h (fun h => ?_)
    refine k_icmp_ge (tgt := 42) dX9_framesOnReel_11 (by decide) h (fun h => ?_) (fun h => ?_)
    · refine k_iload_n (q := 2) dX9_framesOnReel_42 rfl rfl ?_
      exact k_iretR rfl dX9_framesOnReel_43 h
    · refine k_iload_n (q := 2) dX9_framesOnReel_14 rfl rfl ?_
      refine k_aload_n (q := 0) dX9_framesOnReel_15 rfl rfl ?_
      refine k_iload_n (q := 3) dX9_framesOnReel_16 rfl rfl ?_
      refine k_iconst (v := (nI 0)) dX9_framesOnReel_17 (by decide) ?_
      obtain ⟨r2, hc1, h⟩ := bnd_e h
      refine k_cv (q := (RX9, TX9, 12)) (As := [.int x3, .int (nI 0)]) 2 (cm_X9_ofP l hX g σ o hL x3 (nI 0) hc1) gX9_framesOnReel_X9_ofP rfl ⟨rfl, rfl⟩ hd_X9_ofP ⟨Nat.le_of_ble_eq_true rfl, Nat.le_of_ble_eq_true rfl⟩ ⟨Nat.le_refl _, Nat.le_refl _⟩ (lay_lt hL.1 (by decide)) (ce_of hL.1) rfl rfl (Nat.le_of_ble_eq_true rfl) rfl dX9_framesOnReel_18 ?_
      refine k_iload_n (q := 1) dX9_framesOnReel_21 rfl rfl ?_
      refine k_icmp_ne (tgt := 33) dX9_framesOnReel_22 (by decide) h (fun h => ?_) (fun h => ?_)
      · refine k_iconst (v := (nI 0)) dX9_framesOnReel_33 (by decide) ?_
        refine k_iadd dX9_framesOnReel_34 ?_
        refine k_istore_n (lv' := [(2, .int (x2 + (nI 0))), (0, .ref (xad X o)), (1, .int x1), (3, .int x3)]) dX9_framesOnReel_35 rfl (Nat.le_of_ble_eq_true rfl) rfl ?_
        refine k_iinc (q := 3) (v := (x3 + (nI 1))) (lv' := [(3, .int (x3 + (nI 1))), (2, .int (x2 + (nI 0))), (0, .ref (xad X o)), (1, .int x1)]) dX9_framesOnReel_36 rfl rfl (Nat.le_of_ble_eq_true rfl) rfl ?_
        refine k_goto (tgt := 4) dX9_framesOnReel_39 (by decide) ?_
        refine k_sub (ks' := [2, 3, 1, 0]) rfl ?_
        exact ih σ x1 (x2 + (nI 0)) (x3 + (nI 1)) h
      · refine k_aload_n (q := 0) dX9_framesOnReel_25 rfl rfl ?_
        refine k_iload_n (q := 3) dX9_framesOnReel_26 rfl rfl ?_
        obtain ⟨r4, hc3, h⟩ := bnd_e h
        refine k_cv (q := (RX9, TX9, 12)) (As := [.int x3]) 1 (cm_X9_framesIn l hX g σ o hL x3 hc3) gX9_framesOnReel_X9_framesIn rfl ⟨rfl, rfl⟩ hd_X9_framesIn ⟨Nat.le_of_ble_eq_true rfl, Nat.le_of_ble_eq_true rfl⟩ ⟨Nat.le_refl _, Nat.le_refl _⟩ (lay_lt hL.1 (by decide)) (ce_of hL.1) rfl rfl (Nat.le_of_ble_eq_true rfl) rfl dX9_framesOnReel_27 ?_
        refine k_goto (tgt := 34) dX9_framesOnReel_30 (by decide) ?_
        refine k_iadd dX9_framesOnReel_34 ?_
        refine k_istore_n (lv' := [(2, .int (x2 + r4)), (0, .ref (xad X o)), (1, .int x1), (3, .int x3)]) dX9_framesOnReel_35 rfl (Nat.le_of_ble_eq_true rfl) rfl ?_
        refine k_iinc (q := 3) (v := (x3 + (nI 1))) (lv' := [(3, .int (x3 + (nI 1))), (2, .int (x2 + r4)), (0, .ref (xad X o)), (1, .int x1)]) dX9_framesOnReel_36 rfl rfl (Nat.le_of_ble_eq_true rfl) rfl ?_
        refine k_goto (tgt := 4) dX9_framesOnReel_39 (by decide) ?_
        refine k_sub (ks' := [2, 3, 1, 0]) rfl ?_
        exact ih σ x1 (x2 + r4) (x3 + (nI 1)) h
set_option maxHeartbeats 4000000 in
set_option maxRecDepth 100000 in
theorem cm_X9_framesOnReel (l : Launch) {X : XT} (hX : XD X) (g : Nat) (σ : Mem) (o : Nat) (hL : L9 o) (p1 : Int32) {r : Int32} (h : fX9_framesOnReel g σ o p1 = some r) : Met l yX9_framesOnReel wsX9_framesOnReel rmX9_framesOnReel (va_Pc [.ref (xad X o), .int p1] (WW X σ)) (QI X r σ) 0 0 (XA X) := by
  refine met_x (M := mX9_framesOnReel) (lv := [(0, .ref (xad X o)), (1, .int p1)]) hX (by decide) rfl rfl (Nat.le_of_ble_eq_true rfl) rfl ?_
  unfold fX9_framesOnReel at h
  refine k_iconst (v := (nI 0)) dX9_framesOnReel_0 (by decide) ?_
  refine k_istore_n (lv' := [(2, .int (nI 0)), (0, .ref (xad X o)), (1, .int p1)]) dX9_framesOnReel_1 rfl (Nat.le_of_ble_eq_true rfl) rfl ?_
  refine k_iconst (v := (nI 0)) dX9_framesOnReel_2 (by decide) ?_
  refine k_istore_n (lv' := [(3, .int (nI 0)), (2, .int (nI 0)), (0, .ref (xad X o)), (1, .int p1)]) dX9_framesOnReel_3 rfl (Nat.le_of_ble_eq_true rfl) rfl ?_
  refine k_sub (ks' := [2, 3, 1, 0]) rfl ?_
  exact wX9_framesOnReel_4 l hX g o hL g σ p1 (nI 0) (nI 0) h
abbrev rmX9_piecesOf : Room := { frames := 1, cells := 0, slots := 0, locals := 22 }
abbrev mX9_piecesOf : MT := (rmX9_piecesOf, wsX9_piecesOf, cX9_piecesOf, 4, RX9, some .int)
theorem hd_X9_piecesOf : yX9_piecesOf.cls = RX9 ∧ yX9_piecesOf.cls ≠ "java/lang/invoke/MethodHandle" ∧ yX9_piecesOf.cls ≠ "java/lang/invoke/VarHandle" ∧ (parseMethodDescriptor yX9_piecesOf.desc).map (fun d => d.parameters.length) = some 1 := by decide +kernel
theorem inX9_piecesOf_9 : ∀ w ∈ wsX90, w ∈ wsX9_piecesOf := fun w h => List.mem_cons_of_mem _ (List.mem_append_right _ h)
set_option maxHeartbeats 4000000 in
set_option maxRecDepth 100000 in
theorem wX9_piecesOf_40 (l : Launch) {X : XT} (hX : XD X) (g : Nat) (o : Nat) (hL : L9 o) {r : Int32} : ∀ (n : Nat) (σ : Mem) (x1 : Int32) (x2 : Int32) (x3 : Int32), fX9_piecesOf_40 g o n σ x1 x2 x3 = some r → WG X l mX9_piecesOf (fun _ _ => True) 0 0 (QM X (QI X r σ)) 40 σ [(0, .ref (xad X o)), (1, .int x1), (2, .int x2), (3, .int x3)] [] := by
  intro n
  induction n with
  | zero => intro σ x1 x2 x3 h; exact nomatch (show (none : Option _) = some _ from h)
  | succ n ih =>
    intro σ x1 x2 x3 h
    rw [fX9_piecesOf_40] at h
    refine k_iload_n (q := 3) dX9_piecesOf_40 rfl rfl ?_
    refine k_aload_n (q := 0) dX9_piecesOf_41 rfl rfl ?_
    refine kg_9 (v := .ref (xad X (o + 1))) hL.1 inX9_piecesOf_9 0 (by decide) (List.mem_of_getElem? (i := 1) rfl) rfl dX9_piecesOf_42 ?_
    refine k_iconst (v := (nI 2)) dX9_piecesOf_45 (by decide) ?_
    refine k_iald (n := 6036) hL.2.1 dX9_piecesOf_46 h (fun h => ?_)
    refine k_icmp_ge (tgt := 74) dX9_piecesOf_47 (by decide) h (fun h => ?_) (fun h => ?_)
    · refine k_iload_n (q := 2) dX9_piecesOf_74 rfl rfl ?_
      exact k_iretR rfl dX9_piecesOf_75 h
    · refine k_iload_n (q := 2) dX9_piecesOf_50 rfl rfl ?_
      refine k_aload_n (q := 0) dX9_piecesOf_51 rfl rfl ?_
      refine k_iload_n (q := 3) dX9_piecesOf_52 rfl rfl ?_
      refine k_iconst (v := (nI 0)) dX9_piecesOf_53 (by decide) ?_
      obtain ⟨r2, hc1, h⟩ := bnd_e h
      refine k_cv (q := (RX9, TX9, 12)) (As := [.int x3, .int (nI 0)]) 2 (cm_X9_ofC l hX g σ o hL x3 (nI 0) hc1) gX9_piecesOf_X9_ofC rfl ⟨rfl, rfl⟩ hd_X9_ofC ⟨Nat.le_of_ble_eq_true rfl, Nat.le_of_ble_eq_true rfl⟩ ⟨Nat.le_refl _, Nat.le_refl _⟩ (lay_lt hL.1 (by decide)) (ce_of hL.1) rfl rfl (Nat.le_of_ble_eq_true rfl) rfl dX9_piecesOf_54 ?_
      refine k_iload_n (q := 1) dX9_piecesOf_57 rfl rfl ?_
      have key : WG X l mX9_piecesOf (fun _ _ => True) 0 0 (QM X (QI X r σ)) 66 σ [(0, .ref (xad X o)), (1, .int x1), (2, .int x2), (3, .int x3)] [.int (if r2 = x1 then (nI 1) else (nI 0)), .int x2] := by
        refine k_iadd dX9_piecesOf_66 ?_
        refine k_istore_n (lv' := [(2, .int (x2 + (if r2 = x1 then (nI 1) else (nI 0)))), (0, .ref (xad X o)), (1, .int x1), (3, .int x3)]) dX9_piecesOf_67 rfl (Nat.le_of_ble_eq_true rfl) rfl ?_
        refine k_iinc (q := 3) (v := (x3 + (nI 1))) (lv' := [(3, .int (x3 + (nI 1))), (2, .int (x2 + (if r2 = x1 then (nI 1) else (nI 0)))), (0, .ref (xad X o)), (1, .int x1)]) dX9_piecesOf_68 rfl rfl (Nat.le_of_ble_eq_true rfl) rfl ?_
        refine k_goto (tgt := 40) dX9_piecesOf_71 (by decide) ?_
        refine k_sub (ks' := [2, 3, 1, 0]) rfl ?_
        exact ih σ x1 (x2 + (if r2 = x1 then (nI 1) else (nI 0))) (x3 + (nI 1)) h
      refine k_icmpc_ne (tgt := 65) dX9_piecesOf_58 (by decide) (fun hq => ?_) (fun hq => ?_)
      · rw [if_neg hq] at key
        refine k_iconst (v := (nI 0)) dX9_piecesOf_65 (by decide) ?_
        exact key
      · rw [if_pos hq] at key
        refine k_iconst (v := (nI 1)) dX9_piecesOf_61 (by decide) ?_
        refine k_goto (tgt := 66) dX9_piecesOf_62 (by decide) ?_
        exact key
set_option maxHeartbeats 4000000 in
set_option maxRecDepth 100000 in
theorem wX9_piecesOf_4 (l : Launch) {X : XT} (hX : XD X) (g : Nat) (o : Nat) (hL : L9 o) {r : Int32} : ∀ (n : Nat) (σ : Mem) (x1 : Int32) (x2 : Int32) (x3 : Int32), fX9_piecesOf_4 g o n σ x1 x2 x3 = some r → WG X l mX9_piecesOf (fun _ _ => True) 0 0 (QM X (QI X r σ)) 4 σ [(0, .ref (xad X o)), (1, .int x1), (2, .int x2), (3, .int x3)] [] := by
  intro n
  induction n with
  | zero => intro σ x1 x2 x3 h; exact nomatch (show (none : Option _) = some _ from h)
  | succ n ih =>
    intro σ x1 x2 x3 h
    rw [fX9_piecesOf_4] at h
    refine k_iload_n (q := 3) dX9_piecesOf_4 rfl rfl ?_
    refine k_aload_n (q := 0) dX9_piecesOf_5 rfl rfl ?_
    refine kg_9 (v := .ref (xad X (o + 1))) hL.1 inX9_piecesOf_9 0 (by decide) (List.mem_of_getElem? (i := 1) rfl) rfl dX9_piecesOf_6 ?_
    refine k_iconst (v := (nI 1)) dX9_piecesOf_9 (by decide) ?_
    refine k_iald (n := 6036) hL.2.1 dX9_piecesOf_10 h (fun h => ?_)
    refine k_icmp_ge (tgt := 38) dX9_piecesOf_11 (by decide) h (fun h => ?_) (fun h => ?_)
    · refine k_iconst (v := (nI 0)) dX9_piecesOf_38 (by decide) ?_
      refine k_istore_n (lv' := [(3, .int (nI 0)), (0, .ref (xad X o)), (1, .int x1), (2, .int x2)]) dX9_piecesOf_39 rfl (Nat.le_of_ble_eq_true rfl) rfl ?_
      refine k_sub (ks' := [1, 2, 3, 0]) rfl ?_
      exact wX9_piecesOf_40 l hX g o hL g σ x1 x2 (nI 0) h
    · refine k_iload_n (q := 2) dX9_piecesOf_14 rfl rfl ?_
      refine k_aload_n (q := 0) dX9_piecesOf_15 rfl rfl ?_
      refine k_iload_n (q := 3) dX9_piecesOf_16 rfl rfl ?_
      refine k_iconst (v := (nI 0)) dX9_piecesOf_17 (by decide) ?_
      obtain ⟨r4, hc3, h⟩ := bnd_e h
      refine k_cv (q := (RX9, TX9, 12)) (As := [.int x3, .int (nI 0)]) 2 (cm_X9_ofP l hX g σ o hL x3 (nI 0) hc3) gX9_piecesOf_X9_ofP rfl ⟨rfl, rfl⟩ hd_X9_ofP ⟨Nat.le_of_ble_eq_true rfl, Nat.le_of_ble_eq_true rfl⟩ ⟨Nat.le_refl _, Nat.le_refl _⟩ (lay_lt hL.1 (by decide)) (ce_of hL.1) rfl rfl (Nat.le_of_ble_eq_true rfl) rfl dX9_piecesOf_18 ?_
      refine k_iload_n (q := 1) dX9_piecesOf_21 rfl rfl ?_
      have key : WG X l mX9_piecesOf (fun _ _ => True) 0 0 (QM X (QI X r σ)) 30 σ [(0, .ref (xad X o)), (1, .int x1), (2, .int x2), (3, .int x3)] [.int (if r4 = x1 then (nI 1) else (nI 0)), .int x2] := by
        refine k_iadd dX9_piecesOf_30 ?_
        refine k_istore_n (lv' := [(2, .int (x2 + (if r4 = x1 then (nI 1) else (nI 0)))), (0, .ref (xad X o)), (1, .int x1), (3, .int x3)]) dX9_piecesOf_31 rfl (Nat.le_of_ble_eq_true rfl) rfl ?_
        refine k_iinc (q := 3) (v := (x3 + (nI 1))) (lv' := [(3, .int (x3 + (nI 1))), (2, .int (x2 + (if r4 = x1 then (nI 1) else (nI 0)))), (0, .ref (xad X o)), (1, .int x1)]) dX9_piecesOf_32 rfl rfl (Nat.le_of_ble_eq_true rfl) rfl ?_
        refine k_goto (tgt := 4) dX9_piecesOf_35 (by decide) ?_
        refine k_sub (ks' := [2, 3, 1, 0]) rfl ?_
        exact ih σ x1 (x2 + (if r4 = x1 then (nI 1) else (nI 0))) (x3 + (nI 1)) h
      refine k_icmpc_ne (tgt := 29) dX9_piecesOf_22 (by decide) (fun hq => ?_) (fun hq => ?_)
      · rw [if_neg hq] at key
        refine k_iconst (v := (nI 0)) dX9_piecesOf_29 (by decide) ?_
        exact key
      · rw [if_pos hq] at key
        refine k_iconst (v := (nI 1)) dX9_piecesOf_25 (by decide) ?_
        refine k_goto (tgt := 30) dX9_piecesOf_26 (by decide) ?_
        exact key
set_option maxHeartbeats 4000000 in
set_option maxRecDepth 100000 in
theorem cm_X9_piecesOf (l : Launch) {X : XT} (hX : XD X) (g : Nat) (σ : Mem) (o : Nat) (hL : L9 o) (p1 : Int32) {r : Int32} (h : fX9_piecesOf g σ o p1 = some r) : Met l yX9_piecesOf wsX9_piecesOf rmX9_piecesOf (va_Pc [.ref (xad X o), .int p1] (WW X σ)) (QI X r σ) 0 0 (XA X) := by
  refine met_x (M := mX9_piecesOf) (lv := [(0, .ref (xad X o)), (1, .int p1)]) hX (by decide) rfl rfl (Nat.le_of_ble_eq_true rfl) rfl ?_
  unfold fX9_piecesOf at h
  refine k_iconst (v := (nI 0)) dX9_piecesOf_0 (by decide) ?_
  refine k_istore_n (lv' := [(2, .int (nI 0)), (0, .ref (xad X o)), (1, .int p1)]) dX9_piecesOf_1 rfl (Nat.le_of_ble_eq_true rfl) rfl ?_
  refine k_iconst (v := (nI 0)) dX9_piecesOf_2 (by decide) ?_
  refine k_istore_n (lv' := [(3, .int (nI 0)), (2, .int (nI 0)), (0, .ref (xad X o)), (1, .int p1)]) dX9_piecesOf_3 rfl (Nat.le_of_ble_eq_true rfl) rfl ?_
  refine k_sub (ks' := [2, 3, 1, 0]) rfl ?_
  exact wX9_piecesOf_4 l hX g o hL g σ p1 (nI 0) (nI 0) h
abbrev rmX9_tornIn : Room := { frames := 1, cells := 0, slots := 0, locals := 22 }
abbrev mX9_tornIn : MT := (rmX9_tornIn, wsX9_tornIn, cX9_tornIn, 4, RX9, some .int)
theorem hd_X9_tornIn : yX9_tornIn.cls = RX9 ∧ yX9_tornIn.cls ≠ "java/lang/invoke/MethodHandle" ∧ yX9_tornIn.cls ≠ "java/lang/invoke/VarHandle" ∧ (parseMethodDescriptor yX9_tornIn.desc).map (fun d => d.parameters.length) = some 1 := by decide +kernel
theorem inX9_tornIn_9 : ∀ w ∈ wsX90, w ∈ wsX9_tornIn := fun w h => List.mem_cons_of_mem _ (List.mem_append_right _ h)
set_option maxHeartbeats 4000000 in
set_option maxRecDepth 100000 in
theorem wX9_tornIn_4 (l : Launch) {X : XT} (hX : XD X) (g : Nat) (o : Nat) (hL : L9 o) {r : Int32} : ∀ (n : Nat) (σ : Mem) (x1 : Int32) (x2 : Int32) (x3 : Int32), fX9_tornIn_4 g o n σ x1 x2 x3 = some r → WG X l mX9_tornIn (fun _ _ => True) 0 0 (QM X (QI X r σ)) 4 σ [(0, .ref (xad X o)), (1, .int x1), (2, .int x2), (3, .int x3)] [] := by
  intro n
  induction n with
  | zero => intro σ x1 x2 x3 h; exact nomatch (show (none : Option _) = some _ from h)
  | succ n ih =>
    intro σ x1 x2 x3 h
    rw [fX9_tornIn_4] at h
    refine k_iload_n (q := 3) dX9_tornIn_4 rfl rfl ?_
    refine k_aload_n (q := 0) dX9_tornIn_5 rfl rfl ?_
    refine k_iload_n (q := 1) dX9_tornIn_6 rfl rfl ?_
    obtain ⟨r2, hc1, h⟩ := bnd_e h
    refine k_cv (q := (RX9, TX9, 12)) (As := [.int x1]) 1 (cm_X9_framesOf l hX g σ o hL x1 hc1) gX9_tornIn_X9_framesOf rfl ⟨rfl, rfl⟩ hd_X9_framesOf ⟨Nat.le_of_ble_eq_true rfl, Nat.le_of_ble_eq_true rfl⟩ ⟨Nat.le_refl _, Nat.le_refl _⟩ (lay_lt hL.1 (by decide)) (ce_of hL.1) rfl rfl (Nat.le_of_ble_eq_true rfl) rfl dX9_tornIn_7 ?_
    refine k_icmp_ge (tgt := 31) dX9_tornIn_10 (by decide) h (fun h => ?_) (fun h => ?_)
    · refine k_iload_n (q := 2) dX9_tornIn_31 rfl rfl ?_
      exact k_iretR rfl dX9_tornIn_32 h
    · refine k_iload_n (q := 2) dX9_tornIn_13 rfl rfl ?_
      refine k_aload_n (q := 0) dX9_tornIn_14 rfl rfl ?_
      refine k_iload_n (q := 1) dX9_tornIn_15 rfl rfl ?_
      refine k_iload_n (q := 3) dX9_tornIn_16 rfl rfl ?_
      obtain ⟨r4, hc3, h⟩ := bnd_e h
      refine k_cv (q := (RX9, TX9, 12)) (As := [.int x1, .int x3]) 2 (cm_X9_torn l hX g σ o hL x1 x3 hc3) gX9_tornIn_X9_torn rfl ⟨rfl, rfl⟩ hd_X9_torn ⟨Nat.le_of_ble_eq_true rfl, Nat.le_of_ble_eq_true rfl⟩ ⟨Nat.le_refl _, Nat.le_refl _⟩ (lay_lt hL.1 (by decide)) (ce_of hL.1) rfl rfl (Nat.le_of_ble_eq_true rfl) rfl dX9_tornIn_17 ?_
      obtain ⟨r6, hc5, h⟩ := bnd_e h
      refine k_cs (As := [.int r4]) 1 (cm_X9_ones l hX g σ r4 hc5) gX9_tornIn_X9_ones rfl ⟨rfl, rfl⟩ hd_X9_ones ⟨Nat.le_of_ble_eq_true rfl, Nat.le_of_ble_eq_true rfl⟩ ⟨Nat.le_refl _, Nat.le_refl _⟩ rfl (Nat.le_of_ble_eq_true rfl) rfl dX9_tornIn_20 ?_
      refine k_iadd dX9_tornIn_23 ?_
      refine k_istore_n (lv' := [(2, .int (x2 + r6)), (0, .ref (xad X o)), (1, .int x1), (3, .int x3)]) dX9_tornIn_24 rfl (Nat.le_of_ble_eq_true rfl) rfl ?_
      refine k_iinc (q := 3) (v := (x3 + (nI 1))) (lv' := [(3, .int (x3 + (nI 1))), (2, .int (x2 + r6)), (0, .ref (xad X o)), (1, .int x1)]) dX9_tornIn_25 rfl rfl (Nat.le_of_ble_eq_true rfl) rfl ?_
      refine k_goto (tgt := 4) dX9_tornIn_28 (by decide) ?_
      refine k_sub (ks' := [2, 3, 1, 0]) rfl ?_
      exact ih σ x1 (x2 + r6) (x3 + (nI 1)) h
set_option maxHeartbeats 4000000 in
set_option maxRecDepth 100000 in
theorem cm_X9_tornIn (l : Launch) {X : XT} (hX : XD X) (g : Nat) (σ : Mem) (o : Nat) (hL : L9 o) (p1 : Int32) {r : Int32} (h : fX9_tornIn g σ o p1 = some r) : Met l yX9_tornIn wsX9_tornIn rmX9_tornIn (va_Pc [.ref (xad X o), .int p1] (WW X σ)) (QI X r σ) 0 0 (XA X) := by
  refine met_x (M := mX9_tornIn) (lv := [(0, .ref (xad X o)), (1, .int p1)]) hX (by decide) rfl rfl (Nat.le_of_ble_eq_true rfl) rfl ?_
  unfold fX9_tornIn at h
  refine k_iconst (v := (nI 0)) dX9_tornIn_0 (by decide) ?_
  refine k_istore_n (lv' := [(2, .int (nI 0)), (0, .ref (xad X o)), (1, .int p1)]) dX9_tornIn_1 rfl (Nat.le_of_ble_eq_true rfl) rfl ?_
  refine k_iconst (v := (nI 0)) dX9_tornIn_2 (by decide) ?_
  refine k_istore_n (lv' := [(3, .int (nI 0)), (2, .int (nI 0)), (0, .ref (xad X o)), (1, .int p1)]) dX9_tornIn_3 rfl (Nat.le_of_ble_eq_true rfl) rfl ?_
  refine k_sub (ks' := [2, 3, 1, 0]) rfl ?_
  exact wX9_tornIn_4 l hX g o hL g σ p1 (nI 0) (nI 0) h
abbrev rmX9_isInOrder : Room := { frames := 4, cells := 0, slots := 0, locals := 89 }
abbrev mX9_isInOrder : MT := (rmX9_isInOrder, wsX9_isInOrder, cX9_isInOrder, 6, RX9, some .boolean)
theorem hd_X9_isInOrder : yX9_isInOrder.cls = RX9 ∧ yX9_isInOrder.cls ≠ "java/lang/invoke/MethodHandle" ∧ yX9_isInOrder.cls ≠ "java/lang/invoke/VarHandle" ∧ (parseMethodDescriptor yX9_isInOrder.desc).map (fun d => d.parameters.length) = some 1 := by decide +kernel
theorem inX9_isInOrder_9 : ∀ w ∈ wsX90, w ∈ wsX9_isInOrder := fun w h => List.mem_cons_of_mem _ (List.mem_append_right _ h)
set_option maxHeartbeats 4000000 in
set_option maxRecDepth 100000 in
theorem wX9_isInOrder_8 (l : Launch) {X : XT} (hX : XD X) (g : Nat) (o : Nat) (hL : L9 o) {r : Int32} : ∀ (n : Nat) (σ : Mem) (x1 : Int32) (x2 : Int32) (x3 : Int32) (x4 : Int32), fX9_isInOrder_8 g o n σ x1 x2 x3 x4 = some r → WG X l mX9_isInOrder (fun _ _ => True) 0 0 (QM X (QI X r σ)) 8 σ [(0, .ref (xad X o)), (1, .int x1), (2, .int x2), (3, .int x3), (4, .int x4)] [] := by
  intro n
  induction n with
  | zero => intro σ x1 x2 x3 x4 h; exact nomatch (show (none : Option _) = some _ from h)
  | succ n ih =>
    intro σ x1 x2 x3 x4 h
    rw [fX9_isInOrder_8] at h
    refine k_iload (q := 4) dX9_isInOrder_8 rfl ?_
    refine k_aload_n (q := 0) dX9_isInOrder_10 rfl rfl ?_
    refine k_iload_n (q := 1) dX9_isInOrder_11 rfl rfl ?_
    obtain ⟨r2, hc1, h⟩ := bnd_e h
    refine k_cv (q := (RX9, TX9, 12)) (As := [.int x1]) 1 (cm_X9_framesOf l hX g σ o hL x1 hc1) gX9_isInOrder_X9_framesOf rfl ⟨rfl, rfl⟩ hd_X9_framesOf ⟨Nat.le_of_ble_eq_true rfl, Nat.le_of_ble_eq_true rfl⟩ ⟨Nat.le_refl _, Nat.le_refl _⟩ (lay_lt hL.1 (by decide)) (ce_of hL.1) rfl rfl (Nat.le_of_ble_eq_true rfl) rfl dX9_isInOrder_12 ?_
    refine k_icmp_ge (tgt := 70) dX9_isInOrder_15 (by decide) h (fun h => ?_) (fun h => ?_)
    · refine k_iload_n (q := 3) dX9_isInOrder_70 rfl rfl ?_
      exact k_zretR rfl dX9_isInOrder_71 (isZ_n (chk_e h).1) (chk_e h).2
    · refine k_aload_n (q := 0) dX9_isInOrder_18 rfl rfl ?_
      refine k_iload_n (q := 1) dX9_isInOrder_19 rfl rfl ?_
      refine k_iload (q := 4) dX9_isInOrder_20 rfl ?_
      obtain ⟨r4, hc3, h⟩ := bnd_e h
      refine k_cv (q := (RX9, TX9, 12)) (As := [.int x1, .int x4]) 2 (cm_X9_placeOf l hX g σ o hL x1 x4 hc3) gX9_isInOrder_X9_placeOf rfl ⟨rfl, rfl⟩ hd_X9_placeOf ⟨Nat.le_of_ble_eq_true rfl, Nat.le_of_ble_eq_true rfl⟩ ⟨Nat.le_refl _, Nat.le_refl _⟩ (lay_lt hL.1 (by decide)) (ce_of hL.1) rfl rfl (Nat.le_of_ble_eq_true rfl) rfl dX9_isInOrder_22 ?_
      refine k_istore (lv' := [(5, .int r4), (0, .ref (xad X o)), (1, .int x1), (2, .int x2), (3, .int x3), (4, .int x4)]) dX9_isInOrder_25 (Nat.le_of_ble_eq_true rfl) rfl ?_
      refine k_iload_n (q := 4) dX9_isInOrder_27 rfl rfl ?_
      refine k_if_eq (tgt := 48) dX9_isInOrder_28 (by decide) h (fun h => ?_) (fun h => ?_)
      · refine k_iconst (v := (nI 0)) dX9_isInOrder_48 (by decide) ?_
        refine k_istore_n (lv' := [(3, .int (nI 0)), (5, .int r4), (0, .ref (xad X o)), (1, .int x1), (2, .int x2), (4, .int x4)]) dX9_isInOrder_49 rfl (Nat.le_of_ble_eq_true rfl) rfl ?_
        refine k_iload (q := 1) dX9_isInOrder_50 rfl ?_
        refine k_bipush (v := (nN 5)) dX9_isInOrder_52 (by decide) ?_
        have key : WG X l mX9_isInOrder (fun _ _ => True) 0 0 (QM X (QI X r σ)) 63 σ [(3, .int (nI 0)), (5, .int r4), (0, .ref (xad X o)), (1, .int x1), (2, .int x2), (4, .int x4)] [.int (if r4 = (nN 5) then x2 else r4)] := by
          refine k_istore_n (lv' := [(2, .int (if r4 = (nN 5) then x2 else r4)), (3, .int (nI 0)), (5, .int r4), (0, .ref (xad X o)), (1, .int x1), (4, .int x4)]) dX9_isInOrder_63 rfl (Nat.le_of_ble_eq_true rfl) rfl ?_
          refine k_iinc (q := 5) (v := (x4 + (nI 1))) (lv' := [(4, .int (x4 + (nI 1))), (2, .int (if r4 = (nN 5) then x2 else r4)), (3, .int (nI 0)), (5, .int r4), (0, .ref (xad X o)), (1, .int x1)]) dX9_isInOrder_64 rfl rfl (Nat.le_of_ble_eq_true rfl) rfl ?_
          refine k_goto (tgt := 8) dX9_isInOrder_67 (by decide) ?_
          refine k_sub (ks' := [4, 5, 1, 2, 0]) rfl ?_
          exact ih σ x1 (if r4 = (nN 5) then x2 else r4) (nI 0) (x4 + (nI 1)) h
        refine k_icmpc_ne (tgt := 61) dX9_isInOrder_54 (by decide) (fun hq => ?_) (fun hq => ?_)
        · rw [if_neg hq] at key
          refine k_iload (q := 1) dX9_isInOrder_61 rfl ?_
          exact key
        · rw [if_pos hq] at key
          refine k_iload_n (q := 4) dX9_isInOrder_57 rfl rfl ?_
          refine k_goto (tgt := 63) dX9_isInOrder_58 (by decide) ?_
          exact key
      · refine k_iload (q := 0) dX9_isInOrder_31 rfl ?_
        refine k_bipush (v := (nN 5)) dX9_isInOrder_33 (by decide) ?_
        refine k_icmp_eq (tgt := 44) dX9_isInOrder_35 (by decide) h (fun h => ?_) (fun h => ?_)
        · refine k_iconst (v := (nI 1)) dX9_isInOrder_44 (by decide) ?_
          refine k_goto (tgt := 49) dX9_isInOrder_45 (by decide) ?_
          refine k_istore_n (lv' := [(3, .int (nI 1)), (5, .int r4), (0, .ref (xad X o)), (1, .int x1), (2, .int x2), (4, .int x4)]) dX9_isInOrder_49 rfl (Nat.le_of_ble_eq_true rfl) rfl ?_
          refine k_iload (q := 1) dX9_isInOrder_50 rfl ?_
          refine k_bipush (v := (nN 5)) dX9_isInOrder_52 (by decide) ?_
          have key : WG X l mX9_isInOrder (fun _ _ => True) 0 0 (QM X (QI X r σ)) 63 σ [(3, .int (nI 1)), (5, .int r4), (0, .ref (xad X o)), (1, .int x1), (2, .int x2), (4, .int x4)] [.int (if r4 = (nN 5) then x2 else r4)] := by
            refine k_istore_n (lv' := [(2, .int (if r4 = (nN 5) then x2 else r4)), (3, .int (nI 1)), (5, .int r4), (0, .ref (xad X o)), (1, .int x1), (4, .int x4)]) dX9_isInOrder_63 rfl (Nat.le_of_ble_eq_true rfl) rfl ?_
            refine k_iinc (q := 5) (v := (x4 + (nI 1))) (lv' := [(4, .int (x4 + (nI 1))), (2, .int (if r4 = (nN 5) then x2 else r4)), (3, .int (nI 1)), (5, .int r4), (0, .ref (xad X o)), (1, .int x1)]) dX9_isInOrder_64 rfl rfl (Nat.le_of_ble_eq_true rfl) rfl ?_
            refine k_goto (tgt := 8) dX9_isInOrder_67 (by decide) ?_
            refine k_sub (ks' := [4, 5, 1, 2, 0]) rfl ?_
            exact ih σ x1 (if r4 = (nN 5) then x2 else r4) (nI 1) (x4 + (nI 1)) h
          refine k_icmpc_ne (tgt := 61) dX9_isInOrder_54 (by decide) (fun hq => ?_) (fun hq => ?_)
          · rw [if_neg hq] at key
            refine k_iload (q := 1) dX9_isInOrder_61 rfl ?_
            exact key
          · rw [if_pos hq] at key
            refine k_iload_n (q := 4) dX9_isInOrder_57 rfl rfl ?_
            refine k_goto (tgt := 63) dX9_isInOrder_58 (by decide) ?_
            exact key
        · refine k_iload (q := 0) dX9_isInOrder_38 rfl ?_
          refine k_iload_n (q := 3) dX9_isInOrder_40 rfl rfl ?_
          refine k_icmp_le (tgt := 48) dX9_isInOrder_41 (by decide) h (fun h => ?_) (fun h => ?_)
          · refine k_iconst (v := (nI 0)) dX9_isInOrder_48 (by decide) ?_
            refine k_istore_n (lv' := [(3, .int (nI 0)), (5, .int r4), (0, .ref (xad X o)), (1, .int x1), (2, .int x2), (4, .int x4)]) dX9_isInOrder_49 rfl (Nat.le_of_ble_eq_true rfl) rfl ?_
            refine k_iload (q := 1) dX9_isInOrder_50 rfl ?_
            refine k_bipush (v := (nN 5)) dX9_isInOrder_52 (by decide) ?_
            have key : WG X l mX9_isInOrder (fun _ _ => True) 0 0 (QM X (QI X r σ)) 63 σ [(3, .int (nI 0)), (5, .int r4), (0, .ref (xad X o)), (1, .int x1), (2, .int x2), (4, .int x4)] [.int (if r4 = (nN 5) then x2 else r4)] := by
              refine k_istore_n (lv' := [(2, .int (if r4 = (nN 5) then x2 else r4)), (3, .int (nI 0)), (5, .int r4), (0, .ref (xad X o)), (1, .int x1), (4, .int x4)]) dX9_isInOrder_63 rfl (Nat.le_of_ble_eq_true rfl) rfl ?_
              refine k_iinc (q := 5) (v := (x4 + (nI 1))) (lv' := [(4, .int (x4 + (nI 1))), (2, .int (if r4 = (nN 5) then x2 else r4)), (3, .int (nI 0)), (5, .int r4), (0, .ref (xad X o)), (1, .int x1)]) dX9_isInOrder_64 rfl rfl (Nat.le_of_ble_eq_true rfl) rfl ?_
              refine k_goto (tgt := 8) dX9_isInOrder_67 (by decide) ?_
              refine k_sub (ks' := [4, 5, 1, 2, 0]) rfl ?_
              exact ih σ x1 (if r4 = (nN 5) then x2 else r4) (nI 0) (x4 + (nI 1)) h
            refine k_icmpc_ne (tgt := 61) dX9_isInOrder_54 (by decide) (fun hq => ?_) (fun hq => ?_)
            · rw [if_neg hq] at key
              refine k_iload (q := 1) dX9_isInOrder_61 rfl ?_
              exact key
            · rw [if_pos hq] at key
              refine k_iload_n (q := 4) dX9_isInOrder_57 rfl rfl ?_
              refine k_goto (tgt := 63) dX9_isInOrder_58 (by decide) ?_
              exact key
          · refine k_iconst (v := (nI 1)) dX9_isInOrder_44 (by decide) ?_
            refine k_goto (tgt := 49) dX9_isInOrder_45 (by decide) ?_
            refine k_istore_n (lv' := [(3, .int (nI 1)), (5, .int r4), (0, .ref (xad X o)), (1, .int x1), (2, .int x2), (4, .int x4)]) dX9_isInOrder_49 rfl (Nat.le_of_ble_eq_true rfl) rfl ?_
            refine k_iload (q := 1) dX9_isInOrder_50 rfl ?_
            refine k_bipush (v := (nN 5)) dX9_isInOrder_52 (by decide) ?_
            have key : WG X l mX9_isInOrder (fun _ _ => True) 0 0 (QM X (QI X r σ)) 63 σ [(3, .int (nI 1)), (5, .int r4), (0, .ref (xad X o)), (1, .int x1), (2, .int x2), (4, .int x4)] [.int (if r4 = (nN 5) then x2 else r4)] := by
              refine k_istore_n (lv' := [(2, .int (if r4 = (nN 5) then x2 else r4)), (3, .int (nI 1)), (5, .int r4), (0, .ref (xad X o)), (1, .int x1), (4, .int x4)]) dX9_isInOrder_63 rfl (Nat.le_of_ble_eq_true rfl) rfl ?_
              refine k_iinc (q := 5) (v := (x4 + (nI 1))) (lv' := [(4, .int (x4 + (nI 1))), (2, .int (if r4 = (nN 5) then x2 else r4)), (3, .int (nI 1)), (5, .int r4), (0, .ref (xad X o)), (1, .int x1)]) dX9_isInOrder_64 rfl rfl (Nat.le_of_ble_eq_true rfl) rfl ?_
              refine k_goto (tgt := 8) dX9_isInOrder_67 (by decide) ?_
              refine k_sub (ks' := [4, 5, 1, 2, 0]) rfl ?_
              exact ih σ x1 (if r4 = (nN 5) then x2 else r4) (nI 1) (x4 + (nI 1)) h
            refine k_icmpc_ne (tgt := 61) dX9_isInOrder_54 (by decide) (fun hq => ?_) (fun hq => ?_)
            · rw [if_neg hq] at key
              refine k_iload (q := 1) dX9_isInOrder_61 rfl ?_
              exact key
            · rw [if_pos hq] at key
              refine k_iload_n (q := 4) dX9_isInOrder_57 rfl rfl ?_
              refine k_goto (tgt := 63) dX9_isInOrder_58 (by decide) ?_
              exact key
set_option maxHeartbeats 4000000 in
set_option maxRecDepth 100000 in
theorem cm_X9_isInOrder (l : Launch) {X : XT} (hX : XD X) (g : Nat) (σ : Mem) (o : Nat) (hL : L9 o) (p1 : Int32) {r : Int32} (h : fX9_isInOrder g σ o p1 = some r) : Met l yX9_isInOrder wsX9_isInOrder rmX9_isInOrder (va_Pc [.ref (xad X o), .int p1] (WW X σ)) (QI X r σ) 0 0 (XA X) := by
  refine met_x (M := mX9_isInOrder) (lv := [(0, .ref (xad X o)), (1, .int p1)]) hX (by decide) rfl rfl (Nat.le_of_ble_eq_true rfl) rfl ?_
  unfold fX9_isInOrder at h
  refine k_bipush (v := (nN 5)) dX9_isInOrder_0 (by decide) ?_
  refine k_istore_n (lv' := [(2, .int (nN 5)), (0, .ref (xad X o)), (1, .int p1)]) dX9_isInOrder_2 rfl (Nat.le_of_ble_eq_true rfl) rfl ?_
  refine k_iconst (v := (nI 1)) dX9_isInOrder_3 (by decide) ?_
  refine k_istore_n (lv' := [(3, .int (nI 1)), (2, .int (nN 5)), (0, .ref (xad X o)), (1, .int p1)]) dX9_isInOrder_4 rfl (Nat.le_of_ble_eq_true rfl) rfl ?_
  refine k_iconst (v := (nI 0)) dX9_isInOrder_5 (by decide) ?_
  refine k_istore (lv' := [(4, .int (nI 0)), (3, .int (nI 1)), (2, .int (nN 5)), (0, .ref (xad X o)), (1, .int p1)]) dX9_isInOrder_6 (Nat.le_of_ble_eq_true rfl) rfl ?_
  refine k_sub (ks' := [3, 4, 2, 1, 0]) rfl ?_
  exact wX9_isInOrder_8 l hX g o hL g σ p1 (nN 5) (nI 1) (nI 0) h
abbrev rmX9_scene : Room := { frames := 5, cells := 0, slots := 0, locals := 114 }
abbrev mX9_scene : MT := (rmX9_scene, wsX9_scene, cX9_scene, 3, RX9, some .int)
theorem hd_X9_scene : yX9_scene.cls = RX9 ∧ yX9_scene.cls ≠ "java/lang/invoke/MethodHandle" ∧ yX9_scene.cls ≠ "java/lang/invoke/VarHandle" ∧ (parseMethodDescriptor yX9_scene.desc).map (fun d => d.parameters.length) = some 2 := by decide +kernel
theorem inX9_scene_9 : ∀ w ∈ wsX90, w ∈ wsX9_scene := fun w h => List.mem_cons_of_mem _ (List.mem_append_right _ h)
set_option maxHeartbeats 4000000 in
set_option maxRecDepth 100000 in
theorem cm_X9_scene (l : Launch) {X : XT} (hX : XD X) (g : Nat) (σ : Mem) (o : Nat) (hL : L9 o) (p1 : Int32) (p2 : Int32) {r : Int32} (h : fX9_scene g σ o p1 p2 = some r) : Met l yX9_scene wsX9_scene rmX9_scene (va_Pc [.ref (xad X o), .int p1, .int p2] (WW X σ)) (QI X r σ) 0 0 (XA X) := by
  refine met_x (M := mX9_scene) (lv := [(0, .ref (xad X o)), (1, .int p1), (2, .int p2)]) hX (by decide) rfl rfl (Nat.le_of_ble_eq_true rfl) rfl ?_
  unfold fX9_scene at h
  refine k_aload_n (q := 0) dX9_scene_0 rfl rfl ?_
  refine k_iload_n (q := 1) dX9_scene_1 rfl rfl ?_
  obtain ⟨r2, hc1, h⟩ := bnd_e h
  refine k_cv (q := (RX9, TX9, 12)) (As := [.int p1]) 1 (cm_X9_isScene l hX g σ o hL p1 hc1) gX9_scene_X9_isScene rfl ⟨rfl, rfl⟩ hd_X9_isScene ⟨Nat.le_of_ble_eq_true rfl, Nat.le_of_ble_eq_true rfl⟩ ⟨Nat.le_refl _, Nat.le_refl _⟩ (lay_lt hL.1 (by decide)) (ce_of hL.1) rfl rfl (Nat.le_of_ble_eq_true rfl) rfl dX9_scene_2 ?_
  refine k_if_ne (tgt := 10) dX9_scene_5 (by decide) h (fun h => ?_) (fun h => ?_)
  · refine k_iload_n (q := 2) dX9_scene_10 rfl rfl ?_
    refine k_if h (fun c0 h => ?_) (fun c0 h => ?_)
    · refine k_tabIn (off := 37) (tgt := 48) dX9_scene_11 (by rw [c0]; decide) (by rw [c0]; decide) (by rw [c0]; rfl) (by decide) ?_
      refine k_aload_n (q := 0) dX9_scene_48 rfl rfl ?_
      refine kg_9 (v := .ref (xad X (o + 1))) hL.1 inX9_scene_9 0 (by decide) (List.mem_of_getElem? (i := 1) rfl) rfl dX9_scene_49 ?_
      refine k_bipush (v := (nI 8)) dX9_scene_52 (by decide) ?_
      refine k_iconst (v := (nI 2)) dX9_scene_54 (by decide) ?_
      refine k_iload_n (q := 1) dX9_scene_55 rfl rfl ?_
      refine k_imul dX9_scene_56 ?_
      refine k_iadd dX9_scene_57 ?_
      refine k_iload_n (q := 2) dX9_scene_58 rfl rfl ?_
      refine k_iadd dX9_scene_59 ?_
      refine k_iald (n := 6036) hL.2.1 dX9_scene_60 h (fun h => ?_)
      exact k_iretR rfl dX9_scene_61 h
    · refine k_if h (fun c1 h => ?_) (fun c1 h => ?_)
      · refine k_tabIn (off := 37) (tgt := 48) dX9_scene_11 (by rw [c1]; decide) (by rw [c1]; decide) (by rw [c1]; rfl) (by decide) ?_
        refine k_aload_n (q := 0) dX9_scene_48 rfl rfl ?_
        refine kg_9 (v := .ref (xad X (o + 1))) hL.1 inX9_scene_9 0 (by decide) (List.mem_of_getElem? (i := 1) rfl) rfl dX9_scene_49 ?_
        refine k_bipush (v := (nI 8)) dX9_scene_52 (by decide) ?_
        refine k_iconst (v := (nI 2)) dX9_scene_54 (by decide) ?_
        refine k_iload_n (q := 1) dX9_scene_55 rfl rfl ?_
        refine k_imul dX9_scene_56 ?_
        refine k_iadd dX9_scene_57 ?_
        refine k_iload_n (q := 2) dX9_scene_58 rfl rfl ?_
        refine k_iadd dX9_scene_59 ?_
        refine k_iald (n := 6036) hL.2.1 dX9_scene_60 h (fun h => ?_)
        exact k_iretR rfl dX9_scene_61 h
      · refine k_if h (fun c2 h => ?_) (fun c2 h => ?_)
        · refine k_tabIn (off := 51) (tgt := 62) dX9_scene_11 (by rw [c2]; decide) (by rw [c2]; decide) (by rw [c2]; rfl) (by decide) ?_
          refine k_aload_n (q := 0) dX9_scene_62 rfl rfl ?_
          refine k_iload_n (q := 1) dX9_scene_63 rfl rfl ?_
          obtain ⟨r4, hc3, h⟩ := bnd_e h
          refine k_cv (q := (RX9, TX9, 12)) (As := [.int p1]) 1 (cm_X9_framesOnReel l hX g σ o hL p1 hc3) gX9_scene_X9_framesOnReel rfl ⟨rfl, rfl⟩ hd_X9_framesOnReel ⟨Nat.le_of_ble_eq_true rfl, Nat.le_of_ble_eq_true rfl⟩ ⟨Nat.le_refl _, Nat.le_refl _⟩ (lay_lt hL.1 (by decide)) (ce_of hL.1) rfl rfl (Nat.le_of_ble_eq_true rfl) rfl dX9_scene_64 ?_
          exact k_iretR rfl dX9_scene_67 h
        · refine k_if h (fun c3 h => ?_) (fun c3 h => ?_)
          · refine k_tabIn (off := 57) (tgt := 68) dX9_scene_11 (by rw [c3]; decide) (by rw [c3]; decide) (by rw [c3]; rfl) (by decide) ?_
            refine k_aload_n (q := 0) dX9_scene_68 rfl rfl ?_
            refine k_iload_n (q := 1) dX9_scene_69 rfl rfl ?_
            obtain ⟨r6, hc5, h⟩ := bnd_e h
            refine k_cv (q := (RX9, TX9, 12)) (As := [.int p1]) 1 (cm_X9_piecesOf l hX g σ o hL p1 hc5) gX9_scene_X9_piecesOf rfl ⟨rfl, rfl⟩ hd_X9_piecesOf ⟨Nat.le_of_ble_eq_true rfl, Nat.le_of_ble_eq_true rfl⟩ ⟨Nat.le_refl _, Nat.le_refl _⟩ (lay_lt hL.1 (by decide)) (ce_of hL.1) rfl rfl (Nat.le_of_ble_eq_true rfl) rfl dX9_scene_70 ?_
            exact k_iretR rfl dX9_scene_73 h
          · refine k_if h (fun c4 h => ?_) (fun c4 h => ?_)
            · refine k_tabIn (off := 63) (tgt := 74) dX9_scene_11 (by rw [c4]; decide) (by rw [c4]; decide) (by rw [c4]; rfl) (by decide) ?_
              refine k_aload_n (q := 0) dX9_scene_74 rfl rfl ?_
              refine k_iload_n (q := 1) dX9_scene_75 rfl rfl ?_
              obtain ⟨r8, hc7, h⟩ := bnd_e h
              refine k_cv (q := (RX9, TX9, 12)) (As := [.int p1]) 1 (cm_X9_tornIn l hX g σ o hL p1 hc7) gX9_scene_X9_tornIn rfl ⟨rfl, rfl⟩ hd_X9_tornIn ⟨Nat.le_of_ble_eq_true rfl, Nat.le_of_ble_eq_true rfl⟩ ⟨Nat.le_refl _, Nat.le_refl _⟩ (lay_lt hL.1 (by decide)) (ce_of hL.1) rfl rfl (Nat.le_of_ble_eq_true rfl) rfl dX9_scene_76 ?_
              exact k_iretR rfl dX9_scene_79 h
            · refine k_if h (fun c5 h => ?_) (fun c5 h => ?_)
              · refine k_tabIn (off := 69) (tgt := 80) dX9_scene_11 (by rw [c5]; decide) (by rw [c5]; decide) (by rw [c5]; rfl) (by decide) ?_
                refine k_aload_n (q := 0) dX9_scene_80 rfl rfl ?_
                refine k_iload_n (q := 1) dX9_scene_81 rfl rfl ?_
                obtain ⟨r10, hc9, h⟩ := bnd_e h
                refine k_cv (q := (RX9, TX9, 12)) (As := [.int p1]) 1 (cm_X9_isInOrder l hX g σ o hL p1 hc9) gX9_scene_X9_isInOrder rfl ⟨rfl, rfl⟩ hd_X9_isInOrder ⟨Nat.le_of_ble_eq_true rfl, Nat.le_of_ble_eq_true rfl⟩ ⟨Nat.le_refl _, Nat.le_refl _⟩ (lay_lt hL.1 (by decide)) (ce_of hL.1) rfl rfl (Nat.le_of_ble_eq_true rfl) rfl dX9_scene_82 ?_
                have key : WG X l mX9_scene (fun _ _ => True) 0 0 (QM X (QI X r σ)) 93 σ [(0, .ref (xad X o)), (1, .int p1), (2, .int p2)] [.int (if r10 = 0 then (nI 0) else (nI 1))] := by
                  exact k_iretR rfl dX9_scene_93 h
                refine k_ifc_eq (tgt := 92) dX9_scene_85 (by decide) (fun hq => ?_) (fun hq => ?_)
                · rw [if_pos hq] at key
                  refine k_iconst (v := (nI 0)) dX9_scene_92 (by decide) ?_
                  exact key
                · rw [if_neg hq] at key
                  refine k_iconst (v := (nI 1)) dX9_scene_88 (by decide) ?_
                  refine k_goto (tgt := 93) dX9_scene_89 (by decide) ?_
                  exact key
              · refine k_tabOut (tgt := 94) dX9_scene_11 (by have e0 := lv_neT c0 (show Int32.toInt (nI 0) = 0 from rfl); have e1 := lv_neT c1 (show Int32.toInt (nI 1) = 1 from rfl); have e2 := lv_neT c2 (show Int32.toInt (nI 2) = 2 from rfl); have e3 := lv_neT c3 (show Int32.toInt (nI 3) = 3 from rfl); have e4 := lv_neT c4 (show Int32.toInt (nI 4) = 4 from rfl); have e5 := lv_neT c5 (show Int32.toInt (nI 5) = 5 from rfl); omega) (by decide) ?_
                refine k_bipush (v := (nN 2)) dX9_scene_94 (by decide) ?_
                exact k_iretR rfl dX9_scene_96 h
  · refine k_iconst (v := (nN 1)) dX9_scene_8 (by decide) ?_
    exact k_iretR rfl dX9_scene_9 h
abbrev rmX9_piece : Room := { frames := 3, cells := 0, slots := 0, locals := 66 }
abbrev mX9_piece : MT := (rmX9_piece, wsX9_piece, cX9_piece, 3, RX9, some .int)
theorem hd_X9_piece : yX9_piece.cls = RX9 ∧ yX9_piece.cls ≠ "java/lang/invoke/MethodHandle" ∧ yX9_piece.cls ≠ "java/lang/invoke/VarHandle" ∧ (parseMethodDescriptor yX9_piece.desc).map (fun d => d.parameters.length) = some 2 := by decide +kernel
theorem inX9_piece_9 : ∀ w ∈ wsX90, w ∈ wsX9_piece := fun w h => List.mem_cons_of_mem _ (List.mem_append_right _ h)
set_option maxHeartbeats 4000000 in
set_option maxRecDepth 100000 in
theorem cm_X9_piece (l : Launch) {X : XT} (hX : XD X) (g : Nat) (σ : Mem) (o : Nat) (hL : L9 o) (p1 : Int32) (p2 : Int32) {r : Int32} (h : fX9_piece g σ o p1 p2 = some r) : Met l yX9_piece wsX9_piece rmX9_piece (va_Pc [.ref (xad X o), .int p1, .int p2] (WW X σ)) (QI X r σ) 0 0 (XA X) := by
  refine met_x (M := mX9_piece) (lv := [(0, .ref (xad X o)), (1, .int p1), (2, .int p2)]) hX (by decide) rfl rfl (Nat.le_of_ble_eq_true rfl) rfl ?_
  unfold fX9_piece at h
  refine k_aload_n (q := 0) dX9_piece_0 rfl rfl ?_
  refine k_iload_n (q := 1) dX9_piece_1 rfl rfl ?_
  obtain ⟨r2, hc1, h⟩ := bnd_e h
  refine k_cv (q := (RX9, TX9, 12)) (As := [.int p1]) 1 (cm_X9_isPiece l hX g σ o hL p1 hc1) gX9_piece_X9_isPiece rfl ⟨rfl, rfl⟩ hd_X9_isPiece ⟨Nat.le_of_ble_eq_true rfl, Nat.le_of_ble_eq_true rfl⟩ ⟨Nat.le_refl _, Nat.le_refl _⟩ (lay_lt hL.1 (by decide)) (ce_of hL.1) rfl rfl (Nat.le_of_ble_eq_true rfl) rfl dX9_piece_2 ?_
  refine k_if_ne (tgt := 10) dX9_piece_5 (by decide) h (fun h => ?_) (fun h => ?_)
  · refine k_iload_n (q := 2) dX9_piece_10 rfl rfl ?_
    refine k_iconst (v := (nI 0)) dX9_piece_11 (by decide) ?_
    refine k_iconst (v := (nI 4)) dX9_piece_12 (by decide) ?_
    obtain ⟨r4, hc3, h⟩ := bnd_e h
    refine k_cs (As := [.int p2, .int (nI 0), .int (nI 4)]) 3 (cm_X9_isIn l hX g σ p2 (nI 0) (nI 4) hc3) gX9_piece_X9_isIn rfl ⟨rfl, rfl⟩ hd_X9_isIn ⟨Nat.le_of_ble_eq_true rfl, Nat.le_of_ble_eq_true rfl⟩ ⟨Nat.le_refl _, Nat.le_refl _⟩ rfl (Nat.le_of_ble_eq_true rfl) rfl dX9_piece_13 ?_
    refine k_if_ne (tgt := 22) dX9_piece_16 (by decide) h (fun h => ?_) (fun h => ?_)
    · refine k_iload_n (q := 2) dX9_piece_22 rfl rfl ?_
      refine k_iconst (v := (nI 3)) dX9_piece_23 (by decide) ?_
      refine k_icmp_ge (tgt := 34) dX9_piece_24 (by decide) h (fun h => ?_) (fun h => ?_)
      · refine k_iload_n (q := 2) dX9_piece_34 rfl rfl ?_
        refine k_iconst (v := (nI 3)) dX9_piece_35 (by decide) ?_
        refine k_icmp_ne (tgt := 47) dX9_piece_36 (by decide) h (fun h => ?_) (fun h => ?_)
        · refine k_aload_n (q := 0) dX9_piece_47 rfl rfl ?_
          refine k_iload_n (q := 1) dX9_piece_48 rfl rfl ?_
          refine k_iconst (v := (nI 3)) dX9_piece_49 (by decide) ?_
          obtain ⟨r6, hc5, h⟩ := bnd_e h
          refine k_cv (q := (RX9, TX9, 12)) (As := [.int p1, .int (nI 3)]) 2 (cm_X9_ofP l hX g σ o hL p1 (nI 3) hc5) gX9_piece_X9_ofP rfl ⟨rfl, rfl⟩ hd_X9_ofP ⟨Nat.le_of_ble_eq_true rfl, Nat.le_of_ble_eq_true rfl⟩ ⟨Nat.le_refl _, Nat.le_refl _⟩ (lay_lt hL.1 (by decide)) (ce_of hL.1) rfl rfl (Nat.le_of_ble_eq_true rfl) rfl dX9_piece_50 ?_
          exact k_iretR rfl dX9_piece_53 h
        · refine k_aload_n (q := 0) dX9_piece_39 rfl rfl ?_
          refine k_iload_n (q := 1) dX9_piece_40 rfl rfl ?_
          obtain ⟨r8, hc7, h⟩ := bnd_e h
          refine k_cv (q := (RX9, TX9, 12)) (As := [.int p1]) 1 (cm_X9_positionOf l hX g σ o hL p1 hc7) gX9_piece_X9_positionOf rfl ⟨rfl, rfl⟩ hd_X9_positionOf ⟨Nat.le_of_ble_eq_true rfl, Nat.le_of_ble_eq_true rfl⟩ ⟨Nat.le_refl _, Nat.le_refl _⟩ (lay_lt hL.1 (by decide)) (ce_of hL.1) rfl rfl (Nat.le_of_ble_eq_true rfl) rfl dX9_piece_41 ?_
          refine k_goto (tgt := 53) dX9_piece_44 (by decide) ?_
          exact k_iretR rfl dX9_piece_53 h
      · refine k_aload_n (q := 0) dX9_piece_27 rfl rfl ?_
        refine k_iload_n (q := 1) dX9_piece_28 rfl rfl ?_
        refine k_iload_n (q := 2) dX9_piece_29 rfl rfl ?_
        obtain ⟨r10, hc9, h⟩ := bnd_e h
        refine k_cv (q := (RX9, TX9, 12)) (As := [.int p1, .int p2]) 2 (cm_X9_ofP l hX g σ o hL p1 p2 hc9) gX9_piece_X9_ofP rfl ⟨rfl, rfl⟩ hd_X9_ofP ⟨Nat.le_of_ble_eq_true rfl, Nat.le_of_ble_eq_true rfl⟩ ⟨Nat.le_refl _, Nat.le_refl _⟩ (lay_lt hL.1 (by decide)) (ce_of hL.1) rfl rfl (Nat.le_of_ble_eq_true rfl) rfl dX9_piece_30 ?_
        exact k_iretR rfl dX9_piece_33 h
    · refine k_bipush (v := (nN 2)) dX9_piece_19 (by decide) ?_
      exact k_iretR rfl dX9_piece_21 h
  · refine k_iconst (v := (nN 1)) dX9_piece_8 (by decide) ?_
    exact k_iretR rfl dX9_piece_9 h
abbrev rmX9_canned : Room := { frames := 1, cells := 0, slots := 0, locals := 22 }
abbrev mX9_canned : MT := (rmX9_canned, wsX9_canned, cX9_canned, 3, RX9, some .int)
theorem hd_X9_canned : yX9_canned.cls = RX9 ∧ yX9_canned.cls ≠ "java/lang/invoke/MethodHandle" ∧ yX9_canned.cls ≠ "java/lang/invoke/VarHandle" ∧ (parseMethodDescriptor yX9_canned.desc).map (fun d => d.parameters.length) = some 2 := by decide +kernel
theorem inX9_canned_9 : ∀ w ∈ wsX90, w ∈ wsX9_canned := fun w h => List.mem_cons_of_mem _ (List.mem_append_right _ h)
set_option maxHeartbeats 4000000 in
set_option maxRecDepth 100000 in
theorem cm_X9_canned (l : Launch) {X : XT} (hX : XD X) (g : Nat) (σ : Mem) (o : Nat) (hL : L9 o) (p1 : Int32) (p2 : Int32) {r : Int32} (h : fX9_canned g σ o p1 p2 = some r) : Met l yX9_canned wsX9_canned rmX9_canned (va_Pc [.ref (xad X o), .int p1, .int p2] (WW X σ)) (QI X r σ) 0 0 (XA X) := by
  refine met_x (M := mX9_canned) (lv := [(0, .ref (xad X o)), (1, .int p1), (2, .int p2)]) hX (by decide) rfl rfl (Nat.le_of_ble_eq_true rfl) rfl ?_
  unfold fX9_canned at h
  refine k_iload_n (q := 1) dX9_canned_0 rfl rfl ?_
  refine k_iconst (v := (nI 0)) dX9_canned_1 (by decide) ?_
  refine k_aload_n (q := 0) dX9_canned_2 rfl rfl ?_
  refine kg_9 (v := .ref (xad X (o + 1))) hL.1 inX9_canned_9 0 (by decide) (List.mem_of_getElem? (i := 1) rfl) rfl dX9_canned_3 ?_
  refine k_iconst (v := (nI 2)) dX9_canned_6 (by decide) ?_
  refine k_iald (n := 6036) hL.2.1 dX9_canned_7 h (fun h => ?_)
  refine k_iconst (v := (nI 1)) dX9_canned_8 (by decide) ?_
  refine k_isub dX9_canned_9 ?_
  obtain ⟨r2, hc1, h⟩ := bnd_e h
  refine k_cs (As := [.int p1, .int (nI 0), .int ((σ (o + 1) (nI 2).toNatClampNeg) - (nI 1))]) 3 (cm_X9_isIn l hX g σ p1 (nI 0) ((σ (o + 1) (nI 2).toNatClampNeg) - (nI 1)) hc1) gX9_canned_X9_isIn rfl ⟨rfl, rfl⟩ hd_X9_isIn ⟨Nat.le_of_ble_eq_true rfl, Nat.le_of_ble_eq_true rfl⟩ ⟨Nat.le_refl _, Nat.le_refl _⟩ rfl (Nat.le_of_ble_eq_true rfl) rfl dX9_canned_10 ?_
  refine k_if_ne (tgt := 18) dX9_canned_13 (by decide) h (fun h => ?_) (fun h => ?_)
  · refine k_iload_n (q := 2) dX9_canned_18 rfl rfl ?_
    refine k_iconst (v := (nI 0)) dX9_canned_19 (by decide) ?_
    refine k_iconst (v := (nI 2)) dX9_canned_20 (by decide) ?_
    obtain ⟨r4, hc3, h⟩ := bnd_e h
    refine k_cs (As := [.int p2, .int (nI 0), .int (nI 2)]) 3 (cm_X9_isIn l hX g σ p2 (nI 0) (nI 2) hc3) gX9_canned_X9_isIn rfl ⟨rfl, rfl⟩ hd_X9_isIn ⟨Nat.le_of_ble_eq_true rfl, Nat.le_of_ble_eq_true rfl⟩ ⟨Nat.le_refl _, Nat.le_refl _⟩ rfl (Nat.le_of_ble_eq_true rfl) rfl dX9_canned_21 ?_
    refine k_if_eq (tgt := 36) dX9_canned_24 (by decide) h (fun h => ?_) (fun h => ?_)
    · refine k_bipush (v := (nN 2)) dX9_canned_36 (by decide) ?_
      exact k_iretR rfl dX9_canned_38 h
    · refine k_aload_n (q := 0) dX9_canned_27 rfl rfl ?_
      refine k_iload_n (q := 1) dX9_canned_28 rfl rfl ?_
      refine k_iload_n (q := 2) dX9_canned_29 rfl rfl ?_
      obtain ⟨r6, hc5, h⟩ := bnd_e h
      refine k_cv (q := (RX9, TX9, 12)) (As := [.int p1, .int p2]) 2 (cm_X9_ofC l hX g σ o hL p1 p2 hc5) gX9_canned_X9_ofC rfl ⟨rfl, rfl⟩ hd_X9_ofC ⟨Nat.le_of_ble_eq_true rfl, Nat.le_of_ble_eq_true rfl⟩ ⟨Nat.le_refl _, Nat.le_refl _⟩ (lay_lt hL.1 (by decide)) (ce_of hL.1) rfl rfl (Nat.le_of_ble_eq_true rfl) rfl dX9_canned_30 ?_
      refine k_goto (tgt := 38) dX9_canned_33 (by decide) ?_
      exact k_iretR rfl dX9_canned_38 h
  · refine k_iconst (v := (nN 1)) dX9_canned_16 (by decide) ?_
    exact k_iretR rfl dX9_canned_17 h
abbrev rmX9_frameAt : Room := { frames := 4, cells := 0, slots := 0, locals := 88 }
abbrev mX9_frameAt : MT := (rmX9_frameAt, wsX9_frameAt, cX9_frameAt, 3, RX9, some .int)
theorem hd_X9_frameAt : yX9_frameAt.cls = RX9 ∧ yX9_frameAt.cls ≠ "java/lang/invoke/MethodHandle" ∧ yX9_frameAt.cls ≠ "java/lang/invoke/VarHandle" ∧ (parseMethodDescriptor yX9_frameAt.desc).map (fun d => d.parameters.length) = some 1 := by decide +kernel
theorem inX9_frameAt_9 : ∀ w ∈ wsX90, w ∈ wsX9_frameAt := fun w h => List.mem_cons_of_mem _ (List.mem_append_right _ h)
set_option maxHeartbeats 4000000 in
set_option maxRecDepth 100000 in
theorem cm_X9_frameAt (l : Launch) {X : XT} (hX : XD X) (g : Nat) (σ : Mem) (o : Nat) (hL : L9 o) (p1 : Int32) {r : Int32} (h : fX9_frameAt g σ o p1 = some r) : Met l yX9_frameAt wsX9_frameAt rmX9_frameAt (va_Pc [.ref (xad X o), .int p1] (WW X σ)) (QI X r σ) 0 0 (XA X) := by
  refine met_x (M := mX9_frameAt) (lv := [(0, .ref (xad X o)), (1, .int p1)]) hX (by decide) rfl rfl (Nat.le_of_ble_eq_true rfl) rfl ?_
  unfold fX9_frameAt at h
  refine k_iload_n (q := 1) dX9_frameAt_0 rfl rfl ?_
  refine k_if_ge (tgt := 7) dX9_frameAt_1 (by decide) h (fun h => ?_) (fun h => ?_)
  · refine k_iload_n (q := 1) dX9_frameAt_7 rfl rfl ?_
    refine k_aload_n (q := 0) dX9_frameAt_8 rfl rfl ?_
    obtain ⟨r2, hc1, h⟩ := bnd_e h
    refine k_cv (q := (RX9, TX9, 12)) (As := []) 0 (cm_X9_onReel l hX g σ o hL hc1) gX9_frameAt_X9_onReel rfl ⟨rfl, rfl⟩ hd_X9_onReel ⟨Nat.le_of_ble_eq_true rfl, Nat.le_of_ble_eq_true rfl⟩ ⟨Nat.le_refl _, Nat.le_refl _⟩ (lay_lt hL.1 (by decide)) (ce_of hL.1) rfl rfl (Nat.le_of_ble_eq_true rfl) rfl dX9_frameAt_9 ?_
    refine k_icmp_lt (tgt := 18) dX9_frameAt_12 (by decide) h (fun h => ?_) (fun h => ?_)
    · refine k_aload_n (q := 0) dX9_frameAt_18 rfl rfl ?_
      refine k_iload_n (q := 1) dX9_frameAt_19 rfl rfl ?_
      obtain ⟨r4, hc3, h⟩ := bnd_e h
      refine k_cv (q := (RX9, TX9, 12)) (As := [.int p1]) 1 (cm_X9_pieceAt l hX g σ o hL p1 hc3) gX9_frameAt_X9_pieceAt rfl ⟨rfl, rfl⟩ hd_X9_pieceAt ⟨Nat.le_of_ble_eq_true rfl, Nat.le_of_ble_eq_true rfl⟩ ⟨Nat.le_refl _, Nat.le_refl _⟩ (lay_lt hL.1 (by decide)) (ce_of hL.1) rfl rfl (Nat.le_of_ble_eq_true rfl) rfl dX9_frameAt_20 ?_
      refine k_istore_n (lv' := [(2, .int r4), (0, .ref (xad X o)), (1, .int p1)]) dX9_frameAt_23 rfl (Nat.le_of_ble_eq_true rfl) rfl ?_
      refine k_bipush (v := (nI 100)) dX9_frameAt_24 (by decide) ?_
      refine k_aload_n (q := 1) dX9_frameAt_26 rfl rfl ?_
      refine k_iload_n (q := 0) dX9_frameAt_27 rfl rfl ?_
      refine k_iconst (v := (nI 0)) dX9_frameAt_28 (by decide) ?_
      obtain ⟨r6, hc5, h⟩ := bnd_e h
      refine k_cv (q := (RX9, TX9, 12)) (As := [.int r4, .int (nI 0)]) 2 (cm_X9_ofP l hX g σ o hL r4 (nI 0) hc5) gX9_frameAt_X9_ofP rfl ⟨rfl, rfl⟩ hd_X9_ofP ⟨Nat.le_of_ble_eq_true rfl, Nat.le_of_ble_eq_true rfl⟩ ⟨Nat.le_refl _, Nat.le_refl _⟩ (lay_lt hL.1 (by decide)) (ce_of hL.1) rfl rfl (Nat.le_of_ble_eq_true rfl) rfl dX9_frameAt_29 ?_
      refine k_imul dX9_frameAt_32 ?_
      refine k_aload_n (q := 1) dX9_frameAt_33 rfl rfl ?_
      refine k_iload_n (q := 0) dX9_frameAt_34 rfl rfl ?_
      refine k_iconst (v := (nI 1)) dX9_frameAt_35 (by decide) ?_
      obtain ⟨r8, hc7, h⟩ := bnd_e h
      refine k_cv (q := (RX9, TX9, 12)) (As := [.int r4, .int (nI 1)]) 2 (cm_X9_ofP l hX g σ o hL r4 (nI 1) hc7) gX9_frameAt_X9_ofP rfl ⟨rfl, rfl⟩ hd_X9_ofP ⟨Nat.le_of_ble_eq_true rfl, Nat.le_of_ble_eq_true rfl⟩ ⟨Nat.le_refl _, Nat.le_refl _⟩ (lay_lt hL.1 (by decide)) (ce_of hL.1) rfl rfl (Nat.le_of_ble_eq_true rfl) rfl dX9_frameAt_36 ?_
      refine k_iadd dX9_frameAt_39 ?_
      refine k_iload_n (q := 2) dX9_frameAt_40 rfl rfl ?_
      refine k_iadd dX9_frameAt_41 ?_
      refine k_aload_n (q := 1) dX9_frameAt_42 rfl rfl ?_
      refine k_iload_n (q := 0) dX9_frameAt_43 rfl rfl ?_
      obtain ⟨r10, hc9, h⟩ := bnd_e h
      refine k_cv (q := (RX9, TX9, 12)) (As := [.int r4]) 1 (cm_X9_positionOf l hX g σ o hL r4 hc9) gX9_frameAt_X9_positionOf rfl ⟨rfl, rfl⟩ hd_X9_positionOf ⟨Nat.le_of_ble_eq_true rfl, Nat.le_of_ble_eq_true rfl⟩ ⟨Nat.le_refl _, Nat.le_refl _⟩ (lay_lt hL.1 (by decide)) (ce_of hL.1) rfl rfl (Nat.le_of_ble_eq_true rfl) rfl dX9_frameAt_44 ?_
      refine k_isub dX9_frameAt_47 ?_
      exact k_iretR rfl dX9_frameAt_48 h
    · refine k_bipush (v := (nN 5)) dX9_frameAt_15 (by decide) ?_
      exact k_iretR rfl dX9_frameAt_17 h
  · refine k_bipush (v := (nN 2)) dX9_frameAt_4 (by decide) ?_
    exact k_iretR rfl dX9_frameAt_6 h
abbrev rmX9_frame : Room := { frames := 4, cells := 0, slots := 0, locals := 89 }
abbrev mX9_frame : MT := (rmX9_frame, wsX9_frame, cX9_frame, 4, RX9, some .int)
theorem hd_X9_frame : yX9_frame.cls = RX9 ∧ yX9_frame.cls ≠ "java/lang/invoke/MethodHandle" ∧ yX9_frame.cls ≠ "java/lang/invoke/VarHandle" ∧ (parseMethodDescriptor yX9_frame.desc).map (fun d => d.parameters.length) = some 3 := by decide +kernel
theorem inX9_frame_9 : ∀ w ∈ wsX90, w ∈ wsX9_frame := fun w h => List.mem_cons_of_mem _ (List.mem_append_right _ h)
set_option maxHeartbeats 4000000 in
set_option maxRecDepth 100000 in
theorem cm_X9_frame (l : Launch) {X : XT} (hX : XD X) (g : Nat) (σ : Mem) (o : Nat) (hL : L9 o) (p1 : Int32) (p2 : Int32) (p3 : Int32) {r : Int32} (h : fX9_frame g σ o p1 p2 p3 = some r) : Met l yX9_frame wsX9_frame rmX9_frame (va_Pc [.ref (xad X o), .int p1, .int p2, .int p3] (WW X σ)) (QI X r σ) 0 0 (XA X) := by
  refine met_x (M := mX9_frame) (lv := [(0, .ref (xad X o)), (1, .int p1), (2, .int p2), (3, .int p3)]) hX (by decide) rfl rfl (Nat.le_of_ble_eq_true rfl) rfl ?_
  unfold fX9_frame at h
  refine k_aload_n (q := 0) dX9_frame_0 rfl rfl ?_
  refine k_iload_n (q := 1) dX9_frame_1 rfl rfl ?_
  refine k_iload_n (q := 2) dX9_frame_2 rfl rfl ?_
  obtain ⟨r2, hc1, h⟩ := bnd_e h
  refine k_cv (q := (RX9, TX9, 12)) (As := [.int p1, .int p2]) 2 (cm_X9_isFrame l hX g σ o hL p1 p2 hc1) gX9_frame_X9_isFrame rfl ⟨rfl, rfl⟩ hd_X9_isFrame ⟨Nat.le_of_ble_eq_true rfl, Nat.le_of_ble_eq_true rfl⟩ ⟨Nat.le_refl _, Nat.le_refl _⟩ (lay_lt hL.1 (by decide)) (ce_of hL.1) rfl rfl (Nat.le_of_ble_eq_true rfl) rfl dX9_frame_3 ?_
  refine k_if_ne (tgt := 11) dX9_frame_6 (by decide) h (fun h => ?_) (fun h => ?_)
  · refine k_iload_n (q := 3) dX9_frame_11 rfl rfl ?_
    refine k_if h (fun c0 h => ?_) (fun c0 h => ?_)
    · refine k_tabIn (off := 32) (tgt := 44) dX9_frame_12 (by rw [c0]; decide) (by rw [c0]; decide) (by rw [c0]; rfl) (by decide) ?_
      refine k_aload_n (q := 0) dX9_frame_44 rfl rfl ?_
      refine k_iload_n (q := 1) dX9_frame_45 rfl rfl ?_
      refine k_iload_n (q := 2) dX9_frame_46 rfl rfl ?_
      obtain ⟨r4, hc3, h⟩ := bnd_e h
      refine k_cv (q := (RX9, TX9, 12)) (As := [.int p1, .int p2]) 2 (cm_X9_placeOf l hX g σ o hL p1 p2 hc3) gX9_frame_X9_placeOf rfl ⟨rfl, rfl⟩ hd_X9_placeOf ⟨Nat.le_of_ble_eq_true rfl, Nat.le_of_ble_eq_true rfl⟩ ⟨Nat.le_refl _, Nat.le_refl _⟩ (lay_lt hL.1 (by decide)) (ce_of hL.1) rfl rfl (Nat.le_of_ble_eq_true rfl) rfl dX9_frame_47 ?_
      exact k_iretR rfl dX9_frame_50 h
    · refine k_if h (fun c1 h => ?_) (fun c1 h => ?_)
      · refine k_tabIn (off := 39) (tgt := 51) dX9_frame_12 (by rw [c1]; decide) (by rw [c1]; decide) (by rw [c1]; rfl) (by decide) ?_
        refine k_aload_n (q := 0) dX9_frame_51 rfl rfl ?_
        refine k_iload_n (q := 1) dX9_frame_52 rfl rfl ?_
        refine k_iload_n (q := 2) dX9_frame_53 rfl rfl ?_
        obtain ⟨r6, hc5, h⟩ := bnd_e h
        refine k_cv (q := (RX9, TX9, 12)) (As := [.int p1, .int p2]) 2 (cm_X9_torn l hX g σ o hL p1 p2 hc5) gX9_frame_X9_torn rfl ⟨rfl, rfl⟩ hd_X9_torn ⟨Nat.le_of_ble_eq_true rfl, Nat.le_of_ble_eq_true rfl⟩ ⟨Nat.le_refl _, Nat.le_refl _⟩ (lay_lt hL.1 (by decide)) (ce_of hL.1) rfl rfl (Nat.le_of_ble_eq_true rfl) rfl dX9_frame_54 ?_
        exact k_iretR rfl dX9_frame_57 h
      · refine k_if h (fun c2 h => ?_) (fun c2 h => ?_)
        · refine k_tabIn (off := 46) (tgt := 58) dX9_frame_12 (by rw [c2]; decide) (by rw [c2]; decide) (by rw [c2]; rfl) (by decide) ?_
          refine k_aload_n (q := 0) dX9_frame_58 rfl rfl ?_
          refine k_iload_n (q := 1) dX9_frame_59 rfl rfl ?_
          refine k_iload_n (q := 2) dX9_frame_60 rfl rfl ?_
          obtain ⟨r8, hc7, h⟩ := bnd_e h
          refine k_cv (q := (RX9, TX9, 12)) (As := [.int p1, .int p2]) 2 (cm_X9_passes l hX g σ o hL p1 p2 hc7) gX9_frame_X9_passes rfl ⟨rfl, rfl⟩ hd_X9_passes ⟨Nat.le_of_ble_eq_true rfl, Nat.le_of_ble_eq_true rfl⟩ ⟨Nat.le_refl _, Nat.le_refl _⟩ (lay_lt hL.1 (by decide)) (ce_of hL.1) rfl rfl (Nat.le_of_ble_eq_true rfl) rfl dX9_frame_61 ?_
          exact k_iretR rfl dX9_frame_64 h
        · refine k_if h (fun c3 h => ?_) (fun c3 h => ?_)
          · refine k_tabIn (off := 53) (tgt := 65) dX9_frame_12 (by rw [c3]; decide) (by rw [c3]; decide) (by rw [c3]; rfl) (by decide) ?_
            refine k_aload_n (q := 0) dX9_frame_65 rfl rfl ?_
            refine k_iload_n (q := 1) dX9_frame_66 rfl rfl ?_
            refine k_iload_n (q := 2) dX9_frame_67 rfl rfl ?_
            obtain ⟨r10, hc9, h⟩ := bnd_e h
            refine k_cv (q := (RX9, TX9, 12)) (As := [.int p1, .int p2]) 2 (cm_X9_good l hX g σ o hL p1 p2 hc9) gX9_frame_X9_good rfl ⟨rfl, rfl⟩ hd_X9_good ⟨Nat.le_of_ble_eq_true rfl, Nat.le_of_ble_eq_true rfl⟩ ⟨Nat.le_refl _, Nat.le_refl _⟩ (lay_lt hL.1 (by decide)) (ce_of hL.1) rfl rfl (Nat.le_of_ble_eq_true rfl) rfl dX9_frame_68 ?_
            refine k_iconst (v := (nI 2)) dX9_frame_71 (by decide) ?_
            have key : WG X l mX9_frame (fun _ _ => True) 0 0 (QM X (QI X r σ)) 80 σ [(0, .ref (xad X o)), (1, .int p1), (2, .int p2), (3, .int p3)] [.int (if r10 < (nI 2) then (nI 0) else (nI 1))] := by
              exact k_iretR rfl dX9_frame_80 h
            refine k_icmpc_lt (tgt := 79) dX9_frame_72 (by decide) (fun hq => ?_) (fun hq => ?_)
            · rw [if_pos hq] at key
              refine k_iconst (v := (nI 0)) dX9_frame_79 (by decide) ?_
              exact key
            · rw [if_neg hq] at key
              refine k_iconst (v := (nI 1)) dX9_frame_75 (by decide) ?_
              refine k_goto (tgt := 80) dX9_frame_76 (by decide) ?_
              exact key
          · refine k_tabOut (tgt := 81) dX9_frame_12 (by have e0 := lv_neT c0 (show Int32.toInt (nI 0) = 0 from rfl); have e1 := lv_neT c1 (show Int32.toInt (nI 1) = 1 from rfl); have e2 := lv_neT c2 (show Int32.toInt (nI 2) = 2 from rfl); have e3 := lv_neT c3 (show Int32.toInt (nI 3) = 3 from rfl); omega) (by decide) ?_
            refine k_bipush (v := (nN 2)) dX9_frame_81 (by decide) ?_
            exact k_iretR rfl dX9_frame_83 h
  · refine k_iconst (v := (nN 1)) dX9_frame_9 (by decide) ?_
    exact k_iretR rfl dX9_frame_10 h
abbrev rmX9_framesInCan : Room := { frames := 1, cells := 0, slots := 0, locals := 22 }
abbrev mX9_framesInCan : MT := (rmX9_framesInCan, wsX9_framesInCan, cX9_framesInCan, 3, RX9, some .int)
theorem hd_X9_framesInCan : yX9_framesInCan.cls = RX9 ∧ yX9_framesInCan.cls ≠ "java/lang/invoke/MethodHandle" ∧ yX9_framesInCan.cls ≠ "java/lang/invoke/VarHandle" ∧ (parseMethodDescriptor yX9_framesInCan.desc).map (fun d => d.parameters.length) = some 0 := by decide +kernel
theorem inX9_framesInCan_9 : ∀ w ∈ wsX90, w ∈ wsX9_framesInCan := fun w h => List.mem_cons_of_mem _ (List.mem_append_right _ h)
set_option maxHeartbeats 4000000 in
set_option maxRecDepth 100000 in
theorem wX9_framesInCan_4 (l : Launch) {X : XT} (hX : XD X) (g : Nat) (o : Nat) (hL : L9 o) {r : Int32} : ∀ (n : Nat) (σ : Mem) (x1 : Int32) (x2 : Int32), fX9_framesInCan_4 g o n σ x1 x2 = some r → WG X l mX9_framesInCan (fun _ _ => True) 0 0 (QM X (QI X r σ)) 4 σ [(0, .ref (xad X o)), (1, .int x1), (2, .int x2)] [] := by
  intro n
  induction n with
  | zero => intro σ x1 x2 h; exact nomatch (show (none : Option _) = some _ from h)
  | succ n ih =>
    intro σ x1 x2 h
    rw [fX9_framesInCan_4] at h
    refine k_iload_n (q := 2) dX9_framesInCan_4 rfl rfl ?_
    refine k_aload_n (q := 0) dX9_framesInCan_5 rfl rfl ?_
    refine kg_9 (v := .ref (xad X (o + 1))) hL.1 inX9_framesInCan_9 0 (by decide) (List.mem_of_getElem? (i := 1) rfl) rfl dX9_framesInCan_6 ?_
    refine k_iconst (v := (nI 2)) dX9_framesInCan_9 (by decide) ?_
    refine k_iald (n := 6036) hL.2.1 dX9_framesInCan_10 h (fun h => ?_)
    refine k_icmp_ge (tgt := 38) dX9_framesInCan_11 (by decide) h (fun h => ?_) (fun h => ?_)
    · refine k_iload_n (q := 1) dX9_framesInCan_38 rfl rfl ?_
      exact k_iretR rfl dX9_framesInCan_39 h
    · refine k_iload_n (q := 1) dX9_framesInCan_14 rfl rfl ?_
      refine k_aload_n (q := 0) dX9_framesInCan_15 rfl rfl ?_
      refine k_iload_n (q := 2) dX9_framesInCan_16 rfl rfl ?_
      refine k_iconst (v := (nI 2)) dX9_framesInCan_17 (by decide) ?_
      obtain ⟨r2, hc1, h⟩ := bnd_e h
      refine k_cv (q := (RX9, TX9, 12)) (As := [.int x2, .int (nI 2)]) 2 (cm_X9_ofC l hX g σ o hL x2 (nI 2) hc1) gX9_framesInCan_X9_ofC rfl ⟨rfl, rfl⟩ hd_X9_ofC ⟨Nat.le_of_ble_eq_true rfl, Nat.le_of_ble_eq_true rfl⟩ ⟨Nat.le_refl _, Nat.le_refl _⟩ (lay_lt hL.1 (by decide)) (ce_of hL.1) rfl rfl (Nat.le_of_ble_eq_true rfl) rfl dX9_framesInCan_18 ?_
      refine k_aload_n (q := 0) dX9_framesInCan_21 rfl rfl ?_
      refine k_iload_n (q := 2) dX9_framesInCan_22 rfl rfl ?_
      refine k_iconst (v := (nI 1)) dX9_framesInCan_23 (by decide) ?_
      obtain ⟨r4, hc3, h⟩ := bnd_e h
      refine k_cv (q := (RX9, TX9, 12)) (As := [.int x2, .int (nI 1)]) 2 (cm_X9_ofC l hX g σ o hL x2 (nI 1) hc3) gX9_framesInCan_X9_ofC rfl ⟨rfl, rfl⟩ hd_X9_ofC ⟨Nat.le_of_ble_eq_true rfl, Nat.le_of_ble_eq_true rfl⟩ ⟨Nat.le_refl _, Nat.le_refl _⟩ (lay_lt hL.1 (by decide)) (ce_of hL.1) rfl rfl (Nat.le_of_ble_eq_true rfl) rfl dX9_framesInCan_24 ?_
      refine k_isub dX9_framesInCan_27 ?_
      refine k_iconst (v := (nI 1)) dX9_framesInCan_28 (by decide) ?_
      refine k_iadd dX9_framesInCan_29 ?_
      refine k_iadd dX9_framesInCan_30 ?_
      refine k_istore_n (lv' := [(1, .int (x1 + ((r2 - r4) + (nI 1)))), (0, .ref (xad X o)), (2, .int x2)]) dX9_framesInCan_31 rfl (Nat.le_of_ble_eq_true rfl) rfl ?_
      refine k_iinc (q := 2) (v := (x2 + (nI 1))) (lv' := [(2, .int (x2 + (nI 1))), (1, .int (x1 + ((r2 - r4) + (nI 1)))), (0, .ref (xad X o))]) dX9_framesInCan_32 rfl rfl (Nat.le_of_ble_eq_true rfl) rfl ?_
      refine k_goto (tgt := 4) dX9_framesInCan_35 (by decide) ?_
      refine k_sub (ks' := [2, 1, 0]) rfl ?_
      exact ih σ (x1 + ((r2 - r4) + (nI 1))) (x2 + (nI 1)) h
set_option maxHeartbeats 4000000 in
set_option maxRecDepth 100000 in
theorem cm_X9_framesInCan (l : Launch) {X : XT} (hX : XD X) (g : Nat) (σ : Mem) (o : Nat) (hL : L9 o) {r : Int32} (h : fX9_framesInCan g σ o = some r) : Met l yX9_framesInCan wsX9_framesInCan rmX9_framesInCan (va_Pc [.ref (xad X o)] (WW X σ)) (QI X r σ) 0 0 (XA X) := by
  refine met_x (M := mX9_framesInCan) (lv := [(0, .ref (xad X o))]) hX (by decide) rfl rfl (Nat.le_of_ble_eq_true rfl) rfl ?_
  unfold fX9_framesInCan at h
  refine k_iconst (v := (nI 0)) dX9_framesInCan_0 (by decide) ?_
  refine k_istore_n (lv' := [(1, .int (nI 0)), (0, .ref (xad X o))]) dX9_framesInCan_1 rfl (Nat.le_of_ble_eq_true rfl) rfl ?_
  refine k_iconst (v := (nI 0)) dX9_framesInCan_2 (by decide) ?_
  refine k_istore_n (lv' := [(2, .int (nI 0)), (1, .int (nI 0)), (0, .ref (xad X o))]) dX9_framesInCan_3 rfl (Nat.le_of_ble_eq_true rfl) rfl ?_
  refine k_sub (ks' := [2, 1, 0]) rfl ?_
  exact wX9_framesInCan_4 l hX g o hL g σ (nI 0) (nI 0) h
abbrev rmX9_allTorn : Room := { frames := 2, cells := 0, slots := 0, locals := 45 }
abbrev mX9_allTorn : MT := (rmX9_allTorn, wsX9_allTorn, cX9_allTorn, 3, RX9, some .int)
theorem hd_X9_allTorn : yX9_allTorn.cls = RX9 ∧ yX9_allTorn.cls ≠ "java/lang/invoke/MethodHandle" ∧ yX9_allTorn.cls ≠ "java/lang/invoke/VarHandle" ∧ (parseMethodDescriptor yX9_allTorn.desc).map (fun d => d.parameters.length) = some 0 := by decide +kernel
theorem inX9_allTorn_9 : ∀ w ∈ wsX90, w ∈ wsX9_allTorn := fun w h => List.mem_cons_of_mem _ (List.mem_append_right _ h)
set_option maxHeartbeats 4000000 in
set_option maxRecDepth 100000 in
theorem wX9_allTorn_4 (l : Launch) {X : XT} (hX : XD X) (g : Nat) (o : Nat) (hL : L9 o) {r : Int32} : ∀ (n : Nat) (σ : Mem) (x1 : Int32) (x2 : Int32), fX9_allTorn_4 g o n σ x1 x2 = some r → WG X l mX9_allTorn (fun _ _ => True) 0 0 (QM X (QI X r σ)) 4 σ [(0, .ref (xad X o)), (1, .int x1), (2, .int x2)] [] := by
  intro n
  induction n with
  | zero => intro σ x1 x2 h; exact nomatch (show (none : Option _) = some _ from h)
  | succ n ih =>
    intro σ x1 x2 h
    rw [fX9_allTorn_4] at h
    refine k_iload_n (q := 2) dX9_allTorn_4 rfl rfl ?_
    refine k_aload_n (q := 0) dX9_allTorn_5 rfl rfl ?_
    refine kg_9 (v := .ref (xad X (o + 1))) hL.1 inX9_allTorn_9 0 (by decide) (List.mem_of_getElem? (i := 1) rfl) rfl dX9_allTorn_6 ?_
    refine k_iconst (v := (nI 0)) dX9_allTorn_9 (by decide) ?_
    refine k_iald (n := 6036) hL.2.1 dX9_allTorn_10 h (fun h => ?_)
    refine k_icmp_ge (tgt := 28) dX9_allTorn_11 (by decide) h (fun h => ?_) (fun h => ?_)
    · refine k_iload_n (q := 1) dX9_allTorn_28 rfl rfl ?_
      exact k_iretR rfl dX9_allTorn_29 h
    · refine k_iload_n (q := 1) dX9_allTorn_14 rfl rfl ?_
      refine k_aload_n (q := 0) dX9_allTorn_15 rfl rfl ?_
      refine k_iload_n (q := 2) dX9_allTorn_16 rfl rfl ?_
      obtain ⟨r2, hc1, h⟩ := bnd_e h
      refine k_cv (q := (RX9, TX9, 12)) (As := [.int x2]) 1 (cm_X9_tornIn l hX g σ o hL x2 hc1) gX9_allTorn_X9_tornIn rfl ⟨rfl, rfl⟩ hd_X9_tornIn ⟨Nat.le_of_ble_eq_true rfl, Nat.le_of_ble_eq_true rfl⟩ ⟨Nat.le_refl _, Nat.le_refl _⟩ (lay_lt hL.1 (by decide)) (ce_of hL.1) rfl rfl (Nat.le_of_ble_eq_true rfl) rfl dX9_allTorn_17 ?_
      refine k_iadd dX9_allTorn_20 ?_
      refine k_istore_n (lv' := [(1, .int (x1 + r2)), (0, .ref (xad X o)), (2, .int x2)]) dX9_allTorn_21 rfl (Nat.le_of_ble_eq_true rfl) rfl ?_
      refine k_iinc (q := 2) (v := (x2 + (nI 1))) (lv' := [(2, .int (x2 + (nI 1))), (1, .int (x1 + r2)), (0, .ref (xad X o))]) dX9_allTorn_22 rfl rfl (Nat.le_of_ble_eq_true rfl) rfl ?_
      refine k_goto (tgt := 4) dX9_allTorn_25 (by decide) ?_
      refine k_sub (ks' := [2, 1, 0]) rfl ?_
      exact ih σ (x1 + r2) (x2 + (nI 1)) h
set_option maxHeartbeats 4000000 in
set_option maxRecDepth 100000 in
theorem cm_X9_allTorn (l : Launch) {X : XT} (hX : XD X) (g : Nat) (σ : Mem) (o : Nat) (hL : L9 o) {r : Int32} (h : fX9_allTorn g σ o = some r) : Met l yX9_allTorn wsX9_allTorn rmX9_allTorn (va_Pc [.ref (xad X o)] (WW X σ)) (QI X r σ) 0 0 (XA X) := by
  refine met_x (M := mX9_allTorn) (lv := [(0, .ref (xad X o))]) hX (by decide) rfl rfl (Nat.le_of_ble_eq_true rfl) rfl ?_
  unfold fX9_allTorn at h
  refine k_iconst (v := (nI 0)) dX9_allTorn_0 (by decide) ?_
  refine k_istore_n (lv' := [(1, .int (nI 0)), (0, .ref (xad X o))]) dX9_allTorn_1 rfl (Nat.le_of_ble_eq_true rfl) rfl ?_
  refine k_iconst (v := (nI 0)) dX9_allTorn_2 (by decide) ?_
  refine k_istore_n (lv' := [(2, .int (nI 0)), (1, .int (nI 0)), (0, .ref (xad X o))]) dX9_allTorn_3 rfl (Nat.le_of_ble_eq_true rfl) rfl ?_
  refine k_sub (ks' := [2, 1, 0]) rfl ?_
  exact wX9_allTorn_4 l hX g o hL g σ (nI 0) (nI 0) h
abbrev rmX9_breaks : Room := { frames := 1, cells := 0, slots := 0, locals := 22 }
abbrev mX9_breaks : MT := (rmX9_breaks, wsX9_breaks, cX9_breaks, 3, RX9, some .int)
theorem hd_X9_breaks : yX9_breaks.cls = RX9 ∧ yX9_breaks.cls ≠ "java/lang/invoke/MethodHandle" ∧ yX9_breaks.cls ≠ "java/lang/invoke/VarHandle" ∧ (parseMethodDescriptor yX9_breaks.desc).map (fun d => d.parameters.length) = some 0 := by decide +kernel
theorem inX9_breaks_9 : ∀ w ∈ wsX90, w ∈ wsX9_breaks := fun w h => List.mem_cons_of_mem _ (List.mem_append_right _ h)
set_option maxHeartbeats 4000000 in
set_option maxRecDepth 100000 in
theorem wX9_breaks_4 (l : Launch) {X : XT} (hX : XD X) (g : Nat) (o : Nat) (hL : L9 o) {r : Int32} : ∀ (n : Nat) (σ : Mem) (x1 : Int32) (x2 : Int32), fX9_breaks_4 g o n σ x1 x2 = some r → WG X l mX9_breaks (fun _ _ => True) 0 0 (QM X (QI X r σ)) 4 σ [(0, .ref (xad X o)), (1, .int x1), (2, .int x2)] [] := by
  intro n
  induction n with
  | zero => intro σ x1 x2 h; exact nomatch (show (none : Option _) = some _ from h)
  | succ n ih =>
    intro σ x1 x2 h
    rw [fX9_breaks_4] at h
    refine k_iload_n (q := 2) dX9_breaks_4 rfl rfl ?_
    refine k_aload_n (q := 0) dX9_breaks_5 rfl rfl ?_
    refine kg_9 (v := .ref (xad X (o + 1))) hL.1 inX9_breaks_9 0 (by decide) (List.mem_of_getElem? (i := 1) rfl) rfl dX9_breaks_6 ?_
    refine k_iconst (v := (nI 1)) dX9_breaks_9 (by decide) ?_
    refine k_iald (n := 6036) hL.2.1 dX9_breaks_10 h (fun h => ?_)
    refine k_icmp_ge (tgt := 44) dX9_breaks_11 (by decide) h (fun h => ?_) (fun h => ?_)
    · refine k_iload_n (q := 1) dX9_breaks_44 rfl rfl ?_
      exact k_iretR rfl dX9_breaks_45 h
    · refine k_iload_n (q := 1) dX9_breaks_14 rfl rfl ?_
      refine k_aload_n (q := 0) dX9_breaks_15 rfl rfl ?_
      refine k_iload_n (q := 2) dX9_breaks_16 rfl rfl ?_
      refine k_iconst (v := (nI 3)) dX9_breaks_17 (by decide) ?_
      obtain ⟨r2, hc1, h⟩ := bnd_e h
      refine k_cv (q := (RX9, TX9, 12)) (As := [.int x2, .int (nI 3)]) 2 (cm_X9_ofP l hX g σ o hL x2 (nI 3) hc1) gX9_breaks_X9_ofP rfl ⟨rfl, rfl⟩ hd_X9_ofP ⟨Nat.le_of_ble_eq_true rfl, Nat.le_of_ble_eq_true rfl⟩ ⟨Nat.le_refl _, Nat.le_refl _⟩ (lay_lt hL.1 (by decide)) (ce_of hL.1) rfl rfl (Nat.le_of_ble_eq_true rfl) rfl dX9_breaks_18 ?_
      refine k_aload_n (q := 0) dX9_breaks_21 rfl rfl ?_
      refine kg_9 (v := .ref (xad X (o + 1))) hL.1 inX9_breaks_9 0 (by decide) (List.mem_of_getElem? (i := 1) rfl) rfl dX9_breaks_22 ?_
      refine k_bipush (v := (nI 7)) dX9_breaks_25 (by decide) ?_
      refine k_iald (n := 6036) hL.2.1 dX9_breaks_27 h (fun h => ?_)
      have key : WG X l mX9_breaks (fun _ _ => True) 0 0 (QM X (QI X r σ)) 36 σ [(0, .ref (xad X o)), (1, .int x1), (2, .int x2)] [.int (if r2 < (σ (o + 1) (nI 7).toNatClampNeg) then (nI 0) else (nI 1)), .int x1] := by
        refine k_iadd dX9_breaks_36 ?_
        refine k_istore_n (lv' := [(1, .int (x1 + (if r2 < (σ (o + 1) (nI 7).toNatClampNeg) then (nI 0) else (nI 1)))), (0, .ref (xad X o)), (2, .int x2)]) dX9_breaks_37 rfl (Nat.le_of_ble_eq_true rfl) rfl ?_
        refine k_iinc (q := 2) (v := (x2 + (nI 1))) (lv' := [(2, .int (x2 + (nI 1))), (1, .int (x1 + (if r2 < (σ (o + 1) (nI 7).toNatClampNeg) then (nI 0) else (nI 1)))), (0, .ref (xad X o))]) dX9_breaks_38 rfl rfl (Nat.le_of_ble_eq_true rfl) rfl ?_
        refine k_goto (tgt := 4) dX9_breaks_41 (by decide) ?_
        refine k_sub (ks' := [2, 1, 0]) rfl ?_
        exact ih σ (x1 + (if r2 < (σ (o + 1) (nI 7).toNatClampNeg) then (nI 0) else (nI 1))) (x2 + (nI 1)) h
      refine k_icmpc_lt (tgt := 35) dX9_breaks_28 (by decide) (fun hq => ?_) (fun hq => ?_)
      · rw [if_pos hq] at key
        refine k_iconst (v := (nI 0)) dX9_breaks_35 (by decide) ?_
        exact key
      · rw [if_neg hq] at key
        refine k_iconst (v := (nI 1)) dX9_breaks_31 (by decide) ?_
        refine k_goto (tgt := 36) dX9_breaks_32 (by decide) ?_
        exact key
set_option maxHeartbeats 4000000 in
set_option maxRecDepth 100000 in
theorem cm_X9_breaks (l : Launch) {X : XT} (hX : XD X) (g : Nat) (σ : Mem) (o : Nat) (hL : L9 o) {r : Int32} (h : fX9_breaks g σ o = some r) : Met l yX9_breaks wsX9_breaks rmX9_breaks (va_Pc [.ref (xad X o)] (WW X σ)) (QI X r σ) 0 0 (XA X) := by
  refine met_x (M := mX9_breaks) (lv := [(0, .ref (xad X o))]) hX (by decide) rfl rfl (Nat.le_of_ble_eq_true rfl) rfl ?_
  unfold fX9_breaks at h
  refine k_iconst (v := (nI 0)) dX9_breaks_0 (by decide) ?_
  refine k_istore_n (lv' := [(1, .int (nI 0)), (0, .ref (xad X o))]) dX9_breaks_1 rfl (Nat.le_of_ble_eq_true rfl) rfl ?_
  refine k_iconst (v := (nI 1)) dX9_breaks_2 (by decide) ?_
  refine k_istore_n (lv' := [(2, .int (nI 1)), (1, .int (nI 0)), (0, .ref (xad X o))]) dX9_breaks_3 rfl (Nat.le_of_ble_eq_true rfl) rfl ?_
  refine k_sub (ks' := [2, 1, 0]) rfl ?_
  exact wX9_breaks_4 l hX g o hL g σ (nI 0) (nI 1) h
abbrev rmX9_count : Room := { frames := 4, cells := 0, slots := 0, locals := 86 }
abbrev mX9_count : MT := (rmX9_count, wsX9_count, cX9_count, 2, RX9, some .int)
theorem hd_X9_count : yX9_count.cls = RX9 ∧ yX9_count.cls ≠ "java/lang/invoke/MethodHandle" ∧ yX9_count.cls ≠ "java/lang/invoke/VarHandle" ∧ (parseMethodDescriptor yX9_count.desc).map (fun d => d.parameters.length) = some 1 := by decide +kernel
theorem inX9_count_9 : ∀ w ∈ wsX90, w ∈ wsX9_count := fun w h => List.mem_cons_of_mem _ (List.mem_append_right _ h)
set_option maxHeartbeats 4000000 in
set_option maxRecDepth 100000 in
theorem cm_X9_count (l : Launch) {X : XT} (hX : XD X) (g : Nat) (σ : Mem) (o : Nat) (hL : L9 o) (p1 : Int32) {r : Int32} (h : fX9_count g σ o p1 = some r) : Met l yX9_count wsX9_count rmX9_count (va_Pc [.ref (xad X o), .int p1] (WW X σ)) (QI X r σ) 0 0 (XA X) := by
  refine met_x (M := mX9_count) (lv := [(0, .ref (xad X o)), (1, .int p1)]) hX (by decide) rfl rfl (Nat.le_of_ble_eq_true rfl) rfl ?_
  unfold fX9_count at h
  refine k_iload_n (q := 1) dX9_count_0 rfl rfl ?_
  refine k_if h (fun c0 h => ?_) (fun c0 h => ?_)
  · refine k_tabIn (off := 71) (tgt := 72) dX9_count_1 (by rw [c0]; decide) (by rw [c0]; decide) (by rw [c0]; rfl) (by decide) ?_
    refine k_aload_n (q := 0) dX9_count_72 rfl rfl ?_
    refine kg_9 (v := .ref (xad X (o + 1))) hL.1 inX9_count_9 0 (by decide) (List.mem_of_getElem? (i := 1) rfl) rfl dX9_count_73 ?_
    refine k_iload_n (q := 1) dX9_count_76 rfl rfl ?_
    refine k_iald (n := 6036) hL.2.1 dX9_count_77 h (fun h => ?_)
    exact k_iretR rfl dX9_count_78 h
  · refine k_if h (fun c1 h => ?_) (fun c1 h => ?_)
    · refine k_tabIn (off := 71) (tgt := 72) dX9_count_1 (by rw [c1]; decide) (by rw [c1]; decide) (by rw [c1]; rfl) (by decide) ?_
      refine k_aload_n (q := 0) dX9_count_72 rfl rfl ?_
      refine kg_9 (v := .ref (xad X (o + 1))) hL.1 inX9_count_9 0 (by decide) (List.mem_of_getElem? (i := 1) rfl) rfl dX9_count_73 ?_
      refine k_iload_n (q := 1) dX9_count_76 rfl rfl ?_
      refine k_iald (n := 6036) hL.2.1 dX9_count_77 h (fun h => ?_)
      exact k_iretR rfl dX9_count_78 h
    · refine k_if h (fun c2 h => ?_) (fun c2 h => ?_)
      · refine k_tabIn (off := 71) (tgt := 72) dX9_count_1 (by rw [c2]; decide) (by rw [c2]; decide) (by rw [c2]; rfl) (by decide) ?_
        refine k_aload_n (q := 0) dX9_count_72 rfl rfl ?_
        refine kg_9 (v := .ref (xad X (o + 1))) hL.1 inX9_count_9 0 (by decide) (List.mem_of_getElem? (i := 1) rfl) rfl dX9_count_73 ?_
        refine k_iload_n (q := 1) dX9_count_76 rfl rfl ?_
        refine k_iald (n := 6036) hL.2.1 dX9_count_77 h (fun h => ?_)
        exact k_iretR rfl dX9_count_78 h
      · refine k_if h (fun c3 h => ?_) (fun c3 h => ?_)
        · refine k_tabIn (off := 78) (tgt := 79) dX9_count_1 (by rw [c3]; decide) (by rw [c3]; decide) (by rw [c3]; rfl) (by decide) ?_
          refine k_aload_n (q := 0) dX9_count_79 rfl rfl ?_
          obtain ⟨r2, hc1, h⟩ := bnd_e h
          refine k_cv (q := (RX9, TX9, 12)) (As := []) 0 (cm_X9_onReel l hX g σ o hL hc1) gX9_count_X9_onReel rfl ⟨rfl, rfl⟩ hd_X9_onReel ⟨Nat.le_of_ble_eq_true rfl, Nat.le_of_ble_eq_true rfl⟩ ⟨Nat.le_refl _, Nat.le_refl _⟩ (lay_lt hL.1 (by decide)) (ce_of hL.1) rfl rfl (Nat.le_of_ble_eq_true rfl) rfl dX9_count_80 ?_
          exact k_iretR rfl dX9_count_83 h
        · refine k_if h (fun c4 h => ?_) (fun c4 h => ?_)
          · refine k_tabIn (off := 83) (tgt := 84) dX9_count_1 (by rw [c4]; decide) (by rw [c4]; decide) (by rw [c4]; rfl) (by decide) ?_
            refine k_aload_n (q := 0) dX9_count_84 rfl rfl ?_
            obtain ⟨r4, hc3, h⟩ := bnd_e h
            refine k_cv (q := (RX9, TX9, 12)) (As := []) 0 (cm_X9_framesInCan l hX g σ o hL hc3) gX9_count_X9_framesInCan rfl ⟨rfl, rfl⟩ hd_X9_framesInCan ⟨Nat.le_of_ble_eq_true rfl, Nat.le_of_ble_eq_true rfl⟩ ⟨Nat.le_refl _, Nat.le_refl _⟩ (lay_lt hL.1 (by decide)) (ce_of hL.1) rfl rfl (Nat.le_of_ble_eq_true rfl) rfl dX9_count_85 ?_
            exact k_iretR rfl dX9_count_88 h
          · refine k_if h (fun c5 h => ?_) (fun c5 h => ?_)
            · refine k_tabIn (off := 88) (tgt := 89) dX9_count_1 (by rw [c5]; decide) (by rw [c5]; decide) (by rw [c5]; rfl) (by decide) ?_
              refine k_aload_n (q := 0) dX9_count_89 rfl rfl ?_
              refine kg_9 (v := .ref (xad X (o + 1))) hL.1 inX9_count_9 0 (by decide) (List.mem_of_getElem? (i := 1) rfl) rfl dX9_count_90 ?_
              refine k_iload_n (q := 1) dX9_count_93 rfl rfl ?_
              refine k_iconst (v := (nI 2)) dX9_count_94 (by decide) ?_
              refine k_isub dX9_count_95 ?_
              refine k_iald (n := 6036) hL.2.1 dX9_count_96 h (fun h => ?_)
              exact k_iretR rfl dX9_count_97 h
            · refine k_if h (fun c6 h => ?_) (fun c6 h => ?_)
              · refine k_tabIn (off := 88) (tgt := 89) dX9_count_1 (by rw [c6]; decide) (by rw [c6]; decide) (by rw [c6]; rfl) (by decide) ?_
                refine k_aload_n (q := 0) dX9_count_89 rfl rfl ?_
                refine kg_9 (v := .ref (xad X (o + 1))) hL.1 inX9_count_9 0 (by decide) (List.mem_of_getElem? (i := 1) rfl) rfl dX9_count_90 ?_
                refine k_iload_n (q := 1) dX9_count_93 rfl rfl ?_
                refine k_iconst (v := (nI 2)) dX9_count_94 (by decide) ?_
                refine k_isub dX9_count_95 ?_
                refine k_iald (n := 6036) hL.2.1 dX9_count_96 h (fun h => ?_)
                exact k_iretR rfl dX9_count_97 h
              · refine k_if h (fun c7 h => ?_) (fun c7 h => ?_)
                · refine k_tabIn (off := 88) (tgt := 89) dX9_count_1 (by rw [c7]; decide) (by rw [c7]; decide) (by rw [c7]; rfl) (by decide) ?_
                  refine k_aload_n (q := 0) dX9_count_89 rfl rfl ?_
                  refine kg_9 (v := .ref (xad X (o + 1))) hL.1 inX9_count_9 0 (by decide) (List.mem_of_getElem? (i := 1) rfl) rfl dX9_count_90 ?_
                  refine k_iload_n (q := 1) dX9_count_93 rfl rfl ?_
                  refine k_iconst (v := (nI 2)) dX9_count_94 (by decide) ?_
                  refine k_isub dX9_count_95 ?_
                  refine k_iald (n := 6036) hL.2.1 dX9_count_96 h (fun h => ?_)
                  exact k_iretR rfl dX9_count_97 h
                · refine k_if h (fun c8 h => ?_) (fun c8 h => ?_)
                  · refine k_tabIn (off := 88) (tgt := 89) dX9_count_1 (by rw [c8]; decide) (by rw [c8]; decide) (by rw [c8]; rfl) (by decide) ?_
                    refine k_aload_n (q := 0) dX9_count_89 rfl rfl ?_
                    refine kg_9 (v := .ref (xad X (o + 1))) hL.1 inX9_count_9 0 (by decide) (List.mem_of_getElem? (i := 1) rfl) rfl dX9_count_90 ?_
                    refine k_iload_n (q := 1) dX9_count_93 rfl rfl ?_
                    refine k_iconst (v := (nI 2)) dX9_count_94 (by decide) ?_
                    refine k_isub dX9_count_95 ?_
                    refine k_iald (n := 6036) hL.2.1 dX9_count_96 h (fun h => ?_)
                    exact k_iretR rfl dX9_count_97 h
                  · refine k_if h (fun c9 h => ?_) (fun c9 h => ?_)
                    · refine k_tabIn (off := 88) (tgt := 89) dX9_count_1 (by rw [c9]; decide) (by rw [c9]; decide) (by rw [c9]; rfl) (by decide) ?_
                      refine k_aload_n (q := 0) dX9_count_89 rfl rfl ?_
                      refine kg_9 (v := .ref (xad X (o + 1))) hL.1 inX9_count_9 0 (by decide) (List.mem_of_getElem? (i := 1) rfl) rfl dX9_count_90 ?_
                      refine k_iload_n (q := 1) dX9_count_93 rfl rfl ?_
                      refine k_iconst (v := (nI 2)) dX9_count_94 (by decide) ?_
                      refine k_isub dX9_count_95 ?_
                      refine k_iald (n := 6036) hL.2.1 dX9_count_96 h (fun h => ?_)
                      exact k_iretR rfl dX9_count_97 h
                    · refine k_if h (fun c10 h => ?_) (fun c10 h => ?_)
                      · refine k_tabIn (off := 97) (tgt := 98) dX9_count_1 (by rw [c10]; decide) (by rw [c10]; decide) (by rw [c10]; rfl) (by decide) ?_
                        refine k_aload_n (q := 0) dX9_count_98 rfl rfl ?_
                        obtain ⟨r6, hc5, h⟩ := bnd_e h
                        refine k_cv (q := (RX9, TX9, 12)) (As := []) 0 (cm_X9_allTorn l hX g σ o hL hc5) gX9_count_X9_allTorn rfl ⟨rfl, rfl⟩ hd_X9_allTorn ⟨Nat.le_of_ble_eq_true rfl, Nat.le_of_ble_eq_true rfl⟩ ⟨Nat.le_refl _, Nat.le_refl _⟩ (lay_lt hL.1 (by decide)) (ce_of hL.1) rfl rfl (Nat.le_of_ble_eq_true rfl) rfl dX9_count_99 ?_
                        exact k_iretR rfl dX9_count_102 h
                      · refine k_if h (fun c11 h => ?_) (fun c11 h => ?_)
                        · refine k_tabIn (off := 102) (tgt := 103) dX9_count_1 (by rw [c11]; decide) (by rw [c11]; decide) (by rw [c11]; rfl) (by decide) ?_
                          refine k_aload_n (q := 0) dX9_count_103 rfl rfl ?_
                          obtain ⟨r8, hc7, h⟩ := bnd_e h
                          refine k_cv (q := (RX9, TX9, 12)) (As := []) 0 (cm_X9_breaks l hX g σ o hL hc7) gX9_count_X9_breaks rfl ⟨rfl, rfl⟩ hd_X9_breaks ⟨Nat.le_of_ble_eq_true rfl, Nat.le_of_ble_eq_true rfl⟩ ⟨Nat.le_refl _, Nat.le_refl _⟩ (lay_lt hL.1 (by decide)) (ce_of hL.1) rfl rfl (Nat.le_of_ble_eq_true rfl) rfl dX9_count_104 ?_
                          exact k_iretR rfl dX9_count_107 h
                        · refine k_if h (fun c12 h => ?_) (fun c12 h => ?_)
                          · refine k_tabIn (off := 107) (tgt := 108) dX9_count_1 (by rw [c12]; decide) (by rw [c12]; decide) (by rw [c12]; rfl) (by decide) ?_
                            refine k_aload_n (q := 0) dX9_count_108 rfl rfl ?_
                            refine kg_9 (v := .int (σ o 2)) hL.1 inX9_count_9 2 (by decide) (List.mem_of_getElem? (i := 2) rfl) rfl dX9_count_109 ?_
                            exact k_iretR rfl dX9_count_112 h
                          · refine k_if h (fun c13 h => ?_) (fun c13 h => ?_)
                            · refine k_tabIn (off := 112) (tgt := 113) dX9_count_1 (by rw [c13]; decide) (by rw [c13]; decide) (by rw [c13]; rfl) (by decide) ?_
                              refine k_aload_n (q := 0) dX9_count_113 rfl rfl ?_
                              refine kg_9 (v := .int (σ o 6)) hL.1 inX9_count_9 6 (by decide) (List.mem_of_getElem? (i := 3) rfl) rfl dX9_count_114 ?_
                              exact k_iretR rfl dX9_count_117 h
                            · refine k_tabOut (tgt := 118) dX9_count_1 (by have e0 := lv_neT c0 (show Int32.toInt (nI 0) = 0 from rfl); have e1 := lv_neT c1 (show Int32.toInt (nI 1) = 1 from rfl); have e2 := lv_neT c2 (show Int32.toInt (nI 2) = 2 from rfl); have e3 := lv_neT c3 (show Int32.toInt (nI 3) = 3 from rfl); have e4 := lv_neT c4 (show Int32.toInt (nI 4) = 4 from rfl); have e5 := lv_neT c5 (show Int32.toInt (nI 5) = 5 from rfl); have e6 := lv_neT c6 (show Int32.toInt (nI 6) = 6 from rfl); have e7 := lv_neT c7 (show Int32.toInt (nI 7) = 7 from rfl); have e8 := lv_neT c8 (show Int32.toInt (nI 8) = 8 from rfl); have e9 := lv_neT c9 (show Int32.toInt (nI 9) = 9 from rfl); have e10 := lv_neT c10 (show Int32.toInt (nI 10) = 10 from rfl); have e11 := lv_neT c11 (show Int32.toInt (nI 11) = 11 from rfl); have e12 := lv_neT c12 (show Int32.toInt (nI 12) = 12 from rfl); have e13 := lv_neT c13 (show Int32.toInt (nI 13) = 13 from rfl); omega) (by decide) ?_
                              refine k_bipush (v := (nN 2)) dX9_count_118 (by decide) ?_
                              exact k_iretR rfl dX9_count_120 h
