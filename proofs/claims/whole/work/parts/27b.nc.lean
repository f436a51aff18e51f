/-! THE CONSTRUCTORS: a new object with its constructor -/
theorem nd_of : ∀ L : List Nat, L.Nodup → va_nd L = true := by
  intro L
  induction L with
  | nil => intro _; rfl
  | cons a L ih =>
    intro h
    rw [List.nodup_cons] at h
    show (decide (a ∉ L) && va_nd L) = true
    rw [decide_eq_true h.1, ih h.2]
    rfl
theorem nd_range (n : Nat) : va_nd (List.range n) = true := nd_of _ List.nodup_range
theorem ncN {l : Launch} {p : Program} {e : Env} {R : Room} {s : State} {m : MethodId} {args : Array Value} {below : List Frame} {meth : Method} {c : Code} {H : Heap} {locs : List Loc} {cells slots : Nat} {Q : State → Prop} {A : Nat → Prop} {cc : ByteArray} {nL : Nat} {Ts : List Cond} {own : String} {D : va_G} {cs : CS} {ws : va_W} {C : String} {T : u_T} {N ci i1 i2 mc ms maxL o pc : Nat} {fs : List Value} {y : MethodName} {bytes : ByteArray} {ws' ws'' : List Cond} {rm : Room} {wk : (Nat → Nat) → va_W} {ls : Array Slot} {rest : List Value} (ty : Nat → FieldType)
    (S : CallFix p m c cc nL s args Ts own) (hK : va_K D vwCl (cty cs) s) (hN : NI s) (hP : va_P D vwCl ws H) (hD : va_D A ws) (hS : va_S A s.heap H locs) (hA : ∀ q, s.heap.size ≤ q → A q)
    (cmK : ∀ h0 sz, Met l y ws' rm (va_Pc [.ref h0] (fun U => U.heap.size = sz ∧ va_P D vwCl [(h0, .inr (ci, fs))] U.heap ∧ va_K D vwCl (cty cs) U ∧ va_D (fun _ => True) [(h0, .inr (ci, fs))] ∧ NI U)) (va_Qv (fun ad : Nat → Nat => ad o = h0) (fun ad t => va_P D vwCl (wk ad) t.heap ∧ va_K D vwCl (cty cs) t ∧ va_D (va_A [(h0, .inr (ci, fs))] sz) (wk ad)) (va_A [(h0, .inr (ci, fs))] sz)) mc ms (va_A [(h0, .inr (ci, fs))] sz))
    (hc : vwCl[ci]? = some (C, T, N)) (hfs : ∀ j, j < N → defaultValue (ty j) = vp_V fs j) (hin : ∀ w ∈ u_ws C T N, w ∈ Ts) (hty : ∀ k, k < N → parseFieldDescriptor (T k).2.2.1 = some (ty k))
    (w1 : Cond.classLink own i1 C ∈ Ts) (w2 : Cond.instantiable C N ∈ Ts) (w3 : Cond.initialized C ∈ Ts) (w4 : Cond.instanceMethod y ∈ Ts) {host : String} (hl : ∀ U, NI U → va_Nw (.methodLinkNest own i2 y host) U)
    (hG : GoodIn Ts ws') (hw : ws' = Cond.code y bytes maxL none :: ws'') (hrc : rm.cells = mc) (hrs : rm.slots = ms) (hy : y.cls = C) (hn : y.name = "<init>") (hd : y.cls ≠ "java/lang/invoke/MethodHandle" ∧ y.cls ≠ "java/lang/invoke/VarHandle" ∧ (parseMethodDescriptor y.desc).map (fun d => d.parameters.length) = some 0) (hR : rm.frames + 1 ≤ R.frames ∧ 8 + (maxL + 11) + rm.locals ≤ R.locals)
    (hcl : cells + 1 + mc ≤ R.cells) (hsl : slots + N + ms ≤ R.slots) (d1 : decode cc pc = .ok (.new i1, 3)) (d2 : decode cc (pc + 3) = .ok (.dup, 1)) (d3 : decode cc (pc + 3 + 1) = .ok (.invokespecial i2, 3)) (hls : ls.size = nL) (hre : (rest.map fun v => v.category).sum ≤ 7)
    (kk : ∀ (ad : Nat → Nat) (H1 : Heap) (locs1 : List Loc), va_P D vwCl (ws ++ wk ad) H1 → va_D A (ws ++ wk ad) → va_S A s.heap H1 locs1 → W p l e R s m args below meth c H1 locs1 (cells + 1 + mc) (slots + N + ms) Q (F0 m (pc + 3 + 1 + 3) ls (.ref (ad o) :: rest))) : W p l e R s m args below meth c H locs cells slots Q (F0 m pc ls rest) := by
  have hts := S.2.2.2.2
  refine va_new (ci := ci) (fs := fs) (C := C) (T := T) (N := N) S.1 S.2.1 hts hin ty hty S.2.2.2.1 (hts _ w1) (hts _ w2) (hts _ w3) hK hP hD hS hA hc hfs (by omega) (by omega) d1 (fun q H2 hP2 hD2 hS2 => ?_)
  refine lv_dup S.1 S.2.1 d2 rfl ?_
  have hlast : [ws.length].map (fun i => (ws ++ [(q, (Sum.inr (ci, fs) : va_E))])[i]?) = [(q, (Sum.inr (ci, fs) : va_E))].map some := by
    show [(ws ++ [(q, (Sum.inr (ci, fs) : va_E))])[ws.length]?] = _
    rw [List.getElem?_append_right (Nat.le_refl _), Nat.sub_self]
    rfl
  have hlast2 : [ws.length].filterMap (fun i => (ws ++ [(q, (Sum.inr (ci, fs) : va_E))])[i]?) = [(q, (Sum.inr (ci, fs) : va_E))] := by
    rw [List.filterMap_cons, List.getElem?_append_right (Nat.le_refl _), Nat.sub_self]
    rfl
  have hPc := hP2.sub (ws' := [(q, .inr (ci, fs))]) [ws.length] hlast2
  have hDc := hD2.sub (ws' := [(q, .inr (ci, fs))]) [ws.length] rfl hlast
  have hFc := va_free (wc := [(q, .inr (ci, fs))]) hD2 hS2 hA [ws.length] hlast
  refine va_callv (va_runIN (As := []) (rest := .ref q :: rest) S (cmK q H2.size) ⟨va_cnB 0 hts hG hw hrc hrs (hl s hN) (by rw [hy]; exact hts _ w3) hd hR, hn, hts _ w4⟩ ⟨fun a U g mk z => by obtain ⟨z0, z1, zP, zK, zD, zN⟩ := z; exact ⟨z0, z1, zP, va_K.moved (u := U) (U := U.calling g mk a) (Vm.Alike.refl U.vm) zK, zD, NI.same (u := U) (U := U.calling g mk a) rfl zN⟩, fun U hU hW => ⟨rfl, by rw [hU], by rw [hU]; exact hPc, va_K.moved hW.alike hK, hDc.weaken (fun _ _ _ _ => trivial), NI.warm hW hN⟩⟩ rfl rfl hls rfl (lv_room (by rw [List.map_cons, List.sum_cons]; show 1 + _ ≤ 8; omega)) d3 ⟨hcl, hsl⟩) hS2 (fun q _ h => hFc q h) hFc (fun ad t H1 locs1 ht hvm hw1 hB hz1 hk1 hS1 => ?_)
  obtain ⟨hP1, hK1, hD1⟩ := hB
  rw [ht] at hP1
  have hw1 : ad o = q := hw1
  have hwr : (List.range ws.length).map (fun i => (ws ++ [(q, (Sum.inr (ci, fs) : va_E))])[i]?) = ws.map some := by
    apply List.ext_getElem?
    intro i
    rw [List.getElem?_map, List.getElem?_map]
    by_cases hi : i < ws.length
    · rw [List.getElem?_range hi]
      show some (ws ++ [_])[i]? = _
      rw [List.getElem?_append_left hi]
      obtain ⟨z, hz⟩ := get_of hi
      rw [hz]
      rfl
    · rw [List.getElem?_eq_none (by rw [List.length_range]; omega), List.getElem?_eq_none (by omega)]
      rfl
  have hj := va_join (wr := ws) (w1 := wk ad) hP2 hD2 [ws.length] (List.range ws.length) hlast hwr (nd_range _) (fun i hi hi2 => by
    have h1 := List.mem_range.mp hi
    have h2 := List.mem_singleton.mp hi2
    omega) hk1 hFc hP1 hD1
  rw [← hw1]
  exact kk ad H1 locs1 hj.1 hj.2 hS1
theorem ncI {l : Launch} {p : Program} {e : Env} {R : Room} {s : State} {m : MethodId} {args : Array Value} {below : List Frame} {meth : Method} {c : Code} {H : Heap} {locs : List Loc} {cells slots : Nat} {Q : State → Prop} {A : Nat → Prop} {cc : ByteArray} {nL : Nat} {Ts : List Cond} {own : String} {D : va_G} {cs : CS} {ws : va_W} {C : String} {T : u_T} {N ci i1 i2 mc ms maxL o pc : Nat} {fs : List Value} {y : MethodName} {bytes : ByteArray} {ws' ws'' : List Cond} {rm : Room} {wk : (Nat → Nat) → va_W} {ls : Array Slot} {rest : List Value} (ty : Nat → FieldType)
    (S : CallFix p m c cc nL s args Ts own) (hK : va_K D vwCl (cty cs) s) (hN : NI s) (hP : va_P D vwCl ws H) (hD : va_D A ws) (hS : va_S A s.heap H locs) (hA : ∀ q, s.heap.size ≤ q → A q)
    (cmK : ∀ h0 sz, Met l y ws' rm (va_Pc [.ref h0] (fun U => U.heap.size = sz ∧ va_P D vwCl [(h0, .inr (ci, fs))] U.heap ∧ va_K D vwCl (cty cs) U ∧ va_D (fun _ => True) [(h0, .inr (ci, fs))] ∧ NI U)) (va_Qv (fun ad : Nat → Nat => ad o = h0) (fun ad t => va_P D vwCl (wk ad) t.heap ∧ va_K D vwCl (cty cs) t ∧ va_D (va_A [(h0, .inr (ci, fs))] sz) (wk ad)) (va_A [(h0, .inr (ci, fs))] sz)) mc ms (va_A [(h0, .inr (ci, fs))] sz))
    (hc : vwCl[ci]? = some (C, T, N)) (hfs : ∀ j, j < N → defaultValue (ty j) = vp_V fs j) (hin : ∀ w ∈ u_ws C T N, w ∈ Ts) (hty : ∀ k, k < N → parseFieldDescriptor (T k).2.2.1 = some (ty k))
    (w1 : Cond.classLink own i1 C ∈ Ts) (w2 : Cond.instantiable C N ∈ Ts) (w3 : Cond.initialized C ∈ Ts) (w4 : Cond.instanceMethod y ∈ Ts) (hl : Cond.methodLink own i2 y ∈ Ts)
    (hG : GoodIn Ts ws') (hw : ws' = Cond.code y bytes maxL none :: ws'') (hrc : rm.cells = mc) (hrs : rm.slots = ms) (hy : y.cls = C) (hn : y.name = "<init>") (hd : y.cls ≠ "java/lang/invoke/MethodHandle" ∧ y.cls ≠ "java/lang/invoke/VarHandle" ∧ (parseMethodDescriptor y.desc).map (fun d => d.parameters.length) = some 0) (hR : rm.frames + 1 ≤ R.frames ∧ 8 + (maxL + 11) + rm.locals ≤ R.locals)
    (hcl : cells + 1 + mc ≤ R.cells) (hsl : slots + N + ms ≤ R.slots) (d1 : decode cc pc = .ok (.new i1, 3)) (d2 : decode cc (pc + 3) = .ok (.dup, 1)) (d3 : decode cc (pc + 3 + 1) = .ok (.invokespecial i2, 3)) (hls : ls.size = nL) (hre : (rest.map fun v => v.category).sum ≤ 7)
    (kk : ∀ (ad : Nat → Nat) (H1 : Heap) (locs1 : List Loc), va_P D vwCl (ws ++ wk ad) H1 → va_D A (ws ++ wk ad) → va_S A s.heap H1 locs1 → W p l e R s m args below meth c H1 locs1 (cells + 1 + mc) (slots + N + ms) Q (F0 m (pc + 3 + 1 + 3) ls (.ref (ad o) :: rest))) : W p l e R s m args below meth c H locs cells slots Q (F0 m pc ls rest) := by
  have hts := S.2.2.2.2
  refine va_new (ci := ci) (fs := fs) (C := C) (T := T) (N := N) S.1 S.2.1 hts hin ty hty S.2.2.2.1 (hts _ w1) (hts _ w2) (hts _ w3) hK hP hD hS hA hc hfs (by omega) (by omega) d1 (fun q H2 hP2 hD2 hS2 => ?_)
  refine lv_dup S.1 S.2.1 d2 rfl ?_
  have hlast : [ws.length].map (fun i => (ws ++ [(q, (Sum.inr (ci, fs) : va_E))])[i]?) = [(q, (Sum.inr (ci, fs) : va_E))].map some := by
    show [(ws ++ [(q, (Sum.inr (ci, fs) : va_E))])[ws.length]?] = _
    rw [List.getElem?_append_right (Nat.le_refl _), Nat.sub_self]
    rfl
  have hlast2 : [ws.length].filterMap (fun i => (ws ++ [(q, (Sum.inr (ci, fs) : va_E))])[i]?) = [(q, (Sum.inr (ci, fs) : va_E))] := by
    rw [List.filterMap_cons, List.getElem?_append_right (Nat.le_refl _), Nat.sub_self]
    rfl
  have hPc := hP2.sub (ws' := [(q, .inr (ci, fs))]) [ws.length] hlast2
  have hDc := hD2.sub (ws' := [(q, .inr (ci, fs))]) [ws.length] rfl hlast
  have hFc := va_free (wc := [(q, .inr (ci, fs))]) hD2 hS2 hA [ws.length] hlast
  refine va_callv (va_runI (As := []) (rest := .ref q :: rest) S (cmK q H2.size) (cwI 0 hts hG hw hrc hrs (by rw [hy]; exact hts _ w3) (hts _ hl) (hts _ w4) hn hd hR) ⟨fun a U g mk z => by obtain ⟨z0, z1, zP, zK, zD, zN⟩ := z; exact ⟨z0, z1, zP, va_K.moved (u := U) (U := U.calling g mk a) (Vm.Alike.refl U.vm) zK, zD, NI.same (u := U) (U := U.calling g mk a) rfl zN⟩, fun U hU hW => ⟨rfl, by rw [hU], by rw [hU]; exact hPc, va_K.moved hW.alike hK, hDc.weaken (fun _ _ _ _ => trivial), NI.warm hW hN⟩⟩ rfl rfl hls rfl (lv_room (by rw [List.map_cons, List.sum_cons]; show 1 + _ ≤ 8; omega)) d3 ⟨hcl, hsl⟩) hS2 (fun q _ h => hFc q h) hFc (fun ad t H1 locs1 ht hvm hw1 hB hz1 hk1 hS1 => ?_)
  obtain ⟨hP1, hK1, hD1⟩ := hB
  rw [ht] at hP1
  have hw1 : ad o = q := hw1
  have hwr : (List.range ws.length).map (fun i => (ws ++ [(q, (Sum.inr (ci, fs) : va_E))])[i]?) = ws.map some := by
    apply List.ext_getElem?
    intro i
    rw [List.getElem?_map, List.getElem?_map]
    by_cases hi : i < ws.length
    · rw [List.getElem?_range hi]
      show some (ws ++ [_])[i]? = _
      rw [List.getElem?_append_left hi]
      obtain ⟨z, hz⟩ := get_of hi
      rw [hz]
      rfl
    · rw [List.getElem?_eq_none (by rw [List.length_range]; omega), List.getElem?_eq_none (by omega)]
      rfl
  have hj := va_join (wr := ws) (w1 := wk ad) hP2 hD2 [ws.length] (List.range ws.length) hlast hwr (nd_range _) (fun i hi hi2 => by
    have h1 := List.mem_range.mp hi
    have h2 := List.mem_singleton.mp hi2
    omega) hk1 hFc hP1 hD1
  rw [← hw1]
  exact kk ad H1 locs1 hj.1 hj.2 hS1
