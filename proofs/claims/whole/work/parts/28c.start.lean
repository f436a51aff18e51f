/-! THE START, 3: from the law's entry -/
set_option maxHeartbeats 4000000 in
set_option maxRecDepth 100000 in
theorem whole_start {p : Program} {e : Env} {s : State} {m : MethodId} {below : List Frame} {meth : Method} {c : Code} (l : Launch) (hflags : l.flags = flags0) {b L : Nat} {xs : Nat → Int32} (hL : L ≤ 2048) (C0 : lw_At p s m meth c b L xs) : W p l e room_1 s m #[Value.ref b] below meth c s.heap [] 0 0 (lw_Z below #[Value.ref b] s) (entryFrame m ([Value.ref b] : List Value).toArray 4) := by
  obtain ⟨hx, hb, hr, hml, hown, hts, hX, hbl, hlocks, hgv⟩ := id C0
  obtain ⟨D, cs, hK⟩ := start_k hts
  have hN := start_ni hts
  have hNW := start_nw hts
  have htw : ∀ w ∈ wsL_law, w.before #[Value.ref b] s = true := fun w h => hts w (wsL_law_in w h)
  have CF : CallFix p m c code 4 s #[Value.ref b] wsL_law RL := ⟨hx, hb, hml, hown, htw⟩
  have hA : ∀ q : Nat, s.heap.size ≤ q → (fun q : Nat => s.heap.size ≤ q) q := fun _ h => h
  have hS : va_S (fun q : Nat => s.heap.size ≤ q) s.heap s.heap [] := va_S.rf
  have hP : va_P D vwCl [] s.heap := fun k q h => by simp at h
  have hD : va_D (fun q : Nat => s.heap.size ≤ q) [] := ⟨fun i j p q h => by simp at h, fun k q h => by simp at h⟩
  have hl := lv_entry ([.ref b]) (n := 4) (Nat.le_of_ble_eq_true rfl)
  rw [lg_entry_eq]
  generalize (lg_sl ([.ref b]) ++ List.replicate (4 - (lg_sl ([.ref b])).length) Slot.unset).toArray = ls at hl ⊢
  have hl : lv_has ls 4 [(0, .ref b)] := hl
  refine ncI (o := 0) (N := 7) (T := TX8) (ci := 8) (fs := [.null, .null, .null, .null, .null, .null, .int 0]) (wk := fun ad => w8 cs ad 0) tyX8 CF hK hN hP hD hS hA (ci_X8 l D cs 0) rfl (fun j hj => by rcases (by omega : j = 0 ∨ j = 1 ∨ j = 2 ∨ j = 3 ∨ j = 4 ∨ j = 5 ∨ j = 6) with rfl | rfl | rfl | rfl | rfl | rfl | rfl <;> rfl) inlX8 tyX8_ok (by decide +kernel) (by decide +kernel) (by decide +kernel) (by decide +kernel) (by decide +kernel) gL_law_X8_init rfl rfl rfl rfl rfl ⟨by decide, by decide, by decide +kernel⟩ ⟨Nat.le_of_ble_eq_true rfl, Nat.le_of_ble_eq_true rfl⟩ (Nat.le_of_ble_eq_true rfl) (Nat.le_of_ble_eq_true rfl) dL_0 dL_3 dL_4 hl.1 (Nat.le_of_ble_eq_true rfl) (fun a1 H locs hP hD hS => ?_)
  refine lv_astore_n (lv' := [(1, .ref (a1 0)), (0, .ref b)]) hx hb dL_7 rfl hl (by decide) rfl (fun ls hl => ?_)
  refine ncI (o := 334) (N := 12) (T := TX9) (ci := 9) (fs := [.null, .null, .int 0, .int 0, .null, .null, .int 0, .int 0, .int 0, .int 0, .int 0, .int 0]) (wk := fun ad => w9 cs ad 334) tyX9 CF hK hN hP hD hS hA (ci_X9 l D cs 334) rfl (fun j hj => by rcases (by omega : j = 0 ∨ j = 1 ∨ j = 2 ∨ j = 3 ∨ j = 4 ∨ j = 5 ∨ j = 6 ∨ j = 7 ∨ j = 8 ∨ j = 9 ∨ j = 10 ∨ j = 11) with rfl | rfl | rfl | rfl | rfl | rfl | rfl | rfl | rfl | rfl | rfl | rfl <;> rfl) inlX9 tyX9_ok (by decide +kernel) (by decide +kernel) (by decide +kernel) (by decide +kernel) (by decide +kernel) gL_law_X9_init rfl rfl rfl rfl rfl ⟨by decide, by decide, by decide +kernel⟩ ⟨Nat.le_of_ble_eq_true rfl, Nat.le_of_ble_eq_true rfl⟩ (Nat.le_of_ble_eq_true rfl) (Nat.le_of_ble_eq_true rfl) dL_8 dL_11 dL_12 hl.1 (Nat.le_of_ble_eq_true rfl) (fun a2 H locs hP hD hS => ?_)
  refine lv_astore_n (lv' := [(2, .ref (a2 334)), (1, .ref (a1 0)), (0, .ref b)]) hx hb dL_15 rfl hl (by decide) rfl (fun ls hl => ?_)
  refine lv_iconst (v := nI 0) hx hb dL_16 (by decide) ?_
  refine lv_istore_n (lv' := [(3, .int (nI 0)), (2, .ref (a2 334)), (1, .ref (a1 0)), (0, .ref b)]) hx hb dL_17 rfl hl (by decide) rfl (fun ls hl => ?_)
  obtain ⟨ad, h1, h2⟩ : ∃ ad : Nat → Nat, (∀ i, i < 334 → ad i = a1 i) ∧ ∀ i, 334 ≤ i → ad i = a2 i := ⟨fun i => if i < 334 then a1 i else a2 i, fun i a => if_pos a, fun i a => if_neg (by omega)⟩
  have ew : [] ++ w8 cs a1 0 ++ w9 cs a2 334 = seg (xo D cs ad) 0 339 := by
    rw [List.nil_append, ← w8_c (cs := cs) h1, ← w9_c (cs := cs) h2, s8 (D := D), s9 (D := D), show (339 : Nat) = 334 + 5 from rfl, seg_add]
  rw [ew] at hP hD
  obtain ⟨hXD, hge⟩ := seg_D hD
  have hPw := seg_P hP
  have hl2 := lv_sub hl [3, 2, 1, 0] (l' := [(0, .ref b), (1, .ref (a1 0)), (2, .ref (a2 334)), (3, .int (nI 0))]) rfl
  rw [← h1 0 (by omega), ← h2 334 (by omega)] at hl2
  refine va_forget (fun q hq => hS.2.2 q hq) ?_
  exact lc_loop l hXD (kc := 0 + 1 + 333 + 1 + 4) (ks := 0 + 7 + 37439 + 12 + 42800) ⟨by omega, by omega⟩ hL 2053 0 0 z0 S0 (by omega) (by omega) (by omega) both_0 p e s m #[Value.ref b] below meth c H [] ls ⟨CF, hK, hNW, hXD⟩ hr hlocks ⟨rfl, hX, hbl, hge⟩ hPw ⟨hS.1, fun q hq _ => hS.2.1 q hq (fun z => absurd hq (Nat.not_lt.mpr z)), fun q hq => absurd hq List.not_mem_nil⟩ hl2
