/-! THE START, 2: the memory z0 stands for the empty state on both sides; the words of the start -/
def A0 : Fa := ([], (fun _ => 0, fun _ => nI 0), ([], []), [], [], 0, 3, 5)
def S0 : SS := (A0, [], none, [])
theorem both_0 : Both 0 z0 S0 := by
  refine ⟨⟨⟨⟨rfl, by decide, fun i x h => by simp [A0, S0] at h, fun j _ => ⟨rfl, rfl⟩⟩, ⟨⟨rfl, by decide, fun i x h => by simp [A0, S0] at h⟩, ⟨rfl, by decide, fun i x h => by simp [A0, S0] at h⟩⟩, ⟨by decide, fun i x h => by simp [A0, S0] at h⟩, ⟨rfl, by decide, fun i x h => by simp [A0, S0] at h⟩, rfl, rfl, rfl, rfl⟩, ⟨rfl, by decide, 0, by omega, rfl, fun i x h => by simp [S0] at h⟩, rfl, fun A h => (by cases h), ⟨rfl, by decide, fun i x h => by simp [S0] at h⟩⟩, ⟨⟨⟨rfl, by decide, fun i x h => by simp [A0, S0] at h⟩, fun j hj => ⟨?_, ?_⟩, ⟨rfl, by decide, fun i x h => by simp [A0, S0] at h⟩, ⟨rfl, by decide, fun i x h => by simp [A0, S0] at h⟩, ⟨rfl, by decide, fun i x h => by simp [A0, S0] at h⟩, ⟨rfl, by decide, fun i x h => by simp [A0, S0] at h⟩, rfl, rfl, rfl⟩, ⟨rfl, by decide, fun i x h => by simp [S0] at h⟩, rfl, fun A h => (by cases h), ⟨rfl, by decide, fun i x h => by simp [S0] at h⟩⟩, ⟨⟨fun i y h => by simp [A0, S0] at h, fun j => by show 0 < 16; omega, ⟨⟨fun r h => by simp [A0, S0, rngs] at h, by show List.Pairwise apR []; exact List.Pairwise.nil, rfl⟩, fun x h => by simp [A0, S0] at h⟩, fun i s h => by simp [A0, S0] at h, fun i x h => by simp [A0, S0] at h, by decide, by decide, by decide⟩, fun A h => by simp [S0] at h, fun A h => (by cases h)⟩⟩
  · show upd (upd z_ 6 3) 7 5 (32 + 2 * j) = nI 0
    rw [pk_un (by omega), pk_un (by omega)]
    rfl
  · show upd (upd z_ 6 3) 7 5 (33 + 2 * j) = nI 0
    rw [pk_un (by omega), pk_un (by omega)]
    rfl
theorem start_nw {s : State} {args : Array Value} (h : ∀ w ∈ lw_tbl, w.before args s = true) : NW s := ⟨va_Nw.of rfl (h _ (by decide +kernel)), va_Nw.of rfl (h _ (by decide +kernel)), va_Nw.of rfl (h _ (by decide +kernel)), va_Nw.of rfl (h _ (by decide +kernel)), va_Nw.of rfl (h _ (by decide +kernel)), va_Nw.of rfl (h _ (by decide +kernel))⟩
theorem start_ni {s : State} {args : Array Value} (h : ∀ w ∈ lw_tbl, w.before args s = true) : NI s := ⟨va_Nw.of rfl (h _ (by decide +kernel)), va_Nw.of rfl (h _ (by decide +kernel)), va_Nw.of rfl (h _ (by decide +kernel)), va_Nw.of rfl (h _ (by decide +kernel)), va_Nw.of rfl (h _ (by decide +kernel)), va_Nw.of rfl (h _ (by decide +kernel)), va_Nw.of rfl (h _ (by decide +kernel)), va_Nw.of rfl (h _ (by decide +kernel)), va_AO.of (h _ (by decide +kernel)), va_AO.of (h _ (by decide +kernel))⟩
theorem prim_of {s : State} {args : Array Value} {ty : FieldType} (h : (Cond.arrayClass ty).before args s = true) (hp : ∀ C, ty ≠ .object C) : ∃ cA, ArrOfT s cA ty ∧ va_RA s cA ty := by
  obtain ⟨cA, kA, comp, h1, h2, h3⟩ := Cond.arrayClass_spec h
  refine ⟨cA, fun n z => ⟨(fun k h => by cases h), kA, h2, comp, h3⟩, ?_⟩
  cases ty with
  | object C => exact absurd rfl (hp C)
  | _ => exact h1
theorem obj_of {s : State} {C : String} (h : va_AO C s) : ∃ cA, ArrOfT s cA (.object C) ∧ va_RA s cA (.object C) := by
  obtain ⟨comp, cA, k, h1, h2, h3, h4, h5⟩ := Cond.arrayOver_spec h
  exact ⟨cA, fun n z => ⟨(fun k h => by cases h), k, h3, comp, h4⟩, k, comp, h3, h4, h1, h5⟩
theorem start_k {s : State} {args : Array Value} (h : ∀ w ∈ lw_tbl, w.before args s = true) : ∃ (D : va_G) (cs : CS), va_K D vwCl (cty cs) s := by
  obtain ⟨c0, i0, k0⟩ := u_known (C := RX0) (T := TX0) (N := 2) (n := 2) h inX0 (h (.instantiable RX0 2) (by decide +kernel))
  obtain ⟨c1, i1, k1⟩ := u_known (C := RX1) (T := TX1) (N := 8) (n := 8) h inX1 (h (.instantiable RX1 8) (by decide +kernel))
  obtain ⟨c2, i2, k2⟩ := u_known (C := RX2) (T := TX2) (N := 8) (n := 8) h inX2 (h (.instantiable RX2 8) (by decide +kernel))
  obtain ⟨c3, i3, k3⟩ := u_known (C := RX3) (T := TX3) (N := 3) (n := 3) h inX3 (h (.instantiable RX3 3) (by decide +kernel))
  obtain ⟨c4, i4, k4⟩ := u_known (C := RX4) (T := TX4) (N := 5) (n := 5) h inX4 (h (.instantiable RX4 5) (by decide +kernel))
  obtain ⟨c5, i5, k5⟩ := u_known (C := RX5) (T := TX5) (N := 2) (n := 2) h inX5 (h (.instantiable RX5 2) (by decide +kernel))
  obtain ⟨c6, i6, k6⟩ := u_known (C := RX6) (T := TX6) (N := 5) (n := 5) h inX6 (h (.instantiable RX6 5) (by decide +kernel))
  obtain ⟨c7, i7, k7⟩ := u_known (C := RX7) (T := TX7) (N := 4) (n := 4) h inX7 (h (.instantiable RX7 4) (by decide +kernel))
  obtain ⟨c8, i8, k8⟩ := u_known (C := RX8) (T := TX8) (N := 7) (n := 7) h inX8 (h (.instantiable RX8 7) (by decide +kernel))
  obtain ⟨c9, i9, k9⟩ := u_known (C := RX9) (T := TX9) (N := 12) (n := 12) h inX9 (h (.instantiable RX9 12) (by decide +kernel))
  obtain ⟨e1, f1⟩ := prim_of (h (.arrayClass .char) (by decide +kernel)) (fun C z => by cases z)
  obtain ⟨e2, f2⟩ := prim_of (h (.arrayClass .int) (by decide +kernel)) (fun C z => by cases z)
  have hN := start_ni h
  obtain ⟨e3, f3⟩ := obj_of hN.2.2.2.2.2.2.2.2.1
  obtain ⟨e4, f4⟩ := obj_of hN.2.2.2.2.2.2.2.2.2
  refine ⟨(fun k => match k with | 0 => c0 | 1 => c1 | 2 => c2 | 3 => c3 | 4 => c4 | 5 => c5 | 6 => c6 | 7 => c7 | 8 => c8 | _ => c9, fun k => match k with | 0 => i0 | 1 => i1 | 2 => i2 | 3 => i3 | 4 => i4 | 5 => i5 | 6 => i6 | 7 => i7 | 8 => i8 | _ => i9), (e1, e2, e3, e4), fun k q hq => ?_, fun k q hq => ?_⟩
  · match k, hq with
    | 0, hq => cases hq; exact k0
    | 1, hq => cases hq; exact k1
    | 2, hq => cases hq; exact k2
    | 3, hq => cases hq; exact k3
    | 4, hq => cases hq; exact k4
    | 5, hq => cases hq; exact k5
    | 6, hq => cases hq; exact k6
    | 7, hq => cases hq; exact k7
    | 8, hq => cases hq; exact k8
    | 9, hq => cases hq; exact k9
    | k + 10, hq => simp [vwCl] at hq
  · match k, hq with
    | 0, hq => cases hq; exact f1
    | 1, hq => cases hq; exact f2
    | 2, hq => cases hq; exact f3
    | 3, hq => cases hq; exact f4
    | k + 4, hq => simp [cty] at hq
