/-! PURE ROWS, 27: what every state keeps, call by call -/
def okU (c : Int32) : Prop := c = nN 5 ∨ ∃ a b : Nat, a < 12 ∧ b < 40 ∧ c = nI (100 * a + b)
def UM (s : Sw) : Prop := ∀ c ∈ s.1, okU c
theorem UM.V {s : Sw} (h : UM s) : UV s := fun _ c hc => h c (List.mem_of_getElem? hc)
theorem UM_unit {s : Sw} {c : Int32} (h : UM s) (hc : okU c) : UM (unitS s c) := by
  intro d hd
  rcases List.mem_append.mp hd with hd | hd
  · exact h d hd
  · rw [List.mem_singleton.mp hd]; exact hc
theorem UM_num {s : Sw} {k : Nat} {d : Int32} (h : UM s) : UM (num s k d) := h
theorem UM_playN {t : Nat → Nat} {sc : Nat} (h1 : sc < 12) : ∀ n f s, f + n ≤ 40 → UM s → UM (playN t sc f n s) := by
  intro n
  induction n with
  | zero => intro f s _ h; exact h
  | succ n ih =>
    intro f s hf h
    rw [playN]
    refine ih _ _ (by omega) ?_
    unfold playF
    split
    · exact UM_unit (UM_num (UM_num (UM_num h))) (Or.inl rfl)
    · exact UM_unit (UM_num (UM_num (UM_num h))) (Or.inr ⟨sc, f, h1, by omega, rfl⟩)
theorem UM_windN {t : Nat → Nat} {sc : Nat} : ∀ n f s, UM s → UM (windN t sc f n s) := by
  intro n
  induction n with
  | zero => intro f s h; exact h
  | succ n ih => intro f s h; exact ih _ _ h
theorem UM_dark : ∀ n s, UM s → UM (darkS n s) := by
  intro n
  induction n with
  | zero => intro s h; exact h
  | succ n ih => intro s h; exact ih _ (UM_unit h (Or.inl rfl))
theorem UM_proj {t : Nat → Nat} {sc : List (Nat × Nat)} {dis lim : Nat} : ∀ L i left s, (∀ x ∈ L, PV x) → UM s → UM (projL t sc dis lim i left L s) := by
  intro L
  induction L with
  | nil => intro i left s _ h; exact h
  | cons x L ih =>
    intro i left s hL h
    have hx := hL x List.mem_cons_self
    have hpl := plen_b hx
    obtain ⟨v0, v1, v2, v3⟩ := hx
    have hL' : ∀ y ∈ L, PV y := fun y hy => hL y (List.mem_cons_of_mem _ hy)
    rw [projL]
    split
    · exact h
    · split
      · exact ih _ _ _ hL' (UM_num (UM_dark _ _ (UM_windN _ _ _ h)))
      · exact ih _ _ _ hL' (UM_playN v0 _ _ _ (by omega) h)
theorem UV_show {A : Fa} (h : RowV A.2.2.1.1) : UV (aShow A) := by
  refine UM.V (UM_proj _ _ _ _ (fun x hx => ?_) (fun c hc => by simp [show0] at hc))
  obtain ⟨j, hj⟩ := List.mem_iff_getElem?.mp hx
  exact h j x hj
theorem BV.mono {n k : Nat} {sc : List (Nat × Nat)} {b : Bn} (h : BV n sc b) (hk : n ≤ k) : BV k sc b := ⟨h.1, fun x hx => Nat.le_trans (h.2 x hx) hk⟩
theorem FilmV.mono {n k : Nat} {A : Fa} (h : FilmV n A) (hk : n ≤ k) : FilmV k A := by
  obtain ⟨h1, h2, h3, h4⟩ := h
  exact ⟨h1, h2, h3.mono hk, h4⟩
def SysV (n : Nat) (S : SS) : Prop := FilmV n S.1 ∧ (∀ A ∈ S.2.1, FilmV n A) ∧ ∀ A, S.2.2.1 = some A → FilmV n A
theorem SysV.mono {n k : Nat} {S : SS} (h : SysV n S) (hk : n ≤ k) : SysV k S := ⟨h.1.mono hk, fun A hA => (h.2.1 A hA).mono hk, fun A hA => (h.2.2 A hA).mono hk⟩
theorem mem_recd {A B : Fa} {hs : List Fa} (h : B ∈ recd A hs) : B = A ∨ B ∈ hs := by
  unfold recd at h
  split at h
  · rcases List.mem_append.mp h with h | h
    · exact Or.inr (List.mem_of_mem_drop h)
    · exact Or.inl (List.mem_singleton.mp h)
  · rcases List.mem_append.mp h with h | h
    · exact Or.inr h
    · exact Or.inl (List.mem_singleton.mp h)
theorem SysV.put {n : Nat} {S : SS} {A : Fa} (h : SysV n S) (hA : FilmV n A) : SysV n (put S A) := ⟨hA, fun B hB => by
  rcases mem_recd hB with rfl | hB
  · exact h.1
  · exact h.2.1 B hB, h.2.2⟩
theorem FilmV.setB {n : Nat} {A : Fa} {b : Bn} (h : FilmV n A) (hb : BV n A.1 b) : FilmV n (setB A b) := by
  obtain ⟨h1, h2, h3, h4⟩ := h
  exact ⟨h1, h2, hb, h4⟩
theorem keep_E {n : Nat} {S : SS} (h : SysV n S) (v p q : Int32) : SysV n (spE v p q S).2 := by
  rw [spE_2]
  split
  · exact h
  · exact h.put (h.1.setB (h.1.2.2.1.op v p q))
theorem keep_edit {n : Nat} {S : SS} (h : SysV n S) : SysV n (spEdit S).2 := by
  unfold spEdit
  cases eds S.2.2.2 with
  | inl f => exact h
  | inr L =>
    dsimp only
    have hb := BV.edApp (n := n) (sc := S.1.1) L S.1.2.2.1 h.1.2.2.1
    revert hb
    rcases edApp L S.1.2.2.1 with ⟨r, b⟩
    cases r with
    | some r => intro _; exact h
    | none => intro hb; exact h.put (h.1.setB hb)
theorem RV.grow {sc : List (Nat × Nat)} {R : List Rg} {k f : Nat} (h : RV sc R) (hv : ScV sc) (hf : 1 ≤ f) : RV (sc ++ [(k, f)]) ((sc.length, 0, f - 1) :: R) := by
  obtain ⟨h1, h2, h3⟩ := h
  have up : ∀ r, InR sc r → InR (sc ++ [(k, f)]) r := fun r hr => by
    obtain ⟨a, y, b, c⟩ := hr
    exact ⟨a, y, by rw [List.getElem?_append_left (lt_of_get b)]; exact b, c⟩
  refine ⟨fun r hr => ?_, ?_, ?_⟩
  · rcases List.mem_cons.mp hr with rfl | hr
    · exact ⟨Nat.zero_le _, (k, f), by rw [List.getElem?_append_right (Nat.le_refl _), Nat.sub_self]; rfl, by show f - 1 < f; omega⟩
    · exact up r (h1 r hr)
  · rw [List.pairwise_cons]
    refine ⟨fun r hr => ?_, h2⟩
    obtain ⟨a, y, b, c⟩ := h1 r hr
    have hy := hv _ y b
    have hlt := lt_of_get b
    unfold apR
    dsimp only
    omega
  · rw [List.map_cons, List.sum_cons, h3]
    unfold fsum rlen
    rw [List.map_append, List.sum_append]
    simp
    omega
theorem keep_add {n : Nat} {S : SS} (h : SysV n S) (hl : S.1.1.length ≤ 12) (p q : Int32) : SysV n (spAdd p q S).2 := by
  unfold spAdd
  by_cases c : okI p 6 = true ∧ in40 q = true
  · rw [if_pos c]
    by_cases c2 : 12 ≤ S.1.1.length ∨ 20 ≤ S.1.2.2.1.1.length
    · rw [if_pos c2]; exact h
    · rw [if_neg c2]
      obtain ⟨f, f1, f2, rfl, f4⟩ := in40_of c.2
      obtain ⟨k, k1, k2, rfl, k4⟩ := okI_of c.1
      rw [k4, f4]
      obtain ⟨h1, h2, h3, h4, h5, h6⟩ := h.1
      refine h.put ⟨?_, h2, ?_, h4, h5, h6⟩
      · intro i y hy
        have hy : (S.1.1 ++ [(k, f)])[i]? = some y := hy
        by_cases q : i < S.1.1.length
        · rw [List.getElem?_append_left q] at hy
          exact h1 i y hy
        · have := lt_of_get hy
          rw [List.length_append, List.length_singleton] at this
          rw [List.getElem?_append_right (by omega), show i - S.1.1.length = 0 by omega] at hy
          cases hy
          exact ⟨k1, f1, f2⟩
      · refine ⟨?_, fun z hz => ?_⟩
        · have e1 := (put_rng (L := S.1.2.2.1.1) (i := S.1.2.2.1.1.length) (x := (S.1.1.length, 0, f - 1, 0)) (Nat.le_refl _)).append_right (S.1.2.2.1.2.map rng)
          exact (h3.1.grow (k := k) h1 f1).perm e1.symm
        · rcases hz with hz | hz
          · exact put_n (fun w hw => h3.2 w (Or.inl hw)) z hz
          · exact h3.2 z (Or.inr hz)
  · rw [if_neg c]; exact h
theorem keep_setT {n : Nat} {S : SS} (h : SysV n S) {s v : Nat} (hv : v < 16) : SysV n (put S (setT S.1 s v)) := by
  obtain ⟨h1, h2, h3⟩ := h.1
  exact h.put ⟨h1, setT_TV h2 hv, h3⟩
theorem keep_tear {n : Nat} {S : SS} (h : SysV n S) (p q r : Int32) : SysV n (spTear p q r S).2 := by
  unfold spTear
  split
  · split
    · rename_i c2
      split
      · exact h
      · rename_i c3
        obtain ⟨k, k1, k2, rfl, k4⟩ := okI_of c2
        rw [k4] at c3 ⊢
        have hm : S.1.2.1.1 (40 * p.toNatClampNeg + q.toNatClampNeg) / 2 ^ k % 2 < 2 := Nat.mod_lt _ (by omega)
        exact keep_setT h (tear_lt _ (h.1.2.1 _) k k1 (by omega))
    · exact h
  · exact h
theorem keep_patch {n : Nat} {S : SS} (h : SysV n S) (p q : Int32) : SysV n (spPatch p q S).2 := by
  unfold spPatch
  split
  · split
    · exact h
    · exact keep_setT h (by omega)
  · exact h
theorem keep_splice {n : Nat} {S : SS} (h : SysV n S) (p : Int32) : SysV n (spSplice p S).2 := by
  unfold spSplice
  cases hx : S.1.2.2.1.1[p.toNatClampNeg]? with
  | none => exact h
  | some x =>
    dsimp only
    split
    · exact h
    · split
      · exact h
      · have hi := lt_of_get hx
        refine h.put (h.1.setB ⟨?_, fun z hz => ?_⟩)
        · refine h.1.2.2.1.1.perm ?_
          have p1 := (get_perm _ _ _ hx).map rng
          have p2 := (set_perm (z := zp x) hi).map rng
          exact (p1.trans p2.symm).append_right _
        · rcases hz with hz | hz
          · rcases List.mem_or_eq_of_mem_set hz with hz | rfl
            · exact h.1.2.2.1.2 z (Or.inl hz)
            · exact Nat.zero_le _
          · exact h.1.2.2.1.2 z (Or.inr hz)
theorem keep_dis {n : Nat} {S : SS} (h : SysV n S) (p : Int32) (b : Bool) : SysV n (spDis p b S).2 := by
  unfold spDis
  split
  · rename_i c1
    split
    · exact h
    · rename_i c2
      obtain ⟨k, k1, k2, rfl, k4⟩ := okI_of c1
      rw [k4] at c2 ⊢
      obtain ⟨h1, h2, h3, h4, h5, h6, h7⟩ := h.1
      refine h.put ⟨h1, h2, h3, h4, h5, ?_, h7⟩
      have hb := dis_bits _ h6 k k1
      show dis1 b S.1.2.2.2.2.2.1 k < 64
      unfold isDis at c2
      unfold dis1
      have hm : S.1.2.2.2.2.2.1 / 2 ^ k % 2 < 2 := Nat.mod_lt _ (by omega)
      cases b with
      | true =>
        have c2 : ¬ S.1.2.2.2.2.2.1 / 2 ^ k % 2 = 1 := fun z => c2 (decide_eq_true z)
        exact (hb.1 (by omega)).2.2
      | false => exact Nat.lt_of_le_of_lt (Nat.sub_le _ _) h6
  · exact h
theorem keep_set {n : Nat} {S : SS} (h : SysV n S) (p q : Int32) : SysV n (spSet p q S).2 := by
  obtain ⟨h1, h2, h3, h4, h5, h6, h7, h8⟩ := h.1
  unfold spSet
  split
  · split
    · rename_i c1
      split
      · exact h
      · obtain ⟨k, k1, k2, rfl, k4⟩ := okI_of c1
        rw [k4]
        exact h.put ⟨h1, h2, h3, h4, h5, h6, by show k ≤ 20; omega, h8⟩
    · exact h
  · split
    · split
      · rename_i c1
        split
        · exact h
        · obtain ⟨k, k1, k2, rfl, k4⟩ := okI_of c1.1
          rw [k4]
          exact h.put ⟨h1, h2, h3, h4, h5, h6, h7, by show k ≤ 20; omega⟩
      · exact h
    · exact h
theorem bump_rng {L : List Pc} {t : Nat} : (bump L t).map rng = L.map rng := by
  apply List.ext_getElem?
  intro j
  unfold bump
  rw [List.getElem?_map, bumpK_get, List.getElem?_map]
  cases L[j]? with
  | none => rfl
  | some x =>
    simp only [Option.map_some]
    split <;> rfl
theorem keep_run {n : Nat} {S : SS} (h : SysV n S) (hl : S.1.1.length ≤ 12) (hn : n < 1000000) : SysV (n + 1) (spRun S).2 := by
  unfold spRun
  split
  · exact h.mono (by omega)
  · split
    · exact h.mono (by omega)
    · obtain ⟨h1, h2, h3, h4, h5, h6⟩ := h.1
      have hV := h3.V h1 hl hn
      refine (h.mono (Nat.le_succ n)).put ⟨h1, wearL_TV _ _ h2, ⟨?_, fun z hz => ?_⟩, fun i s hs => ?_, fun i x hx => ?_, h6⟩
      · show RV S.1.1 ((bump S.1.2.2.1.1 _).map rng ++ S.1.2.2.1.2.map rng)
        rw [bump_rng]
        exact h3.1
      · rcases hz with hz | hz
        · obtain ⟨j, hj⟩ := List.mem_iff_getElem?.mp hz
          have hj : (bumpK S.1.2.2.1.1 _ _)[j]? = some z := hj
          rw [bumpK_get] at hj
          obtain ⟨y, hy, rfl⟩ := Option.map_eq_some_iff.mp hj
          have := h3.2 y (Or.inl (List.mem_of_getElem? hy))
          split
          · show y.2.2.2 + 1 ≤ n + 1; omega
          · omega
        · have := h3.2 z (Or.inr hz); omega
      · have hs : (S.1.2.2.2.1 ++ [aShow S.1])[i]? = some s := hs
        by_cases q : i < S.1.2.2.2.1.length
        · rw [List.getElem?_append_left q] at hs
          exact h4 i s hs
        · have := lt_of_get hs
          rw [List.length_append, List.length_singleton] at this
          rw [List.getElem?_append_right (by omega), show i - S.1.2.2.2.1.length = 0 by omega] at hs
          cases hs
          exact UV_show hV.1
      · obtain ⟨s, s1, s2⟩ := h5 i x hx
        exact ⟨s, by
          show (S.1.2.2.2.1 ++ [aShow S.1])[x.1]? = some s
          rw [List.getElem?_append_left (lt_of_get s1)]
          exact s1, s2⟩
theorem keep_wit {n : Nat} {S : SS} (h : SysV n S) (p q r : Int32) (hu : ∀ (i : Nat) (s : Sw), S.1.2.2.2.1[i]? = some s → s.1.length ≤ 480) : SysV n (spWit p q r S).2 := by
  unfold spWit
  cases hs : S.1.2.2.2.1[p.toNatClampNeg]? with
  | none => exact h
  | some s =>
    dsimp only
    split
    · exact h
    · split
      · exact h
      · rename_i q0
        split
        · exact h
        · rename_i q1
          split
          · rename_i q2
            split
            · exact h
            · obtain ⟨h1, h2, h3, h4, h5, h6⟩ := h.1
              refine h.put ⟨h1, h2, h3, h4, fun i x hx => ?_, h6⟩
              have hx : (S.1.2.2.2.2.1 ++ [(p.toNatClampNeg, q.toNatClampNeg, r.toNatClampNeg)])[i]? = some x := hx
              by_cases z : i < S.1.2.2.2.2.1.length
              · rw [List.getElem?_append_left z] at hx
                exact h5 i x hx
              · have := lt_of_get hx
                rw [List.length_append, List.length_singleton] at this
                rw [List.getElem?_append_right (by omega), show i - S.1.2.2.2.2.1.length = 0 by omega] at hx
                cases hx
                have hl := hu _ s hs
                obtain ⟨b, hb, rfl⟩ := nI_of q0
                have r0 : ¬ r < 0 := fun z => by
                  rw [Int32.le_iff_toInt_le, nI_toInt (by omega)] at q1
                  rw [Int32.lt_iff_toInt_lt, show (0 : Int32).toInt = 0 from by decide] at z
                  omega
                obtain ⟨c, hc, rfl⟩ := nI_of r0
                have e1 : (nI b).toNatClampNeg = b := nI_c (by omega)
                have e2 : (nI c).toNatClampNeg = c := nI_c (by omega)
                have q1 : ¬ c ≤ b := fun z => q1 ((nI_LE (by omega) (by omega)).2 z)
                have q2 := (nI_LE (by omega) (by omega)).1 q2
                refine ⟨s, hs, ?_, ?_⟩
                · show (nI b).toNatClampNeg < (nI c).toNatClampNeg
                  rw [e1, e2]; omega
                · show (nI c).toNatClampNeg ≤ s.1.length
                  rw [e2]; exact q2
          · exact h
theorem keep_type {n : Nat} {S : SS} (h : SysV n S) (c : Int32) : SysV n (spType c S).2 := by
  unfold spType
  split
  · exact h
  · exact h
theorem keep_undo {n : Nat} {S : SS} (h : SysV n S) : SysV n (spUndo S).2 := by
  unfold spUndo
  cases hL : S.2.1.getLast? with
  | none => exact h
  | some A => exact ⟨h.2.1 A (List.mem_of_getLast? hL), fun B hB => h.2.1 B ((List.dropLast_sublist _).subset hB), h.2.2⟩
theorem keep_keep {n : Nat} {S : SS} (h : SysV n S) : SysV n (spKeep S).2 := ⟨h.1, h.2.1, fun A hA => by cases hA; exact h.1⟩
theorem keep_restore {n : Nat} {S : SS} (h : SysV n S) : SysV n (spRestore S).2 := by
  unfold spRestore
  cases hk : S.2.2.1 with
  | none => exact h
  | some A => exact h.put (h.2.2 A hk)
