/-! PURE ROWS, 20: what every state keeps: the pieces part the scenes -/
theorem get_perm {α : Type} : ∀ (L : List α) (i : Nat) (x : α), L[i]? = some x → L.Perm (x :: L.eraseIdx i) := by
  intro L
  induction L with
  | nil => intro i x h; simp at h
  | cons a L ih =>
    intro i x h
    cases i with
    | zero =>
      rw [List.getElem?_cons_zero] at h
      cases h
      exact List.Perm.refl _
    | succ i =>
      rw [List.getElem?_cons_succ] at h
      exact ((ih i x h).cons a).trans (List.Perm.swap _ _ _)
abbrev Rg : Type := Nat × Nat × Nat
def rng (x : Pc) : Rg := (x.1, x.2.1, x.2.2.1)
def rlen (r : Rg) : Nat := r.2.2 - r.2.1 + 1
def apR (r s : Rg) : Prop := 40 * r.1 + r.2.2 < 40 * s.1 + s.2.1 ∨ 40 * s.1 + s.2.2 < 40 * r.1 + r.2.1
def InR (sc : List (Nat × Nat)) (r : Rg) : Prop := r.2.1 ≤ r.2.2 ∧ ∃ y : Nat × Nat, sc[r.1]? = some y ∧ r.2.2 < y.2
def fsum (sc : List (Nat × Nat)) : Nat := (sc.map Prod.snd).sum
/-- the ranges part the scenes' frames -/
def RV (sc : List (Nat × Nat)) (R : List Rg) : Prop := (∀ r ∈ R, InR sc r) ∧ R.Pairwise apR ∧ (R.map rlen).sum = fsum sc
theorem apR_s {r s : Rg} (h : apR r s) : apR s r := by unfold apR at h ⊢; omega
theorem RV.perm {sc : List (Nat × Nat)} {R Q : List Rg} (h : RV sc R) (p : R.Perm Q) : RV sc Q := by
  obtain ⟨h1, h2, h3⟩ := h
  refine ⟨fun r hr => h1 r (p.mem_iff.mpr hr), (p.pairwise_iff (fun h => apR_s h)).mp h2, ?_⟩
  rw [← h3]
  exact ((p.map rlen).sum_nat).symm
theorem RV.cut {sc : List (Nat × Nat)} {R : List Rg} {s f l k : Nat} (h : RV sc ((s, f, l) :: R)) (h1 : f < k) (h2 : k ≤ l) : RV sc ((s, f, k - 1) :: (s, k, l) :: R) := by
  obtain ⟨a1, a2, a3⟩ := h
  have hr := a1 _ List.mem_cons_self
  obtain ⟨b1, y, b2, b3⟩ := hr
  rw [List.pairwise_cons] at a2
  refine ⟨fun r hr => ?_, ?_, ?_⟩
  · rcases List.mem_cons.mp hr with rfl | hr
    · exact ⟨by show f ≤ k - 1; omega, y, b2, by show k - 1 < y.2; dsimp only at b3; omega⟩
    · rcases List.mem_cons.mp hr with rfl | hr
      · exact ⟨h2, y, b2, b3⟩
      · exact a1 r (List.mem_cons_of_mem _ hr)
  · rw [List.pairwise_cons, List.pairwise_cons]
    refine ⟨fun r hr => ?_, fun r hr => ?_, a2.2⟩
    · rcases List.mem_cons.mp hr with rfl | hr
      · unfold apR; dsimp only; omega
      · have := a2.1 r hr
        have hrr := (a1 r (List.mem_cons_of_mem _ hr)).1
        unfold apR at this ⊢
        dsimp only at this ⊢
        omega
    · have := a2.1 r hr
      unfold apR at this ⊢
      dsimp only at this ⊢
      omega
  · rw [List.map_cons, List.sum_cons] at a3
    rw [List.map_cons, List.map_cons, List.sum_cons, List.sum_cons, ← a3]
    unfold rlen
    dsimp only
    omega
theorem RV.join {sc : List (Nat × Nat)} {R : List Rg} {s f k l : Nat} (h : RV sc ((s, f, k) :: (s, k + 1, l) :: R)) : RV sc ((s, f, l) :: R) := by
  obtain ⟨a1, a2, a3⟩ := h
  obtain ⟨b1, y, b2, b3⟩ := a1 _ List.mem_cons_self
  obtain ⟨c1, z, c2, c3⟩ := a1 _ (List.mem_cons_of_mem _ List.mem_cons_self)
  rw [List.pairwise_cons, List.pairwise_cons] at a2
  obtain ⟨p1, p2, p3⟩ := a2
  dsimp only at b1 b2 b3 c1 c2 c3
  refine ⟨fun r hr => ?_, ?_, ?_⟩
  · rcases List.mem_cons.mp hr with rfl | hr
    · exact ⟨by show f ≤ l; omega, z, c2, c3⟩
    · exact a1 r (List.mem_cons_of_mem _ (List.mem_cons_of_mem _ hr))
  · rw [List.pairwise_cons]
    refine ⟨fun r hr => ?_, p3⟩
    have q1 := p1 r (List.mem_cons_of_mem _ hr)
    have q2 := p2 r hr
    have hrr := (a1 r (List.mem_cons_of_mem _ (List.mem_cons_of_mem _ hr))).1
    unfold apR at q1 q2 ⊢
    dsimp only at q1 q2 ⊢
    omega
  · rw [List.map_cons, List.map_cons, List.sum_cons, List.sum_cons] at a3
    rw [List.map_cons, List.sum_cons, ← a3]
    unfold rlen
    dsimp only
    omega
theorem rng_zp {x : Pc} : rng (zp x) = rng x := rfl
theorem renew_rng {L : List Pc} {i : Nat} : (renew L i).map rng = L.map rng := by
  apply List.ext_getElem?
  intro j
  rw [List.getElem?_map, renew_get, List.getElem?_map]
  cases L[j]? with
  | none => rfl
  | some x =>
    simp only [Option.map_some]
    by_cases e : j = i
    · rw [if_pos e, rng_zp]
    · rw [if_neg e]
theorem pull_rng {L : List Pc} {i : Nat} {x : Pc} (h : L[i]? = some x) : (L.map rng).Perm (rng x :: (pullL L i).map rng) := by
  unfold pullL
  rw [renew_rng]
  exact (get_perm L i x h).map rng
theorem put_rng {L : List Pc} {i : Nat} {x : Pc} (h : i ≤ L.length) : ((putL L i x).map rng).Perm (rng x :: L.map rng) := by
  unfold putL
  rw [renew_rng]
  exact (List.perm_insertIdx (zp x) L h).map rng
theorem set_perm {α : Type} {L : List α} {i : Nat} {z : α} (h : i < L.length) : (L.set i z).Perm (z :: L.eraseIdx i) := by
  have := get_perm (L.set i z) i z (by rw [List.getElem?_set, if_pos rfl, if_pos h])
  rw [List.eraseIdx_set_eq] at this
  exact this
theorem cut_perm {L : List Pc} {i off : Nat} {x : Pc} (h : L[i]? = some x) : (cutL L i off).Perm ((x.1, x.2.1, x.2.1 + off - 1, x.2.2.2) :: (x.1, x.2.1 + off, x.2.2.1, 0) :: L.eraseIdx i) := by
  have hi := lt_of_get h
  unfold cutL
  rw [h]
  dsimp only
  generalize hx2 : ((x.1, x.2.1 + off, x.2.2.1, 0) : Pc) = x2
  have p1 : (L.insertIdx (i + 1) x2).Perm (x2 :: L) := List.perm_insertIdx x2 L (by omega)
  have hM : (L.insertIdx (i + 1) x2)[i]? = some x := by
    rw [List.getElem?_insertIdx_of_lt (by omega)]; exact h
  have p2 := get_perm _ i x hM
  have p3 : (x :: (L.insertIdx (i + 1) x2).eraseIdx i).Perm (x :: x2 :: L.eraseIdx i) := p2.symm.trans (p1.trans (((get_perm L i x h).cons x2).trans (List.Perm.swap _ _ _)))
  have p4 := p3.cons_inv
  exact (set_perm (by rw [List.length_insertIdx]; split <;> omega)).trans (p4.cons _)
theorem join_perm {L : List Pc} {i : Nat} {x y : Pc} (hx : L[i]? = some x) (hy : L[i + 1]? = some y) : ∃ R, L.Perm (x :: y :: R) ∧ (joinL L i x y).Perm ((x.1, x.2.1, y.2.2.1, x.2.2.2) :: R) := by
  have hi := lt_of_get hx
  refine ⟨(L.eraseIdx i).eraseIdx i, ?_, ?_⟩
  · have e : (L.eraseIdx i)[i]? = some y := by rw [List.getElem?_eraseIdx_of_ge (Nat.le_refl _)]; exact hy
    exact (get_perm L i x hx).trans ((get_perm _ i y e).cons x)
  · unfold joinL
    generalize hz : ((x.1, x.2.1, y.2.2.1, x.2.2.2) : Pc) = z
    have e : (L.eraseIdx i)[i]? = some y := by rw [List.getElem?_eraseIdx_of_ge (Nat.le_refl _)]; exact hy
    have hN : (L.set i z)[i + 1]? = some y := by rw [List.getElem?_set, if_neg (by omega)]; exact hy
    have p1 := get_perm _ (i + 1) y hN
    have p2 : (L.set i z).Perm (z :: L.eraseIdx i) := set_perm hi
    have p3 : (y :: (L.set i z).eraseIdx (i + 1)).Perm (y :: z :: (L.eraseIdx i).eraseIdx i) := p1.symm.trans (p2.trans (((get_perm _ i y e).cons z).trans (List.Perm.swap _ _ _)))
    exact p3.cons_inv
def rngs (b : Bn) : List Rg := b.1.map rng ++ b.2.map rng
/-- what a bench keeps: its ranges part the scenes, its splices have at most n passes -/
def BV (n : Nat) (sc : List (Nat × Nat)) (b : Bn) : Prop := RV sc (rngs b) ∧ ∀ x, (x ∈ b.1 ∨ x ∈ b.2) → x.2.2.2 ≤ n
theorem mem_ins {α : Type} {L : List α} {i : Nat} {x y : α} (h : y ∈ L.insertIdx i x) : y = x ∨ y ∈ L := by
  by_cases c : i ≤ L.length
  · exact List.mem_cons.mp ((List.perm_insertIdx x L c).mem_iff.mp h)
  · rw [List.insertIdx_of_length_lt (by omega)] at h; exact Or.inr h
theorem mem_renew {L : List Pc} {i : Nat} {x : Pc} (h : x ∈ renew L i) : ∃ y ∈ L, x = y ∨ x = zp y := by
  obtain ⟨j, hj⟩ := List.mem_iff_getElem?.mp h
  rw [renew_get] at hj
  obtain ⟨y, hy, rfl⟩ := Option.map_eq_some_iff.mp hj
  refine ⟨y, List.mem_of_getElem? hy, ?_⟩
  by_cases e : j = i
  · rw [if_pos e]; exact Or.inr rfl
  · rw [if_neg e]; exact Or.inl rfl
theorem pull_n {n : Nat} {L : List Pc} {i : Nat} (h : ∀ x ∈ L, x.2.2.2 ≤ n) : ∀ x ∈ pullL L i, x.2.2.2 ≤ n := by
  intro x hx
  obtain ⟨y, hy, e⟩ := mem_renew hx
  have := h y (List.mem_of_mem_eraseIdx hy)
  rcases e with rfl | rfl
  · exact this
  · exact Nat.zero_le _
theorem put_n {n : Nat} {L : List Pc} {i : Nat} {z : Pc} (h : ∀ x ∈ L, x.2.2.2 ≤ n) : ∀ x ∈ putL L i z, x.2.2.2 ≤ n := by
  intro x hx
  obtain ⟨y, hy, e⟩ := mem_renew hx
  have : y.2.2.2 ≤ n := by
    rcases mem_ins hy with rfl | hy
    · exact Nat.zero_le _
    · exact h y hy
  rcases e with rfl | rfl
  · exact this
  · exact Nat.zero_le _
theorem rng_in {n : Nat} {sc : List (Nat × Nat)} {b : Bn} (h : BV n sc b) {x : Pc} (hx : x ∈ b.1 ∨ x ∈ b.2) : InR sc (rng x) := by
  refine h.1.1 _ ?_
  unfold rngs
  rw [List.mem_append]
  rcases hx with hx | hx
  · exact Or.inl (List.mem_map_of_mem hx)
  · exact Or.inr (List.mem_map_of_mem hx)
theorem BV.V {n : Nat} {sc : List (Nat × Nat)} {b : Bn} (h : BV n sc b) (hv : ScV sc) (hl : sc.length ≤ 12) (hn : n < 1000000) : BnV b := by
  have key : ∀ x, (x ∈ b.1 ∨ x ∈ b.2) → PV x := fun x hx => by
    obtain ⟨h1, y, h2, h3⟩ := rng_in h hx
    have := hv _ y h2
    have := lt_of_get h2
    have hq : x.1 < sc.length := lt_of_get h2
    exact ⟨by omega, h1, by have h3 : x.2.2.1 < y.2 := h3; omega, by have := h.2 x hx; omega⟩
  exact ⟨fun i x hx => key x (Or.inl (List.mem_of_getElem? hx)), fun i x hx => key x (Or.inr (List.mem_of_getElem? hx))⟩
theorem BV.cut {n : Nat} {sc : List (Nat × Nat)} {b : Bn} (h : BV n sc b) (p : Int32) : BV n sc (bCut p b).2 := by
  unfold bCut
  by_cases c : okI p (tot b.1) = true
  · rw [if_pos c]
    by_cases c2 : posOf b.1 (pAt b.1 p.toNatClampNeg) = p.toNatClampNeg
    · rw [if_pos c2]; exact h
    · rw [if_neg c2]
      by_cases c3 : 20 ≤ b.1.length
      · rw [if_pos c3]; exact h
      · rw [if_neg c3]
        obtain ⟨j, j1, j2, rfl, j4⟩ := okI_of c
        rw [j4] at c2 ⊢
        obtain ⟨q1, q2, q3⟩ := pAt_spec b.1 j j1
        obtain ⟨x, hx⟩ := get_of q1
        have hs := posOf_s hx
        have hin := rng_in h (Or.inl (List.mem_of_getElem? hx))
        have hle : x.2.1 ≤ x.2.2.1 := hin.1
        have hpl : plen x = x.2.2.1 - x.2.1 + 1 := rfl
        have cp := cut_perm (off := j - posOf b.1 (pAt b.1 j)) hx
        have gp := get_perm _ _ _ hx
        refine ⟨?_, fun z hz => ?_⟩
        · have e1 : (rngs b).Perm ((x.1, x.2.1, x.2.2.1) :: ((b.1.eraseIdx (pAt b.1 j)).map rng ++ b.2.map rng)) := (gp.map rng).append_right _
          have e2 := (h.1.perm e1).cut (k := x.2.1 + (j - posOf b.1 (pAt b.1 j))) (by omega) (by omega)
          exact e2.perm ((cp.map rng).append_right (b.2.map rng)).symm
        · rcases hz with hz | hz
          · have hz := cp.mem_iff.mp hz
            rcases List.mem_cons.mp hz with rfl | hz
            · exact h.2 x (Or.inl (List.mem_of_getElem? hx))
            · rcases List.mem_cons.mp hz with rfl | hz
              · exact Nat.zero_le _
              · exact h.2 z (Or.inl (List.mem_of_mem_eraseIdx hz))
          · exact h.2 z (Or.inr hz)
  · rw [if_neg c]; exact h
theorem BV.join {n : Nat} {sc : List (Nat × Nat)} {b : Bn} (h : BV n sc b) (p : Int32) : BV n sc (bJoin p b).2 := by
  unfold bJoin
  cases hx : b.1[p.toNatClampNeg]? with
  | none => exact h
  | some x =>
    dsimp only
    by_cases c : p < 0
    · rw [if_pos c]; exact h
    · rw [if_neg c]
      cases hy : b.1[p.toNatClampNeg + 1]? with
      | none => exact h
      | some y =>
        dsimp only
        by_cases c2 : x.1 = y.1 ∧ x.2.2.1 + 1 = y.2.1
        · rw [if_pos c2]
          obtain ⟨R, p1, p2⟩ := join_perm hx hy
          refine ⟨?_, fun z hz => ?_⟩
          · have e1 : (rngs b).Perm ((x.1, x.2.1, x.2.2.1) :: (x.1, x.2.2.1 + 1, y.2.2.1) :: (R.map rng ++ b.2.map rng)) := by
              rw [c2.2, c2.1]
              have := (p1.map rng).append_right (b.2.map rng)
              rw [List.map_cons, List.map_cons, show rng x = (y.1, x.2.1, x.2.2.1) by rw [← c2.1]; rfl] at this
              exact this
            exact ((h.1.perm e1).join).perm ((p2.map rng).append_right (b.2.map rng)).symm
          · rcases hz with hz | hz
            · have hz := p2.mem_iff.mp hz
              rcases List.mem_cons.mp hz with rfl | hz
              · exact h.2 x (Or.inl (List.mem_of_getElem? hx))
              · exact h.2 z (Or.inl (p1.mem_iff.mpr (List.mem_cons_of_mem _ (List.mem_cons_of_mem _ hz))))
            · exact h.2 z (Or.inr hz)
        · rw [if_neg c2]; exact h
theorem BV.take {n : Nat} {sc : List (Nat × Nat)} {b : Bn} (h : BV n sc b) (p : Int32) : BV n sc (bTake p b).2 := by
  unfold bTake
  cases hx : b.1[p.toNatClampNeg]? with
  | none => exact h
  | some x =>
    dsimp only
    by_cases c : p < 0
    · rw [if_pos c]; exact h
    · rw [if_neg c]
      by_cases c3 : 20 ≤ b.2.length
      · rw [if_pos c3]; exact h
      · rw [if_neg c3]
        refine ⟨?_, fun z hz => ?_⟩
        · refine h.1.perm ?_
          have e1 := (pull_rng hx).append_right (b.2.map rng)
          have e2 : ((b.2.insertIdx b.2.length (zp x)).map rng).Perm (rng x :: b.2.map rng) := (List.perm_insertIdx (zp x) b.2 (Nat.le_refl _)).map rng
          exact e1.trans (List.perm_middle.symm.trans (e2.symm.append_left _))
        · rcases hz with hz | hz
          · exact pull_n (fun w hw => h.2 w (Or.inl hw)) z hz
          · rcases mem_ins hz with rfl | hz
            · exact Nat.zero_le _
            · exact h.2 z (Or.inr hz)
theorem BV.put {n : Nat} {sc : List (Nat × Nat)} {b : Bn} (h : BV n sc b) (p q : Int32) : BV n sc (bPut p q b).2 := by
  unfold bPut
  cases hx : b.2[p.toNatClampNeg]? with
  | none => exact h
  | some x =>
    dsimp only
    by_cases c : p < 0
    · rw [if_pos c]; exact h
    · rw [if_neg c]
      by_cases c2 : okI q (b.1.length + 1) = true
      · rw [if_pos c2]
        by_cases c3 : 20 ≤ b.1.length
        · rw [if_pos c3]; exact h
        · rw [if_neg c3]
          obtain ⟨j, j1, j2, rfl, j4⟩ := okI_of c2
          rw [j4]
          refine ⟨?_, fun z hz => ?_⟩
          · refine h.1.perm ?_
            have e1 := ((get_perm _ _ _ hx).map rng).append_left (b.1.map rng)
            have e2 := (put_rng (L := b.1) (i := j) (x := x) (by omega)).append_right ((b.2.eraseIdx p.toNatClampNeg).map rng)
            exact e1.trans (List.perm_middle.trans e2.symm)
          · rcases hz with hz | hz
            · exact put_n (fun w hw => h.2 w (Or.inl hw)) z hz
            · exact h.2 z (Or.inr (List.mem_of_mem_eraseIdx hz))
      · rw [if_neg c2]; exact h
theorem BV.move {n : Nat} {sc : List (Nat × Nat)} {b : Bn} (h : BV n sc b) (p q : Int32) : BV n sc (bMove p q b).2 := by
  unfold bMove
  cases hx : b.1[p.toNatClampNeg]? with
  | none => exact h
  | some x =>
    dsimp only
    by_cases c : p < 0
    · rw [if_pos c]; exact h
    · rw [if_neg c]
      by_cases c2 : okI q b.1.length = true
      · rw [if_pos c2]
        by_cases c3 : p = q
        · rw [if_pos c3]; exact h
        · rw [if_neg c3]
          obtain ⟨j, j1, j2, rfl, j4⟩ := okI_of c2
          have hi := lt_of_get hx
          rw [j4]
          refine ⟨?_, fun z hz => ?_⟩
          · refine h.1.perm ?_
            unfold moveL rngs
            have e1 := (pull_rng hx).append_right (b.2.map rng)
            have e2 := (put_rng (L := pullL b.1 p.toNatClampNeg) (i := j) (x := x) (by rw [pullL_len hi]; omega)).append_right (b.2.map rng)
            exact e1.trans e2.symm
          · rcases hz with hz | hz
            · exact put_n (pull_n (fun w hw => h.2 w (Or.inl hw))) z hz
            · exact h.2 z (Or.inr hz)
      · rw [if_neg c2]; exact h
theorem BV.op {n : Nat} {sc : List (Nat × Nat)} {b : Bn} (h : BV n sc b) (v p q : Int32) : BV n sc (bOp v p q b).2 := by
  unfold bOp
  split
  · exact h.cut p
  · split
    · exact h.put p q
    · split
      · exact h.join p
      · split
        · exact h.take p
        · exact h.move p q
theorem nI_nn {m : Nat} (h : m < 2147483648) : ¬ nI m < 0 := nI_pos (by omega)
theorem bOp_neg {v p q : Int32} {b : Bn} (hV : BnV b) (l1 : b.1.length ≤ 20) (l2 : b.2.length ≤ 20) (h : (bOp v p q b).1 < 0) : (bOp v p q b).2 = b := by
  have hcut : (bCut p b).1 < 0 → (bCut p b).2 = b := by
    intro h
    unfold bCut at h ⊢
    by_cases c : okI p (tot b.1) = true
    · rw [if_pos c] at h ⊢
      by_cases c2 : posOf b.1 (pAt b.1 p.toNatClampNeg) = p.toNatClampNeg
      · rw [if_pos c2]
      · rw [if_neg c2] at h ⊢
        by_cases c3 : 20 ≤ b.1.length
        · rw [if_pos c3]
        · rw [if_neg c3] at h
          obtain ⟨j, j1, j2, rfl, j4⟩ := okI_of c
          rw [j4] at h
          have := (pAt_spec b.1 j j1).1
          exact absurd h (nI_nn (by omega))
    · rw [if_neg c]
  have hjoin : (bJoin p b).1 < 0 → (bJoin p b).2 = b := by
    intro h
    unfold bJoin at h ⊢
    cases hx : b.1[p.toNatClampNeg]? with
    | none => rfl
    | some x =>
      rw [hx] at h
      dsimp only at h ⊢
      by_cases c : p < 0
      · rw [if_pos c]
      · rw [if_neg c] at h ⊢
        cases hy : b.1[p.toNatClampNeg + 1]? with
        | none => rfl
        | some y =>
          rw [hy] at h
          dsimp only at h ⊢
          by_cases c2 : x.1 = y.1 ∧ x.2.2.1 + 1 = y.2.1
          · rw [if_pos c2] at h
            have := (hV.1 _ y hy).2.2.1
            exact absurd h (nI_nn (by omega))
          · rw [if_neg c2]
  have htake : (bTake p b).1 < 0 → (bTake p b).2 = b := by
    intro h
    unfold bTake at h ⊢
    cases hx : b.1[p.toNatClampNeg]? with
    | none => rfl
    | some x =>
      rw [hx] at h
      dsimp only at h ⊢
      by_cases c : p < 0
      · rw [if_pos c]
      · rw [if_neg c] at h ⊢
        by_cases c3 : 20 ≤ b.2.length
        · rw [if_pos c3]
        · rw [if_neg c3] at h
          exact absurd h (nI_nn (by omega))
  have hput : (bPut p q b).1 < 0 → (bPut p q b).2 = b := by
    intro h
    unfold bPut at h ⊢
    cases hx : b.2[p.toNatClampNeg]? with
    | none => rfl
    | some x =>
      rw [hx] at h
      dsimp only at h ⊢
      by_cases c : p < 0
      · rw [if_pos c]
      · rw [if_neg c] at h ⊢
        by_cases c2 : okI q (b.1.length + 1) = true
        · rw [if_pos c2] at h ⊢
          by_cases c3 : 20 ≤ b.1.length
          · rw [if_pos c3]
          · rw [if_neg c3] at h
            exact absurd h (nI_nn (by omega))
        · rw [if_neg c2]
  have hmove : (bMove p q b).1 < 0 → (bMove p q b).2 = b := by
    intro h
    unfold bMove at h ⊢
    cases hx : b.1[p.toNatClampNeg]? with
    | none => rfl
    | some x =>
      rw [hx] at h
      dsimp only at h ⊢
      by_cases c : p < 0
      · rw [if_pos c]
      · rw [if_neg c] at h ⊢
        by_cases c2 : okI q b.1.length = true
        · rw [if_pos c2] at h ⊢
          by_cases c3 : p = q
          · rw [if_pos c3]
          · rw [if_neg c3] at h
            obtain ⟨j, j1, j2, rfl, j4⟩ := okI_of c2
            have hi := lt_of_get hx
            rw [j4] at h
            have hp := pullL_len hi
            have hq : (moveL b.1 p.toNatClampNeg j x).length = b.1.length := by
              unfold moveL
              rw [putL_len (by omega)]; omega
            have := posOf_le (L := moveL b.1 p.toNatClampNeg j x) ((hV.1.pull _).put _ (hV.1 _ x hx)) j (by omega)
            exact absurd h (nI_nn (by omega))
        · rw [if_neg c2]
  unfold bOp at h ⊢
  split
  · rename_i c; rw [if_pos c] at h; exact hcut h
  · rename_i c; rw [if_neg c] at h
    split
    · rename_i c; rw [if_pos c] at h; exact hput h
    · rename_i c; rw [if_neg c] at h
      split
      · rename_i c; rw [if_pos c] at h; exact hjoin h
      · rename_i c; rw [if_neg c] at h
        split
        · rename_i c; rw [if_pos c] at h; exact htake h
        · rename_i c; rw [if_neg c] at h; exact hmove h
