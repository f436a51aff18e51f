/-! PURE ROWS, 4: where a position lies; the five edits of a bench, and the class's way of doing them -/
def tot (L : List Pc) : Nat := posOf L L.length
def pAt : List Pc → Nat → Nat
  | [], _ => 0
  | x :: L, q => if q < plen x then 0 else pAt L (q - plen x) + 1
theorem posOf_c (x : Pc) (L : List Pc) (k : Nat) : posOf (x :: L) (k + 1) = plen x + posOf L k := by simp [posOf]
theorem pAt_spec : ∀ (L : List Pc) (q : Nat), q < tot L → pAt L q < L.length ∧ posOf L (pAt L q) ≤ q ∧ q < posOf L (pAt L q + 1) := by
  intro L
  induction L with
  | nil => intro q h; simp [tot, posOf] at h
  | cons x L ih =>
    intro q h
    unfold tot at h
    rw [List.length_cons, posOf_c] at h
    unfold pAt
    by_cases c : q < plen x
    · rw [if_pos c, posOf_0, posOf_c, posOf_0, List.length_cons]
      omega
    · rw [if_neg c, posOf_c, posOf_c, List.length_cons]
      have := ih (q - plen x) (by unfold tot; omega)
      omega
theorem pAt_one {L : List Pc} {q i : Nat} (hi : i < L.length) (h1 : posOf L i ≤ q) (h2 : q < posOf L (i + 1)) : pAt L q = i := by
  have ht : q < tot L := Nat.lt_of_lt_of_le h2 (posOf_mono (by omega) (Nat.le_refl _))
  obtain ⟨a1, a2, a3⟩ := pAt_spec L q ht
  rcases Nat.lt_trichotomy (pAt L q) i with c | c | c
  · have := posOf_mono (L := L) (i := pAt L q + 1) (j := i) (by omega) (by omega)
    omega
  · exact c
  · have := posOf_mono (L := L) (i := i + 1) (j := pAt L q) (by omega) (by omega)
    omega
abbrev Bn : Type := List Pc × List Pc
def cutL (L : List Pc) (i off : Nat) : List Pc := match L[i]? with
  | some x => (L.insertIdx (i + 1) (x.1, x.2.1 + off, x.2.2.1, 0)).set i (x.1, x.2.1, x.2.1 + off - 1, x.2.2.2)
  | none => L
def bCut (p : Int32) (b : Bn) : Int32 × Bn := if okI p (tot b.1) = true then (if posOf b.1 (pAt b.1 p.toNatClampNeg) = p.toNatClampNeg then (nN 5, b) else if 20 ≤ b.1.length then (nN 3, b) else (nI (pAt b.1 p.toNatClampNeg + 1), (cutL b.1 (pAt b.1 p.toNatClampNeg) (p.toNatClampNeg - posOf b.1 (pAt b.1 p.toNatClampNeg)), b.2))) else (nN 2, b)
def joinL (L : List Pc) (i : Nat) (x y : Pc) : List Pc := (L.set i (x.1, x.2.1, y.2.2.1, x.2.2.2)).eraseIdx (i + 1)
def bJoin (p : Int32) (b : Bn) : Int32 × Bn := match b.1[p.toNatClampNeg]? with
  | some x => if p < 0 then (nN 1, b) else (match b.1[p.toNatClampNeg + 1]? with
    | some y => if x.1 = y.1 ∧ x.2.2.1 + 1 = y.2.1 then (nI (y.2.2.1 - x.2.1 + 1), (joinL b.1 p.toNatClampNeg x y, b.2)) else (nN 4, b)
    | none => (nN 4, b))
  | none => (nN 1, b)
def bTake (p : Int32) (b : Bn) : Int32 × Bn := match b.1[p.toNatClampNeg]? with
  | some x => if p < 0 then (nN 1, b) else if 20 ≤ b.2.length then (nN 3, b) else (nI (b.1.length - 1), (pullL b.1 p.toNatClampNeg, b.2.insertIdx b.2.length (zp x)))
  | none => (nN 1, b)
def bPut (p q : Int32) (b : Bn) : Int32 × Bn := match b.2[p.toNatClampNeg]? with
  | some x => if p < 0 then (nN 1, b) else if okI q (b.1.length + 1) = true then (if 20 ≤ b.1.length then (nN 3, b) else (nI (b.2.length - 1), (putL b.1 q.toNatClampNeg x, b.2.eraseIdx p.toNatClampNeg))) else (nN 2, b)
  | none => (nN 1, b)
def moveL (L : List Pc) (i j : Nat) (x : Pc) : List Pc := putL (pullL L i) j x
def bMove (p q : Int32) (b : Bn) : Int32 × Bn := match b.1[p.toNatClampNeg]? with
  | some x => if p < 0 then (nN 1, b) else if okI q b.1.length = true then (if p = q then (nN 5, b) else (nI (posOf (moveL b.1 p.toNatClampNeg q.toNatClampNeg x) q.toNatClampNeg), (moveL b.1 p.toNatClampNeg q.toNatClampNeg x, b.2))) else (nN 1, b)
  | none => (nN 1, b)
/-- an edit by its letter -/
def bOp (v p q : Int32) (b : Bn) : Int32 × Bn := if v = nI 99 then bCut p b else if v = nI 105 then bPut p q b else if v = nI 106 then bJoin p b else if v = nI 111 then bTake p b else bMove p q b
def BnC (σ : Mem) (o : Nat) (b : Bn) : Prop := RowC σ (o + 1) b.1 ∧ RowC σ (o + 6) b.2
def BnV (b : Bn) : Prop := RowV b.1 ∧ RowV b.2
theorem BnC.same {σ σ' : Mem} {o : Nat} {b : Bn} (h : BnC σ o b) (e : ∀ i, o ≤ i → i < o + 11 → σ' i = σ i) : BnC σ' o b := ⟨h.1.same (fun i a b => e i (by omega) (by omega)), h.2.same (fun i a b => e i (by omega) (by omega))⟩
/-- p in its row: a piece there; or none -/
theorem okI_get {α : Type} {p : Int32} {L : List α} (hl : L.length ≤ 1000) : (∃ x j, p = nI j ∧ p.toNatClampNeg = j ∧ j < L.length ∧ ¬ p < 0 ∧ L[j]? = some x ∧ okI p L.length = true) ∨ (okI p L.length = false ∧ (p < 0 ∨ L[p.toNatClampNeg]? = none)) := by
  by_cases h : p < 0
  · exact Or.inr ⟨by unfold okI; rw [decide_eq_true h]; rfl, Or.inl h⟩
  · obtain ⟨j, hj, rfl⟩ := nI_of h
    rw [okI_nI (by omega), nI_c (by omega)]
    by_cases q : j < L.length
    · exact Or.inl ⟨L[j], j, rfl, rfl, q, h, List.getElem?_eq_getElem q, decide_eq_true q⟩
    · exact Or.inr ⟨decide_eq_false q, Or.inr (List.getElem?_eq_none (by omega))⟩
section
variable {g o : Nat} {σ : Mem} {L : List Pc} {b : Bn}
theorem X4_pieceAt_4 (h : RowC σ o L) (hV : RowV L) {q : Nat} (hq : q < 2147483648) : ∀ n i, i ≤ L.length → posOf L i ≤ q → L.length - i < n → fX4_pieceAt_4 g o n σ (nI q) (nI (posOf L i)) (nI i) = some (if q < tot L then nI (pAt L q) else nN 5) := by
  have hl := h.2.1
  intro n
  induction n with
  | zero => intro i _ _ q; omega
  | succ n ih =>
    intro i h1 h2 h3
    rw [fX4_pieceAt_4, h.1]
    by_cases hi : i = L.length
    · subst hi
      simp (disch := omega) only [chk_T, okI_t, okI_f, okI_nN, b2i_t, b2i_f, ifTT, ifFT, nI_c, bnd_s, bnd2_s, stp_s, ifLE_t, ifLE_f, ifLT_t, ifLT_f, ifE_t, ifE_f, if0_t, if0_f, ifn0, ifp0, ifl0_t, ifl0_f, ifg0_t, ifg0_f, ifnE, ifnE2, ifNE_t, ifNE_f, ifN0, ifNl, ifNp, ifB, nI_A, nI_S, nI_M, mu_s, mu_k, mu_n, mcp_n]
      rw [if_neg (by unfold tot; omega)]
    · obtain ⟨x, hx⟩ := get_of (L := L) (i := i) (by omega)
      have hs := posOf_s hx
      have b1 := posOf_le hV i (by omega)
      have b2 := plen_b (hV i x hx)
      simp (disch := omega) only [chk_T, okI_t, okI_f, okI_nN, b2i_t, b2i_f, ifTT, ifFT, nI_c, bnd_s, bnd2_s, stp_s, ifLE_t, ifLE_f, ifLT_t, ifLT_f, ifE_t, ifE_f, if0_t, if0_f, ifn0, ifp0, ifl0_t, ifl0_f, ifg0_t, ifg0_f, ifnE, ifnE2, ifNE_t, ifNE_f, ifN0, ifNl, ifNp, ifB, nI_A, nI_S, nI_M, mu_s, mu_k, mu_n, mcp_n, X4_lengthOf h hV hx]
      rw [← hs]
      by_cases c : posOf L (i + 1) ≤ q
      · simp (disch := omega) only [chk_T, okI_t, okI_f, okI_nN, b2i_t, b2i_f, ifTT, ifFT, nI_c, bnd_s, bnd2_s, stp_s, ifLE_t, ifLE_f, ifLT_t, ifLT_f, ifE_t, ifE_f, if0_t, if0_f, ifn0, ifp0, ifl0_t, ifl0_f, ifg0_t, ifg0_f, ifnE, ifnE2, ifNE_t, ifNE_f, ifN0, ifNl, ifNp, ifB, nI_A, nI_S, nI_M, mu_s, mu_k, mu_n, mcp_n]
        exact ih (i + 1) (by omega) c (by omega)
      · rw [ifLE_f (by omega) (by omega), if_pos (show q < tot L from Nat.lt_of_lt_of_le (by omega) (posOf_mono (L := L) (i := i + 1) (by omega) (Nat.le_refl _))), pAt_one (by omega) h2 (by omega)]
theorem X4_pieceAt (hg : 1000 ≤ g) (h : RowC σ o L) (hV : RowV L) {q : Nat} (hq : q < 2147483648) : fX4_pieceAt g σ o (nI q) = some (if q < tot L then nI (pAt L q) else nN 5) := by
  have hl := h.2.1
  have := X4_pieceAt_4 (g := g) h hV hq g 0 (by omega) (by rw [posOf_0]; omega) (by omega)
  rw [posOf_0] at this
  exact this
theorem tot_le (hV : RowV L) (hl : L.length ≤ 20) : tot L ≤ 800 := by
  have := posOf_le hV L.length (Nat.le_refl _)
  unfold tot
  omega
theorem RowC_set3 {i v : Nat} {x : Pc} (h : RowC σ o L) (hx : L[i]? = some x) : RowC (mu σ (o + 3) i (nI v)) o (L.set i (x.1, x.2.1, v, x.2.2.2)) := by
  refine ⟨by rw [mu_n (by omega), List.length_set]; exact h.1, by rw [List.length_set]; exact h.2.1, fun j y hy => ?_⟩
  rw [List.getElem?_set] at hy
  have hi := lt_of_get hx
  simp (disch := omega) only [chk_T, okI_t, okI_f, okI_nN, b2i_t, b2i_f, ifTT, ifFT, nI_c, bnd_s, bnd2_s, stp_s, ifLE_t, ifLE_f, ifLT_t, ifLT_f, ifE_t, ifE_f, if0_t, if0_f, ifn0, ifp0, ifl0_t, ifl0_f, ifg0_t, ifg0_f, ifnE, ifnE2, ifNE_t, ifNE_f, ifN0, ifNl, ifNp, ifB, nI_A, nI_S, nI_M, mu_s, mu_k, mu_n, mcp_n, mu_ij]
  by_cases c : i = j
  · subst c
    rw [if_pos rfl, if_pos hi] at hy
    cases hy
    obtain ⟨e1, e2, e3, e4⟩ := h.2.2 i x hx
    rw [if_pos rfl]
    exact ⟨e1, e2, rfl, e4⟩
  · rw [if_neg c] at hy
    rw [if_neg (fun q => c q.symm)]
    exact h.2.2 j y hy
theorem X0_cutAhead (hg : 1000 ≤ g) (h : BnC σ o b) (hV : BnV b) (p : Int32) : ∃ σ', fX0_cutAhead g σ o p = some ((bCut p b).1, σ') ∧ BnC σ' o (bCut p b).2 ∧ same σ σ' o (o + 11) := by
  have hl := h.1.2.1
  have ht := tot_le hV.1 hl
  unfold fX0_cutAhead bCut
  by_cases hp : p < 0
  · rw [if_neg (Int32.not_le.mpr hp), if_neg (by unfold okI; rw [decide_eq_true hp]; simp)]
    exact ⟨σ, rfl, h, same.rf⟩
  · obtain ⟨q, hq, rfl⟩ := nI_of hp
    rw [X4_pieceAt hg h.1 hV.1 (by omega), okI_nI (by omega), nI_c (by omega)]
    by_cases c : q < tot b.1
    · obtain ⟨a1, a2, a3⟩ := pAt_spec b.1 q c
      obtain ⟨x, hx⟩ := get_of a1
      have hs := posOf_s hx
      have hv := hV.1 _ x hx
      have b2 := plen_b hv
      obtain ⟨v0, v1, v2, v3⟩ := hv
      rw [decide_eq_true c, if_pos c, if_pos rfl]
      simp (disch := omega) only [chk_T, okI_t, okI_f, okI_nN, b2i_t, b2i_f, ifTT, ifFT, nI_c, bnd_s, bnd2_s, stp_s, ifLE_t, ifLE_f, ifLT_t, ifLT_f, ifE_t, ifE_f, if0_t, if0_f, ifn0, ifp0, ifl0_t, ifl0_f, ifg0_t, ifg0_f, ifnE, ifnE2, ifNE_t, ifNE_f, ifN0, ifNl, ifNp, ifB, nI_A, nI_S, nI_M, mu_s, mu_k, mu_n, mcp_n, X4_has h.1, X4_startOf hg h.1 hV.1 (Nat.le_of_lt a1)]
      by_cases c1 : posOf b.1 (pAt b.1 q) = q
      · rw [if_pos c1, if0_t (by omega)]
        exact ⟨σ, rfl, h, same.rf⟩
      · rw [if_neg c1, if0_f (by omega) (by omega), X4_isFull h.1]
        by_cases c2 : 20 ≤ b.1.length
        · rw [if_pos c2, decide_eq_true c2]
          simp (disch := omega) only [chk_T, okI_t, okI_f, okI_nN, b2i_t, b2i_f, ifTT, ifFT, nI_c, bnd_s, bnd2_s, stp_s, ifLE_t, ifLE_f, ifLT_t, ifLT_f, ifE_t, ifE_f, if0_t, if0_f, ifn0, ifp0, ifl0_t, ifl0_f, ifg0_t, ifg0_f, ifnE, ifnE2, ifNE_t, ifNE_f, ifN0, ifNl, ifNp, ifB, nI_A, nI_S, nI_M, mu_s, mu_k, mu_n, mcp_n, b2i_t]
          exact ⟨σ, rfl, h, same.rf⟩
        · rw [if_neg c2, decide_eq_false c2]
          obtain ⟨e1, e2, e3, e4⟩ := h.1.2.2 _ x hx
          have e2 : σ (o + 3) (pAt b.1 q) = nI x.2.1 := e2
          have e3 : σ (o + 4) (pAt b.1 q) = nI x.2.2.1 := e3
          have e1 : σ (o + 2) (pAt b.1 q) = nI x.1 := e1
          simp (disch := omega) only [chk_T, okI_t, okI_f, okI_nN, b2i_t, b2i_f, ifTT, ifFT, nI_c, bnd_s, bnd2_s, stp_s, ifLE_t, ifLE_f, ifLT_t, ifLT_f, ifE_t, ifE_f, if0_t, if0_f, ifn0, ifp0, ifl0_t, ifl0_f, ifg0_t, ifg0_f, ifnE, ifnE2, ifNE_t, ifNE_f, ifN0, ifNl, ifNp, ifB, nI_A, nI_S, nI_M, mu_s, mu_k, mu_n, mcp_n, b2i_f, e1, e2, e3]
          obtain ⟨σ1, f1, r1, s1⟩ := X4_insert (g := g) (at_ := pAt b.1 q + 1) (s := x.1) (f := x.2.1 + (q - posOf b.1 (pAt b.1 q))) (l := x.2.2.1) hg h.1 (by omega) (by omega)
          simp (disch := omega) only [chk_T, okI_t, okI_f, okI_nN, b2i_t, b2i_f, ifTT, ifFT, nI_c, bnd_s, bnd2_s, stp_s, ifLE_t, ifLE_f, ifLT_t, ifLT_f, ifE_t, ifE_f, if0_t, if0_f, ifn0, ifp0, ifl0_t, ifl0_f, ifg0_t, ifg0_f, ifnE, ifnE2, ifNE_t, ifNE_f, ifN0, ifNl, ifNp, ifB, nI_A, nI_S, nI_M, mu_s, mu_k, mu_n, mcp_n, f1]
          refine ⟨_, rfl, ⟨?_, ?_⟩, fun i hi => ?_⟩
          · unfold cutL
            rw [hx]
            exact RowC_set3 r1 (by rw [List.getElem?_insertIdx, if_pos (by omega)]; exact hx)
          · exact h.2.same (fun i h1 h2 => by rw [mu_n (by omega), s1 i (by omega)])
          · rw [mu_n (by omega), s1 i (by omega)]
    · rw [decide_eq_false c, if_neg c]
      simp (disch := omega) only [chk_T, okI_t, okI_f, okI_nN, b2i_t, b2i_f, ifTT, ifFT, nI_c, bnd_s, bnd2_s, stp_s, ifLE_t, ifLE_f, ifLT_t, ifLT_f, ifE_t, ifE_f, if0_t, if0_f, ifn0, ifp0, ifl0_t, ifl0_f, ifg0_t, ifg0_f, ifnE, ifnE2, ifNE_t, ifNE_f, ifN0, ifNl, ifNp, ifB, nI_A, nI_S, nI_M, mu_s, mu_k, mu_n, mcp_n, X4_has h.1, ifp0]
      exact ⟨σ, rfl, h, same.rf⟩
theorem X4_goesOn {i : Nat} {x : Pc} (h : RowC σ o L) (hV : RowV L) (hx : L[i]? = some x) : fX4_goesOn g σ o (nI i) = some (b2i (match L[i + 1]? with | some y => decide (x.1 = y.1 ∧ x.2.2.1 + 1 = y.2.1) | none => false)) := by
  have hl := h.2.1
  have hi := lt_of_get hx
  unfold fX4_goesOn
  simp (disch := omega) only [chk_T, okI_t, okI_f, okI_nN, b2i_t, b2i_f, ifTT, ifFT, nI_c, bnd_s, bnd2_s, stp_s, ifLE_t, ifLE_f, ifLT_t, ifLT_f, ifE_t, ifE_f, if0_t, if0_f, ifn0, ifp0, ifl0_t, ifl0_f, ifg0_t, ifg0_f, ifnE, ifnE2, ifNE_t, ifNE_f, ifN0, ifNl, ifNp, ifB, nI_A, nI_S, nI_M, mu_s, mu_k, mu_n, mcp_n, X4_has h]
  by_cases c : i + 1 < L.length
  · obtain ⟨y, hy⟩ := get_of c
    obtain ⟨e1, e2, e3, e4⟩ := h.2.2 _ x hx
    obtain ⟨d1, d2, d3, d4⟩ := h.2.2 _ y hy
    obtain ⟨v0, v1, v2, v3⟩ := hV _ x hx
    obtain ⟨w0, w1, w2, w3⟩ := hV _ y hy
    rw [hy]
    simp (disch := omega) only [chk_T, okI_t, okI_f, okI_nN, b2i_t, b2i_f, ifTT, ifFT, nI_c, bnd_s, bnd2_s, stp_s, ifLE_t, ifLE_f, ifLT_t, ifLT_f, ifE_t, ifE_f, if0_t, if0_f, ifn0, ifp0, ifl0_t, ifl0_f, ifg0_t, ifg0_f, ifnE, ifnE2, ifNE_t, ifNE_f, ifN0, ifNl, ifNp, ifB, nI_A, nI_S, nI_M, mu_s, mu_k, mu_n, mcp_n, e1, e3, d1, d2]
    by_cases c1 : x.1 = y.1
    · by_cases c2 : x.2.2.1 + 1 = y.2.1
      · rw [ifE_t c1, ifE_t c2, decide_eq_true ⟨c1, c2⟩]; rfl
      · rw [ifE_t c1, ifE_f c2 (by omega) (by omega), decide_eq_false (fun q => c2 q.2)]; rfl
    · rw [ifE_f c1 (by omega) (by omega), decide_eq_false (fun q => c1 q.1)]; rfl
  · rw [List.getElem?_eq_none (by omega)]
    simp (disch := omega) only [chk_T, okI_t, okI_f, okI_nN, b2i_t, b2i_f, ifTT, ifFT, nI_c, bnd_s, bnd2_s, stp_s, ifLE_t, ifLE_f, ifLT_t, ifLT_f, ifE_t, ifE_f, if0_t, if0_f, ifn0, ifp0, ifl0_t, ifl0_f, ifg0_t, ifg0_f, ifnE, ifnE2, ifNE_t, ifNE_f, ifN0, ifNl, ifNp, ifB, nI_A, nI_S, nI_M, mu_s, mu_k, mu_n, mcp_n]
theorem X0_joinBehind (hg : 1000 ≤ g) (h : BnC σ o b) (hV : BnV b) (p : Int32) : ∃ σ', fX0_joinBehind g σ o p = some ((bJoin p b).1, σ') ∧ BnC σ' o (bJoin p b).2 ∧ same σ σ' o (o + 11) := by
  have hl := h.1.2.1
  unfold fX0_joinBehind bJoin
  rcases okI_get (p := p) (L := b.1) (by omega) with ⟨x, j, rfl, hc, hj, hp, hx, ho⟩ | ⟨ho, hn⟩
  · rw [hc, hx]
    simp (disch := omega) only [chk_T, okI_t, okI_f, okI_nN, b2i_t, b2i_f, ifTT, ifFT, nI_c, bnd_s, bnd2_s, stp_s, ifLE_t, ifLE_f, ifLT_t, ifLT_f, ifE_t, ifE_f, if0_t, if0_f, ifn0, ifp0, ifl0_t, ifl0_f, ifg0_t, ifg0_f, ifnE, ifnE2, ifNE_t, ifNE_f, ifN0, ifNl, ifNp, ifB, nI_A, nI_S, nI_M, mu_s, mu_k, mu_n, mcp_n, X4_has h.1, ho, b2i_t, X4_goesOn h.1 hV.1 hx, if_neg hp]
    cases hy : b.1[j + 1]? with
    | none =>
      simp (disch := omega) only [chk_T, okI_t, okI_f, okI_nN, b2i_t, b2i_f, ifTT, ifFT, nI_c, bnd_s, bnd2_s, stp_s, ifLE_t, ifLE_f, ifLT_t, ifLT_f, ifE_t, ifE_f, if0_t, if0_f, ifn0, ifp0, ifl0_t, ifl0_f, ifg0_t, ifg0_f, ifnE, ifnE2, ifNE_t, ifNE_f, ifN0, ifNl, ifNp, ifB, nI_A, nI_S, nI_M, mu_s, mu_k, mu_n, mcp_n, b2i_f]
      exact ⟨σ, rfl, h, same.rf⟩
    | some y =>
      have hj2 := lt_of_get hy
      by_cases c : x.1 = y.1 ∧ x.2.2.1 + 1 = y.2.1
      · obtain ⟨d1, d2, d3, d4⟩ := h.1.2.2 _ y hy
        have d3 : σ (o + 4) (j + 1) = nI y.2.2.1 := d3
        obtain ⟨w0, w1, w2, w3⟩ := hV.1 _ y hy
        obtain ⟨v0, v1, v2, v3⟩ := hV.1 _ x hx
        have hr := RowC_set3 (v := y.2.2.1) h.1 hx
        obtain ⟨σ1, f1, r1, s1⟩ := X4_drop (g := g) (at_ := j + 1) hg hr (by rw [List.length_set]; exact hj2)
        have hz : ((b.1.set j (x.1, x.2.1, y.2.2.1, x.2.2.2)).eraseIdx (j + 1))[j]? = some (x.1, x.2.1, y.2.2.1, x.2.2.2) := by
          rw [List.getElem?_eraseIdx, if_pos (by omega), List.getElem?_set, if_pos rfl, if_pos hj]
        simp only [if_pos c, decide_eq_true c]
        obtain ⟨q1, q2, q3⟩ := r1
        have hlen : fX4_lengthOf g σ1 (o + 1) (nI j) = some (nI (y.2.2.1 - x.2.1 + 1)) := by
          obtain ⟨z1, z2, z3, z4⟩ := q3 j _ hz
          unfold fX4_lengthOf
          simp (disch := omega) only [chk_T, okI_t, okI_f, okI_nN, b2i_t, b2i_f, ifTT, ifFT, nI_c, bnd_s, bnd2_s, stp_s, ifLE_t, ifLE_f, ifLT_t, ifLT_f, ifE_t, ifE_f, if0_t, if0_f, ifn0, ifp0, ifl0_t, ifl0_f, ifg0_t, ifg0_f, ifnE, ifnE2, ifNE_t, ifNE_f, ifN0, ifNl, ifNp, ifB, nI_A, nI_S, nI_M, mu_s, mu_k, mu_n, mcp_n]
          rw [z3, z2]
          simp (disch := omega) only [chk_T, okI_t, okI_f, okI_nN, b2i_t, b2i_f, ifTT, ifFT, nI_c, bnd_s, bnd2_s, stp_s, ifLE_t, ifLE_f, ifLT_t, ifLT_f, ifE_t, ifE_f, if0_t, if0_f, ifn0, ifp0, ifl0_t, ifl0_f, ifg0_t, ifg0_f, ifnE, ifnE2, ifNE_t, ifNE_f, ifN0, ifNl, ifNp, ifB, nI_A, nI_S, nI_M, mu_s, mu_k, mu_n, mcp_n]
        simp (disch := omega) only [chk_T, okI_t, okI_f, okI_nN, b2i_t, b2i_f, ifTT, ifFT, nI_c, bnd_s, bnd2_s, stp_s, ifLE_t, ifLE_f, ifLT_t, ifLT_f, ifE_t, ifE_f, if0_t, if0_f, ifn0, ifp0, ifl0_t, ifl0_f, ifg0_t, ifg0_f, ifnE, ifnE2, ifNE_t, ifNE_f, ifN0, ifNl, ifNp, ifB, nI_A, nI_S, nI_M, mu_s, mu_k, mu_n, mcp_n, b2i_t, d3]
        have f1 : fX4_drop g (mu σ (o + 4) j (nI y.2.2.1)) (o + 1) (nI (j + 1)) = some σ1 := f1
        simp (disch := omega) only [chk_T, okI_t, okI_f, okI_nN, b2i_t, b2i_f, ifTT, ifFT, nI_c, bnd_s, bnd2_s, stp_s, ifLE_t, ifLE_f, ifLT_t, ifLT_f, ifE_t, ifE_f, if0_t, if0_f, ifn0, ifp0, ifl0_t, ifl0_f, ifg0_t, ifg0_f, ifnE, ifnE2, ifNE_t, ifNE_f, ifN0, ifNl, ifNp, ifB, nI_A, nI_S, nI_M, mu_s, mu_k, mu_n, mcp_n, f1, hlen]
        refine ⟨σ1, rfl, ⟨⟨q1, q2, q3⟩, h.2.same (fun i h1 h2 => ?_)⟩, fun i hi => ?_⟩
        · rw [s1 i (by omega), mu_n (by omega)]
        · rw [s1 i (by omega), mu_n (by omega)]
      · simp only [if_neg c, decide_eq_false c]
        simp (disch := omega) only [chk_T, okI_t, okI_f, okI_nN, b2i_t, b2i_f, ifTT, ifFT, nI_c, bnd_s, bnd2_s, stp_s, ifLE_t, ifLE_f, ifLT_t, ifLT_f, ifE_t, ifE_f, if0_t, if0_f, ifn0, ifp0, ifl0_t, ifl0_f, ifg0_t, ifg0_f, ifnE, ifnE2, ifNE_t, ifNE_f, ifN0, ifNl, ifNp, ifB, nI_A, nI_S, nI_M, mu_s, mu_k, mu_n, mcp_n, b2i_f]
        exact ⟨σ, rfl, h, same.rf⟩
  · simp (disch := omega) only [chk_T, okI_t, okI_f, okI_nN, b2i_t, b2i_f, ifTT, ifFT, nI_c, bnd_s, bnd2_s, stp_s, ifLE_t, ifLE_f, ifLT_t, ifLT_f, ifE_t, ifE_f, if0_t, if0_f, ifn0, ifp0, ifl0_t, ifl0_f, ifg0_t, ifg0_f, ifnE, ifnE2, ifNE_t, ifNE_f, ifN0, ifNl, ifNp, ifB, nI_A, nI_S, nI_M, mu_s, mu_k, mu_n, mcp_n, X4_has h.1, ho, b2i_f]
    refine ⟨σ, ?_⟩
    rcases hn with hn | hn
    · cases b.1[p.toNatClampNeg]? with
      | none => exact ⟨rfl, h, same.rf⟩
      | some x => simp only [if_pos hn]; exact ⟨trivial, h, same.rf⟩
    · rw [hn]
      exact ⟨rfl, h, same.rf⟩
theorem X0_toCan (hg : 1000 ≤ g) (h : BnC σ o b) (p : Int32) : ∃ σ', fX0_toCan g σ o p = some ((bTake p b).1, σ') ∧ BnC σ' o (bTake p b).2 ∧ same σ σ' o (o + 11) := by
  have hl := h.1.2.1
  have hl2 := h.2.2.1
  unfold fX0_toCan bTake
  rcases okI_get (p := p) (L := b.1) (by omega) with ⟨x, j, rfl, hc, hj, hp, hx, ho⟩ | ⟨ho, hn⟩
  · rw [hc, hx]
    simp (disch := omega) only [chk_T, okI_t, okI_f, okI_nN, b2i_t, b2i_f, ifTT, ifFT, nI_c, bnd_s, bnd2_s, stp_s, ifLE_t, ifLE_f, ifLT_t, ifLT_f, ifE_t, ifE_f, if0_t, if0_f, ifn0, ifp0, ifl0_t, ifl0_f, ifg0_t, ifg0_f, ifnE, ifnE2, ifNE_t, ifNE_f, ifN0, ifNl, ifNp, ifB, nI_A, nI_S, nI_M, mu_s, mu_k, mu_n, mcp_n, X4_has h.1, ho, b2i_t, X4_isFull h.2, if_neg hp]
    by_cases c : 20 ≤ b.2.length
    · rw [if_pos c, decide_eq_true c]
      simp (disch := omega) only [chk_T, okI_t, okI_f, okI_nN, b2i_t, b2i_f, ifTT, ifFT, nI_c, bnd_s, bnd2_s, stp_s, ifLE_t, ifLE_f, ifLT_t, ifLT_f, ifE_t, ifE_f, if0_t, if0_f, ifn0, ifp0, ifl0_t, ifl0_f, ifg0_t, ifg0_f, ifnE, ifnE2, ifNE_t, ifNE_f, ifN0, ifNl, ifNp, ifB, nI_A, nI_S, nI_M, mu_s, mu_k, mu_n, mcp_n, b2i_t]
      exact ⟨σ, rfl, h, same.rf⟩
    · obtain ⟨e1, e2, e3, e4⟩ := h.1.2.2 _ x hx
      have e1 : σ (o + 2) j = nI x.1 := e1
      have e2 : σ (o + 3) j = nI x.2.1 := e2
      have e3 : σ (o + 4) j = nI x.2.2.1 := e3
      have e0 := h.2.1
      obtain ⟨σ1, f1, r1, s1⟩ := X4_insert (g := g) (at_ := b.2.length) (s := x.1) (f := x.2.1) (l := x.2.2.1) hg h.2 (Nat.le_refl _) (by omega)
      have h1 : RowC σ1 (o + 1) b.1 := h.1.same (fun i h1 h2 => s1 i (by omega))
      obtain ⟨σ2, f2, r2, s2⟩ := X4_pullFrom (g := g) hg h1 hj
      rw [if_neg c, decide_eq_false c]
      simp (disch := omega) only [chk_T, okI_t, okI_f, okI_nN, b2i_t, b2i_f, ifTT, ifFT, nI_c, bnd_s, bnd2_s, stp_s, ifLE_t, ifLE_f, ifLT_t, ifLT_f, ifE_t, ifE_f, if0_t, if0_f, ifn0, ifp0, ifl0_t, ifl0_f, ifg0_t, ifg0_f, ifnE, ifnE2, ifNE_t, ifNE_f, ifN0, ifNl, ifNp, ifB, nI_A, nI_S, nI_M, mu_s, mu_k, mu_n, mcp_n, b2i_f, e0, e1, e2, e3, f1, f2]
      rw [r2.1]
      refine ⟨σ2, ?_, ⟨r2, r1.same (fun i h1 h2 => s2 i (by omega))⟩, fun i hi => by rw [s2 i (by omega), s1 i (by omega)]⟩
      rw [show (pullL b.1 j).length = b.1.length - 1 by unfold pullL; rw [renew_len, List.length_eraseIdx, if_pos hj]]
  · simp (disch := omega) only [chk_T, okI_t, okI_f, okI_nN, b2i_t, b2i_f, ifTT, ifFT, nI_c, bnd_s, bnd2_s, stp_s, ifLE_t, ifLE_f, ifLT_t, ifLT_f, ifE_t, ifE_f, if0_t, if0_f, ifn0, ifp0, ifl0_t, ifl0_f, ifg0_t, ifg0_f, ifnE, ifnE2, ifNE_t, ifNE_f, ifN0, ifNl, ifNp, ifB, nI_A, nI_S, nI_M, mu_s, mu_k, mu_n, mcp_n, X4_has h.1, ho, b2i_f]
    refine ⟨σ, ?_⟩
    rcases hn with hn | hn
    · cases b.1[p.toNatClampNeg]? with
      | none => exact ⟨rfl, h, same.rf⟩
      | some x => simp only [if_pos hn]; exact ⟨trivial, h, same.rf⟩
    · rw [hn]
      exact ⟨rfl, h, same.rf⟩
theorem X0_fromCan (hg : 1000 ≤ g) (h : BnC σ o b) (p q : Int32) : ∃ σ', fX0_fromCan g σ o p q = some ((bPut p q b).1, σ') ∧ BnC σ' o (bPut p q b).2 ∧ same σ σ' o (o + 11) := by
  have hl := h.1.2.1
  have hl2 := h.2.2.1
  have e9 := h.1.1
  unfold fX0_fromCan bPut
  rcases okI_get (p := p) (L := b.2) (by omega) with ⟨x, j, rfl, hc, hj, hp, hx, ho⟩ | ⟨ho, hn⟩
  · rw [hc, hx, e9, X8_isWithin, within_0 (by omega)]
    simp (disch := omega) only [chk_T, okI_t, okI_f, okI_nN, b2i_t, b2i_f, ifTT, ifFT, nI_c, bnd_s, bnd2_s, stp_s, ifLE_t, ifLE_f, ifLT_t, ifLT_f, ifE_t, ifE_f, if0_t, if0_f, ifn0, ifp0, ifl0_t, ifl0_f, ifg0_t, ifg0_f, ifnE, ifnE2, ifNE_t, ifNE_f, ifN0, ifNl, ifNp, ifB, nI_A, nI_S, nI_M, mu_s, mu_k, mu_n, mcp_n, X4_has h.2, ho, b2i_t, X4_isFull h.1, if_neg hp]
    by_cases cq : okI q (b.1.length + 1) = true
    · obtain ⟨k, hk, -, rfl, hk2⟩ := okI_of cq
      rw [if_pos cq, if_pos cq]
      by_cases c : 20 ≤ b.1.length
      · rw [if_pos c, decide_eq_true c]
        simp (disch := omega) only [chk_T, okI_t, okI_f, okI_nN, b2i_t, b2i_f, ifTT, ifFT, nI_c, bnd_s, bnd2_s, stp_s, ifLE_t, ifLE_f, ifLT_t, ifLT_f, ifE_t, ifE_f, if0_t, if0_f, ifn0, ifp0, ifl0_t, ifl0_f, ifg0_t, ifg0_f, ifnE, ifnE2, ifNE_t, ifNE_f, ifN0, ifNl, ifNp, ifB, nI_A, nI_S, nI_M, mu_s, mu_k, mu_n, mcp_n, b2i_t]
        exact ⟨σ, rfl, h, same.rf⟩
      · obtain ⟨e1, e2, e3, e4⟩ := h.2.2.2 _ x hx
        have e1 : σ (o + 7) j = nI x.1 := e1
        have e2 : σ (o + 8) j = nI x.2.1 := e2
        have e3 : σ (o + 9) j = nI x.2.2.1 := e3
        obtain ⟨σ1, f1, r1, s1⟩ := X4_putAt (g := g) (at_ := k) (x := x) hg h.1 (by omega) (by omega)
        have h1 : RowC σ1 (o + 6) b.2 := h.2.same (fun i h1 h2 => s1 i (by omega))
        obtain ⟨σ2, f2, r2, s2⟩ := X4_drop (g := g) hg h1 hj
        rw [if_neg c, decide_eq_false c]
        simp (disch := omega) only [chk_T, okI_t, okI_f, okI_nN, b2i_t, b2i_f, ifTT, ifFT, nI_c, bnd_s, bnd2_s, stp_s, ifLE_t, ifLE_f, ifLT_t, ifLT_f, ifE_t, ifE_f, if0_t, if0_f, ifn0, ifp0, ifl0_t, ifl0_f, ifg0_t, ifg0_f, ifnE, ifnE2, ifNE_t, ifNE_f, ifN0, ifNl, ifNp, ifB, nI_A, nI_S, nI_M, mu_s, mu_k, mu_n, mcp_n, b2i_f, e1, e2, e3, f1, f2]
        rw [r2.1]
        refine ⟨σ2, ?_, ⟨r1.same (fun i h1 h2 => s2 i (by omega)), r2⟩, fun i hi => by rw [s2 i (by omega), s1 i (by omega)]⟩
        rw [List.length_eraseIdx, if_pos hj]
    · rw [if_neg cq, if_neg cq]
      exact ⟨σ, rfl, h, same.rf⟩
  · simp (disch := omega) only [chk_T, okI_t, okI_f, okI_nN, b2i_t, b2i_f, ifTT, ifFT, nI_c, bnd_s, bnd2_s, stp_s, ifLE_t, ifLE_f, ifLT_t, ifLT_f, ifE_t, ifE_f, if0_t, if0_f, ifn0, ifp0, ifl0_t, ifl0_f, ifg0_t, ifg0_f, ifnE, ifnE2, ifNE_t, ifNE_f, ifN0, ifNl, ifNp, ifB, nI_A, nI_S, nI_M, mu_s, mu_k, mu_n, mcp_n, X4_has h.2, ho, b2i_f]
    refine ⟨σ, ?_⟩
    rcases hn with hn | hn
    · cases b.2[p.toNatClampNeg]? with
      | none => exact ⟨rfl, h, same.rf⟩
      | some x => simp only [if_pos hn]; exact ⟨trivial, h, same.rf⟩
    · rw [hn]
      exact ⟨rfl, h, same.rf⟩
end
theorem zp_PV {x : Pc} (h : PV x) : PV (zp x) := ⟨h.1, h.2.1, h.2.2.1, by show 0 < 1000000; omega⟩
theorem RowV.pull {L : List Pc} (h : RowV L) (i : Nat) : RowV (pullL L i) := by
  intro j x hx
  unfold pullL at hx
  rw [renew_get] at hx
  obtain ⟨y, hy, rfl⟩ := Option.map_eq_some_iff.mp hx
  rw [List.getElem?_eraseIdx] at hy
  have : PV y := by
    by_cases c : j < i
    · rw [if_pos c] at hy; exact h _ _ hy
    · rw [if_neg c] at hy; exact h _ _ hy
  by_cases c : j = i
  · rw [if_pos c]; exact zp_PV this
  · rw [if_neg c]; exact this
theorem RowV.ins {L : List Pc} (h : RowV L) (i : Nat) {x : Pc} (hx : PV x) : RowV (L.insertIdx i x) := by
  intro j y hy
  rw [List.getElem?_insertIdx] at hy
  by_cases c : j < i
  · rw [if_pos c] at hy; exact h _ _ hy
  · rw [if_neg c] at hy
    by_cases c2 : j = i
    · rw [if_pos c2] at hy
      by_cases c3 : j ≤ L.length
      · rw [if_pos c3] at hy; cases hy; exact hx
      · rw [if_neg c3] at hy; cases hy
    · rw [if_neg c2] at hy; exact h _ _ hy
theorem RowV.put {L : List Pc} (h : RowV L) (i : Nat) {x : Pc} (hx : PV x) : RowV (putL L i x) := by
  intro j y hy
  unfold putL at hy
  rw [renew_get] at hy
  obtain ⟨z, hz, rfl⟩ := Option.map_eq_some_iff.mp hy
  have := h.ins i (zp_PV hx) _ _ hz
  by_cases c : j = i + 1
  · rw [if_pos c]; exact zp_PV this
  · rw [if_neg c]; exact this
theorem pullL_len {L : List Pc} {i : Nat} (h : i < L.length) : (pullL L i).length = L.length - 1 := by unfold pullL; rw [renew_len, List.length_eraseIdx, if_pos h]
theorem putL_len {L : List Pc} {i : Nat} {x : Pc} (h : i ≤ L.length) : (putL L i x).length = L.length + 1 := by unfold putL; rw [renew_len, List.length_insertIdx, if_pos h]
section
variable {g o : Nat} {σ : Mem} {L : List Pc} {b : Bn}
theorem X0_renumber (hg : 1000 ≤ g) (h : BnC σ o b) (hV : BnV b) (p q : Int32) : ∃ σ', fX0_renumber g σ o p q = some ((bMove p q b).1, σ') ∧ BnC σ' o (bMove p q b).2 ∧ same σ σ' o (o + 11) := by
  have hl := h.1.2.1
  unfold fX0_renumber bMove
  rcases okI_get (p := p) (L := b.1) (by omega) with ⟨x, j, rfl, hc, hj, hp, hx, ho⟩ | ⟨ho, hn⟩
  · rw [hc, hx]
    simp (disch := omega) only [chk_T, okI_t, okI_f, okI_nN, b2i_t, b2i_f, ifTT, ifFT, nI_c, bnd_s, bnd2_s, stp_s, ifLE_t, ifLE_f, ifLT_t, ifLT_f, ifE_t, ifE_f, if0_t, if0_f, ifn0, ifp0, ifl0_t, ifl0_f, ifg0_t, ifg0_f, ifnE, ifnE2, ifNE_t, ifNE_f, ifN0, ifNl, ifNp, ifB, nI_A, nI_S, nI_M, mu_s, mu_k, mu_n, mcp_n, X4_has h.1, ho, b2i_t, if_neg hp]
    by_cases cq : okI q b.1.length = true
    · obtain ⟨k, hk, -, rfl, hk2⟩ := okI_of cq
      rw [if_pos cq, if_pos cq, hk2]
      by_cases c : nI j = nI k
      · rw [if_pos c, if_pos c]
        exact ⟨σ, rfl, h, same.rf⟩
      · rw [if_neg c, if_neg c]
        obtain ⟨e1, e2, e3, e4⟩ := h.1.2.2 _ x hx
        have e1 : σ (o + 2) j = nI x.1 := e1
        have e2 : σ (o + 3) j = nI x.2.1 := e2
        have e3 : σ (o + 4) j = nI x.2.2.1 := e3
        obtain ⟨σ1, f1, r1, s1⟩ := X4_pullFrom (g := g) hg h.1 hj
        have hl1 := pullL_len hj
        obtain ⟨σ2, f2, r2, s2⟩ := X4_putAt (g := g) (at_ := k) (x := x) hg r1 (by omega) (by omega)
        have hl2 := putL_len (x := x) (show k ≤ (pullL b.1 j).length by omega)
        have f3 := X4_startOf (g := g) (k := k) hg r2 ((hV.1.pull j).put k (hV.1 _ _ hx)) (by omega)
        simp (disch := omega) only [chk_T, okI_t, okI_f, okI_nN, b2i_t, b2i_f, ifTT, ifFT, nI_c, bnd_s, bnd2_s, stp_s, ifLE_t, ifLE_f, ifLT_t, ifLT_f, ifE_t, ifE_f, if0_t, if0_f, ifn0, ifp0, ifl0_t, ifl0_f, ifg0_t, ifg0_f, ifnE, ifnE2, ifNE_t, ifNE_f, ifN0, ifNl, ifNp, ifB, nI_A, nI_S, nI_M, mu_s, mu_k, mu_n, mcp_n, e1, e2, e3, f1, f2, f3]
        exact ⟨σ2, rfl, ⟨r2, h.2.same (fun i h1 h2 => by rw [s2 i (by omega), s1 i (by omega)])⟩, fun i hi => by rw [s2 i (by omega), s1 i (by omega)]⟩
    · rw [if_neg cq, if_neg cq]
      exact ⟨σ, rfl, h, same.rf⟩
  · simp (disch := omega) only [chk_T, okI_t, okI_f, okI_nN, b2i_t, b2i_f, ifTT, ifFT, nI_c, bnd_s, bnd2_s, stp_s, ifLE_t, ifLE_f, ifLT_t, ifLT_f, ifE_t, ifE_f, if0_t, if0_f, ifn0, ifp0, ifl0_t, ifl0_f, ifg0_t, ifg0_f, ifnE, ifnE2, ifNE_t, ifNE_f, ifN0, ifNl, ifNp, ifB, nI_A, nI_S, nI_M, mu_s, mu_k, mu_n, mcp_n, X4_has h.1, ho, b2i_f]
    refine ⟨σ, ?_⟩
    rcases hn with hn | hn
    · cases b.1[p.toNatClampNeg]? with
      | none => exact ⟨rfl, h, same.rf⟩
      | some x => simp only [if_pos hn]; exact ⟨trivial, h, same.rf⟩
    · rw [hn]
      exact ⟨rfl, h, same.rf⟩
theorem X0_perform (hg : 1000 ≤ g) (h : BnC σ o b) (hV : BnV b) (v p q : Int32) : ∃ σ', fX0_perform g σ o v p q = some ((bOp v p q b).1, σ') ∧ BnC σ' o (bOp v p q b).2 ∧ same σ σ' o (o + 11) := by
  unfold fX0_perform bOp
  by_cases c1 : v = nI 99
  · rw [if_pos c1, if_pos c1]
    obtain ⟨σ1, e, r⟩ := X0_cutAhead hg h hV p
    rw [e]; exact ⟨σ1, rfl, r⟩
  · rw [if_neg c1, if_neg c1]
    by_cases c2 : v = nI 105
    · rw [if_pos c2, if_pos c2]
      obtain ⟨σ1, e, r⟩ := X0_fromCan hg h p q
      rw [e]; exact ⟨σ1, rfl, r⟩
    · rw [if_neg c2, if_neg c2]
      by_cases c3 : v = nI 106
      · rw [if_pos c3, if_pos c3]
        obtain ⟨σ1, e, r⟩ := X0_joinBehind hg h hV p
        rw [e]; exact ⟨σ1, rfl, r⟩
      · rw [if_neg c3, if_neg c3]
        by_cases c4 : v = nI 111
        · rw [if_pos c4, if_pos c4]
          obtain ⟨σ1, e, r⟩ := X0_toCan hg h p
          rw [e]; exact ⟨σ1, rfl, r⟩
        · rw [if_neg c4, if_neg c4]
          obtain ⟨σ1, e, r⟩ := X0_renumber hg h hV p q
          rw [e]; exact ⟨σ1, rfl, r⟩
theorem RowC_copy {σ : Mem} {o o1 : Nat} {L : List Pc} (h : RowC σ o1 L) (hd : o + 5 ≤ o1 ∨ o1 + 5 ≤ o) : ∃ σ', fX4_copyFrom g σ o o1 = some σ' ∧ RowC σ' o L ∧ same σ σ' o (o + 5) := by
  have hl := h.2.1
  unfold fX4_copyFrom
  refine ⟨_, rfl, ⟨?_, hl, fun i x hx => ?_⟩, fun i hi => ?_⟩
  · simp (disch := omega) only [chk_T, okI_t, okI_f, okI_nN, b2i_t, b2i_f, ifTT, ifFT, nI_c, bnd_s, bnd2_s, stp_s, ifLE_t, ifLE_f, ifLT_t, ifLT_f, ifE_t, ifE_f, if0_t, if0_f, ifn0, ifp0, ifl0_t, ifl0_f, ifg0_t, ifg0_f, ifnE, ifnE2, ifNE_t, ifNE_f, ifN0, ifNl, ifNp, ifB, nI_A, nI_S, nI_M, mu_s, mu_k, mu_n, mcp_n, h.1]
  · have hi := lt_of_get hx
    obtain ⟨e1, e2, e3, e4⟩ := h.2.2 i x hx
    simp (disch := omega) only [chk_T, okI_t, okI_f, okI_nN, b2i_t, b2i_f, ifTT, ifFT, nI_c, bnd_s, bnd2_s, stp_s, ifLE_t, ifLE_f, ifLT_t, ifLT_f, ifE_t, ifE_f, if0_t, if0_f, ifn0, ifp0, ifl0_t, ifl0_f, ifg0_t, ifg0_f, ifnE, ifnE2, ifNE_t, ifNE_f, ifN0, ifNl, ifNp, ifB, nI_A, nI_S, nI_M, mu_s, mu_k, mu_n, mcp_n, mcp_s, if_pos (show i < 20 by omega), e1, e2, e3, e4]
    exact ⟨trivial, trivial, trivial, trivial⟩
  · simp (disch := omega) only [chk_T, okI_t, okI_f, okI_nN, b2i_t, b2i_f, ifTT, ifFT, nI_c, bnd_s, bnd2_s, stp_s, ifLE_t, ifLE_f, ifLT_t, ifLT_f, ifE_t, ifE_f, if0_t, if0_f, ifn0, ifp0, ifl0_t, ifl0_f, ifg0_t, ifg0_f, ifnE, ifnE2, ifNE_t, ifNE_f, ifN0, ifNl, ifNp, ifB, nI_A, nI_S, nI_M, mu_s, mu_k, mu_n, mcp_n]
theorem X0_copyFrom {o1 : Nat} (h : BnC σ o1 b) (hd : o + 11 ≤ o1 ∨ o1 + 11 ≤ o) : ∃ σ', fX0_copyFrom g σ o o1 = some σ' ∧ BnC σ' o b ∧ same σ σ' o (o + 11) := by
  unfold fX0_copyFrom
  obtain ⟨σ1, e1, r1, s1⟩ := RowC_copy (g := g) h.1 (o := o + 1) (by omega)
  have h2 : RowC σ1 (o1 + 6) b.2 := h.2.same (fun i _ _ => s1 i (by omega))
  obtain ⟨σ2, e2, r2, s2⟩ := RowC_copy (g := g) h2 (o := o + 6) (by omega)
  rw [e1, bnd_s, e2]
  exact ⟨σ2, rfl, ⟨r1.same (fun i _ _ => s2 i (by omega)), r2⟩, fun i hi => by rw [s2 i (by omega), s1 i (by omega)]⟩
end
