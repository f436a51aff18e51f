/-! PURE ROWS, 2: pieces in a row, as lists; the class's PieceRow -/
/-- a piece: scene, first frame, last frame, passes of its splice -/
abbrev Pc : Type := Nat × Nat × Nat × Nat
def plen (x : Pc) : Nat := x.2.2.1 - x.2.1 + 1
def PV (x : Pc) : Prop := x.1 < 12 ∧ x.2.1 ≤ x.2.2.1 ∧ x.2.2.1 < 40 ∧ x.2.2.2 < 1000000
def RowV (L : List Pc) : Prop := ∀ (i : Nat) (x : Pc), L[i]? = some x → PV x
def posOf (L : List Pc) (k : Nat) : Nat := ((L.take k).map plen).sum
theorem posOf_0 (L : List Pc) : posOf L 0 = 0 := by simp [posOf]
theorem posOf_s {L : List Pc} {k : Nat} {x : Pc} (h : L[k]? = some x) : posOf L (k + 1) = posOf L k + plen x := by
  unfold posOf
  rw [List.take_add_one, h]
  simp
theorem get_of {α : Type} {L : List α} {i : Nat} (h : i < L.length) : ∃ x, L[i]? = some x := ⟨L[i], List.getElem?_eq_getElem h⟩
theorem lt_of_get {α : Type} {L : List α} {i : Nat} {x : α} (h : L[i]? = some x) : i < L.length := (List.getElem?_eq_some_iff.mp h).1
theorem posOf_le {L : List Pc} (hV : RowV L) : ∀ k, k ≤ L.length → posOf L k ≤ 40 * k := by
  intro k
  induction k with
  | zero => intro _; rw [posOf_0]; omega
  | succ k ih =>
    intro hk
    obtain ⟨x, hx⟩ := get_of (L := L) (i := k) (by omega)
    rw [posOf_s hx]
    have := ih (by omega)
    obtain ⟨-, h1, h2, -⟩ := hV k x hx
    unfold plen
    omega
theorem plen_b {x : Pc} (h : PV x) : 1 ≤ plen x ∧ plen x ≤ 40 ∧ x.2.1 + plen x = x.2.2.1 + 1 := by
  obtain ⟨-, h1, h2, -⟩ := h
  unfold plen
  omega
theorem posOf_mono {L : List Pc} {i j : Nat} (h : i ≤ j) (hj : j ≤ L.length) : posOf L i ≤ posOf L j := by
  obtain ⟨d, rfl⟩ : ∃ d, j = i + d := ⟨j - i, by omega⟩
  clear h
  induction d with
  | zero => exact Nat.le_refl _
  | succ d ih =>
    obtain ⟨x, hx⟩ := get_of (L := L) (i := i + d) (by omega)
    have := ih (by omega)
    rw [show i + (d + 1) = (i + d) + 1 by omega, posOf_s hx]
    omega
/-- the class's row of pieces, at o, is the list L -/
def RowC (σ : Mem) (o : Nat) (L : List Pc) : Prop := σ o 0 = nI L.length ∧ L.length ≤ 20 ∧ ∀ (i : Nat) (x : Pc), L[i]? = some x → σ (o + 1) i = nI x.1 ∧ σ (o + 2) i = nI x.2.1 ∧ σ (o + 3) i = nI x.2.2.1 ∧ σ (o + 4) i = nI x.2.2.2
theorem RowC.same {σ σ' : Mem} {o : Nat} {L : List Pc} (h : RowC σ o L) (e : ∀ i, o ≤ i → i < o + 5 → σ' i = σ i) : RowC σ' o L := by
  unfold RowC
  rw [e o (by omega) (by omega), e (o + 1) (by omega) (by omega), e (o + 2) (by omega) (by omega), e (o + 3) (by omega) (by omega), e (o + 4) (by omega) (by omega)]
  exact h
section
variable {g o : Nat} {σ : Mem} {L : List Pc}
theorem X4_has (h : RowC σ o L) (p : Int32) : fX4_has g σ o p = some (b2i (okI p L.length)) := by
  obtain ⟨h0, hl, -⟩ := h
  unfold fX4_has
  rw [h0]
  by_cases hp : p < 0
  · rw [if_pos hp, show okI p L.length = false by unfold okI; rw [decide_eq_true hp]; rfl]; rfl
  · obtain ⟨j, hj, rfl⟩ := nI_of hp
    rw [if_neg hp, okI_nI (by omega)]
    by_cases q : L.length ≤ j
    · rw [ifLE_t q (by omega), decide_eq_false (by omega)]; rfl
    · rw [ifLE_f (by omega) (by omega), decide_eq_true (by omega)]; rfl
theorem X4_isFull (h : RowC σ o L) : fX4_isFull g σ o = some (b2i (decide (20 ≤ L.length))) := by
  obtain ⟨h0, hl, -⟩ := h
  unfold fX4_isFull
  rw [h0]
  by_cases q : 20 ≤ L.length
  · rw [decide_eq_true q]
    simp (disch := omega) only [chk_T, okI_t, okI_f, okI_nN, b2i_t, b2i_f, ifTT, ifFT, nI_c, bnd_s, bnd2_s, stp_s, ifLE_t, ifLE_f, ifLT_t, ifLT_f, ifE_t, ifE_f, if0_t, if0_f, ifn0, ifp0, ifl0_t, ifl0_f, ifg0_t, ifg0_f, ifnE, ifnE2, ifNE_t, ifNE_f, ifN0, ifNl, ifNp, ifB, nI_A, nI_S, nI_M, mu_s, mu_k, mu_n, mcp_n]
  · rw [decide_eq_false q]
    simp (disch := omega) only [chk_T, okI_t, okI_f, okI_nN, b2i_t, b2i_f, ifTT, ifFT, nI_c, bnd_s, bnd2_s, stp_s, ifLE_t, ifLE_f, ifLT_t, ifLT_f, ifE_t, ifE_f, if0_t, if0_f, ifn0, ifp0, ifl0_t, ifl0_f, ifg0_t, ifg0_f, ifnE, ifnE2, ifNE_t, ifNE_f, ifN0, ifNl, ifNp, ifB, nI_A, nI_S, nI_M, mu_s, mu_k, mu_n, mcp_n]
theorem X4_lengthOf (h : RowC σ o L) (hV : RowV L) {i : Nat} {x : Pc} (hx : L[i]? = some x) : fX4_lengthOf g σ o (nI i) = some (nI (plen x)) := by
  obtain ⟨h0, hl, hi⟩ := h
  obtain ⟨-, e1, e2, -⟩ := hi i x hx
  have hlt := lt_of_get hx
  obtain ⟨-, v1, v2, -⟩ := hV i x hx
  unfold fX4_lengthOf
  simp (disch := omega) only [chk_T, okI_t, okI_f, okI_nN, b2i_t, b2i_f, ifTT, ifFT, nI_c, bnd_s, bnd2_s, stp_s, ifLE_t, ifLE_f, ifLT_t, ifLT_f, ifE_t, ifE_f, if0_t, if0_f, ifn0, ifp0, ifl0_t, ifl0_f, ifg0_t, ifg0_f, ifnE, ifnE2, ifNE_t, ifNE_f, ifN0, ifNl, ifNp, ifB, nI_A, nI_S, nI_M, mu_s, mu_k, mu_n, mcp_n]
  rw [hi i x hx |>.2.2.1, hi i x hx |>.2.1]
  simp (disch := omega) only [chk_T, okI_t, okI_f, okI_nN, b2i_t, b2i_f, ifTT, ifFT, nI_c, bnd_s, bnd2_s, stp_s, ifLE_t, ifLE_f, ifLT_t, ifLT_f, ifE_t, ifE_f, if0_t, if0_f, ifn0, ifp0, ifl0_t, ifl0_f, ifg0_t, ifg0_f, ifnE, ifnE2, ifNE_t, ifNE_f, ifN0, ifNl, ifNp, ifB, nI_A, nI_S, nI_M, mu_s, mu_k, mu_n, mcp_n]
  rfl
theorem X4_startOf_4 (h : RowC σ o L) (hV : RowV L) {k : Nat} (hk : k ≤ L.length) : ∀ n i, i ≤ k → k - i < n → fX4_startOf_4 g o n σ (nI k) (nI (posOf L i)) (nI i) = some (nI (posOf L k)) := by
  have hl := h.2.1
  intro n
  induction n with
  | zero => intro i _ q; omega
  | succ n ih =>
    intro i h1 h2
    rw [fX4_startOf_4, h.1]
    by_cases hik : i = k
    · subst hik
      simp (disch := omega) only [chk_T, okI_t, okI_f, okI_nN, b2i_t, b2i_f, ifTT, ifFT, nI_c, bnd_s, bnd2_s, stp_s, ifLE_t, ifLE_f, ifLT_t, ifLT_f, ifE_t, ifE_f, if0_t, if0_f, ifn0, ifp0, ifl0_t, ifl0_f, ifg0_t, ifg0_f, ifnE, ifnE2, ifNE_t, ifNE_f, ifN0, ifNl, ifNp, ifB, nI_A, nI_S, nI_M, mu_s, mu_k, mu_n, mcp_n]
    · obtain ⟨x, hx⟩ := get_of (L := L) (i := i) (by omega)
      simp (disch := omega) only [chk_T, okI_t, okI_f, okI_nN, b2i_t, b2i_f, ifTT, ifFT, nI_c, bnd_s, bnd2_s, stp_s, ifLE_t, ifLE_f, ifLT_t, ifLT_f, ifE_t, ifE_f, if0_t, if0_f, ifn0, ifp0, ifl0_t, ifl0_f, ifg0_t, ifg0_f, ifnE, ifnE2, ifNE_t, ifNE_f, ifN0, ifNl, ifNp, ifB, nI_A, nI_S, nI_M, mu_s, mu_k, mu_n, mcp_n, X4_lengthOf h hV hx]
      rw [← posOf_s hx]
      exact ih (i + 1) (by omega) (by omega)
theorem X4_startOf (hg : 1000 ≤ g) (h : RowC σ o L) (hV : RowV L) {k : Nat} (hk : k ≤ L.length) : fX4_startOf g σ o (nI k) = some (nI (posOf L k)) := by
  have hl := h.2.1
  unfold fX4_startOf
  have := X4_startOf_4 (g := g) h hV hk g 0 (by omega) (by omega)
  rw [posOf_0] at this
  exact this
theorem X4_allFrames (hg : 1000 ≤ g) (h : RowC σ o L) (hV : RowV L) : fX4_allFrames g σ o = some (nI (posOf L L.length)) := by
  unfold fX4_allFrames
  rw [h.1, X4_startOf hg h hV (Nat.le_refl _)]
  rfl
end
