/-! PURE ROWS, 26: what is asked: both sides answer alike -/
def FilmV (n : Nat) (A : Fa) : Prop := ScV A.1 ∧ TV A.2.1 ∧ BV n A.1 A.2.2.1 ∧ (∀ (i : Nat) (s : Sw), A.2.2.2.1[i]? = some s → UV s) ∧ (∀ (i : Nat) (x : Nat × Nat × Nat), A.2.2.2.2.1[i]? = some x → ∃ s, A.2.2.2.1[x.1]? = some s ∧ x.2.1 < x.2.2 ∧ x.2.2 ≤ s.1.length) ∧ A.2.2.2.2.2.1 < 64 ∧ A.2.2.2.2.2.2.1 ≤ 20 ∧ A.2.2.2.2.2.2.2 ≤ 20
theorem ne_of {q : Int32} {n k : Nat} (c : okI q n = false) (hk : k < n) (hn : n < 2147483648) : ¬ q = nI k := fun z => by
  rw [z, okI_t hk hn] at c
  cases c
theorem fsum_le : ∀ sc : List (Nat × Nat), ScV sc → fsum sc ≤ 40 * sc.length := by
  intro sc
  induction sc with
  | nil => intro _; exact Nat.le_refl _
  | cons y sc ih =>
    intro h
    have h0 := h 0 y rfl
    have := ih (fun i z hz => h (i + 1) z (by rw [List.getElem?_cons_succ]; exact hz))
    unfold fsum at this ⊢
    rw [List.map_cons, List.sum_cons, List.length_cons]
    omega
theorem sum_rlen : ∀ L : List Pc, ((L.map rng).map rlen).sum = tot L := by
  intro L
  unfold tot posOf
  rw [List.take_length, List.map_map]
  rfl
theorem BV.tot {n : Nat} {sc : List (Nat × Nat)} {b : Bn} (h : BV n sc b) : tot b.1 + tot b.2 = fsum sc := by
  have := h.1.2.2
  unfold rngs at this
  rw [List.map_append, List.sum_append, sum_rlen, sum_rlen] at this
  exact this
theorem BV.dj {n : Nat} {sc : List (Nat × Nat)} {b : Bn} (h : BV n sc b) : Dj b.1 := by
  intro i j x y hij hx hy
  have hp := (List.pairwise_append.mp h.1.2.1).1
  obtain ⟨hi, ex⟩ := List.getElem?_eq_some_iff.mp hx
  obtain ⟨hj, ey⟩ := List.getElem?_eq_some_iff.mp hy
  have := List.pairwise_iff_getElem.mp hp i j (by rw [List.length_map]; exact hi) (by rw [List.length_map]; exact hj) hij
  rw [List.getElem_map, List.getElem_map, ex, ey] at this
  exact this
theorem BV.insc {n : Nat} {sc : List (Nat × Nat)} {b : Bn} (h : BV n sc b) (hv : ScV sc) : InSc sc b.1 := by
  intro i x hx
  obtain ⟨-, y, h2, h3⟩ := rng_in h (Or.inl (List.mem_of_getElem? hx))
  have := hv _ y h2
  exact ⟨y, h2, this.1, this.2.2, h3⟩
theorem FilmV.show {n : Nat} {A : Fa} (h : FilmV n A) (hl : A.1.length ≤ 12) (hn : n < 1000000) : ShowOK A := by
  obtain ⟨h1, h2, h3, h4, h5, h6, h7, h8⟩ := h
  have ht := h3.tot
  have hf := fsum_le A.1 h1
  exact ⟨h2, (h3.V h1 hl hn).1, h3.dj, h3.insc h1, by omega, h6, by omega, by omega⟩
section
variable {g o m n : Nat} {σ : Mem} {A : Fa}
theorem q_scene (hg : 1000 ≤ g) (hC : FilmC σ (o + 1) A) (hM : FilmW (σ (m + 1)) A) (hV : FilmV n A) (hn : n < 1000000) (p q : Int32) : ∃ r, fX8_scene g σ o p q = some r ∧ fX9_scene g σ m p q = some r := by
  have l12 := hC.1.2.1
  obtain ⟨v1, v2, v3, v4, v5, v6, v7, v8⟩ := hV
  have hBV := v3.V v1 l12 hn
  have htot := v3.tot
  have hfs := fsum_le A.1 v1
  have hSt : StockC σ (o + 2) A.1 A.2.1 := hC.1
  have hR : RowC σ (o + 8) A.2.2.1.1 := hC.2.1.1
  have hCn : RowC σ (o + 13) A.2.2.1.2 := hC.2.1.2
  have hRM : RowM σ m A.2.2.1.1 := hM.2.2.1
  have hCM : CanM σ m A.2.2.1.2 := hM.2.2.2.1
  unfold fX8_scene fX9_scene
  rw [X6_hasScene hSt, X9_isScene (S := (A, [], none, [])) hM, bnd_s, bnd_s, X8_isWithin, within_0 (by omega)]
  rcases okI_get (p := p) (L := A.1) (by omega) with ⟨y, s, rfl, c1, c2, -, c3, c4⟩ | ⟨c1, c2⟩
  · have hy := v1 s y c3
    rw [show okI (nI s) ((A, ([] : List Fa), (none : Option Fa), ([] : List Int32)) : SS).1.1.length = true from c4, if_neg (show ¬ b2i true = 0 by decide), if_neg (show ¬ b2i true = 0 by decide), bnd_s]
    cases cq : okI q (5 + 1) with
    | false =>
      rw [if_pos (show b2i false = 0 from rfl), if_neg (ne_of cq (by omega) (by omega)), if_neg (ne_of cq (by omega) (by omega)), if_neg (ne_of cq (by omega) (by omega)), if_neg (ne_of cq (by omega) (by omega)), if_neg (ne_of cq (by omega) (by omega)), if_neg (ne_of cq (by omega) (by omega))]
      exact ⟨_, rfl, rfl⟩
    | true =>
      obtain ⟨k, k1, k2, rfl, k4⟩ := okI_of cq
      rw [if_neg (show ¬ b2i true = 0 by decide)]
      have e1 := (hSt.2.2.1 s y c3).1
      have e2 := (hSt.2.2.1 s y c3).2
      have f1 := (hM.1.2.2 s y c3).1
      have f2 := (hM.1.2.2 s y c3).2
      rcases (by omega : k = 0 ∨ k = 1 ∨ k = 2 ∨ k = 3 ∨ k = 4 ∨ k = 5) with rfl | rfl | rfl | rfl | rfl | rfl
      · simp (disch := omega) only [chk_T, okI_t, okI_f, okI_nN, b2i_t, b2i_f, ifTT, ifFT, ite_true, ite_false, nI_c, bnd_s, bnd2_s, stp_s, ifLE_t, ifLE_f, ifLT_t, ifLT_f, ifE_t, ifE_f, if0_t, if0_f, ifn0, ifp0, ifl0_t, ifl0_f, ifg0_t, ifg0_f, ifnE, ifnE2, ifNE_t, ifNE_f, ifN0, ifNl, ifNp, ifB, nI_A, nI_S, nI_M, mu_s, mu_k, mu_n, mcp_n]
        rw [show σ (o + 3) s = nI y.1 from e1, show σ (m + 1) (8 + 2 * s + 0) = nI y.1 from f1]
        exact ⟨_, rfl, rfl⟩
      · simp (disch := omega) only [chk_T, okI_t, okI_f, okI_nN, b2i_t, b2i_f, ifTT, ifFT, ite_true, ite_false, nI_c, bnd_s, bnd2_s, stp_s, ifLE_t, ifLE_f, ifLT_t, ifLT_f, ifE_t, ifE_f, if0_t, if0_f, ifn0, ifp0, ifl0_t, ifl0_f, ifg0_t, ifg0_f, ifnE, ifnE2, ifNE_t, ifNE_f, ifN0, ifNl, ifNp, ifB, nI_A, nI_S, nI_M, mu_s, mu_k, mu_n, mcp_n]
        rw [show σ (o + 4) s = nI y.2 from e2, show 8 + 2 * s + 1 = 9 + 2 * s by omega, f2]
        exact ⟨_, rfl, rfl⟩
      · simp (disch := omega) only [chk_T, okI_t, okI_f, okI_nN, b2i_t, b2i_f, ifTT, ifFT, ite_true, ite_false, nI_c, bnd_s, bnd2_s, stp_s, ifLE_t, ifLE_f, ifLT_t, ifLT_f, ifE_t, ifE_f, if0_t, if0_f, ifn0, ifp0, ifl0_t, ifl0_f, ifg0_t, ifg0_f, ifnE, ifnE2, ifNE_t, ifNE_f, ifN0, ifNl, ifNp, ifB, nI_A, nI_S, nI_M, mu_s, mu_k, mu_n, mcp_n, X4_framesOf hg hR hBV.1 (show s < 12 by omega), X9_framesOnReel hg hRM hBV.1 (show s < 12 by omega)]
        exact ⟨_, rfl, rfl⟩
      · simp (disch := omega) only [chk_T, okI_t, okI_f, okI_nN, b2i_t, b2i_f, ifTT, ifFT, ite_true, ite_false, nI_c, bnd_s, bnd2_s, stp_s, ifLE_t, ifLE_f, ifLT_t, ifLT_f, ifE_t, ifE_f, if0_t, if0_f, ifn0, ifp0, ifl0_t, ifl0_f, ifg0_t, ifg0_f, ifnE, ifnE2, ifNE_t, ifNE_f, ifN0, ifNl, ifNp, ifB, nI_A, nI_S, nI_M, mu_s, mu_k, mu_n, mcp_n, X4_piecesOf hg hR hBV.1 (show s < 12 by omega), X4_piecesOf hg hCn hBV.2 (show s < 12 by omega), X9_piecesOf hg hRM hBV.1 hCM hBV.2 (show s < 12 by omega)]
        exact ⟨_, rfl, rfl⟩
      · simp (disch := omega) only [chk_T, okI_t, okI_f, okI_nN, b2i_t, b2i_f, ifTT, ifFT, ite_true, ite_false, nI_c, bnd_s, bnd2_s, stp_s, ifLE_t, ifLE_f, ifLT_t, ifLT_f, ifE_t, ifE_f, if0_t, if0_f, ifn0, ifp0, ifl0_t, ifl0_f, ifg0_t, ifg0_f, ifnE, ifnE2, ifNE_t, ifNE_f, ifN0, ifNl, ifNp, ifB, nI_A, nI_S, nI_M, mu_s, mu_k, mu_n, mcp_n, X6_tornHolesOf hg hSt v2 c3 hy.2.2, X9_tornIn hg hM.1 hM.2.1 v2 c3 hy.2.2]
        exact ⟨_, rfl, rfl⟩
      · have heq := ord_eq (L := A.2.2.1.1) (s := s) (F := y.2) hBV.1 v3.dj (fun i x hx xs => by
          obtain ⟨z, z1, z2, z3, z4⟩ := v3.insc v1 i x hx
          rw [xs, c3] at z1
          cases z1
          exact z4)
        by_cases hQ : ordQ A.2.2.1.1 s
        · simp (disch := omega) only [chk_T, okI_t, okI_f, okI_nN, b2i_t, b2i_f, ifTT, ifFT, ite_true, ite_false, nI_c, bnd_s, bnd2_s, stp_s, ifLE_t, ifLE_f, ifLT_t, ifLT_f, ifE_t, ifE_f, if0_t, if0_f, ifn0, ifp0, ifl0_t, ifl0_f, ifg0_t, ifg0_f, ifnE, ifnE2, ifNE_t, ifNE_f, ifN0, ifNl, ifNp, ifB, nI_A, nI_S, nI_M, mu_s, mu_k, mu_n, mcp_n, X4_isInOrder_t hg hR hBV.1 (show s < 12 by omega) hQ, X9_isInOrder_t hg hRM hBV.1 hM.1 c3 hy.2.2 (show s < 12 by omega) (heq.2 hQ) (show tot A.2.2.1.1 < 1000 by omega)]
          exact ⟨_, rfl, rfl⟩
        · simp (disch := omega) only [chk_T, okI_t, okI_f, okI_nN, b2i_t, b2i_f, ifTT, ifFT, ite_true, ite_false, nI_c, bnd_s, bnd2_s, stp_s, ifLE_t, ifLE_f, ifLT_t, ifLT_f, ifE_t, ifE_f, if0_t, if0_f, ifn0, ifp0, ifl0_t, ifl0_f, ifg0_t, ifg0_f, ifnE, ifnE2, ifNE_t, ifNE_f, ifN0, ifNl, ifNp, ifB, nI_A, nI_S, nI_M, mu_s, mu_k, mu_n, mcp_n, X4_isInOrder_f hg hR hBV.1 v3.dj (show s < 12 by omega) hQ, X9_isInOrder_f hg hRM hBV.1 hM.1 c3 hy.2.2 (show s < 12 by omega) (fun z => hQ (heq.1 z)) (show tot A.2.2.1.1 < 1000 by omega)]
          exact ⟨_, rfl, rfl⟩
  · rw [show okI p ((A, ([] : List Fa), (none : Option Fa), ([] : List Int32)) : SS).1.1.length = false from c1, if_pos (show b2i false = 0 from rfl), if_pos (show b2i false = 0 from rfl)]
    exact ⟨_, rfl, rfl⟩
theorem q_piece (hg : 1000 ≤ g) (hC : FilmC σ (o + 1) A) (hM : FilmW (σ (m + 1)) A) (hV : FilmV n A) (hn : n < 1000000) (p q : Int32) : ∃ r, fX8_piece g σ o p q = some r ∧ fX9_piece g σ m p q = some r := by
  have l12 := hC.1.2.1
  obtain ⟨v1, v2, v3, v4, v5, v6, v7, v8⟩ := hV
  have hBV := v3.V v1 l12 hn
  have hR : RowC σ (o + 8) A.2.2.1.1 := hC.2.1.1
  have hRM : RowM σ m A.2.2.1.1 := hM.2.2.1
  have hl := hR.2.1
  unfold fX8_piece fX9_piece
  rw [X4_has hR, X9_isPiece hRM, bnd_s, bnd_s, X8_isWithin, X9_isIn, within_0 (by omega)]
  rcases okI_get (p := p) (L := A.2.2.1.1) (by omega) with ⟨x, i, rfl, c1, c2, -, c3, c4⟩ | ⟨c1, c2⟩
  · rw [c4, if_neg (show ¬ b2i true = 0 by decide), if_neg (show ¬ b2i true = 0 by decide), bnd_s, bnd_s]
    cases cq : okI q (4 + 1) with
    | false =>
      rw [if_pos (show b2i false = 0 from rfl), if_pos (show b2i false = 0 from rfl)]
      exact ⟨_, rfl, rfl⟩
    | true =>
      obtain ⟨k, k1, k2, rfl, k4⟩ := okI_of cq
      rw [if_neg (show ¬ b2i true = 0 by decide), if_neg (show ¬ b2i true = 0 by decide)]
      obtain ⟨e1, e2, e3, e4⟩ := hR.2.2 i x c3
      rcases (by omega : k = 0 ∨ k = 1 ∨ k = 2 ∨ k = 3 ∨ k = 4) with rfl | rfl | rfl | rfl | rfl
      · unfold fX4_tell
        simp (disch := omega) only [chk_T, okI_t, okI_f, okI_nN, b2i_t, b2i_f, ifTT, ifFT, ite_true, ite_false, nI_c, bnd_s, bnd2_s, stp_s, ifLE_t, ifLE_f, ifLT_t, ifLT_f, ifE_t, ifE_f, if0_t, if0_f, ifn0, ifp0, ifl0_t, ifl0_f, ifg0_t, ifg0_f, ifnE, ifnE2, ifNE_t, ifNE_f, ifN0, ifNl, ifNp, ifB, nI_A, nI_S, nI_M, mu_s, mu_k, mu_n, mcp_n, X9_ofP hRM c3, e1, e2, e3, e4, pcc]
        exact ⟨_, rfl, rfl⟩
      · unfold fX4_tell
        simp (disch := omega) only [chk_T, okI_t, okI_f, okI_nN, b2i_t, b2i_f, ifTT, ifFT, ite_true, ite_false, nI_c, bnd_s, bnd2_s, stp_s, ifLE_t, ifLE_f, ifLT_t, ifLT_f, ifE_t, ifE_f, if0_t, if0_f, ifn0, ifp0, ifl0_t, ifl0_f, ifg0_t, ifg0_f, ifnE, ifnE2, ifNE_t, ifNE_f, ifN0, ifNl, ifNp, ifB, nI_A, nI_S, nI_M, mu_s, mu_k, mu_n, mcp_n, X9_ofP hRM c3, e1, e2, e3, e4, pcc]
        exact ⟨_, rfl, rfl⟩
      · unfold fX4_tell
        simp (disch := omega) only [chk_T, okI_t, okI_f, okI_nN, b2i_t, b2i_f, ifTT, ifFT, ite_true, ite_false, nI_c, bnd_s, bnd2_s, stp_s, ifLE_t, ifLE_f, ifLT_t, ifLT_f, ifE_t, ifE_f, if0_t, if0_f, ifn0, ifp0, ifl0_t, ifl0_f, ifg0_t, ifg0_f, ifnE, ifnE2, ifNE_t, ifNE_f, ifN0, ifNl, ifNp, ifB, nI_A, nI_S, nI_M, mu_s, mu_k, mu_n, mcp_n, X9_ofP hRM c3, e1, e2, e3, e4, pcc]
        exact ⟨_, rfl, rfl⟩
      · simp (disch := omega) only [chk_T, okI_t, okI_f, okI_nN, b2i_t, b2i_f, ifTT, ifFT, ite_true, ite_false, nI_c, bnd_s, bnd2_s, stp_s, ifLE_t, ifLE_f, ifLT_t, ifLT_f, ifE_t, ifE_f, if0_t, if0_f, ifn0, ifp0, ifl0_t, ifl0_f, ifg0_t, ifg0_f, ifnE, ifnE2, ifNE_t, ifNE_f, ifN0, ifNl, ifNp, ifB, nI_A, nI_S, nI_M, mu_s, mu_k, mu_n, mcp_n, X4_startOf hg hR hBV.1 (show i ≤ A.2.2.1.1.length by omega), X9_positionOf hg hRM hBV.1 (show i ≤ A.2.2.1.1.length by omega)]
        exact ⟨_, rfl, rfl⟩
      · simp (disch := omega) only [chk_T, okI_t, okI_f, okI_nN, b2i_t, b2i_f, ifTT, ifFT, ite_true, ite_false, nI_c, bnd_s, bnd2_s, stp_s, ifLE_t, ifLE_f, ifLT_t, ifLT_f, ifE_t, ifE_f, if0_t, if0_f, ifn0, ifp0, ifl0_t, ifl0_f, ifg0_t, ifg0_f, ifnE, ifnE2, ifNE_t, ifNE_f, ifN0, ifNl, ifNp, ifB, nI_A, nI_S, nI_M, mu_s, mu_k, mu_n, mcp_n, X9_ofP hRM c3, pcc]
        rw [show σ (o + 12) i = nI x.2.2.2 from e4]
        exact ⟨_, rfl, rfl⟩
  · rw [c1, if_pos (show b2i false = 0 from rfl), if_pos (show b2i false = 0 from rfl)]
    exact ⟨_, rfl, rfl⟩
theorem q_canned (hC : FilmC σ (o + 1) A) (hM : FilmW (σ (m + 1)) A) (p q : Int32) : ∃ r, fX8_canned g σ o p q = some r ∧ fX9_canned g σ m p q = some r := by
  have hR : RowC σ (o + 13) A.2.2.1.2 := hC.2.1.2
  have hRM : CanM σ m A.2.2.1.2 := hM.2.2.2.1
  have hl := hR.2.1
  have h2 : σ (m + 1) 2 = nI A.2.2.1.2.length := hRM.1
  unfold fX8_canned fX9_canned
  rw [X4_has hR, bnd_s, okI_t (by omega) (by omega), chk_T, nI_c (by omega), h2, X9_isIn, in_sub1 (by omega), bnd_s, X8_isWithin, X9_isIn, within_0 (by omega)]
  rcases okI_get (p := p) (L := A.2.2.1.2) (by omega) with ⟨x, i, rfl, c1, c2, -, c3, c4⟩ | ⟨c1, c2⟩
  · rw [c4, if_neg (show ¬ b2i true = 0 by decide), if_neg (show ¬ b2i true = 0 by decide), bnd_s, bnd_s]
    cases cq : okI q (2 + 1) with
    | false =>
      rw [if_pos (show b2i false = 0 from rfl), if_pos (show b2i false = 0 from rfl)]
      exact ⟨_, rfl, rfl⟩
    | true =>
      obtain ⟨k, k1, k2, rfl, k4⟩ := okI_of cq
      rw [if_neg (show ¬ b2i true = 0 by decide), if_neg (show ¬ b2i true = 0 by decide)]
      obtain ⟨e1, e2, e3, e4⟩ := hR.2.2 i x c3
      unfold fX4_tell
      rcases (by omega : k = 0 ∨ k = 1 ∨ k = 2) with rfl | rfl | rfl
      · simp (disch := omega) only [chk_T, okI_t, okI_f, okI_nN, b2i_t, b2i_f, ifTT, ifFT, ite_true, ite_false, nI_c, bnd_s, bnd2_s, stp_s, ifLE_t, ifLE_f, ifLT_t, ifLT_f, ifE_t, ifE_f, if0_t, if0_f, ifn0, ifp0, ifl0_t, ifl0_f, ifg0_t, ifg0_f, ifnE, ifnE2, ifNE_t, ifNE_f, ifN0, ifNl, ifNp, ifB, nI_A, nI_S, nI_M, mu_s, mu_k, mu_n, mcp_n, X9_ofC hRM c3, e1, e2, e3, e4, pcc]
        exact ⟨_, rfl, rfl⟩
      · simp (disch := omega) only [chk_T, okI_t, okI_f, okI_nN, b2i_t, b2i_f, ifTT, ifFT, ite_true, ite_false, nI_c, bnd_s, bnd2_s, stp_s, ifLE_t, ifLE_f, ifLT_t, ifLT_f, ifE_t, ifE_f, if0_t, if0_f, ifn0, ifp0, ifl0_t, ifl0_f, ifg0_t, ifg0_f, ifnE, ifnE2, ifNE_t, ifNE_f, ifN0, ifNl, ifNp, ifB, nI_A, nI_S, nI_M, mu_s, mu_k, mu_n, mcp_n, X9_ofC hRM c3, e1, e2, e3, e4, pcc]
        exact ⟨_, rfl, rfl⟩
      · simp (disch := omega) only [chk_T, okI_t, okI_f, okI_nN, b2i_t, b2i_f, ifTT, ifFT, ite_true, ite_false, nI_c, bnd_s, bnd2_s, stp_s, ifLE_t, ifLE_f, ifLT_t, ifLT_f, ifE_t, ifE_f, if0_t, if0_f, ifn0, ifp0, ifl0_t, ifl0_f, ifg0_t, ifg0_f, ifnE, ifnE2, ifNE_t, ifNE_f, ifN0, ifNl, ifNp, ifB, nI_A, nI_S, nI_M, mu_s, mu_k, mu_n, mcp_n, X9_ofC hRM c3, e1, e2, e3, e4, pcc]
        exact ⟨_, rfl, rfl⟩
  · rw [c1, if_pos (show b2i false = 0 from rfl), if_pos (show b2i false = 0 from rfl)]
    exact ⟨_, rfl, rfl⟩
theorem q_frameAt (hg : 1000 ≤ g) (hC : FilmC σ (o + 1) A) (hM : FilmW (σ (m + 1)) A) (hV : FilmV n A) (hn : n < 1000000) (p : Int32) : ∃ r, fX8_frameAt g σ o p = some r ∧ fX9_frameAt g σ m p = some r := by
  have l12 := hC.1.2.1
  obtain ⟨v1, v2, v3, v4, v5, v6, v7, v8⟩ := hV
  have hBV := v3.V v1 l12 hn
  have htot := v3.tot
  have hfs := fsum_le A.1 v1
  have hR : RowC σ (o + 8) A.2.2.1.1 := hC.2.1.1
  have hRM : RowM σ m A.2.2.1.1 := hM.2.2.1
  have hl := hR.2.1
  unfold fX8_frameAt fX9_frameAt
  by_cases c : p < 0
  · rw [if_neg (Int32.not_le.mpr c), if_neg (Int32.not_le.mpr c)]
    exact ⟨_, rfl, rfl⟩
  · obtain ⟨j, hj, rfl⟩ := nI_of c
    rw [if_pos (Int32.not_lt.mp c), if_pos (Int32.not_lt.mp c), X4_pieceAt hg hR hBV.1 (by omega), bnd_s, X9_onReel hg hRM hBV.1, bnd_s, X4_has hR, bnd_s]
    by_cases c2 : j < tot A.2.2.1.1
    · obtain ⟨q1, q2, q3⟩ := pAt_spec A.2.2.1.1 j c2
      obtain ⟨x, hx⟩ := get_of q1
      obtain ⟨e1, e2, e3, e4⟩ := hR.2.2 _ x hx
      have e1 : σ (o + 9) (pAt A.2.2.1.1 j) = nI x.1 := e1
      have e2 : σ (o + 10) (pAt A.2.2.1.1 j) = nI x.2.1 := e2
      rw [if_pos c2, okI_t q1 (by omega), if_neg (show ¬ b2i true = 0 by decide), ifLT_t c2 (by omega), X9_pieceAt hg hRM hBV.1 c2]
      simp (disch := omega) only [chk_T, okI_t, okI_f, okI_nN, b2i_t, b2i_f, ifTT, ifFT, ite_true, ite_false, nI_c, bnd_s, bnd2_s, stp_s, ifLE_t, ifLE_f, ifLT_t, ifLT_f, ifE_t, ifE_f, if0_t, if0_f, ifn0, ifp0, ifl0_t, ifl0_f, ifg0_t, ifg0_f, ifnE, ifnE2, ifNE_t, ifNE_f, ifN0, ifNl, ifNp, ifB, nI_A, nI_S, nI_M, mu_s, mu_k, mu_n, mcp_n, X4_startOf hg hR hBV.1 (show pAt A.2.2.1.1 j ≤ A.2.2.1.1.length by omega), e1, e2, X9_ofP hRM hx, pcc, X9_positionOf hg hRM hBV.1 (show pAt A.2.2.1.1 j ≤ A.2.2.1.1.length by omega), X8_codeOf]
      exact ⟨_, rfl, by rw [show 100 * x.1 + x.2.1 + j - posOf A.2.2.1.1 (pAt A.2.2.1.1 j) = 100 * x.1 + (x.2.1 + j - posOf A.2.2.1.1 (pAt A.2.2.1.1 j)) by omega]⟩
    · rw [if_neg c2, okI_nN (by omega) (by omega), if_pos (show b2i false = 0 from rfl), ifLT_f (by omega) (by omega)]
      exact ⟨_, rfl, rfl⟩
theorem q_frame (hg : 1000 ≤ g) (hC : FilmC σ (o + 1) A) (hM : FilmW (σ (m + 1)) A) (hV : FilmV n A) (hn : n < 1000000) (p q r : Int32) : ∃ v, fX8_frame g σ o p q r = some v ∧ fX9_frame g σ m p q r = some v := by
  have l12 := hC.1.2.1
  obtain ⟨v1, v2, v3, v4, v5, v6, v7, v8⟩ := hV
  have hBV := v3.V v1 l12 hn
  have hSt : StockC σ (o + 2) A.1 A.2.1 := hC.1
  have hR : RowC σ (o + 8) A.2.2.1.1 := hC.2.1.1
  have hRM : RowM σ m A.2.2.1.1 := hM.2.2.1
  unfold fX8_frame fX9_frame
  rw [X6_hasFrame hSt v1, X9_isFrame (S := (A, [], none, [])) hM v1, bnd_s, bnd_s, X8_isWithin, within_0 (by omega)]
  have eA : isFr ((A, ([] : List Fa), (none : Option Fa), ([] : List Int32)) : SS).1.1 p q = isFr A.1 p q := rfl
  rw [eA]
  cases c1 : isFr A.1 p q with
  | false =>
    rw [if_pos (show b2i false = 0 from rfl), if_pos (show b2i false = 0 from rfl)]
    exact ⟨_, rfl, rfl⟩
  | true =>
    obtain ⟨a, b, y, y1, y2, rfl, rfl, ca, cb⟩ := isFr_of c1
    have ya := lt_of_get y1
    have y3 := v1 a y y1
    rw [if_neg (show ¬ b2i true = 0 by decide), if_neg (show ¬ b2i true = 0 by decide), bnd_s]
    cases cq : okI r (3 + 1) with
    | false =>
      rw [if_pos (show b2i false = 0 from rfl), if_neg (ne_of cq (by omega) (by omega)), if_neg (ne_of cq (by omega) (by omega)), if_neg (ne_of cq (by omega) (by omega)), if_neg (ne_of cq (by omega) (by omega))]
      exact ⟨_, rfl, rfl⟩
    | true =>
      obtain ⟨k, k1, k2, rfl, k4⟩ := okI_of cq
      obtain ⟨e5, e6⟩ := hC.1.2.2.2 (40 * a + b) (by omega)
      have e5 : σ (o + 5) (40 * a + b) = nI (A.2.1.1 (40 * a + b)) := e5
      have e6 : σ (o + 6) (40 * a + b) = A.2.1.2 (40 * a + b) := e6
      have hgd := gd_le (t := A.2.1.1) (k := 40 * a + b)
      rw [if_neg (show ¬ b2i true = 0 by decide), X8_slotOf, bnd_s]
      rcases (by omega : k = 0 ∨ k = 1 ∨ k = 2 ∨ k = 3) with rfl | rfl | rfl | rfl
      · simp (disch := omega) only [chk_T, okI_t, okI_f, okI_nN, b2i_t, b2i_f, ifTT, ifFT, ite_true, ite_false, nI_c, bnd_s, bnd2_s, stp_s, ifLE_t, ifLE_f, ifLT_t, ifLT_f, ifE_t, ifE_f, if0_t, if0_f, ifn0, ifp0, ifl0_t, ifl0_f, ifg0_t, ifg0_f, ifnE, ifnE2, ifNE_t, ifNE_f, ifN0, ifNl, ifNp, ifB, nI_A, nI_S, nI_M, mu_s, mu_k, mu_n, mcp_n, X4_positionOf hg hR hBV.1 (show a < 12 by omega) (show b < 40 by omega), X9_placeOf hg hRM hBV.1 (show a < 12 by omega) (show b < 40 by omega)]
        exact ⟨_, rfl, rfl⟩
      · simp (disch := omega) only [chk_T, okI_t, okI_f, okI_nN, b2i_t, b2i_f, ifTT, ifFT, ite_true, ite_false, nI_c, bnd_s, bnd2_s, stp_s, ifLE_t, ifLE_f, ifLT_t, ifLT_f, ifE_t, ifE_f, if0_t, if0_f, ifn0, ifp0, ifl0_t, ifl0_f, ifg0_t, ifg0_f, ifnE, ifnE2, ifNE_t, ifNE_f, ifN0, ifNl, ifNp, ifB, nI_A, nI_S, nI_M, mu_s, mu_k, mu_n, mcp_n, e5, X9_torn hM.2.1 (show 40 * a + b < 480 by omega)]
        exact ⟨_, rfl, rfl⟩
      · simp (disch := omega) only [chk_T, okI_t, okI_f, okI_nN, b2i_t, b2i_f, ifTT, ifFT, ite_true, ite_false, nI_c, bnd_s, bnd2_s, stp_s, ifLE_t, ifLE_f, ifLT_t, ifLT_f, ifE_t, ifE_f, if0_t, if0_f, ifn0, ifp0, ifl0_t, ifl0_f, ifg0_t, ifg0_f, ifnE, ifnE2, ifNE_t, ifNE_f, ifN0, ifNl, ifNp, ifB, nI_A, nI_S, nI_M, mu_s, mu_k, mu_n, mcp_n, e6, X9_passes hM.2.1 (show 40 * a + b < 480 by omega)]
        exact ⟨_, rfl, rfl⟩
      · simp (disch := omega) only [chk_T, okI_t, okI_f, okI_nN, b2i_t, b2i_f, ifTT, ifFT, ite_true, ite_false, nI_c, bnd_s, bnd2_s, stp_s, ifLE_t, ifLE_f, ifLT_t, ifLT_f, ifE_t, ifE_f, if0_t, if0_f, ifn0, ifp0, ifl0_t, ifl0_f, ifg0_t, ifg0_f, ifnE, ifnE2, ifNE_t, ifNE_f, ifN0, ifNl, ifNp, ifB, nI_A, nI_S, nI_M, mu_s, mu_k, mu_n, mcp_n, X6_goodHoles hSt (show 40 * a + b < 480 by omega) v2, X9_good hg hM.2.1 (show 40 * a + b < 480 by omega) v2]
        exact ⟨_, rfl, rfl⟩
theorem q_show (hC : FilmC σ (o + 1) A) (hM : FilmW (σ (m + 1)) A) (p q : Int32) : ∃ v, fX8_show g σ o p q = some v ∧ fX9_show g σ m p q = some v := by
  have l10 := hC.2.2.1.1
  unfold fX8_show fX9_show
  rw [X2_hasShow hC, X9_isShow hM, bnd_s, bnd_s, X8_isWithin, X9_isIn, within_0 (by omega)]
  rcases okI_get (p := p) (L := A.2.2.2.1) (by omega) with ⟨s, i, rfl, c1, c2, -, c3, c4⟩ | ⟨c1, c2⟩
  · rw [c4, if_neg (show ¬ b2i true = 0 by decide), if_neg (show ¬ b2i true = 0 by decide), bnd_s, bnd_s]
    cases cq : okI q (7 + 1) with
    | false =>
      rw [if_pos (show b2i false = 0 from rfl), if_pos (show b2i false = 0 from rfl)]
      exact ⟨_, rfl, rfl⟩
    | true =>
      obtain ⟨k, k1, k2, rfl, k4⟩ := okI_of cq
      have hS : ShowC σ (o + 18 + 5 + 3 * i) s := hC.2.2.1.2 i s c3
      have hW := hM.2.2.2.2.1.2.2 i s c3
      have e : σ (o + 18 + 5 + 3 * i + 1) k = σ (m + 1) (1132 + 488 * i + k) := by
        by_cases z : k = 0
        · subst z
          rw [hS.1]
          exact hW.1.symm
        · rw [hS.2.2.1 k (by omega) (by omega)]
          exact (hW.2.2.1 k (by omega) (by omega)).symm
      rw [if_neg (show ¬ b2i true = 0 by decide), if_neg (show ¬ b2i true = 0 by decide), X9_ofS hM c3 (by omega)]
      simp (disch := omega) only [chk_T, okI_t, okI_f, okI_nN, b2i_t, b2i_f, ifTT, ifFT, ite_true, ite_false, nI_c, bnd_s, bnd2_s, stp_s, ifLE_t, ifLE_f, ifLT_t, ifLT_f, ifE_t, ifE_f, if0_t, if0_f, ifn0, ifp0, ifl0_t, ifl0_f, ifg0_t, ifg0_f, ifnE, ifnE2, ifNE_t, ifNE_f, ifN0, ifNl, ifNp, ifB, nI_A, nI_S, nI_M, mu_s, mu_k, mu_n, mcp_n, e]
      exact ⟨_, rfl, rfl⟩
  · rw [c1, if_pos (show b2i false = 0 from rfl), if_pos (show b2i false = 0 from rfl)]
    exact ⟨_, rfl, rfl⟩
theorem X5_hasUnit_b {q : Nat} {s : Sw} (h : ShowC σ q s) (p : Int32) : fX5_hasUnit g σ q p = some (b2i (okI p s.1.length)) := by
  have hl := h.2.1
  unfold fX5_hasUnit
  by_cases c : p < 0
  · rw [if_pos c, show okI p s.1.length = false by unfold okI; rw [decide_eq_true c]; rfl]; rfl
  · obtain ⟨j, hj, rfl⟩ := nI_of c
    rw [if_neg c, show okI (nI j) s.1.length = decide (j < s.1.length) from okI_nI (by omega)]
    simp (disch := omega) only [chk_T, okI_t, okI_f, okI_nN, b2i_t, b2i_f, ifTT, ifFT, ite_true, ite_false, nI_c, bnd_s, bnd2_s, stp_s, ifLE_t, ifLE_f, ifLT_t, ifLT_f, ifE_t, ifE_f, if0_t, if0_f, ifn0, ifp0, ifl0_t, ifl0_f, ifg0_t, ifg0_f, ifnE, ifnE2, ifNE_t, ifNE_f, ifN0, ifNl, ifNp, ifB, nI_A, nI_S, nI_M, mu_s, mu_k, mu_n, mcp_n, h.1]
    by_cases c2 : s.1.length ≤ j
    · rw [ifLE_t c2 (by omega), decide_eq_false (by omega)]; rfl
    · rw [ifLE_f (by omega) (by omega), ifLE_f (by omega) (by omega), decide_eq_true (by omega)]; rfl
theorem q_seen (hC : FilmC σ (o + 1) A) (hM : FilmW (σ (m + 1)) A) (p q : Int32) : ∃ v, fX8_seen g σ o p q = some v ∧ fX9_seen g σ m p q = some v := by
  have l10 := hC.2.2.1.1
  unfold fX8_seen fX9_seen
  rw [X2_hasShow hC, X9_isShow hM, bnd_s, bnd_s]
  rcases okI_get (p := p) (L := A.2.2.2.1) (by omega) with ⟨s, i, rfl, c1, c2, -, c3, c4⟩ | ⟨c1, c2⟩
  · have hS : ShowC σ (o + 18 + 5 + 3 * i) s := hC.2.2.1.2 i s c3
    have hW := hM.2.2.2.2.1.2.2 i s c3
    have e0 : σ (m + 1) (1132 + 488 * i + 0) = nI s.1.length := hW.1
    have hl := hS.2.1
    rw [c4, if_neg (show ¬ b2i true = 0 by decide), if_neg (show ¬ b2i true = 0 by decide), X9_ofS hM c3 (by omega), bnd_s, e0, X9_isIn, in_sub1 (by omega), bnd_s, okI_t (by omega) (by omega), chk_T, stp_s, nI_c (by omega), X5_hasUnit_b hS, bnd_s]
    cases cq : okI q s.1.length with
    | false =>
      rw [if_pos (show b2i false = 0 from rfl), if_pos (show b2i false = 0 from rfl)]
      exact ⟨_, rfl, rfl⟩
    | true =>
      obtain ⟨k, k1, k2, rfl, k4⟩ := okI_of cq
      obtain ⟨c, hc⟩ := get_of k1
      have e := hS.2.2.2 k c hc
      rw [if_neg (show ¬ b2i true = 0 by decide), if_neg (show ¬ b2i true = 0 by decide), nI_A, X9_unit hM c3 hc]
      simp (disch := omega) only [chk_T, okI_t, okI_f, okI_nN, b2i_t, b2i_f, ifTT, ifFT, ite_true, ite_false, nI_c, bnd_s, bnd2_s, stp_s, ifLE_t, ifLE_f, ifLT_t, ifLT_f, ifE_t, ifE_f, if0_t, if0_f, ifn0, ifp0, ifl0_t, ifl0_f, ifg0_t, ifg0_f, ifnE, ifnE2, ifNE_t, ifNE_f, ifN0, ifNl, ifNp, ifB, nI_A, nI_S, nI_M, mu_s, mu_k, mu_n, mcp_n, e]
      exact ⟨_, rfl, rfl⟩
  · rw [c1, if_pos (show b2i false = 0 from rfl), if_pos (show b2i false = 0 from rfl)]
    exact ⟨_, rfl, rfl⟩
theorem q_witness (hg : 1000 ≤ g) (hC : FilmC σ (o + 1) A) (hM : FilmW (σ (m + 1)) A) (hV : FilmV n A) (p q : Int32) : ∃ v, fX8_witness g σ o p q = some v ∧ fX9_witness g σ m p q = some v := by
  have hW : WitC σ (o + 19) A.2.2.2.2.1 := hC.2.2.2.1
  have l8 := hW.2.1
  have l10 := hC.2.2.1.1
  unfold fX8_witness fX9_witness
  rw [X7_has hW, X9_isWitness hM, bnd_s, bnd_s, X8_isWithin, within_0 (by omega)]
  rcases okI_get (p := p) (L := A.2.2.2.2.1) (by omega) with ⟨x, i, rfl, c1, c2, -, c3, c4⟩ | ⟨c1, c2⟩
  · obtain ⟨s, hs, h1, h2⟩ := hV.2.2.2.2.1 i x c3
    have hU := hV.2.2.2.1 _ s hs
    have hxs := lt_of_get hs
    have hS : ShowC σ (o + 18 + 5 + 3 * x.1) s := hC.2.2.1.2 x.1 s hs
    have hl := hS.2.1
    obtain ⟨e1, e2, e3⟩ := hW.2.2 i x c3
    have e1 : σ (o + 20) i = nI x.1 := e1
    have e2 : σ (o + 21) i = nI x.2.1 := e2
    have e3 : σ (o + 22) i = nI x.2.2 := e3
    obtain ⟨w0, w1, w2⟩ := X9_ofW (g := g) hM c3
    rw [c4, if_neg (show ¬ b2i true = 0 by decide), if_neg (show ¬ b2i true = 0 by decide), bnd_s]
    cases cq : okI q (5 + 1) with
    | false =>
      rw [if_pos (show b2i false = 0 from rfl), if_neg (ne_of cq (by omega) (by omega)), if_neg (ne_of cq (by omega) (by omega)), if_neg (ne_of cq (by omega) (by omega)), if_neg (ne_of cq (by omega) (by omega)), if_neg (ne_of cq (by omega) (by omega)), if_neg (ne_of cq (by omega) (by omega))]
      exact ⟨_, rfl, rfl⟩
    | true =>
      obtain ⟨k, k1, k2, rfl, k4⟩ := okI_of cq
      rw [if_neg (show ¬ b2i true = 0 by decide)]
      have f1 := X5_shownWithin (g := g) hg hS hU (Nat.le_of_lt h1) h2
      have f2 := X5_scenesWithin (g := g) hg hS hU (Nat.le_of_lt h1) h2
      have f3 := X9_framesBy (g := g) hg hM c3 hs hU (Nat.le_of_lt h1) h2
      have f4 := X9_scenesBy (g := g) hg hM c3 hs hU (Nat.le_of_lt h1) h2
      rcases (by omega : k = 0 ∨ k = 1 ∨ k = 2 ∨ k = 3 ∨ k = 4 ∨ k = 5) with rfl | rfl | rfl | rfl | rfl | rfl
      · simp (disch := omega) only [chk_T, okI_t, okI_f, okI_nN, b2i_t, b2i_f, ifTT, ifFT, ite_true, ite_false, nI_c, bnd_s, bnd2_s, stp_s, ifLE_t, ifLE_f, ifLT_t, ifLT_f, ifE_t, ifE_f, if0_t, if0_f, ifn0, ifp0, ifl0_t, ifl0_f, ifg0_t, ifg0_f, ifnE, ifnE2, ifNE_t, ifNE_f, ifN0, ifNl, ifNp, ifB, nI_A, nI_S, nI_M, mu_s, mu_k, mu_n, mcp_n, e1, e2, e3, w0]
        exact ⟨_, rfl, rfl⟩
      · simp (disch := omega) only [chk_T, okI_t, okI_f, okI_nN, b2i_t, b2i_f, ifTT, ifFT, ite_true, ite_false, nI_c, bnd_s, bnd2_s, stp_s, ifLE_t, ifLE_f, ifLT_t, ifLT_f, ifE_t, ifE_f, if0_t, if0_f, ifn0, ifp0, ifl0_t, ifl0_f, ifg0_t, ifg0_f, ifnE, ifnE2, ifNE_t, ifNE_f, ifN0, ifNl, ifNp, ifB, nI_A, nI_S, nI_M, mu_s, mu_k, mu_n, mcp_n, e1, e2, e3, w1]
        exact ⟨_, rfl, rfl⟩
      · simp (disch := omega) only [chk_T, okI_t, okI_f, okI_nN, b2i_t, b2i_f, ifTT, ifFT, ite_true, ite_false, nI_c, bnd_s, bnd2_s, stp_s, ifLE_t, ifLE_f, ifLT_t, ifLT_f, ifE_t, ifE_f, if0_t, if0_f, ifn0, ifp0, ifl0_t, ifl0_f, ifg0_t, ifg0_f, ifnE, ifnE2, ifNE_t, ifNE_f, ifN0, ifNl, ifNp, ifB, nI_A, nI_S, nI_M, mu_s, mu_k, mu_n, mcp_n, e1, e2, e3, w2]
        exact ⟨_, rfl, rfl⟩
      · simp (disch := omega) only [chk_T, okI_t, okI_f, okI_nN, b2i_t, b2i_f, ifTT, ifFT, ite_true, ite_false, nI_c, bnd_s, bnd2_s, stp_s, ifLE_t, ifLE_f, ifLT_t, ifLT_f, ifE_t, ifE_f, if0_t, if0_f, ifn0, ifp0, ifl0_t, ifl0_f, ifg0_t, ifg0_f, ifnE, ifnE2, ifNE_t, ifNE_f, ifN0, ifNl, ifNp, ifB, nI_A, nI_S, nI_M, mu_s, mu_k, mu_n, mcp_n, e1, e2, e3, f1, f3]
        exact ⟨_, rfl, rfl⟩
      · simp (disch := omega) only [chk_T, okI_t, okI_f, okI_nN, b2i_t, b2i_f, ifTT, ifFT, ite_true, ite_false, nI_c, bnd_s, bnd2_s, stp_s, ifLE_t, ifLE_f, ifLT_t, ifLT_f, ifE_t, ifE_f, if0_t, if0_f, ifn0, ifp0, ifl0_t, ifl0_f, ifg0_t, ifg0_f, ifnE, ifnE2, ifNE_t, ifNE_f, ifN0, ifNl, ifNp, ifB, nI_A, nI_S, nI_M, mu_s, mu_k, mu_n, mcp_n, e1, e2, e3, f1, f3, w1, w2]
        exact ⟨_, rfl, rfl⟩
      · simp (disch := omega) only [chk_T, okI_t, okI_f, okI_nN, b2i_t, b2i_f, ifTT, ifFT, ite_true, ite_false, nI_c, bnd_s, bnd2_s, stp_s, ifLE_t, ifLE_f, ifLT_t, ifLT_f, ifE_t, ifE_f, if0_t, if0_f, ifn0, ifp0, ifl0_t, ifl0_f, ifg0_t, ifg0_f, ifnE, ifnE2, ifNE_t, ifNE_f, ifN0, ifNl, ifNp, ifB, nI_A, nI_S, nI_M, mu_s, mu_k, mu_n, mcp_n, e1, e2, e3, f2, f4]
        exact ⟨_, rfl, rfl⟩
  · rw [c1, if_pos (show b2i false = 0 from rfl), if_pos (show b2i false = 0 from rfl)]
    exact ⟨_, rfl, rfl⟩
theorem q_saw (hg : 1000 ≤ g) (hC : FilmC σ (o + 1) A) (hM : FilmW (σ (m + 1)) A) (hV : FilmV n A) (p q : Int32) : ∃ v, fX8_saw g σ o p q = some v ∧ fX9_saw g σ m p q = some v := by
  have hW : WitC σ (o + 19) A.2.2.2.2.1 := hC.2.2.2.1
  have l8 := hW.2.1
  have l10 := hC.2.2.1.1
  have l12 := hC.1.2.1
  have hSt : StockC σ (o + 2) A.1 A.2.1 := hC.1
  unfold fX8_saw fX9_saw
  rw [X7_has hW, X9_isWitness hM, bnd_s, bnd_s, X6_hasScene hSt, X9_isScene (S := (A, [], none, [])) hM]
  have eA : okI q ((A, ([] : List Fa), (none : Option Fa), ([] : List Int32)) : SS).1.1.length = okI q A.1.length := rfl
  rw [eA]
  rcases okI_get (p := p) (L := A.2.2.2.2.1) (by omega) with ⟨x, i, rfl, c1, c2, -, c3, c4⟩ | ⟨c1, c2⟩
  · obtain ⟨s, hs, h1, h2⟩ := hV.2.2.2.2.1 i x c3
    have hU := hV.2.2.2.1 _ s hs
    have hxs := lt_of_get hs
    have hS : ShowC σ (o + 18 + 5 + 3 * x.1) s := hC.2.2.1.2 x.1 s hs
    have hl := hS.2.1
    obtain ⟨e1, e2, e3⟩ := hW.2.2 i x c3
    have e1 : σ (o + 20) i = nI x.1 := e1
    have e2 : σ (o + 21) i = nI x.2.1 := e2
    have e3 : σ (o + 22) i = nI x.2.2 := e3
    rw [c4, if_neg (show ¬ b2i true = 0 by decide), if_neg (show ¬ b2i true = 0 by decide), bnd_s, bnd_s]
    cases cq : okI q A.1.length with
    | false =>
      rw [if_pos (show b2i false = 0 from rfl), if_pos (show b2i false = 0 from rfl)]
      exact ⟨_, rfl, rfl⟩
    | true =>
      obtain ⟨k, k1, k2, rfl, k4⟩ := okI_of cq
      have f1 := X5_framesWithin (g := g) (p := k) hg hS hU (Nat.le_of_lt h1) h2 (by omega)
      have f3 := X9_sees (g := g) (p := k) hg hM c3 hs hU (Nat.le_of_lt h1) h2 (by omega)
      simp (disch := omega) only [chk_T, okI_t, okI_f, okI_nN, b2i_t, b2i_f, ifTT, ifFT, ite_true, ite_false, nI_c, bnd_s, bnd2_s, stp_s, ifLE_t, ifLE_f, ifLT_t, ifLT_f, ifE_t, ifE_f, if0_t, if0_f, ifn0, ifp0, ifl0_t, ifl0_f, ifg0_t, ifg0_f, ifnE, ifnE2, ifNE_t, ifNE_f, ifN0, ifNl, ifNp, ifB, nI_A, nI_S, nI_M, mu_s, mu_k, mu_n, mcp_n, e1, e2, e3, f1, f3]
      exact ⟨_, rfl, rfl⟩
  · rw [c1, if_pos (show b2i false = 0 from rfl), if_pos (show b2i false = 0 from rfl)]
    exact ⟨_, rfl, rfl⟩
theorem q_differ (hg : 1000 ≤ g) (hC : FilmC σ (o + 1) A) (hM : FilmW (σ (m + 1)) A) (hV : FilmV n A) (p q : Int32) : ∃ v, fX8_differ g σ o p q = some v ∧ fX9_differ g σ m p q = some v := by
  have hW : WitC σ (o + 19) A.2.2.2.2.1 := hC.2.2.2.1
  have l8 := hW.2.1
  have l10 := hC.2.2.1.1
  unfold fX8_differ fX9_differ
  simp only [X7_has hW, X9_isWitness hM, bnd_s]
  rcases okI_get (p := p) (L := A.2.2.2.2.1) (by omega) with ⟨x, i, rfl, c1, c2, -, c3, c4⟩ | ⟨c1, c2⟩
  · rw [c4, if_neg (show ¬ b2i true = 0 by decide), if_neg (show ¬ b2i true = 0 by decide)]
    rcases okI_get (p := q) (L := A.2.2.2.2.1) (by omega) with ⟨y, j, rfl, d1, d2, -, d3, d4⟩ | ⟨d1, d2⟩
    · obtain ⟨s, hs, h1, h2⟩ := hV.2.2.2.2.1 i x c3
      obtain ⟨u, hu, h3, h4⟩ := hV.2.2.2.2.1 j y d3
      have hU := hV.2.2.2.1 _ s hs
      have hUu := hV.2.2.2.1 _ u hu
      have hxs := lt_of_get hs
      have hyu := lt_of_get hu
      have hS : ShowC σ (o + 18 + 5 + 3 * x.1) s := hC.2.2.1.2 x.1 s hs
      obtain ⟨e1, e2, e3⟩ := hW.2.2 i x c3
      have e1 : σ (o + 20) i = nI x.1 := e1
      have e2 : σ (o + 21) i = nI x.2.1 := e2
      have e3 : σ (o + 22) i = nI x.2.2 := e3
      obtain ⟨g1, g2, g3⟩ := hW.2.2 j y d3
      have g1 : σ (o + 20) j = nI y.1 := g1
      have g2 : σ (o + 21) j = nI y.2.1 := g2
      have g3 : σ (o + 22) j = nI y.2.2 := g3
      obtain ⟨w0, w1, w2⟩ := X9_ofW (g := g) hM c3
      obtain ⟨z0, z1, z2⟩ := X9_ofW (g := g) hM d3
      rw [d4, if_neg (show ¬ b2i true = 0 by decide), if_neg (show ¬ b2i true = 0 by decide), w0, bnd_s, z0, bnd_s]
      simp (disch := omega) only [chk_T, okI_t, okI_f, okI_nN, b2i_t, b2i_f, ifTT, ifFT, ite_true, ite_false, nI_c, bnd_s, bnd2_s, stp_s, ifLE_t, ifLE_f, ifLT_t, ifLT_f, ifE_t, ifE_f, if0_t, if0_f, ifn0, ifp0, ifl0_t, ifl0_f, ifg0_t, ifg0_f, ifnE, ifnE2, ifNE_t, ifNE_f, ifN0, ifNl, ifNp, ifB, nI_A, nI_S, nI_M, mu_s, mu_k, mu_n, mcp_n, e1, g1]
      by_cases hxy : x.1 = y.1
      · have hus : u = s := by rw [← hxy, hs] at hu; exact (Option.some.inj hu).symm
        subst hus
        rw [if_pos (by rw [hxy]), if_pos (by rw [hxy])]
        have f1 := X5_scenesWithin (g := g) hg hS hU (Nat.le_of_lt h1) h2
        have f2 := X5_scenesWithin (g := g) hg hS hU (Nat.le_of_lt h3) h4
        have f3 := X9_scenesBy (g := g) hg hM c3 hs hU (Nat.le_of_lt h1) h2
        have f4 := X9_scenesBy (g := g) hg hM d3 hu hU (Nat.le_of_lt h3) h4
        have b1 := bitsF_lt hU (x.2.2 - x.2.1) x.2.1 0 (by omega)
        have b2 := bitsF_lt hU (y.2.2 - y.2.1) y.2.1 0 (by omega)
        have b3 : bitsF u x.2.1 (x.2.2 - x.2.1) 0 ^^^ bitsF u y.2.1 (y.2.2 - y.2.1) 0 < 4096 := Nat.xor_lt_two_pow (n := 12) b1 b2
        rw [e2, e3, f1, bnd_s, g2, g3, f2, bnd_s, f3, bnd_s, f4, bnd_s, nI_xor (by omega) (by omega), bitCount_12 _ b3, X9_ones hg (by omega)]
        exact ⟨_, rfl, rfl⟩
      · rw [if_neg (fun z => hxy ((nI_E (by omega) (by omega)).1 z)), if_neg (fun z => hxy ((nI_E (by omega) (by omega)).1 z))]
        exact ⟨_, rfl, rfl⟩
    · rw [d1, if_pos (show b2i false = 0 from rfl), if_pos (show b2i false = 0 from rfl)]
      exact ⟨_, rfl, rfl⟩
  · rw [c1, if_pos (show b2i false = 0 from rfl), if_pos (show b2i false = 0 from rfl)]
    exact ⟨_, rfl, rfl⟩
theorem q_count {S : SS} (hg : 1000 ≤ g) (hC : SysC σ o S) (hM : SysM σ m S) (hV : FilmV n S.1) (hn : n < 1000000) (p : Int32) : ∃ v, fX8_count g σ o p = some v ∧ fX9_count g σ m p = some v := by
  have hF := hC.1
  have hFM := hM.1
  have l12 := hF.1.2.1
  obtain ⟨v1, v2, v3, v4, v5, v6, v7, v8⟩ := hV
  have hBV := v3.V v1 l12 hn
  have hSt : StockC σ (o + 2) S.1.1 S.1.2.1 := hF.1
  have hR : RowC σ (o + 8) S.1.2.2.1.1 := hF.2.1.1
  have hCn : RowC σ (o + 13) S.1.2.2.1.2 := hF.2.1.2
  have hRM : RowM σ m S.1.2.2.1.1 := hFM.2.2.1
  have hCM : CanM σ m S.1.2.2.1.2 := hFM.2.2.2.1
  have a0 := hSt.1
  have a1 := hR.1
  have a2 := hCn.1
  have a5 : σ (o + 1) 4 = nI S.1.2.2.2.1.length := hF.2.2.2.2.1
  have a6 : σ (o + 19) 0 = nI S.1.2.2.2.2.1.length := hF.2.2.2.1.1
  obtain ⟨-, -, -, -, -, a7, a8, a9⟩ := hF
  have a12 : σ (o + 105) 0 = nI S.2.1.length := hC.2.1.1
  have a13 : σ (o + 315) 0 = nI S.2.2.2.length := hC.2.2.2.2.1
  have b0 := hFM.1.1
  have b1 : σ (m + 1) 1 = nI S.1.2.2.1.1.length := hRM.1
  have b2 : σ (m + 1) 2 = nI S.1.2.2.1.2.length := hCM.1
  have b3 : σ (m + 1) 3 = nI S.1.2.2.2.1.length := hFM.2.2.2.2.1.1
  have b4 : σ (m + 1) 4 = nI S.1.2.2.2.2.1.length := hFM.2.2.2.2.2.1.1
  obtain ⟨-, -, -, -, -, -, b5, b6, b7⟩ := hFM
  have b12 : σ m 2 = nI S.2.1.length := hM.2.1.1
  have b13 : σ m 6 = nI S.2.2.2.length := hM.2.2.2.2.1
  have n0 := hR.2.1
  have n1 := hCn.2.1
  unfold fX8_count fX9_count
  cases cq : okI p 14 with
  | false =>
    simp (disch := omega) only [if_neg (ne_of cq (show 0 < 14 by omega) (by omega)), if_neg (ne_of cq (show 1 < 14 by omega) (by omega)), if_neg (ne_of cq (show 2 < 14 by omega) (by omega)), if_neg (ne_of cq (show 3 < 14 by omega) (by omega)), if_neg (ne_of cq (show 4 < 14 by omega) (by omega)), if_neg (ne_of cq (show 5 < 14 by omega) (by omega)), if_neg (ne_of cq (show 6 < 14 by omega) (by omega)), if_neg (ne_of cq (show 7 < 14 by omega) (by omega)), if_neg (ne_of cq (show 8 < 14 by omega) (by omega)), if_neg (ne_of cq (show 9 < 14 by omega) (by omega)), if_neg (ne_of cq (show 10 < 14 by omega) (by omega)), if_neg (ne_of cq (show 11 < 14 by omega) (by omega)), if_neg (ne_of cq (show 12 < 14 by omega) (by omega)), if_neg (ne_of cq (show 13 < 14 by omega) (by omega))]
    exact ⟨_, rfl, rfl⟩
  | true =>
    obtain ⟨k, k1, k2, rfl, k4⟩ := okI_of cq
    have t1 := X6_allTornHoles_4 (g := g) hg hSt v1 v2 g 0 0 (by omega) (by omega)
    have t2 := X9_allTorn_4 (g := g) hg hM.1.1 hM.1.2.1 v1 v2 g 0 0 (by omega) (by omega)
    have t3 := X4_splicesFrom_4 (g := g) hR hBV.1 (lim := S.1.2.2.2.2.2.2.2) (by omega) g 1 0 (by omega) (by omega)
    have t4 := X9_breaks_4 (g := g) hRM hBV.1 (lim := S.1.2.2.2.2.2.2.2) (by omega) b7 g 1 0 (by omega) (by omega)
    have t5 := X4_allFrames (g := g) hg hR hBV.1
    have t6 := X9_onReel (g := g) hg hRM hBV.1
    have t7 := X4_allFrames (g := g) hg hCn hBV.2
    have t8 := X9_framesInCan (g := g) hg hCM hBV.2
    rcases (by omega : k = 0 ∨ k = 1 ∨ k = 2 ∨ k = 3 ∨ k = 4 ∨ k = 5 ∨ k = 6 ∨ k = 7 ∨ k = 8 ∨ k = 9 ∨ k = 10 ∨ k = 11 ∨ k = 12 ∨ k = 13) with rfl | rfl | rfl | rfl | rfl | rfl | rfl | rfl | rfl | rfl | rfl | rfl | rfl | rfl
    · simp (disch := omega) only [chk_T, okI_t, okI_f, okI_nN, b2i_t, b2i_f, ifTT, ifFT, ite_true, ite_false, nI_c, bnd_s, bnd2_s, stp_s, ifLE_t, ifLE_f, ifLT_t, ifLT_f, ifE_t, ifE_f, if0_t, if0_f, ifn0, ifp0, ifl0_t, ifl0_f, ifg0_t, ifg0_f, ifnE, ifnE2, ifNE_t, ifNE_f, ifN0, ifNl, ifNp, ifB, nI_A, nI_S, nI_M, mu_s, mu_k, mu_n, mcp_n, a0, b0]
      exact ⟨_, rfl, rfl⟩
    · simp (disch := omega) only [chk_T, okI_t, okI_f, okI_nN, b2i_t, b2i_f, ifTT, ifFT, ite_true, ite_false, nI_c, bnd_s, bnd2_s, stp_s, ifLE_t, ifLE_f, ifLT_t, ifLT_f, ifE_t, ifE_f, if0_t, if0_f, ifn0, ifp0, ifl0_t, ifl0_f, ifg0_t, ifg0_f, ifnE, ifnE2, ifNE_t, ifNE_f, ifN0, ifNl, ifNp, ifB, nI_A, nI_S, nI_M, mu_s, mu_k, mu_n, mcp_n, a1, b1]
      exact ⟨_, rfl, rfl⟩
    · simp (disch := omega) only [chk_T, okI_t, okI_f, okI_nN, b2i_t, b2i_f, ifTT, ifFT, ite_true, ite_false, nI_c, bnd_s, bnd2_s, stp_s, ifLE_t, ifLE_f, ifLT_t, ifLT_f, ifE_t, ifE_f, if0_t, if0_f, ifn0, ifp0, ifl0_t, ifl0_f, ifg0_t, ifg0_f, ifnE, ifnE2, ifNE_t, ifNE_f, ifN0, ifNl, ifNp, ifB, nI_A, nI_S, nI_M, mu_s, mu_k, mu_n, mcp_n, a2, b2]
      exact ⟨_, rfl, rfl⟩
    · simp (disch := omega) only [chk_T, okI_t, okI_f, okI_nN, b2i_t, b2i_f, ifTT, ifFT, ite_true, ite_false, nI_c, bnd_s, bnd2_s, stp_s, ifLE_t, ifLE_f, ifLT_t, ifLT_f, ifE_t, ifE_f, if0_t, if0_f, ifn0, ifp0, ifl0_t, ifl0_f, ifg0_t, ifg0_f, ifnE, ifnE2, ifNE_t, ifNE_f, ifN0, ifNl, ifNp, ifB, nI_A, nI_S, nI_M, mu_s, mu_k, mu_n, mcp_n, t5, t6]
      exact ⟨_, rfl, rfl⟩
    · simp (disch := omega) only [chk_T, okI_t, okI_f, okI_nN, b2i_t, b2i_f, ifTT, ifFT, ite_true, ite_false, nI_c, bnd_s, bnd2_s, stp_s, ifLE_t, ifLE_f, ifLT_t, ifLT_f, ifE_t, ifE_f, if0_t, if0_f, ifn0, ifp0, ifl0_t, ifl0_f, ifg0_t, ifg0_f, ifnE, ifnE2, ifNE_t, ifNE_f, ifN0, ifNl, ifNp, ifB, nI_A, nI_S, nI_M, mu_s, mu_k, mu_n, mcp_n, t7, t8]
      exact ⟨_, rfl, rfl⟩
    · simp (disch := omega) only [chk_T, okI_t, okI_f, okI_nN, b2i_t, b2i_f, ifTT, ifFT, ite_true, ite_false, nI_c, bnd_s, bnd2_s, stp_s, ifLE_t, ifLE_f, ifLT_t, ifLT_f, ifE_t, ifE_f, if0_t, if0_f, ifn0, ifp0, ifl0_t, ifl0_f, ifg0_t, ifg0_f, ifnE, ifnE2, ifNE_t, ifNE_f, ifN0, ifNl, ifNp, ifB, nI_A, nI_S, nI_M, mu_s, mu_k, mu_n, mcp_n, Nat.reduceSub, a5, b3]
      exact ⟨_, rfl, rfl⟩
    · simp (disch := omega) only [chk_T, okI_t, okI_f, okI_nN, b2i_t, b2i_f, ifTT, ifFT, ite_true, ite_false, nI_c, bnd_s, bnd2_s, stp_s, ifLE_t, ifLE_f, ifLT_t, ifLT_f, ifE_t, ifE_f, if0_t, if0_f, ifn0, ifp0, ifl0_t, ifl0_f, ifg0_t, ifg0_f, ifnE, ifnE2, ifNE_t, ifNE_f, ifN0, ifNl, ifNp, ifB, nI_A, nI_S, nI_M, mu_s, mu_k, mu_n, mcp_n, Nat.reduceSub, a6, b4]
      exact ⟨_, rfl, rfl⟩
    · simp (disch := omega) only [chk_T, okI_t, okI_f, okI_nN, b2i_t, b2i_f, ifTT, ifFT, ite_true, ite_false, nI_c, bnd_s, bnd2_s, stp_s, ifLE_t, ifLE_f, ifLT_t, ifLT_f, ifE_t, ifE_f, if0_t, if0_f, ifn0, ifp0, ifl0_t, ifl0_f, ifg0_t, ifg0_f, ifnE, ifnE2, ifNE_t, ifNE_f, ifN0, ifNl, ifNp, ifB, nI_A, nI_S, nI_M, mu_s, mu_k, mu_n, mcp_n, Nat.reduceSub, a7, b5]
      exact ⟨_, rfl, rfl⟩
    · simp (disch := omega) only [chk_T, okI_t, okI_f, okI_nN, b2i_t, b2i_f, ifTT, ifFT, ite_true, ite_false, nI_c, bnd_s, bnd2_s, stp_s, ifLE_t, ifLE_f, ifLT_t, ifLT_f, ifE_t, ifE_f, if0_t, if0_f, ifn0, ifp0, ifl0_t, ifl0_f, ifg0_t, ifg0_f, ifnE, ifnE2, ifNE_t, ifNE_f, ifN0, ifNl, ifNp, ifB, nI_A, nI_S, nI_M, mu_s, mu_k, mu_n, mcp_n, Nat.reduceSub, a8, b6]
      exact ⟨_, rfl, rfl⟩
    · simp (disch := omega) only [chk_T, okI_t, okI_f, okI_nN, b2i_t, b2i_f, ifTT, ifFT, ite_true, ite_false, nI_c, bnd_s, bnd2_s, stp_s, ifLE_t, ifLE_f, ifLT_t, ifLT_f, ifE_t, ifE_f, if0_t, if0_f, ifn0, ifp0, ifl0_t, ifl0_f, ifg0_t, ifg0_f, ifnE, ifnE2, ifNE_t, ifNE_f, ifN0, ifNl, ifNp, ifB, nI_A, nI_S, nI_M, mu_s, mu_k, mu_n, mcp_n, Nat.reduceSub, a9, b7]
      exact ⟨_, rfl, rfl⟩
    · unfold fX6_allTornHoles fX9_allTorn
      simp (disch := omega) only [chk_T, okI_t, okI_f, okI_nN, b2i_t, b2i_f, ifTT, ifFT, ite_true, ite_false, nI_c, bnd_s, bnd2_s, stp_s, ifLE_t, ifLE_f, ifLT_t, ifLT_f, ifE_t, ifE_f, if0_t, if0_f, ifn0, ifp0, ifl0_t, ifl0_f, ifg0_t, ifg0_f, ifnE, ifnE2, ifNE_t, ifNE_f, ifN0, ifNl, ifNp, ifB, nI_A, nI_S, nI_M, mu_s, mu_k, mu_n, mcp_n, t1, t2]
      exact ⟨_, rfl, rfl⟩
    · unfold fX4_splicesFrom fX9_breaks
      simp (disch := omega) only [chk_T, okI_t, okI_f, okI_nN, b2i_t, b2i_f, ifTT, ifFT, ite_true, ite_false, nI_c, bnd_s, bnd2_s, stp_s, ifLE_t, ifLE_f, ifLT_t, ifLT_f, ifE_t, ifE_f, if0_t, if0_f, ifn0, ifp0, ifl0_t, ifl0_f, ifg0_t, ifg0_f, ifnE, ifnE2, ifNE_t, ifNE_f, ifN0, ifNl, ifNp, ifB, nI_A, nI_S, nI_M, mu_s, mu_k, mu_n, mcp_n, a9, t3, t4]
      exact ⟨_, rfl, rfl⟩
    · simp (disch := omega) only [chk_T, okI_t, okI_f, okI_nN, b2i_t, b2i_f, ifTT, ifFT, ite_true, ite_false, nI_c, bnd_s, bnd2_s, stp_s, ifLE_t, ifLE_f, ifLT_t, ifLT_f, ifE_t, ifE_f, if0_t, if0_f, ifn0, ifp0, ifl0_t, ifl0_f, ifg0_t, ifg0_f, ifnE, ifnE2, ifNE_t, ifNE_f, ifN0, ifNl, ifNp, ifB, nI_A, nI_S, nI_M, mu_s, mu_k, mu_n, mcp_n, a12, b12]
      exact ⟨_, rfl, rfl⟩
    · simp (disch := omega) only [chk_T, okI_t, okI_f, okI_nN, b2i_t, b2i_f, ifTT, ifFT, ite_true, ite_false, nI_c, bnd_s, bnd2_s, stp_s, ifLE_t, ifLE_f, ifLT_t, ifLT_f, ifE_t, ifE_f, if0_t, if0_f, ifn0, ifp0, ifl0_t, ifl0_f, ifg0_t, ifg0_f, ifnE, ifnE2, ifNE_t, ifNE_f, ifN0, ifNl, ifNp, ifB, nI_A, nI_S, nI_M, mu_s, mu_k, mu_n, mcp_n, a13, b13]
      exact ⟨_, rfl, rfl⟩
end
