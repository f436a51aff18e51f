/-! PURE ROWS, 7: the reference's join, takeOut, putIn, move -/
section
variable {g o : Nat} {σ : Mem} {L : List Pc} {b : Bn}
theorem errOf_lt {r : Int32} (h : r < 0) : errOf r = r := by unfold errOf; rw [if_pos h]
theorem nN_l {k : Nat} (h0 : 0 < k) (hk : k < 2147483648) : nN k < 0 := (nN_lt0 h0 hk).2 trivial
theorem none_of {α : Type} {L : List α} {i : Nat} (h : L[i]? = none) : L.length ≤ i := by
  rcases Nat.lt_or_ge i L.length with z | z
  · rw [List.getElem?_eq_getElem z] at h; cases h
  · exact z
theorem X9_joinError (h : RowM σ o b.1) (hV : RowV b.1) (p : Int32) : fX9_joinError g σ o p = some (errOf (bJoin p b).1) := by
  have hl := h.2.1
  unfold fX9_joinError bJoin
  rcases okI_get (p := p) (L := b.1) (by omega) with ⟨x, j, rfl, hc, hj, hp, hx, ho⟩ | ⟨ho, hn⟩
  · rw [hc, hx]
    simp (disch := omega) only [chk_T, okI_t, okI_f, okI_nN, b2i_t, b2i_f, ifTT, ifFT, ite_true, ite_false, nI_c, bnd_s, bnd2_s, stp_s, ifLE_t, ifLE_f, ifLT_t, ifLT_f, ifE_t, ifE_f, if0_t, if0_f, ifn0, ifp0, ifl0_t, ifl0_f, ifg0_t, ifg0_f, ifnE, ifnE2, ifNE_t, ifNE_f, ifN0, ifNl, ifNp, ifB, nI_A, nI_S, nI_M, mu_s, mu_k, mu_n, mcp_n, X9_isPiece h, ho, if_neg hp]
    cases hy : b.1[j + 1]? with
    | none =>
      have := none_of hy
      simp (disch := omega) only [chk_T, okI_t, okI_f, okI_nN, b2i_t, b2i_f, ifTT, ifFT, ite_true, ite_false, nI_c, bnd_s, bnd2_s, stp_s, ifLE_t, ifLE_f, ifLT_t, ifLT_f, ifE_t, ifE_f, if0_t, if0_f, ifn0, ifp0, ifl0_t, ifl0_f, ifg0_t, ifg0_f, ifnE, ifnE2, ifNE_t, ifNE_f, ifN0, ifNl, ifNp, ifB, nI_A, nI_S, nI_M, mu_s, mu_k, mu_n, mcp_n, errOf_N]
    | some y =>
      have := lt_of_get hy
      have k1 : ∀ c, c < 4 → fX9_ofP g σ o (nI j) (nI c) = some (nI (pcc x (c + 1))) := fun c hc => X9_ofP h hx hc
      have k2 : ∀ c, c < 4 → fX9_ofP g σ o (nI (j + 1)) (nI c) = some (nI (pcc y (c + 1))) := fun c hc => X9_ofP h hy hc
      obtain ⟨v0, v1, v2, v3⟩ := hV _ x hx
      obtain ⟨w0, w1, w2, w3⟩ := hV _ y hy
      have e1 : pcc x 1 = x.1 := rfl
      have e2 : pcc x 3 = x.2.2.1 := rfl
      have e3 : pcc y 1 = y.1 := rfl
      have e4 : pcc y 2 = y.2.1 := rfl
      simp (disch := omega) only [chk_T, okI_t, okI_f, okI_nN, b2i_t, b2i_f, ifTT, ifFT, ite_true, ite_false, nI_c, bnd_s, bnd2_s, stp_s, ifLE_t, ifLE_f, ifLT_t, ifLT_f, ifE_t, ifE_f, if0_t, if0_f, ifn0, ifp0, ifl0_t, ifl0_f, ifg0_t, ifg0_f, ifnE, ifnE2, ifNE_t, ifNE_f, ifN0, ifNl, ifNp, ifB, nI_A, nI_S, nI_M, mu_s, mu_k, mu_n, mcp_n, k1, k2, Nat.zero_add, Nat.reduceAdd, e1, e2, e3, e4]
      by_cases c1 : x.1 = y.1
      · by_cases c2 : x.2.2.1 + 1 = y.2.1
        · simp (disch := omega) only [chk_T, okI_t, okI_f, okI_nN, b2i_t, b2i_f, ifTT, ifFT, ite_true, ite_false, nI_c, bnd_s, bnd2_s, stp_s, ifLE_t, ifLE_f, ifLT_t, ifLT_f, ifE_t, ifE_f, if0_t, if0_f, ifn0, ifp0, ifl0_t, ifl0_f, ifg0_t, ifg0_f, ifnE, ifnE2, ifNE_t, ifNE_f, ifN0, ifNl, ifNp, ifB, nI_A, nI_S, nI_M, mu_s, mu_k, mu_n, mcp_n, if_pos (show x.1 = y.1 ∧ x.2.2.1 + 1 = y.2.1 from ⟨c1, c2⟩), errOf_I]
        · simp (disch := omega) only [chk_T, okI_t, okI_f, okI_nN, b2i_t, b2i_f, ifTT, ifFT, ite_true, ite_false, nI_c, bnd_s, bnd2_s, stp_s, ifLE_t, ifLE_f, ifLT_t, ifLT_f, ifE_t, ifE_f, if0_t, if0_f, ifn0, ifp0, ifl0_t, ifl0_f, ifg0_t, ifg0_f, ifnE, ifnE2, ifNE_t, ifNE_f, ifN0, ifNl, ifNp, ifB, nI_A, nI_S, nI_M, mu_s, mu_k, mu_n, mcp_n, if_neg (show ¬ (x.1 = y.1 ∧ x.2.2.1 + 1 = y.2.1) from fun q => c2 q.2), errOf_N]
      · simp (disch := omega) only [chk_T, okI_t, okI_f, okI_nN, b2i_t, b2i_f, ifTT, ifFT, ite_true, ite_false, nI_c, bnd_s, bnd2_s, stp_s, ifLE_t, ifLE_f, ifLT_t, ifLT_f, ifE_t, ifE_f, if0_t, if0_f, ifn0, ifp0, ifl0_t, ifl0_f, ifg0_t, ifg0_f, ifnE, ifnE2, ifNE_t, ifNE_f, ifN0, ifNl, ifNp, ifB, nI_A, nI_S, nI_M, mu_s, mu_k, mu_n, mcp_n, if_neg (show ¬ (x.1 = y.1 ∧ x.2.2.1 + 1 = y.2.1) from fun q => c1 q.1), errOf_N]
  · simp (disch := omega) only [chk_T, okI_t, okI_f, okI_nN, b2i_t, b2i_f, ifTT, ifFT, ite_true, ite_false, nI_c, bnd_s, bnd2_s, stp_s, ifLE_t, ifLE_f, ifLT_t, ifLT_f, ifE_t, ifE_f, if0_t, if0_f, ifn0, ifp0, ifl0_t, ifl0_f, ifg0_t, ifg0_f, ifnE, ifnE2, ifNE_t, ifNE_f, ifN0, ifNl, ifNp, ifB, nI_A, nI_S, nI_M, mu_s, mu_k, mu_n, mcp_n, X9_isPiece h, ho]
    rcases hn with hn | hn
    · cases b.1[p.toNatClampNeg]? with
      | none => simp (disch := omega) only [chk_T, okI_t, okI_f, okI_nN, b2i_t, b2i_f, ifTT, ifFT, ite_true, ite_false, nI_c, bnd_s, bnd2_s, stp_s, ifLE_t, ifLE_f, ifLT_t, ifLT_f, ifE_t, ifE_f, if0_t, if0_f, ifn0, ifp0, ifl0_t, ifl0_f, ifg0_t, ifg0_f, ifnE, ifnE2, ifNE_t, ifNE_f, ifN0, ifNl, ifNp, ifB, nI_A, nI_S, nI_M, mu_s, mu_k, mu_n, mcp_n, errOf_N]
      | some x => simp (disch := omega) only [chk_T, okI_t, okI_f, okI_nN, b2i_t, b2i_f, ifTT, ifFT, ite_true, ite_false, nI_c, bnd_s, bnd2_s, stp_s, ifLE_t, ifLE_f, ifLT_t, ifLT_f, ifE_t, ifE_f, if0_t, if0_f, ifn0, ifp0, ifl0_t, ifl0_f, ifg0_t, ifg0_f, ifnE, ifnE2, ifNE_t, ifNE_f, ifN0, ifNl, ifNp, ifB, nI_A, nI_S, nI_M, mu_s, mu_k, mu_n, mcp_n, if_pos hn, errOf_N]
    · rw [hn]
      simp (disch := omega) only [chk_T, okI_t, okI_f, okI_nN, b2i_t, b2i_f, ifTT, ifFT, ite_true, ite_false, nI_c, bnd_s, bnd2_s, stp_s, ifLE_t, ifLE_f, ifLT_t, ifLT_f, ifE_t, ifE_f, if0_t, if0_f, ifn0, ifp0, ifl0_t, ifl0_f, ifg0_t, ifg0_f, ifnE, ifnE2, ifNE_t, ifNE_f, ifN0, ifNl, ifNp, ifB, nI_A, nI_S, nI_M, mu_s, mu_k, mu_n, mcp_n, errOf_N]
theorem X9_joins (hg : 1000 ≤ g) (h : BnM σ o b) (hV : BnV b) (p : Int32) (he : ¬ (bJoin p b).1 < 0) : ∃ σ', fX9_joins g σ o p = some ((bJoin p b).1, σ') ∧ BnM σ' o (bJoin p b).2 ∧ chP σ σ' o := by
  have hl := h.1.2.1
  unfold bJoin at he ⊢
  rcases okI_get (p := p) (L := b.1) (by omega) with ⟨x, j, rfl, hc, hj, hp, hx, ho⟩ | ⟨ho, hn⟩
  · rw [hc, hx] at he ⊢
    simp only [if_neg hp] at he ⊢
    cases hy : b.1[j + 1]? with
    | none => rw [hy] at he; exact absurd (nN_l (by omega) (by omega)) he
    | some y =>
      rw [hy] at he
      simp only at he ⊢
      have hj1 := lt_of_get hy
      by_cases c : x.1 = y.1 ∧ x.2.2.1 + 1 = y.2.1
      · rw [if_pos c]
        obtain ⟨v0, v1, v2, v3⟩ := hV.1 _ x hx
        obtain ⟨w0, w1, w2, w3⟩ := hV.1 _ y hy
        have k2 : fX9_ofP g σ o (nI (j + 1)) (nI 2) = some (nI y.2.2.1) := X9_ofP (c := 2) h.1 hy (by omega)
        have hset := X9_setsP (g := g) (σ := σ) (o := o) (i := j) (c := 2) (v := nI y.2.2.1) (by omega) (by omega)
        have r1 : RowM (mu σ (o + 1) (992 + 4 * j + 2) (nI y.2.2.1)) o (b.1.set j (x.1, x.2.1, y.2.2.1, x.2.2.2)) := RowM_set h.1 hx (by omega) (fun d hd => by
          rcases (show d = 0 ∨ d = 1 ∨ d = 2 ∨ d = 3 by omega) with rfl | rfl | rfl | rfl <;> rfl)
        have hlen1 : (b.1.set j (x.1, x.2.1, y.2.2.1, x.2.2.2)).length = b.1.length := List.length_set
        obtain ⟨σ1, f1, r2, s1⟩ := X9_removes (g := g) (at_ := j + 1) hg r1 (by omega)
        have hlen2 := pullL_len (L := b.1.set j (x.1, x.2.1, y.2.2.1, x.2.2.2)) (i := j + 1) (by omega)
        have V1 : RowV (b.1.set j (x.1, x.2.1, y.2.2.1, x.2.2.2)) := by
          intro i z hz
          rw [List.getElem?_set] at hz
          by_cases q : j = i
          · rw [if_pos q, if_pos hj] at hz
            cases hz
            exact ⟨v0, by show x.2.1 ≤ y.2.2.1; omega, w2, v3⟩
          · rw [if_neg q] at hz
            exact hV.1 _ _ hz
        unfold fX9_joins
        simp (disch := omega) only [chk_T, okI_t, okI_f, okI_nN, b2i_t, b2i_f, ifTT, ifFT, ite_true, ite_false, nI_c, bnd_s, bnd2_s, stp_s, ifLE_t, ifLE_f, ifLT_t, ifLT_f, ifE_t, ifE_f, if0_t, if0_f, ifn0, ifp0, ifl0_t, ifl0_f, ifg0_t, ifg0_f, ifnE, ifnE2, ifNE_t, ifNE_f, ifN0, ifNl, ifNp, ifB, nI_A, nI_S, nI_M, mu_s, mu_k, mu_n, mcp_n, X9_isPiece h.1, k2, hset, f1, X9_isPiece r2]
        cases hz : b.1[j + 2]? with
        | none =>
          have := none_of hz
          have e : pullL (b.1.set j (x.1, x.2.1, y.2.2.1, x.2.2.2)) (j + 1) = joinL b.1 j x y := by
            unfold pullL joinL
            rw [renew_out (by rw [List.length_eraseIdx, if_pos (by omega)]; omega)]
          have hg2 : (pullL (b.1.set j (x.1, x.2.1, y.2.2.1, x.2.2.2)) (j + 1))[j]? = some (x.1, x.2.1, y.2.2.1, x.2.2.2) := by
            rw [e]
            unfold joinL
            rw [List.getElem?_eraseIdx, if_pos (by omega), List.getElem?_set, if_pos rfl, if_pos hj]
          simp (disch := omega) only [chk_T, okI_t, okI_f, okI_nN, b2i_t, b2i_f, ifTT, ifFT, ite_true, ite_false, nI_c, bnd_s, bnd2_s, stp_s, ifLE_t, ifLE_f, ifLT_t, ifLT_f, ifE_t, ifE_f, if0_t, if0_f, ifn0, ifp0, ifl0_t, ifl0_f, ifg0_t, ifg0_f, ifnE, ifnE2, ifNE_t, ifNE_f, ifN0, ifNl, ifNp, ifB, nI_A, nI_S, nI_M, mu_s, mu_k, mu_n, mcp_n, X9_framesIn r2 (V1.pull (j + 1)) hg2]
          exact ⟨σ1, rfl, ⟨by rw [← e]; exact r2, (h.2.p (chP_mu (by omega))).p s1⟩, (chP_mu (by omega)).tr s1⟩
        | some z =>
          have hj2 := lt_of_get hz
          have k5 : fX9_ofP g σ o (nI (j + 2)) (nI 3) = some (nI z.2.2.2) := X9_ofP (c := 3) h.1 hz (by omega)
          have k6 := X9_setsP (g := g) (σ := σ1) (o := o) (i := j + 1) (c := 3) (v := nI z.2.2.2) (by omega) (by omega)
          have hg3 : (pullL (b.1.set j (x.1, x.2.1, y.2.2.1, x.2.2.2)) (j + 1))[j + 1]? = some (zp z) := by
            unfold pullL
            rw [renew_get, List.getElem?_eraseIdx, if_neg (by omega), List.getElem?_set, if_neg (by omega), hz, Option.map_some, if_pos rfl]
          have r3 := RowM_set (v := nI z.2.2.2) (c := 3) (y := z) r2 hg3 (by omega) (fun d hd => by
            rcases (show d = 0 ∨ d = 1 ∨ d = 2 ∨ d = 3 by omega) with rfl | rfl | rfl | rfl <;> rfl)
          have e : (pullL (b.1.set j (x.1, x.2.1, y.2.2.1, x.2.2.2)) (j + 1)).set (j + 1) z = joinL b.1 j x y := by
            unfold pullL joinL
            apply List.ext_getElem?
            intro i
            simp only [List.getElem?_set, renew_get, List.getElem?_eraseIdx, renew_len, List.length_eraseIdx, List.length_set]
            rw [if_pos (show j + 1 < b.1.length by omega)]
            by_cases i1 : i = j + 1
            · subst i1
              simp (disch := omega) only [if_pos, if_neg, ite_true, ite_false, Option.map_some]
              rw [show j + 1 + 1 = j + 2 from rfl, hz]
            · by_cases i2 : i < j + 1
              · simp (disch := omega) only [if_pos, if_neg, ite_true, ite_false, Option.map_some]
                by_cases i3 : j = i
                · subst i3
                  simp (disch := omega) only [if_pos, if_neg, ite_true, ite_false, Option.map_some]
                · simp (disch := omega) only [if_pos, if_neg, ite_true, ite_false, Option.map_some]
                  cases b.1[i]? with
                  | none => rfl
                  | some w => simp (disch := omega) only [if_pos, if_neg, ite_true, ite_false, Option.map_some]
              · simp (disch := omega) only [if_pos, if_neg, ite_true, ite_false, Option.map_some]
                cases b.1[i + 1]? with
                | none => rfl
                | some w => simp (disch := omega) only [if_pos, if_neg, ite_true, ite_false, Option.map_some]
          rw [e] at r3
          have V3 : RowV (joinL b.1 j x y) := by
            intro i w hw
            unfold joinL at hw
            rw [List.getElem?_eraseIdx] at hw
            by_cases q : i < j + 1
            · rw [if_pos q] at hw; exact V1 _ _ hw
            · rw [if_neg q] at hw; exact V1 _ _ hw
          have hg2 : (joinL b.1 j x y)[j]? = some (x.1, x.2.1, y.2.2.1, x.2.2.2) := by
            unfold joinL
            rw [List.getElem?_eraseIdx, if_pos (by omega), List.getElem?_set, if_pos rfl, if_pos hj]
          simp (disch := omega) only [chk_T, okI_t, okI_f, okI_nN, b2i_t, b2i_f, ifTT, ifFT, ite_true, ite_false, nI_c, bnd_s, bnd2_s, stp_s, ifLE_t, ifLE_f, ifLT_t, ifLT_f, ifE_t, ifE_f, if0_t, if0_f, ifn0, ifp0, ifl0_t, ifl0_f, ifg0_t, ifg0_f, ifnE, ifnE2, ifNE_t, ifNE_f, ifN0, ifNl, ifNp, ifB, nI_A, nI_S, nI_M, mu_s, mu_k, mu_n, mcp_n, k5, k6, X9_framesIn r3 V3 hg2]
          exact ⟨_, rfl, ⟨r3, ((h.2.p (chP_mu (by omega))).p s1).p (chP_mu (by omega))⟩, ((chP_mu (by omega)).tr s1).tr (chP_mu (by omega))⟩
      · rw [if_neg c] at he
        exact absurd (nN_l (by omega) (by omega)) he
  · exfalso
    rcases hn with hn | hn
    · cases hz : b.1[p.toNatClampNeg]? with
      | none => rw [hz] at he; exact he (nN_l (by omega) (by omega))
      | some x => rw [hz] at he; simp only [if_pos hn] at he; exact he (nN_l (by omega) (by omega))
    · rw [hn] at he
      exact he (nN_l (by omega) (by omega))
theorem X9_takeError (h : BnM σ o b) (p : Int32) : fX9_takeError g σ o p = some (errOf (bTake p b).1) := by
  have hl := h.1.2.1
  have hl2 := h.2.2.1
  unfold fX9_takeError bTake
  rcases okI_get (p := p) (L := b.1) (by omega) with ⟨x, j, rfl, hc, hj, hp, hx, ho⟩ | ⟨ho, hn⟩
  · rw [hc, hx]
    simp (disch := omega) only [chk_T, okI_t, okI_f, okI_nN, b2i_t, b2i_f, ifTT, ifFT, ite_true, ite_false, nI_c, bnd_s, bnd2_s, stp_s, ifLE_t, ifLE_f, ifLT_t, ifLT_f, ifE_t, ifE_f, if0_t, if0_f, ifn0, ifp0, ifl0_t, ifl0_f, ifg0_t, ifg0_f, ifnE, ifnE2, ifNE_t, ifNE_f, ifN0, ifNl, ifNp, ifB, nI_A, nI_S, nI_M, mu_s, mu_k, mu_n, mcp_n, X9_isPiece h.1, ho, if_neg hp, h.2.1]
    by_cases c : 20 ≤ b.2.length
    · rw [if_pos c]
      simp (disch := omega) only [chk_T, okI_t, okI_f, okI_nN, b2i_t, b2i_f, ifTT, ifFT, ite_true, ite_false, nI_c, bnd_s, bnd2_s, stp_s, ifLE_t, ifLE_f, ifLT_t, ifLT_f, ifE_t, ifE_f, if0_t, if0_f, ifn0, ifp0, ifl0_t, ifl0_f, ifg0_t, ifg0_f, ifnE, ifnE2, ifNE_t, ifNE_f, ifN0, ifNl, ifNp, ifB, nI_A, nI_S, nI_M, mu_s, mu_k, mu_n, mcp_n, errOf_N]
    · rw [if_neg c]
      simp (disch := omega) only [chk_T, okI_t, okI_f, okI_nN, b2i_t, b2i_f, ifTT, ifFT, ite_true, ite_false, nI_c, bnd_s, bnd2_s, stp_s, ifLE_t, ifLE_f, ifLT_t, ifLT_f, ifE_t, ifE_f, if0_t, if0_f, ifn0, ifp0, ifl0_t, ifl0_f, ifg0_t, ifg0_f, ifnE, ifnE2, ifNE_t, ifNE_f, ifN0, ifNl, ifNp, ifB, nI_A, nI_S, nI_M, mu_s, mu_k, mu_n, mcp_n, errOf_I]
  · simp (disch := omega) only [chk_T, okI_t, okI_f, okI_nN, b2i_t, b2i_f, ifTT, ifFT, ite_true, ite_false, nI_c, bnd_s, bnd2_s, stp_s, ifLE_t, ifLE_f, ifLT_t, ifLT_f, ifE_t, ifE_f, if0_t, if0_f, ifn0, ifp0, ifl0_t, ifl0_f, ifg0_t, ifg0_f, ifnE, ifnE2, ifNE_t, ifNE_f, ifN0, ifNl, ifNp, ifB, nI_A, nI_S, nI_M, mu_s, mu_k, mu_n, mcp_n, X9_isPiece h.1, ho]
    rcases hn with hn | hn
    · cases b.1[p.toNatClampNeg]? with
      | none => simp (disch := omega) only [chk_T, okI_t, okI_f, okI_nN, b2i_t, b2i_f, ifTT, ifFT, ite_true, ite_false, nI_c, bnd_s, bnd2_s, stp_s, ifLE_t, ifLE_f, ifLT_t, ifLT_f, ifE_t, ifE_f, if0_t, if0_f, ifn0, ifp0, ifl0_t, ifl0_f, ifg0_t, ifg0_f, ifnE, ifnE2, ifNE_t, ifNE_f, ifN0, ifNl, ifNp, ifB, nI_A, nI_S, nI_M, mu_s, mu_k, mu_n, mcp_n, errOf_N]
      | some x => simp (disch := omega) only [chk_T, okI_t, okI_f, okI_nN, b2i_t, b2i_f, ifTT, ifFT, ite_true, ite_false, nI_c, bnd_s, bnd2_s, stp_s, ifLE_t, ifLE_f, ifLT_t, ifLT_f, ifE_t, ifE_f, if0_t, if0_f, ifn0, ifp0, ifl0_t, ifl0_f, ifg0_t, ifg0_f, ifnE, ifnE2, ifNE_t, ifNE_f, ifN0, ifNl, ifNp, ifB, nI_A, nI_S, nI_M, mu_s, mu_k, mu_n, mcp_n, if_pos hn, errOf_N]
    · rw [hn]
      simp (disch := omega) only [chk_T, okI_t, okI_f, okI_nN, b2i_t, b2i_f, ifTT, ifFT, ite_true, ite_false, nI_c, bnd_s, bnd2_s, stp_s, ifLE_t, ifLE_f, ifLT_t, ifLT_f, ifE_t, ifE_f, if0_t, if0_f, ifn0, ifp0, ifl0_t, ifl0_f, ifg0_t, ifg0_f, ifnE, ifnE2, ifNE_t, ifNE_f, ifN0, ifNl, ifNp, ifB, nI_A, nI_S, nI_M, mu_s, mu_k, mu_n, mcp_n, errOf_N]
theorem X9_takes (hg : 1000 ≤ g) (h : BnM σ o b) (p : Int32) (he : ¬ (bTake p b).1 < 0) : ∃ σ', fX9_takes g σ o p = some ((bTake p b).1, σ') ∧ BnM σ' o (bTake p b).2 ∧ chB σ σ' o := by
  have hl := h.1.2.1
  have hl2 := h.2.2.1
  unfold bTake at he ⊢
  rcases okI_get (p := p) (L := b.1) (by omega) with ⟨x, j, rfl, hc, hj, hp, hx, ho⟩ | ⟨ho, hn⟩
  · rw [hc, hx] at he ⊢
    simp only [if_neg hp] at he ⊢
    by_cases c : 20 ≤ b.2.length
    · rw [if_pos c] at he
      exact absurd (nN_l (by omega) (by omega)) he
    · rw [if_neg c]
      have m1 : ∀ (k : Nat) (v : Int32) (τ : Mem), 1072 ≤ k → RowM τ o b.1 → RowM (mu τ (o + 1) k v) o b.1 := fun k v τ hk hR => ⟨by rw [mu_k (by omega)]; exact hR.1, hR.2.1, fun i y hy c hc => by have := lt_of_get hy; rw [mu_k (by omega)]; exact hR.2.2 i y hy c hc⟩
      generalize hn2 : b.2.length = n2 at *
      have R1 := m1 (1072 + 3 * n2 + 0) (nI x.1) σ (by omega) h.1
      have R2 := m1 (1072 + 3 * n2 + 1) (nI x.2.1) _ (by omega) R1
      have R3 := m1 (1072 + 3 * n2 + 2) (nI x.2.2.1) _ (by omega) R2
      have R4 : RowM (mu (mu (mu (mu σ (o + 1) (1072 + 3 * n2 + 0) (nI x.1)) (o + 1) (1072 + 3 * n2 + 1) (nI x.2.1)) (o + 1) (1072 + 3 * n2 + 2) (nI x.2.2.1)) (o + 1) 2 (nI (n2 + 1))) o b.1 := ⟨by rw [mu_k (by omega)]; exact R3.1, R3.2.1, fun i y hy c hc => by have := lt_of_get hy; rw [mu_k (by omega)]; exact R3.2.2 i y hy c hc⟩
      obtain ⟨σ1, f1, r1, s1⟩ := X9_removes (g := g) (at_ := j) hg R4 hj
      have a0 : fX9_ofP g σ o (nI j) (nI 0) = some (nI x.1) := X9_ofP (c := 0) h.1 hx (by omega)
      have a1 : fX9_ofP g (mu σ (o + 1) (1072 + 3 * n2 + 0) (nI x.1)) o (nI j) (nI 1) = some (nI x.2.1) := X9_ofP (c := 1) R1 hx (by omega)
      have a2 : fX9_ofP g (mu (mu σ (o + 1) (1072 + 3 * n2 + 0) (nI x.1)) (o + 1) (1072 + 3 * n2 + 1) (nI x.2.1)) o (nI j) (nI 2) = some (nI x.2.2.1) := X9_ofP (c := 2) R2 hx (by omega)
      have e2 : σ (o + 1) 2 = nI n2 := h.2.1.trans (by rw [hn2])
      obtain ⟨g4, rfl⟩ : ∃ k, g = k + 4 := ⟨g - 4, by omega⟩
      unfold fX9_takes
      simp (disch := omega) only [chk_T, okI_t, okI_f, okI_nN, b2i_t, b2i_f, ifTT, ifFT, ite_true, ite_false, nI_c, bnd_s, bnd2_s, stp_s, ifLE_t, ifLE_f, ifLT_t, ifLT_f, ifE_t, ifE_f, if0_t, if0_f, ifn0, ifp0, ifl0_t, ifl0_f, ifg0_t, ifg0_f, ifnE, ifnE2, ifNE_t, ifNE_f, ifN0, ifNl, ifNp, ifB, nI_A, nI_S, nI_M, mu_s, mu_k, mu_n, mcp_n, e2]
      rw [fX9_takes_15]
      simp (disch := omega) only [chk_T, okI_t, okI_f, okI_nN, b2i_t, b2i_f, ifTT, ifFT, ite_true, ite_false, nI_c, bnd_s, bnd2_s, stp_s, ifLE_t, ifLE_f, ifLT_t, ifLT_f, ifE_t, ifE_f, if0_t, if0_f, ifn0, ifp0, ifl0_t, ifl0_f, ifg0_t, ifg0_f, ifnE, ifnE2, ifNE_t, ifNE_f, ifN0, ifNl, ifNp, ifB, nI_A, nI_S, nI_M, mu_s, mu_k, mu_n, mcp_n, a0, fX9_takes_15]
      simp (disch := omega) only [chk_T, okI_t, okI_f, okI_nN, b2i_t, b2i_f, ifTT, ifFT, ite_true, ite_false, nI_c, bnd_s, bnd2_s, stp_s, ifLE_t, ifLE_f, ifLT_t, ifLT_f, ifE_t, ifE_f, if0_t, if0_f, ifn0, ifp0, ifl0_t, ifl0_f, ifg0_t, ifg0_f, ifnE, ifnE2, ifNE_t, ifNE_f, ifN0, ifNl, ifNp, ifB, nI_A, nI_S, nI_M, mu_s, mu_k, mu_n, mcp_n, a1, fX9_takes_15, Nat.zero_add, Nat.reduceAdd]
      simp (disch := omega) only [chk_T, okI_t, okI_f, okI_nN, b2i_t, b2i_f, ifTT, ifFT, ite_true, ite_false, nI_c, bnd_s, bnd2_s, stp_s, ifLE_t, ifLE_f, ifLT_t, ifLT_f, ifE_t, ifE_f, if0_t, if0_f, ifn0, ifp0, ifl0_t, ifl0_f, ifg0_t, ifg0_f, ifnE, ifnE2, ifNE_t, ifNE_f, ifN0, ifNl, ifNp, ifB, nI_A, nI_S, nI_M, mu_s, mu_k, mu_n, mcp_n, a2, fX9_takes_15, Nat.reduceAdd]
      simp (disch := omega) only [chk_T, okI_t, okI_f, okI_nN, b2i_t, b2i_f, ifTT, ifFT, ite_true, ite_false, nI_c, bnd_s, bnd2_s, stp_s, ifLE_t, ifLE_f, ifLT_t, ifLT_f, ifE_t, ifE_f, if0_t, if0_f, ifn0, ifp0, ifl0_t, ifl0_f, ifg0_t, ifg0_f, ifnE, ifnE2, ifNE_t, ifNE_f, ifN0, ifNl, ifNp, ifB, nI_A, nI_S, nI_M, mu_s, mu_k, mu_n, mcp_n, e2, f1, r1.1]
      refine ⟨σ1, by rw [pullL_len hj], ⟨r1, ?_⟩, ?_⟩
      · refine CanM.p ?_ s1
        refine ⟨?_, ?_, fun i y hy d hd => ?_⟩
        · rw [mu_s, List.length_insertIdx, if_pos (by omega), hn2]
        · rw [List.length_insertIdx, if_pos (by omega)]; omega
        · rw [List.getElem?_insertIdx] at hy
          by_cases q1 : i < n2
          · rw [if_pos q1] at hy
            rw [mu_k (by omega), mu_k (by omega), mu_k (by omega), mu_k (by omega)]
            exact h.2.2.2 i y hy d hd
          · rw [if_neg q1] at hy
            by_cases q2 : i = n2
            · rw [if_pos q2, if_pos (by omega)] at hy
              cases hy
              subst q2
              rcases (show d = 0 ∨ d = 1 ∨ d = 2 by omega) with rfl | rfl | rfl <;> simp (disch := omega) only [chk_T, okI_t, okI_f, okI_nN, b2i_t, b2i_f, ifTT, ifFT, ite_true, ite_false, nI_c, bnd_s, bnd2_s, stp_s, ifLE_t, ifLE_f, ifLT_t, ifLT_f, ifE_t, ifE_f, if0_t, if0_f, ifn0, ifp0, ifl0_t, ifl0_f, ifg0_t, ifg0_f, ifnE, ifnE2, ifNE_t, ifNE_f, ifN0, ifNl, ifNp, ifB, nI_A, nI_S, nI_M, mu_s, mu_k, mu_n, mcp_n] <;> rfl
            · rw [if_neg q2, List.getElem?_eq_none (by omega)] at hy
              cases hy
      · exact (((chB_mu (by omega)).tr (chB_mu (by omega))).tr (chB_mu (by omega))).tr ((chB_mu (by omega)).tr s1.b)
  · exfalso
    rcases hn with hn | hn
    · cases hz : b.1[p.toNatClampNeg]? with
      | none => rw [hz] at he; exact he (nN_l (by omega) (by omega))
      | some x => rw [hz] at he; simp only [if_pos hn] at he; exact he (nN_l (by omega) (by omega))
    · rw [hn] at he
      exact he (nN_l (by omega) (by omega))
theorem X9_ofC (h : CanM σ o L) {i c : Nat} {x : Pc} (hx : L[i]? = some x) (hc : c < 3) : fX9_ofC g σ o (nI i) (nI c) = some (nI (pcc x (c + 1))) := by
  have hl := h.2.1
  have hi := lt_of_get hx
  unfold fX9_ofC
  simp (disch := omega) only [chk_T, okI_t, okI_f, okI_nN, b2i_t, b2i_f, ifTT, ifFT, ite_true, ite_false, nI_c, bnd_s, bnd2_s, stp_s, ifLE_t, ifLE_f, ifLT_t, ifLT_f, ifE_t, ifE_f, if0_t, if0_f, ifn0, ifp0, ifl0_t, ifl0_f, ifg0_t, ifg0_f, ifnE, ifnE2, ifNE_t, ifNE_f, ifN0, ifNl, ifNp, ifB, nI_A, nI_S, nI_M, mu_s, mu_k, mu_n, mcp_n, h.2.2 i x hx c hc]
theorem X9_putError (h : BnM σ o b) (p q : Int32) : fX9_putError g σ o p q = some (errOf (bPut p q b).1) := by
  have hl := h.1.2.1
  have hl2 := h.2.2.1
  unfold fX9_putError bPut
  rw [X9_isIn]
  simp (disch := omega) only [chk_T, okI_t, okI_f, okI_nN, b2i_t, b2i_f, ifTT, ifFT, ite_true, ite_false, nI_c, bnd_s, bnd2_s, stp_s, ifLE_t, ifLE_f, ifLT_t, ifLT_f, ifE_t, ifE_f, if0_t, if0_f, ifn0, ifp0, ifl0_t, ifl0_f, ifg0_t, ifg0_f, ifnE, ifnE2, ifNE_t, ifNE_f, ifN0, ifNl, ifNp, ifB, nI_A, nI_S, nI_M, mu_s, mu_k, mu_n, mcp_n, h.2.1, h.1.1]
  rw [in_sub1 (by omega), X9_isIn, within_0 (by omega)]
  rcases okI_get (p := p) (L := b.2) (by omega) with ⟨x, j, rfl, hc, hj, hp, hx, ho⟩ | ⟨ho, hn⟩
  · rw [hc, hx]
    simp (disch := omega) only [chk_T, okI_t, okI_f, okI_nN, b2i_t, b2i_f, ifTT, ifFT, ite_true, ite_false, nI_c, bnd_s, bnd2_s, stp_s, ifLE_t, ifLE_f, ifLT_t, ifLT_f, ifE_t, ifE_f, if0_t, if0_f, ifn0, ifp0, ifl0_t, ifl0_f, ifg0_t, ifg0_f, ifnE, ifnE2, ifNE_t, ifNE_f, ifN0, ifNl, ifNp, ifB, nI_A, nI_S, nI_M, mu_s, mu_k, mu_n, mcp_n, ho, if_neg hp]
    by_cases cq : okI q (b.1.length + 1) = true
    · rw [if_pos cq, if_pos cq]
      by_cases c : 20 ≤ b.1.length
      · rw [if_pos c]
        simp (disch := omega) only [chk_T, okI_t, okI_f, okI_nN, b2i_t, b2i_f, ifTT, ifFT, ite_true, ite_false, nI_c, bnd_s, bnd2_s, stp_s, ifLE_t, ifLE_f, ifLT_t, ifLT_f, ifE_t, ifE_f, if0_t, if0_f, ifn0, ifp0, ifl0_t, ifl0_f, ifg0_t, ifg0_f, ifnE, ifnE2, ifNE_t, ifNE_f, ifN0, ifNl, ifNp, ifB, nI_A, nI_S, nI_M, mu_s, mu_k, mu_n, mcp_n, errOf_N]
      · rw [if_neg c]
        simp (disch := omega) only [chk_T, okI_t, okI_f, okI_nN, b2i_t, b2i_f, ifTT, ifFT, ite_true, ite_false, nI_c, bnd_s, bnd2_s, stp_s, ifLE_t, ifLE_f, ifLT_t, ifLT_f, ifE_t, ifE_f, if0_t, if0_f, ifn0, ifp0, ifl0_t, ifl0_f, ifg0_t, ifg0_f, ifnE, ifnE2, ifNE_t, ifNE_f, ifN0, ifNl, ifNp, ifB, nI_A, nI_S, nI_M, mu_s, mu_k, mu_n, mcp_n, errOf_I]
    · rw [if_neg cq, if_neg cq]
      simp (disch := omega) only [chk_T, okI_t, okI_f, okI_nN, b2i_t, b2i_f, ifTT, ifFT, ite_true, ite_false, nI_c, bnd_s, bnd2_s, stp_s, ifLE_t, ifLE_f, ifLT_t, ifLT_f, ifE_t, ifE_f, if0_t, if0_f, ifn0, ifp0, ifl0_t, ifl0_f, ifg0_t, ifg0_f, ifnE, ifnE2, ifNE_t, ifNE_f, ifN0, ifNl, ifNp, ifB, nI_A, nI_S, nI_M, mu_s, mu_k, mu_n, mcp_n, errOf_N]
  · simp (disch := omega) only [chk_T, okI_t, okI_f, okI_nN, b2i_t, b2i_f, ifTT, ifFT, ite_true, ite_false, nI_c, bnd_s, bnd2_s, stp_s, ifLE_t, ifLE_f, ifLT_t, ifLT_f, ifE_t, ifE_f, if0_t, if0_f, ifn0, ifp0, ifl0_t, ifl0_f, ifg0_t, ifg0_f, ifnE, ifnE2, ifNE_t, ifNE_f, ifN0, ifNl, ifNp, ifB, nI_A, nI_S, nI_M, mu_s, mu_k, mu_n, mcp_n, ho]
    rcases hn with hn | hn
    · cases b.2[p.toNatClampNeg]? with
      | none => simp (disch := omega) only [chk_T, okI_t, okI_f, okI_nN, b2i_t, b2i_f, ifTT, ifFT, ite_true, ite_false, nI_c, bnd_s, bnd2_s, stp_s, ifLE_t, ifLE_f, ifLT_t, ifLT_f, ifE_t, ifE_f, if0_t, if0_f, ifn0, ifp0, ifl0_t, ifl0_f, ifg0_t, ifg0_f, ifnE, ifnE2, ifNE_t, ifNE_f, ifN0, ifNl, ifNp, ifB, nI_A, nI_S, nI_M, mu_s, mu_k, mu_n, mcp_n, errOf_N]
      | some x => simp (disch := omega) only [chk_T, okI_t, okI_f, okI_nN, b2i_t, b2i_f, ifTT, ifFT, ite_true, ite_false, nI_c, bnd_s, bnd2_s, stp_s, ifLE_t, ifLE_f, ifLT_t, ifLT_f, ifE_t, ifE_f, if0_t, if0_f, ifn0, ifp0, ifl0_t, ifl0_f, ifg0_t, ifg0_f, ifnE, ifnE2, ifNE_t, ifNE_f, ifN0, ifNl, ifNp, ifB, nI_A, nI_S, nI_M, mu_s, mu_k, mu_n, mcp_n, if_pos hn, errOf_N]
    · rw [hn]
      simp (disch := omega) only [chk_T, okI_t, okI_f, okI_nN, b2i_t, b2i_f, ifTT, ifFT, ite_true, ite_false, nI_c, bnd_s, bnd2_s, stp_s, ifLE_t, ifLE_f, ifLT_t, ifLT_f, ifE_t, ifE_f, if0_t, if0_f, ifn0, ifp0, ifl0_t, ifl0_f, ifg0_t, ifg0_f, ifnE, ifnE2, ifNE_t, ifNE_f, ifN0, ifNl, ifNp, ifB, nI_A, nI_S, nI_M, mu_s, mu_k, mu_n, mcp_n, errOf_N]
theorem X9_puts_37 {σ0 : Mem} {at_ : Nat} (h : CanM σ0 o L) (hat : at_ < L.length) : ∀ n k σ, 3 * at_ ≤ k → k ≤ 3 * (L.length - 1) → 3 * L.length - k < n → (∀ i, i ≠ o + 1 → σ i = σ0 i) → (∀ j, j ≠ 2 → (j < 1072 ∨ 1132 ≤ j) → σ (o + 1) j = σ0 (o + 1) j) → σ (o + 1) 2 = nI (L.length - 1) → (∀ j, σ (o + 1) (1072 + j) = if 3 * at_ ≤ j ∧ j < k then σ0 (o + 1) (1072 + (j + 3)) else σ0 (o + 1) (1072 + j)) → ∃ σ', fX9_puts_37 g o n σ (nI k) = some (nI (L.length - 1), σ') ∧ CanM σ' o (L.eraseIdx at_) ∧ (∀ i, i ≠ o + 1 → σ' i = σ0 i) ∧ (∀ j, j ≠ 2 → (j < 1072 ∨ 1132 ≤ j) → σ' (o + 1) j = σ0 (o + 1) j) := by
  have hl := h.2.1
  intro n
  induction n with
  | zero => intro k σ _ _ q; omega
  | succ n ih =>
    intro k σ h1 h2 h3 hs hs2 h0 hc
    rw [fX9_puts_37]
    by_cases hk : k = 3 * (L.length - 1)
    · simp (disch := omega) only [chk_T, okI_t, okI_f, okI_nN, b2i_t, b2i_f, ifTT, ifFT, ite_true, ite_false, nI_c, bnd_s, bnd2_s, stp_s, ifLE_t, ifLE_f, ifLT_t, ifLT_f, ifE_t, ifE_f, if0_t, if0_f, ifn0, ifp0, ifl0_t, ifl0_f, ifg0_t, ifg0_f, ifnE, ifnE2, ifNE_t, ifNE_f, ifN0, ifNl, ifNp, ifB, nI_A, nI_S, nI_M, mu_s, mu_k, mu_n, mcp_n, h0]
      have hlen : (L.eraseIdx at_).length = L.length - 1 := by rw [List.length_eraseIdx, if_pos hat]
      refine ⟨σ, rfl, ⟨by rw [hlen]; exact h0, by omega, fun i x hx c hc4 => ?_⟩, hs, hs2⟩
      have hlt := lt_of_get hx
      rw [List.getElem?_eraseIdx] at hx
      have e := hc (3 * i + c)
      rw [show 1072 + 3 * i + c = 1072 + (3 * i + c) by omega, e]
      by_cases q1 : i < at_
      · rw [if_pos q1] at hx
        rw [if_neg (by omega), ← Nat.add_assoc]
        exact h.2.2 i x hx c hc4
      · rw [if_neg q1] at hx
        rw [if_pos (by omega), show 1072 + (3 * i + c + 3) = 1072 + 3 * (i + 1) + c by omega]
        exact h.2.2 (i + 1) x hx c hc4
    · simp (disch := omega) only [chk_T, okI_t, okI_f, okI_nN, b2i_t, b2i_f, ifTT, ifFT, ite_true, ite_false, nI_c, bnd_s, bnd2_s, stp_s, ifLE_t, ifLE_f, ifLT_t, ifLT_f, ifE_t, ifE_f, if0_t, if0_f, ifn0, ifp0, ifl0_t, ifl0_f, ifg0_t, ifg0_f, ifnE, ifnE2, ifNE_t, ifNE_f, ifN0, ifNl, ifNp, ifB, nI_A, nI_S, nI_M, mu_s, mu_k, mu_n, mcp_n, h0]
      refine ih (k + 1) _ (by omega) (by omega) (by omega) (fun i hi => by rw [mu_n hi]; exact hs i hi) (fun j hj hj2 => by rw [mu_k (by omega)]; exact hs2 j hj hj2) (by rw [mu_k (by omega)]; exact h0) (fun j => ?_)
      rw [mu_ij]
      by_cases q1 : 1072 + j = 1072 + k
      · rw [if_pos q1, if_pos (by omega), show 1072 + k + 3 = 1072 + (k + 3) by omega, hc (k + 3), if_neg (by omega), show j = k by omega]
      · rw [if_neg q1, hc j]
        by_cases q2 : 3 * at_ ≤ j ∧ j < k
        · rw [if_pos q2, if_pos (by omega)]
        · rw [if_neg q2, if_neg (by omega)]
theorem X9_puts (hg : 1000 ≤ g) (h : BnM σ o b) (p q : Int32) (he : ¬ (bPut p q b).1 < 0) : ∃ σ', fX9_puts g σ o p q = some ((bPut p q b).1, σ') ∧ BnM σ' o (bPut p q b).2 ∧ chB σ σ' o := by
  have hl := h.1.2.1
  have hl2 := h.2.2.1
  unfold bPut at he ⊢
  rcases okI_get (p := p) (L := b.2) (by omega) with ⟨x, j, rfl, hc, hj, hp, hx, ho⟩ | ⟨ho, hn⟩
  · rw [hc, hx] at he ⊢
    simp only [if_neg hp] at he ⊢
    by_cases cq : okI q (b.1.length + 1) = true
    · rw [if_pos cq] at he ⊢
      by_cases c : 20 ≤ b.1.length
      · rw [if_pos c] at he
        exact absurd (nN_l (by omega) (by omega)) he
      · rw [if_neg c]
        obtain ⟨k, hk, -, rfl, hk2⟩ := okI_of cq
        rw [hk2]
        have a0 : fX9_ofC g σ o (nI j) (nI 0) = some (nI x.1) := X9_ofC (c := 0) h.2 hx (by omega)
        have a1 : fX9_ofC g σ o (nI j) (nI 1) = some (nI x.2.1) := X9_ofC (c := 1) h.2 hx (by omega)
        have a2 : fX9_ofC g σ o (nI j) (nI 2) = some (nI x.2.2.1) := X9_ofC (c := 2) h.2 hx (by omega)
        obtain ⟨σ1, f1, r1, s1⟩ := X9_inserts (g := g) (at_ := k) (s := x.1) (f := x.2.1) (l := x.2.2.1) hg h.1 (by omega) (by omega)
        have hC := h.2.p s1
        obtain ⟨σ2, f2, r2, s2, s3⟩ := X9_puts_37 (g := g) (σ0 := σ1) (o := o) hC hj g (3 * j) (mu σ1 (o + 1) 2 (nI (b.2.length - 1))) (by omega) (by omega) (by omega) (fun i hi => mu_n hi) (fun j hj _ => mu_k hj) mu_s (fun j => by rw [if_neg (by omega), mu_k (by omega)])
        unfold fX9_puts
        simp (disch := omega) only [chk_T, okI_t, okI_f, okI_nN, b2i_t, b2i_f, ifTT, ifFT, ite_true, ite_false, nI_c, bnd_s, bnd2_s, stp_s, ifLE_t, ifLE_f, ifLT_t, ifLT_f, ifE_t, ifE_f, if0_t, if0_f, ifn0, ifp0, ifl0_t, ifl0_f, ifg0_t, ifg0_f, ifnE, ifnE2, ifNE_t, ifNE_f, ifN0, ifNl, ifNp, ifB, nI_A, nI_S, nI_M, mu_s, mu_k, mu_n, mcp_n, a0, a1, a2, f1, hC.1, f2]
        have r1 : RowM σ1 o (putL b.1 k x) := r1
        have hR : RowM σ2 o (putL b.1 k x) := ⟨by rw [s3 1 (by omega) (by omega)]; exact r1.1, r1.2.1, fun i y hy d hd => by
          have := lt_of_get hy
          have := r1.2.1
          rw [s3 _ (by omega) (by omega)]
          exact r1.2.2 i y hy d hd⟩
        exact ⟨σ2, rfl, ⟨hR, r2⟩, s1.b.tr ⟨s2, fun j a b c => s3 j b (by omega)⟩⟩
    · rw [if_neg cq] at he
      exact absurd (nN_l (by omega) (by omega)) he
  · exfalso
    rcases hn with hn | hn
    · cases hz : b.2[p.toNatClampNeg]? with
      | none => rw [hz] at he; exact he (nN_l (by omega) (by omega))
      | some x => rw [hz] at he; simp only [if_pos hn] at he; exact he (nN_l (by omega) (by omega))
    · rw [hn] at he
      exact he (nN_l (by omega) (by omega))
theorem X9_moveError (h : RowM σ o b.1) (p q : Int32) (hb : tot b.1 < 2147483648) (hV : RowV b.1) : fX9_moveError g σ o p q = some (errOf (bMove p q b).1) := by
  have hl := h.2.1
  unfold fX9_moveError bMove
  rcases okI_get (p := p) (L := b.1) (by omega) with ⟨x, j, rfl, hc, hj, hp, hx, ho⟩ | ⟨ho, hn⟩
  · rw [hc, hx]
    simp (disch := omega) only [chk_T, okI_t, okI_f, okI_nN, b2i_t, b2i_f, ifTT, ifFT, ite_true, ite_false, nI_c, bnd_s, bnd2_s, stp_s, ifLE_t, ifLE_f, ifLT_t, ifLT_f, ifE_t, ifE_f, if0_t, if0_f, ifn0, ifp0, ifl0_t, ifl0_f, ifg0_t, ifg0_f, ifnE, ifnE2, ifNE_t, ifNE_f, ifN0, ifNl, ifNp, ifB, nI_A, nI_S, nI_M, mu_s, mu_k, mu_n, mcp_n, X9_isPiece h, ho, if_neg hp]
    by_cases cq : okI q b.1.length = true
    · rw [if_pos cq, if_pos cq]
      by_cases c : nI j = q
      · rw [if_pos c, if_pos c]
        simp (disch := omega) only [chk_T, okI_t, okI_f, okI_nN, b2i_t, b2i_f, ifTT, ifFT, ite_true, ite_false, nI_c, bnd_s, bnd2_s, stp_s, ifLE_t, ifLE_f, ifLT_t, ifLT_f, ifE_t, ifE_f, if0_t, if0_f, ifn0, ifp0, ifl0_t, ifl0_f, ifg0_t, ifg0_f, ifnE, ifnE2, ifNE_t, ifNE_f, ifN0, ifNl, ifNp, ifB, nI_A, nI_S, nI_M, mu_s, mu_k, mu_n, mcp_n, errOf_N]
      · rw [if_neg c, if_neg c]
        obtain ⟨k, hk, -, rfl, hk2⟩ := okI_of cq
        have hl1 := pullL_len hj
        have hl2 := putL_len (x := x) (show k ≤ (pullL b.1 j).length by omega)
        have := posOf_le (L := moveL b.1 j k x) ((hV.pull j).put k (hV _ _ hx)) k (by unfold moveL; omega)
        rw [hk2, errOf_I (by omega)]
    · rw [if_neg cq, if_neg cq]
      simp (disch := omega) only [chk_T, okI_t, okI_f, okI_nN, b2i_t, b2i_f, ifTT, ifFT, ite_true, ite_false, nI_c, bnd_s, bnd2_s, stp_s, ifLE_t, ifLE_f, ifLT_t, ifLT_f, ifE_t, ifE_f, if0_t, if0_f, ifn0, ifp0, ifl0_t, ifl0_f, ifg0_t, ifg0_f, ifnE, ifnE2, ifNE_t, ifNE_f, ifN0, ifNl, ifNp, ifB, nI_A, nI_S, nI_M, mu_s, mu_k, mu_n, mcp_n, errOf_N]
  · simp (disch := omega) only [chk_T, okI_t, okI_f, okI_nN, b2i_t, b2i_f, ifTT, ifFT, ite_true, ite_false, nI_c, bnd_s, bnd2_s, stp_s, ifLE_t, ifLE_f, ifLT_t, ifLT_f, ifE_t, ifE_f, if0_t, if0_f, ifn0, ifp0, ifl0_t, ifl0_f, ifg0_t, ifg0_f, ifnE, ifnE2, ifNE_t, ifNE_f, ifN0, ifNl, ifNp, ifB, nI_A, nI_S, nI_M, mu_s, mu_k, mu_n, mcp_n, X9_isPiece h, ho]
    rcases hn with hn | hn
    · cases b.1[p.toNatClampNeg]? with
      | none => simp (disch := omega) only [chk_T, okI_t, okI_f, okI_nN, b2i_t, b2i_f, ifTT, ifFT, ite_true, ite_false, nI_c, bnd_s, bnd2_s, stp_s, ifLE_t, ifLE_f, ifLT_t, ifLT_f, ifE_t, ifE_f, if0_t, if0_f, ifn0, ifp0, ifl0_t, ifl0_f, ifg0_t, ifg0_f, ifnE, ifnE2, ifNE_t, ifNE_f, ifN0, ifNl, ifNp, ifB, nI_A, nI_S, nI_M, mu_s, mu_k, mu_n, mcp_n, errOf_N]
      | some x => simp (disch := omega) only [chk_T, okI_t, okI_f, okI_nN, b2i_t, b2i_f, ifTT, ifFT, ite_true, ite_false, nI_c, bnd_s, bnd2_s, stp_s, ifLE_t, ifLE_f, ifLT_t, ifLT_f, ifE_t, ifE_f, if0_t, if0_f, ifn0, ifp0, ifl0_t, ifl0_f, ifg0_t, ifg0_f, ifnE, ifnE2, ifNE_t, ifNE_f, ifN0, ifNl, ifNp, ifB, nI_A, nI_S, nI_M, mu_s, mu_k, mu_n, mcp_n, if_pos hn, errOf_N]
    · rw [hn]
      simp (disch := omega) only [chk_T, okI_t, okI_f, okI_nN, b2i_t, b2i_f, ifTT, ifFT, ite_true, ite_false, nI_c, bnd_s, bnd2_s, stp_s, ifLE_t, ifLE_f, ifLT_t, ifLT_f, ifE_t, ifE_f, if0_t, if0_f, ifn0, ifp0, ifl0_t, ifl0_f, ifg0_t, ifg0_f, ifnE, ifnE2, ifNE_t, ifNE_f, ifN0, ifNl, ifNp, ifB, nI_A, nI_S, nI_M, mu_s, mu_k, mu_n, mcp_n, errOf_N]
theorem X9_moves (hg : 1000 ≤ g) (h : BnM σ o b) (hV : BnV b) (p q : Int32) (he : ¬ (bMove p q b).1 < 0) : ∃ σ', fX9_moves g σ o p q = some ((bMove p q b).1, σ') ∧ BnM σ' o (bMove p q b).2 ∧ chP σ σ' o := by
  have hl := h.1.2.1
  unfold bMove at he ⊢
  rcases okI_get (p := p) (L := b.1) (by omega) with ⟨x, j, rfl, hc, hj, hp, hx, ho⟩ | ⟨ho, hn⟩
  · rw [hc, hx] at he ⊢
    simp only [if_neg hp] at he ⊢
    by_cases cq : okI q b.1.length = true
    · rw [if_pos cq] at he ⊢
      by_cases c : nI j = q
      · rw [if_pos c] at he
        exact absurd (nN_l (by omega) (by omega)) he
      · rw [if_neg c]
        obtain ⟨k, hk, -, rfl, hk2⟩ := okI_of cq
        rw [hk2]
        have a0 : fX9_ofP g σ o (nI j) (nI 0) = some (nI x.1) := X9_ofP (c := 0) h.1 hx (by omega)
        have a1 : fX9_ofP g σ o (nI j) (nI 1) = some (nI x.2.1) := X9_ofP (c := 1) h.1 hx (by omega)
        have a2 : fX9_ofP g σ o (nI j) (nI 2) = some (nI x.2.2.1) := X9_ofP (c := 2) h.1 hx (by omega)
        obtain ⟨σ1, f1, r1, s1⟩ := X9_removes (g := g) (at_ := j) hg h.1 hj
        have hl1 := pullL_len hj
        obtain ⟨σ2, f2, r2, s2⟩ := X9_inserts (g := g) (at_ := k) (s := x.1) (f := x.2.1) (l := x.2.2.1) hg r1 (by omega) (by omega)
        have r2 : RowM σ2 o (putL (pullL b.1 j) k x) := r2
        have hl2 := putL_len (x := x) (show k ≤ (pullL b.1 j).length by omega)
        have f3 := X9_positionOf (g := g) (k := k) hg r2 ((hV.1.pull j).put k (hV.1 _ _ hx)) (by omega)
        unfold fX9_moves
        simp (disch := omega) only [chk_T, okI_t, okI_f, okI_nN, b2i_t, b2i_f, ifTT, ifFT, ite_true, ite_false, nI_c, bnd_s, bnd2_s, stp_s, ifLE_t, ifLE_f, ifLT_t, ifLT_f, ifE_t, ifE_f, if0_t, if0_f, ifn0, ifp0, ifl0_t, ifl0_f, ifg0_t, ifg0_f, ifnE, ifnE2, ifNE_t, ifNE_f, ifN0, ifNl, ifNp, ifB, nI_A, nI_S, nI_M, mu_s, mu_k, mu_n, mcp_n, a0, a1, a2, f1, f2, f3]
        exact ⟨σ2, rfl, ⟨r2, (h.2.p s1).p s2⟩, s1.tr s2⟩
    · rw [if_neg cq] at he
      exact absurd (nN_l (by omega) (by omega)) he
  · exfalso
    rcases hn with hn | hn
    · cases hz : b.1[p.toNatClampNeg]? with
      | none => rw [hz] at he; exact he (nN_l (by omega) (by omega))
      | some x => rw [hz] at he; simp only [if_pos hn] at he; exact he (nN_l (by omega) (by omega))
    · rw [hn] at he
      exact he (nN_l (by omega) (by omega))
end
