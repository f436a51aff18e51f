/-! PURE ROWS, 6: the reference's five edits do as the lists do -/
section
variable {g o : Nat} {σ : Mem} {L : List Pc} {b : Bn}
def BnM (σ : Mem) (o : Nat) (b : Bn) : Prop := RowM σ o b.1 ∧ CanM σ o b.2
/-- an edit's error, or 0 -/
def errOf (r : Int32) : Int32 := if r < 0 then r else nI 0
theorem errOf_I {n : Nat} (h : n < 2147483648) : errOf (nI n) = nI 0 := by unfold errOf; rw [if_neg (nI_pos (by omega))]
theorem errOf_N {n : Nat} (h0 : 0 < n) (h : n < 2147483648) : errOf (nN n) = nN n := by unfold errOf; rw [if_pos ((nN_lt0 h0 h).2 trivial)]
theorem X9_cutError (hg : 1000 ≤ g) (h : RowM σ o b.1) (hV : RowV b.1) (p : Int32) : fX9_cutError g σ o p = some (errOf (bCut p b).1) := by
  have hl := h.2.1
  have ht := tot_le hV hl
  unfold fX9_cutError bCut
  rw [X9_onReel hg h hV, bnd_s, X9_isIn, in_sub1 (by omega)]
  by_cases c : okI p (tot b.1) = true
  · obtain ⟨q, hq, -, rfl, hq2⟩ := okI_of c
    have a1 := (pAt_spec b.1 q hq).1
    have b1 := posOf_le hV (pAt b.1 q) (by omega)
    simp (disch := omega) only [chk_T, okI_t, okI_f, okI_nN, b2i_t, b2i_f, ifTT, ifFT, ite_true, ite_false, nI_c, bnd_s, bnd2_s, stp_s, ifLE_t, ifLE_f, ifLT_t, ifLT_f, ifE_t, ifE_f, if0_t, if0_f, ifn0, ifp0, ifl0_t, ifl0_f, ifg0_t, ifg0_f, ifnE, ifnE2, ifNE_t, ifNE_f, ifN0, ifNl, ifNp, ifB, nI_A, nI_S, nI_M, mu_s, mu_k, mu_n, mcp_n, X9_pieceAt hg h hV hq, X9_positionOf hg h hV (Nat.le_of_lt a1), h.1, if_pos c]
    by_cases c1 : posOf b.1 (pAt b.1 q) = q
    · rw [if_pos c1, ifE_t c1, errOf_N (by omega) (by omega)]
    · rw [if_neg c1, ifE_f c1 (by omega) (by omega)]
      by_cases c2 : 20 ≤ b.1.length
      · rw [if_pos c2, ifE_t (by omega), errOf_N (by omega) (by omega)]
      · rw [if_neg c2, ifE_f (by omega) (by omega) (by omega), errOf_I (by omega)]
  · rw [if_neg c]
    simp (disch := omega) only [chk_T, okI_t, okI_f, okI_nN, b2i_t, b2i_f, ifTT, ifFT, ite_true, ite_false, nI_c, bnd_s, bnd2_s, stp_s, ifLE_t, ifLE_f, ifLT_t, ifLT_f, ifE_t, ifE_f, if0_t, if0_f, ifn0, ifp0, ifl0_t, ifl0_f, ifg0_t, ifg0_f, ifnE, ifnE2, ifNE_t, ifNE_f, ifN0, ifNl, ifNp, ifB, nI_A, nI_S, nI_M, mu_s, mu_k, mu_n, mcp_n]
    rw [if_neg c, errOf_N (by omega) (by omega)]
theorem X9_cuts (hg : 1000 ≤ g) (h : BnM σ o b) (hV : BnV b) (p : Int32) (he : ¬ (bCut p b).1 < 0) : ∃ σ', fX9_cuts g σ o p = some ((bCut p b).1, σ') ∧ BnM σ' o (bCut p b).2 ∧ chP σ σ' o := by
  have hl := h.1.2.1
  have ht := tot_le hV.1 hl
  unfold bCut at he ⊢
  by_cases c : okI p (tot b.1) = true
  · rw [if_pos c] at he ⊢
    obtain ⟨q, hq, -, rfl, hq2⟩ := okI_of c
    rw [hq2] at he ⊢
    by_cases c1 : posOf b.1 (pAt b.1 q) = q
    · rw [if_pos c1] at he
      exact absurd ((nN_lt0 (by omega) (by omega)).2 trivial) he
    · rw [if_neg c1] at he ⊢
      by_cases c2 : 20 ≤ b.1.length
      · rw [if_pos c2] at he
        exact absurd ((nN_lt0 (by omega) (by omega)).2 trivial) he
      · rw [if_neg c2]
        obtain ⟨a1, a2, a3⟩ := pAt_spec b.1 q hq
        have b1 := posOf_le hV.1 (pAt b.1 q) (by omega)
        obtain ⟨x, hx⟩ := get_of a1
        have hs := posOf_s hx
        have hv := hV.1 _ x hx
        have b2 := plen_b hv
        obtain ⟨v0, v1, v2, v3⟩ := hv
        have k1 := X9_pieceAt hg h.1 hV.1 hq
        have k2 := X9_positionOf (g := g) hg h.1 hV.1 (Nat.le_of_lt a1)
        generalize hi : pAt b.1 q = i at *
        generalize hoff : q - posOf b.1 i = off at *
        have k3 : ∀ c, c < 4 → fX9_ofP g σ o (nI i) (nI c) = some (nI (pcc x (c + 1))) := fun c hc => X9_ofP h.1 hx hc
        -- the first piece's end, then the second one, then the splice behind as it was
        have hset := X9_setsP (g := g) (σ := σ) (o := o) (i := i) (c := 2) (v := nI (x.2.1 + off - 1)) (by omega) (by omega)
        have r1 : RowM (mu σ (o + 1) (992 + 4 * i + 2) (nI (x.2.1 + off - 1))) o (b.1.set i (x.1, x.2.1, x.2.1 + off - 1, x.2.2.2)) := RowM_set h.1 hx (by omega) (fun d hd => by
          rcases (show d = 0 ∨ d = 1 ∨ d = 2 ∨ d = 3 by omega) with rfl | rfl | rfl | rfl <;> rfl)
        have hlen1 : (b.1.set i (x.1, x.2.1, x.2.1 + off - 1, x.2.2.2)).length = b.1.length := List.length_set
        obtain ⟨σ1, f1, r2, s1⟩ := X9_inserts (g := g) (at_ := i + 1) (s := x.1) (f := x.2.1 + off) (l := x.2.2.1) hg r1 (by omega) (by omega)
        have k4 : fX9_ofP g (mu σ (o + 1) (992 + 4 * i + 2) (nI (x.2.1 + off - 1))) o (nI i) (nI 0) = some (nI x.1) := X9_ofP (x := (x.1, x.2.1, x.2.1 + off - 1, x.2.2.2)) r1 (i := i) (c := 0) (by rw [List.getElem?_set, if_pos rfl, if_pos a1]) (by omega)
        have hlen2 := putL_len (L := b.1.set i (x.1, x.2.1, x.2.1 + off - 1, x.2.2.2)) (i := i + 1) (x := (x.1, x.2.1 + off, x.2.2.1, 0)) (by omega)
        have hcut : ∀ (τ : Mem) (P : Pc) (hP : b.1[i + 1]? = some P), RowM τ o (putL (b.1.set i (x.1, x.2.1, x.2.1 + off - 1, x.2.2.2)) (i + 1) (x.1, x.2.1 + off, x.2.2.1, 0)) → RowM (mu τ (o + 1) (992 + 4 * (i + 2) + 3) (nI P.2.2.2)) o (cutL b.1 i off) := by
          intro τ P hP hR
          have hi2 := lt_of_get hP
          have hg2 : (putL (b.1.set i (x.1, x.2.1, x.2.1 + off - 1, x.2.2.2)) (i + 1) (x.1, x.2.1 + off, x.2.2.1, 0))[i + 2]? = some (zp P) := by
            unfold putL
            rw [renew_get, List.getElem?_insertIdx, if_neg (by omega), if_neg (by omega), List.getElem?_set, if_neg (by omega), show i + 2 - 1 = i + 1 by omega, hP, Option.map_some, if_pos (show i + 2 = i + 1 + 1 from rfl)]
          have := RowM_set (v := nI P.2.2.2) (c := 3) (y := P) hR hg2 (by omega) (fun d hd => by
            rcases (show d = 0 ∨ d = 1 ∨ d = 2 ∨ d = 3 by omega) with rfl | rfl | rfl | rfl <;> rfl)
          have e : (putL (b.1.set i (x.1, x.2.1, x.2.1 + off - 1, x.2.2.2)) (i + 1) (x.1, x.2.1 + off, x.2.2.1, 0)).set (i + 2) P = cutL b.1 i off := by
            unfold cutL putL
            rw [hx]
            apply List.ext_getElem?
            intro j
            simp only [List.getElem?_set, renew_get, List.getElem?_insertIdx, renew_len, List.length_insertIdx, List.length_set, List.length_insertIdx]
            by_cases j1 : j < i
            · simp (disch := omega) only [if_pos, if_neg, ite_true, ite_false, Option.map_some]
              cases b.1[j]? with
              | none => rfl
              | some w => simp only [Option.map_some, if_neg (show ¬ j = i + 1 + 1 by omega)]
            · by_cases j2 : j = i
              · subst j2
                simp (disch := omega) only [if_pos, if_neg, ite_true, ite_false, Option.map_some, Option.map_some]
              · by_cases j3 : j = i + 1
                · subst j3
                  simp (disch := omega) only [if_pos, if_neg, ite_true, ite_false, Option.map_some, Option.map_some]
                  rfl
                · by_cases j4 : j = i + 2
                  · subst j4
                    rw [show i + 2 - 1 = i + 1 by omega, hP]
                    simp (disch := omega) only [if_pos, if_neg, ite_true, ite_false, Option.map_some]
                  · simp (disch := omega) only [if_pos, if_neg, ite_true, ite_false, Option.map_some]
                    cases b.1[j - 1]? with
                    | none => rfl
                    | some w => simp only [Option.map_some, if_neg (show ¬ j = i + 1 + 1 by omega)]
          rw [← e]
          exact this
        unfold fX9_cuts
        have pc2 : pcc x 2 = x.2.1 := rfl
        have pc3 : pcc x 3 = x.2.2.1 := rfl
        have eoff : x.2.1 + q - posOf b.1 i = x.2.1 + off := by omega
        simp (disch := omega) only [chk_T, okI_t, okI_f, okI_nN, b2i_t, b2i_f, ifTT, ifFT, ite_true, ite_false, nI_c, bnd_s, bnd2_s, stp_s, ifLE_t, ifLE_f, ifLT_t, ifLT_f, ifE_t, ifE_f, if0_t, if0_f, ifn0, ifp0, ifl0_t, ifl0_f, ifg0_t, ifg0_f, ifnE, ifnE2, ifNE_t, ifNE_f, ifN0, ifNl, ifNp, ifB, nI_A, nI_S, nI_M, mu_s, mu_k, mu_n, mcp_n, k1, k2, k3, pc2, pc3, X9_isPiece h.1, eoff, hset]
        have fin : ∀ (hP : b.1[i + 1]? = none), putL (b.1.set i (x.1, x.2.1, x.2.1 + off - 1, x.2.2.2)) (i + 1) (x.1, x.2.1 + off, x.2.2.1, 0) = cutL b.1 i off := by
          intro hP
          have hi2 : b.1.length ≤ i + 1 := by
            rcases Nat.lt_or_ge (i + 1) b.1.length with z | z
            · rw [List.getElem?_eq_getElem z] at hP; cases hP
            · exact z
          unfold putL cutL
          rw [renew_out (by rw [List.length_insertIdx, if_pos (by omega)]; omega), hx]
          apply List.ext_getElem?
          intro j
          simp only [List.getElem?_set, List.getElem?_insertIdx, List.length_insertIdx, List.length_set]
          by_cases j1 : j < i
          · simp (disch := omega) only [if_pos, if_neg, ite_true, ite_false, Option.map_some]
          · by_cases j2 : j = i
            · subst j2
              simp (disch := omega) only [if_pos, if_neg, ite_true, ite_false, Option.map_some]
            · by_cases j3 : j = i + 1
              · subst j3
                simp (disch := omega) only [if_pos, if_neg, ite_true, ite_false, Option.map_some]
                rfl
              · simp (disch := omega) only [if_pos, if_neg, ite_true, ite_false, Option.map_some]
        cases hP : b.1[i + 1]? with
        | none =>
          have hi2 : b.1.length ≤ i + 1 := by
            rcases Nat.lt_or_ge (i + 1) b.1.length with z | z
            · rw [List.getElem?_eq_getElem z] at hP; cases hP
            · exact z
          simp (disch := omega) only [chk_T, okI_t, okI_f, okI_nN, b2i_t, b2i_f, ifTT, ifFT, ite_true, ite_false, nI_c, bnd_s, bnd2_s, stp_s, ifLE_t, ifLE_f, ifLT_t, ifLT_f, ifE_t, ifE_f, if0_t, if0_f, ifn0, ifp0, ifl0_t, ifl0_f, ifg0_t, ifg0_f, ifnE, ifnE2, ifNE_t, ifNE_f, ifN0, ifNl, ifNp, ifB, nI_A, nI_S, nI_M, mu_s, mu_k, mu_n, mcp_n, k4, f1, X9_isPiece r2]
          refine ⟨σ1, rfl, ⟨by rw [← fin hP]; exact r2, (h.2.p (chP_mu (by omega))).p s1⟩, (chP_mu (by omega)).tr s1⟩
        | some P =>
          have hi2 := lt_of_get hP
          have k5 := X9_ofP (g := g) (c := 3) h.1 hP (by omega)
          have k6 := X9_setsP (g := g) (σ := σ1) (o := o) (i := i + 2) (c := 3) (v := nI P.2.2.2) (by omega) (by omega)
          have pc4 : pcc P (3 + 1) = P.2.2.2 := rfl
          simp (disch := omega) only [chk_T, okI_t, okI_f, okI_nN, b2i_t, b2i_f, ifTT, ifFT, ite_true, ite_false, nI_c, bnd_s, bnd2_s, stp_s, ifLE_t, ifLE_f, ifLT_t, ifLT_f, ifE_t, ifE_f, if0_t, if0_f, ifn0, ifp0, ifl0_t, ifl0_f, ifg0_t, ifg0_f, ifnE, ifnE2, ifNE_t, ifNE_f, ifN0, ifNl, ifNp, ifB, nI_A, nI_S, nI_M, mu_s, mu_k, mu_n, mcp_n, k4, f1, X9_isPiece r2, k5, pc4, k6]
          exact ⟨_, rfl, ⟨hcut σ1 P hP r2, ((h.2.p (chP_mu (by omega))).p s1).p (chP_mu (by omega))⟩, ((chP_mu (by omega)).tr s1).tr (chP_mu (by omega))⟩
  · rw [if_neg c] at he
    exact absurd ((nN_lt0 (by omega) (by omega)).2 trivial) he
end
