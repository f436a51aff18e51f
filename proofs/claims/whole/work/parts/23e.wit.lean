/-! PURE ROWS, 18: witnesses: both sides -/
section
variable {g o : Nat} {σ : Mem} {S : SS}
theorem X2_hasShow {A : Fa} (h : FilmC σ o A) (p : Int32) : fX2_hasShow g σ o p = some (b2i (okI p A.2.2.2.1.length)) := by
  have := h.2.2.1.1
  unfold fX2_hasShow
  rw [h.2.2.2.2.1]
  exact has_b (by omega)
theorem X7_has {ws : List (Nat × Nat × Nat)} (h : WitC σ o ws) (p : Int32) : fX7_has g σ o p = some (b2i (okI p ws.length)) := by
  have := h.2.1
  unfold fX7_has
  rw [h.1]
  exact has_b (by omega)
theorem X9_isShow {A : Fa} (h : FilmW (σ (o + 1)) A) (p : Int32) : fX9_isShow g σ o p = some (b2i (okI p A.2.2.2.1.length)) := by
  have hl := h.2.2.2.2.1.2.1
  unfold fX9_isShow
  rw [X9_isIn]
  simp (disch := omega) only [chk_T, okI_t, okI_f, okI_nN, b2i_t, b2i_f, ifTT, ifFT, ite_true, ite_false, nI_c, bnd_s, bnd2_s, stp_s, ifLE_t, ifLE_f, ifLT_t, ifLT_f, ifE_t, ifE_f, if0_t, if0_f, ifn0, ifp0, ifl0_t, ifl0_f, ifg0_t, ifg0_f, ifnE, ifnE2, ifNE_t, ifNE_f, ifN0, ifNl, ifNp, ifB, nI_A, nI_S, nI_M, mu_s, mu_k, mu_n, mcp_n, h.2.2.2.2.1.1]
  rw [in_sub1 (by omega), chk_t isZ_b]
theorem X9_isWitness {A : Fa} (h : FilmW (σ (o + 1)) A) (p : Int32) : fX9_isWitness g σ o p = some (b2i (okI p A.2.2.2.2.1.length)) := by
  have hl := h.2.2.2.2.2.1.2.1
  unfold fX9_isWitness
  rw [X9_isIn]
  simp (disch := omega) only [chk_T, okI_t, okI_f, okI_nN, b2i_t, b2i_f, ifTT, ifFT, ite_true, ite_false, nI_c, bnd_s, bnd2_s, stp_s, ifLE_t, ifLE_f, ifLT_t, ifLT_f, ifE_t, ifE_f, if0_t, if0_f, ifn0, ifp0, ifl0_t, ifl0_f, ifg0_t, ifg0_f, ifnE, ifnE2, ifNE_t, ifNE_f, ifN0, ifNl, ifNp, ifB, nI_A, nI_S, nI_M, mu_s, mu_k, mu_n, mcp_n, h.2.2.2.2.2.1.1]
  rw [in_sub1 (by omega), chk_t isZ_b]
theorem X9_ofS {A : Fa} (h : FilmW (σ (o + 1)) A) {i k : Nat} {s : Sw} (hs : A.2.2.2.1[i]? = some s) (hk : k < 488) : fX9_ofS g σ o (nI i) (nI k) = some (σ (o + 1) (1132 + 488 * i + k)) := by
  have hl := h.2.2.2.2.1.2.1
  have := lt_of_get hs
  unfold fX9_ofS
  simp (disch := omega) only [chk_T, okI_t, okI_f, okI_nN, b2i_t, b2i_f, ifTT, ifFT, ite_true, ite_false, nI_c, bnd_s, bnd2_s, stp_s, ifLE_t, ifLE_f, ifLT_t, ifLT_f, ifE_t, ifE_f, if0_t, if0_f, ifn0, ifp0, ifl0_t, ifl0_f, ifg0_t, ifg0_f, ifnE, ifnE2, ifNE_t, ifNE_f, ifN0, ifNl, ifNp, ifB, nI_A, nI_S, nI_M, mu_s, mu_k, mu_n, mcp_n]
theorem spWit_none {p q r : Int32} (c : p < 0 ∨ S.1.2.2.2.1[p.toNatClampNeg]? = none) : spWit p q r S = (nN 1, S) := by
  unfold spWit
  rcases c with c | c
  · cases S.1.2.2.2.1[p.toNatClampNeg]? with
    | none => rfl
    | some s => dsimp only; rw [if_pos c]
  · rw [c]
theorem X8_addWitness (hg : 1000 ≤ g) (h : SysC σ o S) (p q r : Int32) : ∃ σ', fX8_addWitness g σ o p q r = some ((spWit p q r S).1, σ') ∧ SysC σ' o (spWit p q r S).2 ∧ same σ σ' o (o + 334) := by
  have hF := h.1
  unfold fX8_addWitness
  rw [X2_hasShow hF, bnd_s]
  have l10 := hF.2.2.1.1
  rcases okI_get (p := p) (L := S.1.2.2.2.1) (by omega) with ⟨s, j, rfl, c1, c2, cn, c3, c4⟩ | ⟨c1, c2⟩
  · unfold spWit
    rw [c4, if_neg (show ¬ b2i true = 0 by decide), c1, c3]
    dsimp only
    rw [if_neg cn]
    by_cases q0 : q < 0
    · rw [if_pos q0, if_pos q0]
      exact ⟨σ, rfl, h, same.rf⟩
    · rw [if_neg q0, if_neg q0]
      by_cases q1 : r ≤ q
      · rw [if_pos q1, if_pos q1]
        exact ⟨σ, rfl, h, same.rf⟩
      · rw [if_neg q1, if_neg q1]
        obtain ⟨b, hb, rfl⟩ := nI_of q0
        obtain ⟨c, hc, rfl⟩ : ∃ c, c < 2147483648 ∧ r = nI c := by
          have : ¬ r < 0 := fun z => by
            rw [Int32.le_iff_toInt_le, nI_toInt (by omega)] at q1
            rw [Int32.lt_iff_toInt_lt, show (0 : Int32).toInt = 0 from by decide] at z
            omega
          obtain ⟨c, hc, rfl⟩ := nI_of this
          exact ⟨c, by omega, rfl⟩
        have hS : ShowC σ (o + 18 + 5 + 3 * j) s := hF.2.2.1.2 j s c3
        have e0 := hS.1
        have e1 : σ (o + 19) 0 = nI S.1.2.2.2.2.1.length := hF.2.2.2.1.1
        have l8 := hF.2.2.2.1.2.1
        have l480 := hS.2.1
        simp (disch := omega) only [chk_T, okI_t, okI_f, okI_nN, b2i_t, b2i_f, ifTT, ifFT, ite_true, ite_false, nI_c, bnd_s, bnd2_s, stp_s, ifLE_t, ifLE_f, ifLT_t, ifLT_f, ifE_t, ifE_f, if0_t, if0_f, ifn0, ifp0, ifl0_t, ifl0_f, ifg0_t, ifg0_f, ifnE, ifnE2, ifNE_t, ifNE_f, ifN0, ifNl, ifNp, ifB, nI_A, nI_S, nI_M, mu_s, mu_k, mu_n, mcp_n, e0, e1]
        by_cases c5 : c ≤ s.1.length
        · rw [ifLE_t c5 (by omega), if_pos ((nI_LE (by omega) (by omega)).2 c5)]
          by_cases c6 : 8 ≤ S.1.2.2.2.2.1.length
          · rw [ifLT_f c6 (by omega), if_pos c6]
            exact ⟨σ, rfl, h, same.rf⟩
          · rw [ifLT_t (by omega) (by omega), if_neg c6]
            obtain ⟨σ1, p1, r1, s1⟩ := h.rec hg
            have e2 : σ1 (o + 19) 0 = nI S.1.2.2.2.2.1.length := r1.1.2.2.2.1.1
            unfold fX7_append
            simp (disch := omega) only [chk_T, okI_t, okI_f, okI_nN, b2i_t, b2i_f, ifTT, ifFT, ite_true, ite_false, nI_c, bnd_s, bnd2_s, stp_s, ifLE_t, ifLE_f, ifLT_t, ifLT_f, ifE_t, ifE_f, if0_t, if0_f, ifn0, ifp0, ifl0_t, ifl0_f, ifg0_t, ifg0_f, ifnE, ifnE2, ifNE_t, ifNE_f, ifN0, ifNl, ifNp, ifB, nI_A, nI_S, nI_M, mu_s, mu_k, mu_n, mcp_n, p1, e2, nI_c]
            obtain ⟨f1, f2, f3, ⟨w1, w2, w3⟩, f4, f5, f6, f7⟩ := r1.1
            refine ⟨_, rfl, r1.film ⟨f1.same (fun i a b => by rw [mu_n (by omega), mu_n (by omega), mu_n (by omega), mu_n (by omega)]), f2.same (fun i a b => by rw [mu_n (by omega), mu_n (by omega), mu_n (by omega), mu_n (by omega)]), f3.same (fun i a b => by rw [mu_n (by omega), mu_n (by omega), mu_n (by omega), mu_n (by omega)]), ⟨?_, ?_, fun i x hx => ?_⟩, ?_, ?_, ?_, ?_⟩ (fun i a b => by rw [mu_n (by omega), mu_n (by omega), mu_n (by omega), mu_n (by omega)]), fun i hi => by rw [mu_n (by omega), mu_n (by omega), mu_n (by omega), mu_n (by omega), s1 i (by omega)]⟩
            · rw [show o + 1 + 18 = o + 19 from rfl, mu_s]
              simp [setW]
            · simp [setW]; omega
            · have hx : (S.1.2.2.2.2.1 ++ [(j, b, c)])[i]? = some x := hx
              rw [show o + 1 + 18 + 1 = o + 19 + 1 from rfl, show o + 1 + 18 + 2 = o + 19 + 2 from rfl, show o + 1 + 18 + 3 = o + 19 + 3 from rfl]
              simp (disch := omega) only [mu_n, mu_ij]
              by_cases z : i < S.1.2.2.2.2.1.length
              · rw [List.getElem?_append_left z] at hx
                rw [if_neg (by omega), if_neg (by omega), if_neg (by omega)]
                exact w3 i x hx
              · have := lt_of_get hx
                rw [List.length_append, List.length_singleton] at this
                rw [List.getElem?_append_right (by omega), show i - S.1.2.2.2.2.1.length = 0 by omega] at hx
                cases hx
                rw [if_pos (by omega), if_pos (by omega), if_pos (by omega)]
                exact ⟨rfl, rfl, rfl⟩
            · rw [mu_n (by omega), mu_n (by omega), mu_n (by omega), mu_n (by omega)]; exact f4
            · rw [mu_n (by omega), mu_n (by omega), mu_n (by omega), mu_n (by omega)]; exact f5
            · rw [mu_n (by omega), mu_n (by omega), mu_n (by omega), mu_n (by omega)]; exact f6
            · rw [mu_n (by omega), mu_n (by omega), mu_n (by omega), mu_n (by omega)]; exact f7
        · rw [ifLE_f (by omega) (by omega), if_neg (fun z => c5 ((nI_LE (by omega) (by omega)).1 z))]
          exact ⟨σ, rfl, h, same.rf⟩
  · rw [c1, if_pos (show b2i false = 0 from rfl), spWit_none c2]
    exact ⟨σ, rfl, h, same.rf⟩
theorem X9_addWitness (hg : 40000 ≤ g) (h : SysM σ o S) (p q r : Int32) : ∃ σ', fX9_addWitness g σ o p q r = some ((spWit p q r S).1, σ') ∧ SysM σ' o (spWit p q r S).2 ∧ chM σ σ' o := by
  have hF := h.1
  unfold fX9_addWitness
  rw [X9_isShow hF, bnd_s]
  have l10 := hF.2.2.2.2.1.2.1
  rcases okI_get (p := p) (L := S.1.2.2.2.1) (by omega) with ⟨s, j, rfl, c1, c2, cn, c3, c4⟩ | ⟨c1, c2⟩
  · unfold spWit
    rw [c4, if_neg (show ¬ b2i true = 0 by decide), c1, c3]
    dsimp only
    rw [if_neg cn]
    by_cases q0 : q < 0
    · rw [if_pos q0, if_pos q0]
      exact ⟨σ, rfl, h, fun _ _ => rfl⟩
    · rw [if_neg q0, if_neg q0]
      by_cases q1 : r ≤ q
      · rw [if_pos q1, if_pos q1]
        exact ⟨σ, rfl, h, fun _ _ => rfl⟩
      · rw [if_neg q1, if_neg q1]
        obtain ⟨b, hb, rfl⟩ := nI_of q0
        obtain ⟨c, hc, rfl⟩ : ∃ c, c < 2147483648 ∧ r = nI c := by
          have : ¬ r < 0 := fun z => by
            rw [Int32.le_iff_toInt_le, nI_toInt (by omega)] at q1
            rw [Int32.lt_iff_toInt_lt, show (0 : Int32).toInt = 0 from by decide] at z
            omega
          obtain ⟨c, hc, rfl⟩ := nI_of this
          exact ⟨c, by omega, rfl⟩
        have hS := hF.2.2.2.2.1.2.2 j s c3
        have e0 : σ (o + 1) (1132 + 488 * j + 0) = nI s.1.length := hS.1
        have e1 : σ (o + 1) 4 = nI S.1.2.2.2.2.1.length := hF.2.2.2.2.2.1.1
        have l8 := hF.2.2.2.2.2.1.2.1
        have l480 := hS.2.1
        rw [X9_ofS hF c3 (by omega), bnd_s, e0]
        by_cases c5 : c ≤ s.1.length
        · rw [ifLE_t c5 (by omega), if_pos ((nI_LE (by omega) (by omega)).2 c5)]
          by_cases c6 : 8 ≤ S.1.2.2.2.2.1.length
          · rw [if_pos c6]
            simp (disch := omega) only [chk_T, okI_t, okI_f, okI_nN, b2i_t, b2i_f, ifTT, ifFT, ite_true, ite_false, nI_c, bnd_s, bnd2_s, stp_s, ifLE_t, ifLE_f, ifLT_t, ifLT_f, ifE_t, ifE_f, if0_t, if0_f, ifn0, ifp0, ifl0_t, ifl0_f, ifg0_t, ifg0_f, ifnE, ifnE2, ifNE_t, ifNE_f, ifN0, ifNl, ifNp, ifB, nI_A, nI_S, nI_M, mu_s, mu_k, mu_n, mcp_n, e1]
            exact ⟨σ, rfl, h, fun _ _ => rfl⟩
          · rw [if_neg c6]
            obtain ⟨σ1, p1, r1, s1⟩ := h.rec hg
            have e2 : σ1 (o + 1) 4 = nI S.1.2.2.2.2.1.length := r1.1.2.2.2.2.2.1.1
            simp (disch := omega) only [chk_T, okI_t, okI_f, okI_nN, b2i_t, b2i_f, ifTT, ifFT, ite_true, ite_false, nI_c, bnd_s, bnd2_s, stp_s, ifLE_t, ifLE_f, ifLT_t, ifLT_f, ifE_t, ifE_f, if0_t, if0_f, ifn0, ifp0, ifl0_t, ifl0_f, ifg0_t, ifg0_f, ifnE, ifnE2, ifNE_t, ifNE_f, ifN0, ifNl, ifNp, ifB, nI_A, nI_S, nI_M, mu_s, mu_k, mu_n, mcp_n, e1, p1, e2, Nat.add_sub_cancel]
            obtain ⟨f1, f2, f3, f3', f4, ⟨w1, w2, w3⟩, f5, f6, f7⟩ := r1.1
            refine ⟨_, rfl, r1.film ⟨f1.same (fun j q => by simp (disch := omega) only [mu_k]), f2.same (fun j a b => by simp (disch := omega) only [mu_k]), f3.same (fun j q => by simp (disch := omega) only [mu_k]), f3'.same (fun j q => by simp (disch := omega) only [mu_k]), f4.same (fun j q => by simp (disch := omega) only [mu_k]), ⟨?_, ?_, fun i x hx => ?_⟩, ?_, ?_, ?_⟩ (fun i a b => by rw [mu_n a, mu_n a, mu_n a, mu_n a]), fun i hi => by rw [mu_n (by omega), mu_n (by omega), mu_n (by omega), mu_n (by omega), s1 i (by omega) (by omega)]⟩
            · rw [mu_s]
              simp [setW]
            · simp [setW]; omega
            · have hx : (S.1.2.2.2.2.1 ++ [(j, b, c)])[i]? = some x := hx
              simp (disch := omega) only [mu_ij]
              by_cases z : i < S.1.2.2.2.2.1.length
              · rw [List.getElem?_append_left z] at hx
                simp (disch := omega) only [if_pos, if_neg, ite_true, ite_false, Option.map_some]
                exact w3 i x hx
              · have := lt_of_get hx
                rw [List.length_append, List.length_singleton] at this
                rw [List.getElem?_append_right (by omega), show i - S.1.2.2.2.2.1.length = 0 by omega] at hx
                cases hx
                simp (disch := omega) only [if_pos, if_neg, ite_true, ite_false, Option.map_some]
                first | trivial | exact ⟨rfl, rfl, rfl⟩
            · simp (disch := omega) only [mu_k]; exact f5
            · simp (disch := omega) only [mu_k]; exact f6
            · simp (disch := omega) only [mu_k]; exact f7
        · rw [ifLE_f (by omega) (by omega), if_neg (fun z => c5 ((nI_LE (by omega) (by omega)).1 z))]
          exact ⟨σ, rfl, h, fun _ _ => rfl⟩
  · rw [c1, if_pos (show b2i false = 0 from rfl), spWit_none c2]
    exact ⟨σ, rfl, h, fun _ _ => rfl⟩
end
