/-! PURE ROWS, 17: settings, runs, witnesses, text, history, snapshot, trial run: both sides -/
theorem in_120 {q : Int32} : (decide (nI 1 ≤ q) && decide (q ≤ nI 20)) = (okI q 21 && !decide (q = 0)) := by
  by_cases h : q < 0
  · rw [show okI q 21 = false by unfold okI; rw [decide_eq_true h]; rfl, decide_eq_false (show ¬ nI 1 ≤ q from fun z => ?_)]
    · rfl
    · rw [Int32.le_iff_toInt_le, nI_toInt (by omega)] at z
      rw [Int32.lt_iff_toInt_lt, show (0 : Int32).toInt = 0 from by decide] at h
      omega
  · obtain ⟨j, hj, rfl⟩ := nI_of h
    rw [okI_nI (by omega)]
    have e1 : (nI 1 ≤ nI j) ↔ 1 ≤ j := nI_LE (by omega) (by omega)
    have e2 : (nI j ≤ nI 20) ↔ j ≤ 20 := nI_LE (by omega) (by omega)
    have e3 : (nI j = 0) ↔ j = 0 := nI_z (by omega)
    simp only [e1, e2, e3]
    rw [Bool.eq_iff_iff]
    simp
    omega
section
variable {g o : Nat} {σ : Mem} {S : SS}
theorem b2i_and {a b : Bool} : b2i (a && b) = 0 ↔ ¬ (a = true ∧ b = true) := by cases a <;> cases b <;> decide
theorem X8_set (hg : 1000 ≤ g) (h : SysC σ o S) (he : S.1.2.2.2.2.2.2.1 < 1000) (hl : S.1.2.2.2.2.2.2.2 < 1000) (p q : Int32) : ∃ σ', fX8_set g σ o p q = some ((spSet p q S).1, σ') ∧ SysC σ' o (spSet p q S).2 ∧ same σ σ' o (o + 334) := by
  have e6 : σ (o + 1) 6 = nI S.1.2.2.2.2.2.2.1 := h.1.2.2.2.2.2.2.1
  have e7 : σ (o + 1) 7 = nI S.1.2.2.2.2.2.2.2 := h.1.2.2.2.2.2.2.2
  unfold fX8_set spSet
  by_cases c0 : p = 0
  · subst c0
    simp only [if_true, X8_isWithin]
    rw [within_0 (by omega), bnd_s, e6]
    cases c1 : okI q 21 with
    | false =>
      rw [if_pos (show b2i false = 0 from rfl), if_neg (fun q => Bool.noConfusion q)]
      exact ⟨σ, rfl, h, same.rf⟩
    | true =>
      obtain ⟨k, k1, k2, rfl, k4⟩ := okI_of c1
      rw [if_neg (show ¬ b2i true = 0 by decide), if_pos (show true = true from rfl), k4]
      by_cases c2 : S.1.2.2.2.2.2.2.1 = k
      · rw [if_pos (by rw [c2]), if_pos c2]
        exact ⟨σ, rfl, h, same.rf⟩
      · rw [if_neg (fun z => c2 ((nI_E (by omega) (by omega)).1 z)), if_neg c2]
        obtain ⟨σ1, p1, r1, s1⟩ := h.rec hg
        rw [p1, bnd_s, stp_s]
        refine ⟨_, rfl, r1.film (r1.1.cells (k := 6) (by omega) ?_ pk_us ?_) (fun i a b => mu_n (by omega)), fun i hi => by rw [mu_n (by omega), s1 i (by omega)]⟩
        · rw [pk_un (by omega)]; exact r1.1.2.2.2.2.2.1
        · rw [pk_un (by omega)]; exact r1.1.2.2.2.2.2.2.2
  · by_cases c1 : p = nI 1
    · subst c1
      have n1 : ¬ nI 1 = 0 := by decide
      simp only [if_neg n1, if_true, X8_isWithin]
      rw [in_120, bnd_s, e7]
      by_cases c2 : okI q 21 = true ∧ ¬ q = 0
      · obtain ⟨k, k1, k2, rfl, k4⟩ := okI_of c2.1
        rw [if_neg (show ¬ b2i (okI (nI k) 21 && !decide (nI k = 0)) = 0 by rw [c2.1, decide_eq_false c2.2]; decide), if_pos c2, k4]
        by_cases c3 : S.1.2.2.2.2.2.2.2 = k
        · rw [if_pos (by rw [c3]), if_pos c3]
          exact ⟨σ, rfl, h, same.rf⟩
        · rw [if_neg (fun z => c3 ((nI_E (by omega) (by omega)).1 z)), if_neg c3]
          obtain ⟨σ1, p1, r1, s1⟩ := h.rec hg
          rw [p1, bnd_s, stp_s]
          refine ⟨_, rfl, r1.film (r1.1.cells (k := 7) (by omega) ?_ ?_ pk_us) (fun i a b => mu_n (by omega)), fun i hi => by rw [mu_n (by omega), s1 i (by omega)]⟩
          · rw [pk_un (by omega)]; exact r1.1.2.2.2.2.2.1
          · rw [pk_un (by omega)]; exact r1.1.2.2.2.2.2.2.1
      · rw [if_pos (b2i_and.2 (fun z => c2 ⟨z.1, fun w => by rw [decide_eq_true w] at z; exact Bool.noConfusion z.2⟩)), if_neg c2]
        exact ⟨σ, rfl, h, same.rf⟩
    · rw [if_neg c0, if_neg c1, if_neg c0, if_neg c1]
      exact ⟨σ, rfl, h, same.rf⟩
theorem X9_set (hg : 40000 ≤ g) (h : SysM σ o S) (he : S.1.2.2.2.2.2.2.1 < 1000) (hl : S.1.2.2.2.2.2.2.2 < 1000) (p q : Int32) : ∃ σ', fX9_set g σ o p q = some ((spSet p q S).1, σ') ∧ SysM σ' o (spSet p q S).2 ∧ chM σ σ' o := by
  have e5 : σ (o + 1) 5 = nI S.1.2.2.2.2.2.1 := h.1.2.2.2.2.2.2.1
  have e6 : σ (o + 1) 6 = nI S.1.2.2.2.2.2.2.1 := h.1.2.2.2.2.2.2.2.1
  have e7 : σ (o + 1) 7 = nI S.1.2.2.2.2.2.2.2 := h.1.2.2.2.2.2.2.2.2
  unfold fX9_set spSet
  rw [X9_isIn, within_0 (by omega), bnd_s, X9_isIn]
  by_cases c0 : p = 0
  · subst c0
    rw [show okI 0 (1 + 1) = true from by decide, if_neg (show ¬ b2i true = 0 by decide), if_pos (show (0 : Int32) = 0 from rfl), show (0 : Int32) = nI 0 from rfl, within_0 (by omega), bnd_s]
    cases c1 : okI q 21 with
    | false =>
      rw [if_pos (show b2i false = nI 0 from rfl), if_neg (fun q => Bool.noConfusion q)]
      exact ⟨σ, rfl, h, fun _ _ => rfl⟩
    | true =>
      obtain ⟨k, k1, k2, rfl, k4⟩ := okI_of c1
      rw [if_neg (show ¬ b2i true = nI 0 by decide), if_pos (show true = true from rfl), k4]
      simp (disch := omega) only [chk_T, okI_t, okI_f, okI_nN, b2i_t, b2i_f, ifTT, ifFT, ite_true, ite_false, nI_c, bnd_s, bnd2_s, stp_s, ifLE_t, ifLE_f, ifLT_t, ifLT_f, ifE_t, ifE_f, if0_t, if0_f, ifn0, ifp0, ifl0_t, ifl0_f, ifg0_t, ifg0_f, ifnE, ifnE2, ifNE_t, ifNE_f, ifN0, ifNl, ifNp, ifB, nI_A, nI_S, nI_M, mu_s, mu_k, mu_n, mcp_n, e6]
      by_cases c2 : S.1.2.2.2.2.2.2.1 = k
      · rw [if_pos (by rw [c2]), if_pos c2]
        exact ⟨σ, rfl, h, fun _ _ => rfl⟩
      · rw [if_neg (fun z => c2 ((nI_E (by omega) (by omega)).1 z)), if_neg c2]
        obtain ⟨σ1, p1, r1, s1⟩ := h.rec hg
        rw [p1, bnd_s]
        refine ⟨_, rfl, r1.film (r1.1.cells ?_ mu_s ?_ (fun j hj => mu_k (by omega))) (fun i a b => mu_n (by omega)), fun i hi => by rw [mu_n (by omega), s1 i (by omega) (by omega)]⟩
        · rw [mu_k (by omega)]; exact r1.1.2.2.2.2.2.2.1
        · rw [mu_k (by omega)]; exact r1.1.2.2.2.2.2.2.2.2
  · by_cases c1 : p = nI 1
    · subst c1
      rw [show okI (nI 1) (1 + 1) = true from by decide, if_neg (show ¬ b2i true = 0 by decide), if_neg c0, if_pos (show nI 1 = nI 1 from rfl), in_120, bnd_s]
      by_cases c2 : okI q 21 = true ∧ ¬ q = 0
      · obtain ⟨k, k1, k2, rfl, k4⟩ := okI_of c2.1
        rw [if_neg (show ¬ b2i (okI (nI k) 21 && !decide (nI k = 0)) = 0 by rw [c2.1, decide_eq_false c2.2]; decide), if_pos c2, k4]
        simp (disch := omega) only [chk_T, okI_t, okI_f, okI_nN, b2i_t, b2i_f, ifTT, ifFT, ite_true, ite_false, nI_c, bnd_s, bnd2_s, stp_s, ifLE_t, ifLE_f, ifLT_t, ifLT_f, ifE_t, ifE_f, if0_t, if0_f, ifn0, ifp0, ifl0_t, ifl0_f, ifg0_t, ifg0_f, ifnE, ifnE2, ifNE_t, ifNE_f, ifN0, ifNl, ifNp, ifB, nI_A, nI_S, nI_M, mu_s, mu_k, mu_n, mcp_n, e7]
        by_cases c3 : S.1.2.2.2.2.2.2.2 = k
        · rw [if_pos (by rw [c3]), if_pos c3]
          exact ⟨σ, rfl, h, fun _ _ => rfl⟩
        · rw [if_neg (fun z => c3 ((nI_E (by omega) (by omega)).1 z)), if_neg c3]
          obtain ⟨σ1, p1, r1, s1⟩ := h.rec hg
          rw [p1, bnd_s]
          refine ⟨_, rfl, r1.film (r1.1.cells ?_ ?_ mu_s (fun j hj => mu_k (by omega))) (fun i a b => mu_n (by omega)), fun i hi => by rw [mu_n (by omega), s1 i (by omega) (by omega)]⟩
          · rw [mu_k (by omega)]; exact r1.1.2.2.2.2.2.2.1
          · rw [mu_k (by omega)]; exact r1.1.2.2.2.2.2.2.2.1
      · rw [if_pos (b2i_and.2 (fun z => c2 ⟨z.1, fun w => by rw [decide_eq_true w] at z; exact Bool.noConfusion z.2⟩)), if_neg c2]
        exact ⟨σ, rfl, h, fun _ _ => rfl⟩
    · have : okI p 2 = false := by
        cases z : okI p 2 with
        | false => rfl
        | true =>
          obtain ⟨k, k1, k2, rfl, k4⟩ := okI_of z
          rcases (by omega : k = 0 ∨ k = 1) with rfl | rfl
          · exact absurd rfl c0
          · exact absurd rfl c1
      rw [this, if_pos (show b2i false = 0 from rfl), if_neg c0, if_neg c1]
      exact ⟨σ, rfl, h, fun _ _ => rfl⟩
theorem X8_run (hg : 1000 ≤ g) (h : SysC σ o S) (hok : ShowOK S.1) : ∃ σ', fX8_run g σ o = some ((spRun S).1, σ') ∧ SysC σ' o (spRun S).2 ∧ same σ σ' o (o + 334) := by
  have e0 : σ (o + 8) 0 = nI S.1.2.2.1.1.length := h.1.2.1.1.1
  have e4 : σ (o + 1) 4 = nI S.1.2.2.2.1.length := h.1.2.2.2.2.1
  have l0 := h.1.2.1.1.2.1
  have l1 := h.1.2.2.1.1
  obtain ⟨k1, k2, k3, k4, k5, k6, k7, k8⟩ := hok
  unfold fX8_run spRun
  rw [e0, e4]
  by_cases c0 : S.1.2.2.1.1.length = 0
  · rw [if0_t c0, if_pos c0]
    exact ⟨σ, rfl, h, same.rf⟩
  · rw [if0_f (by omega) (by omega), if_neg c0]
    by_cases c1 : S.1.2.2.2.1.length = 10
    · rw [ifLT_f (by omega) (by omega), if_pos c1]
      exact ⟨σ, rfl, h, same.rf⟩
    · rw [ifLT_t (by omega) (by omega), if_neg c1]
      obtain ⟨σ1, p1, r1, s1⟩ := h.rec hg
      obtain ⟨σ2, p2, r2, s2⟩ := X2_giveShow (g := g) (o := o + 1) (A := S.1) hg r1.1 k1 k2 k4 k5 k6 k7 k8 (by omega)
      rw [p1, bnd_s, p2, bnd2_s]
      exact ⟨σ2, rfl, r1.film r2 (fun i a b => s2 i (by omega)), fun i hi => by rw [s2 i (by omega), s1 i (by omega)]⟩
theorem X9_run_S (hg : 40000 ≤ g) (h : SysM σ o S) (hok : ShowOK S.1) : ∃ σ', fX9_run g σ o = some ((spRun S).1, σ') ∧ SysM σ' o (spRun S).2 ∧ chM σ σ' o := by
  obtain ⟨h1, h2, h3, h4, h5⟩ := h
  obtain ⟨σ1, e1, r1, r2, c1, c2, c3⟩ := X9_run (g := g) (o := o) hg h1 h2 hok
  unfold spRun
  by_cases q0 : S.1.2.2.1.1.length = 0
  · rw [if_pos q0] at e1 ⊢
    rw [if_pos (Or.inl q0)] at r1 r2
    exact ⟨σ1, e1, ⟨r1, r2, by rw [c2 3 (by omega)]; exact h3, fun A hA => (h4 A hA).same (fun j _ => c3 _ (by omega)), by
      unfold TextM
      rw [c2 6 (by omega), c1 (o + 4) (by omega) (by omega) (by omega) (by omega)]
      exact h5⟩, fun i hi => c1 i (by omega) (by omega) (by omega) (by omega)⟩
  · rw [if_neg q0] at e1 ⊢
    by_cases q1 : S.1.2.2.2.1.length = 10
    · rw [if_pos q1] at e1 ⊢
      rw [if_pos (Or.inr q1)] at r1 r2
      exact ⟨σ1, e1, ⟨r1, r2, by rw [c2 3 (by omega)]; exact h3, fun A hA => (h4 A hA).same (fun j _ => c3 _ (by omega)), by
        unfold TextM
        rw [c2 6 (by omega), c1 (o + 4) (by omega) (by omega) (by omega) (by omega)]
        exact h5⟩, fun i hi => c1 i (by omega) (by omega) (by omega) (by omega)⟩
    · rw [if_neg q1] at e1 ⊢
      rw [if_neg (by omega)] at r1 r2
      exact ⟨σ1, e1, ⟨r1, r2, by rw [c2 3 (by omega)]; exact h3, fun A hA => (h4 A hA).same (fun j _ => c3 _ (by omega)), by
        unfold TextM
        rw [c2 6 (by omega), c1 (o + 4) (by omega) (by omega) (by omega) (by omega)]
        exact h5⟩, fun i hi => c1 i (by omega) (by omega) (by omega) (by omega)⟩
theorem X8_type (h : SysC σ o S) (c : Int32) (hc : vp_nar .char c = c) : ∃ σ', fX8_type g σ o c = some ((spType c S).1, σ') ∧ SysC σ' o (spType c S).2 ∧ same σ σ' o (o + 334) := by
  obtain ⟨h1, h2, h3, h4, h5, h6, h7⟩ := h
  unfold fX8_type spType
  rw [h5]
  by_cases q : S.2.2.2.length = 60
  · rw [ifLT_f (by omega) (by omega), if_pos q]
    exact ⟨σ, rfl, ⟨h1, h2, h3, h4, h5, h6, h7⟩, same.rf⟩
  · rw [ifLT_t (by omega) (by omega), if_neg q]
    unfold fX1_append
    simp (disch := omega) only [chk_T, okI_t, okI_f, okI_nN, b2i_t, b2i_f, ifTT, ifFT, ite_true, ite_false, nI_c, bnd_s, bnd2_s, stp_s, ifLE_t, ifLE_f, ifLT_t, ifLT_f, ifE_t, ifE_f, if0_t, if0_f, ifn0, ifp0, ifl0_t, ifl0_f, ifg0_t, ifg0_f, ifnE, ifnE2, ifNE_t, ifNE_f, ifN0, ifNl, ifNp, ifB, nI_A, nI_S, nI_M, mu_s, mu_k, mu_n, mcp_n, h5, hc]
    refine ⟨_, rfl, ⟨h1.same (fun i a b => by rw [mu_n (by omega), mu_n (by omega)]), h2.same (fun i a b => by rw [mu_n (by omega), mu_n (by omega)]), by rw [mu_n (by omega), mu_n (by omega)]; exact h3, fun A hA => (h4 A hA).same (fun i a b => by rw [mu_n (by omega), mu_n (by omega)]), ?_, ?_, fun i d hd => ?_⟩, fun i hi => by rw [mu_n (by omega), mu_n (by omega)]⟩
    · rw [mu_s, List.length_append, List.length_singleton]
    · rw [List.length_append, List.length_singleton]; omega
    · have hlt := lt_of_get hd
      rw [List.length_append, List.length_singleton] at hlt
      rw [mu_n (by omega), mu_ij]
      by_cases e : i = S.2.2.2.length
      · rw [e, List.getElem?_append_right (Nat.le_refl _), Nat.sub_self] at hd
        rw [if_pos e]
        exact Option.some.inj hd
      · rw [if_neg e]
        rw [List.getElem?_append_left (by omega)] at hd
        exact h7 i d hd
theorem X9_type (h : SysM σ o S) (c : Int32) : ∃ σ', fX9_type g σ o c = some ((spType c S).1, σ') ∧ SysM σ' o (spType c S).2 ∧ chM σ σ' o := by
  obtain ⟨h1, h2, h3, h4, h5, h6, h7⟩ := h
  unfold fX9_type spType
  rw [h5]
  by_cases q : S.2.2.2.length = 60
  · rw [ifE_t q, if_pos q]
    exact ⟨σ, rfl, ⟨h1, h2, h3, h4, h5, h6, h7⟩, fun _ _ => rfl⟩
  · rw [ifE_f q (by omega) (by omega), if_neg q]
    simp (disch := omega) only [chk_T, okI_t, okI_f, okI_nN, b2i_t, b2i_f, ifTT, ifFT, ite_true, ite_false, nI_c, bnd_s, bnd2_s, stp_s, ifLE_t, ifLE_f, ifLT_t, ifLT_f, ifE_t, ifE_f, if0_t, if0_f, ifn0, ifp0, ifl0_t, ifl0_f, ifg0_t, ifg0_f, ifnE, ifnE2, ifNE_t, ifNE_f, ifN0, ifNl, ifNp, ifB, nI_A, nI_S, nI_M, mu_s, mu_k, mu_n, mcp_n, h5]
    refine ⟨_, rfl, ⟨by rw [mu_n (by omega), mu_n (by omega)]; exact h1, ⟨?_, h2.2.1, ?_⟩, ?_, ?_, ?_, ?_, fun i d hd => ?_⟩, fun i hi => by rw [mu_n (by omega), mu_n (by omega)]⟩
    · rw [mu_k (by omega), mu_n (by omega)]; exact h2.1
    · rw [mu_n (by omega), mu_n (by omega)]; exact h2.2.2
    · rw [mu_k (by omega), mu_n (by omega)]; exact h3
    · rw [mu_n (by omega), mu_n (by omega)]; exact h4
    · rw [mu_s, List.length_append, List.length_singleton]
    · rw [List.length_append, List.length_singleton]; omega
    · have hlt := lt_of_get hd
      rw [List.length_append, List.length_singleton] at hlt
      rw [mu_n (by omega), mu_ij]
      by_cases e : i = S.2.2.2.length
      · rw [e, List.getElem?_append_right (Nat.le_refl _), Nat.sub_self] at hd
        rw [if_pos e]
        exact Option.some.inj hd
      · rw [if_neg e]
        rw [List.getElem?_append_left (by omega)] at hd
        exact h7 i d hd
theorem X8_clearText (h : SysC σ o S) : ∃ σ', fX8_clearText g σ o = some ((spClear S).1, σ') ∧ SysC σ' o (spClear S).2 ∧ same σ σ' o (o + 334) := by
  obtain ⟨h1, h2, h3, h4, h5, h6, h7⟩ := h
  unfold fX8_clearText spClear
  rw [h5]
  refine ⟨_, rfl, ⟨h1.same (fun i a b => mu_n (by omega)), h2.same (fun i a b => mu_n (by omega)), by rw [mu_n (by omega)]; exact h3, fun A hA => (h4 A hA).same (fun i a b => mu_n (by omega)), mu_s, by simp, fun i d hd => by simp at hd⟩, fun i hi => mu_n (by omega)⟩
theorem X9_clearText (h : SysM σ o S) : ∃ σ', fX9_clearText g σ o = some ((spClear S).1, σ') ∧ SysM σ' o (spClear S).2 ∧ chM σ σ' o := by
  obtain ⟨h1, h2, h3, h4, h5, h6, h7⟩ := h
  unfold fX9_clearText spClear
  rw [h5]
  refine ⟨_, rfl, ⟨by rw [mu_n (by omega)]; exact h1, ⟨by rw [mu_k (by omega)]; exact h2.1, h2.2.1, by rw [mu_n (by omega)]; exact h2.2.2⟩, by rw [mu_k (by omega)]; exact h3, by rw [mu_n (by omega)]; exact h4, mu_s, by simp, fun i d hd => by simp at hd⟩, fun i hi => mu_n (by omega)⟩
theorem last_of {α : Type} {L : List α} {a : α} (h : L.getLast? = some a) : L = L.dropLast ++ [a] := by
  rw [List.getLast?_eq_some_iff] at h
  obtain ⟨ys, rfl⟩ := h
  rw [List.dropLast_concat]
theorem X8_undo (hg : 1000 ≤ g) (h : SysC σ o S) : ∃ σ', fX8_undo g σ o = some ((spUndo S).1, σ') ∧ SysC σ' o (spUndo S).2 ∧ same σ σ' o (o + 334) := by
  have hh := h
  obtain ⟨h1, h2, h3, h4, h5⟩ := h
  have e0 : σ (o + 105) 0 = nI S.2.1.length := h2.1
  have l0 := h2.2.1
  unfold fX8_undo spUndo
  rw [e0]
  cases hL : S.2.1.getLast? with
  | none =>
    have : S.2.1 = [] := List.getLast?_eq_none_iff.mp hL
    rw [this]
    exact ⟨σ, rfl, hh, same.rf⟩
  | some A =>
    have hd := last_of hL
    have hlen : S.2.1.length = S.2.1.dropLast.length + 1 := by
      have := congrArg List.length hd
      rw [List.length_append, List.length_singleton] at this
      exact this
    rw [if0_f (by omega) (by omega)]
    rw [hd] at h2
    obtain ⟨σ1, p1, r1, r2, s1⟩ := X3_giveBack (g := g) (o := o + 105) (o1 := o + 1) hg h2 (by omega)
    rw [p1, bnd_s]
    have e1 : σ1 (o + 105) 0 = nI S.2.1.dropLast.length := r1.1
    rw [e1]
    dsimp only
    refine ⟨σ1, by rw [hlen, Nat.add_sub_cancel], ⟨r2, r1, by rw [s1 o (by omega) (by omega)]; exact h3, fun B hB => (h4 B hB).same (fun i a b => s1 i (by omega) (by omega)), h5.same (fun i a b => s1 i (by omega) (by omega))⟩, fun i hi => s1 i (by omega) (by omega)⟩
theorem X9_undo (hg : 40000 ≤ g) (h : SysM σ o S) : ∃ σ', fX9_undo g σ o = some ((spUndo S).1, σ') ∧ SysM σ' o (spUndo S).2 ∧ chM σ σ' o := by
  have hh := h
  obtain ⟨h1, h2, h3, h4, h5⟩ := h
  have e0 : σ o 2 = nI S.2.1.length := h2.1
  have l0 := h2.2.1
  unfold fX9_undo spUndo
  rw [e0]
  cases hL : S.2.1.getLast? with
  | none =>
    have : S.2.1 = [] := List.getLast?_eq_none_iff.mp hL
    rw [this]
    exact ⟨σ, rfl, hh, fun _ _ => rfl⟩
  | some A =>
    have hd := last_of hL
    have hlen : S.2.1.length = S.2.1.dropLast.length + 1 := by
      have := congrArg List.length hd
      rw [List.length_append, List.length_singleton] at this
      exact this
    have hA : S.2.1[S.2.1.dropLast.length]? = some A := by
      rw [hd, List.dropLast_concat, List.getElem?_append_right (Nat.le_refl _), Nat.sub_self]; rfl
    have fA := h2.2.2 _ A hA
    rw [if0_f (by omega) (by omega), stp_s, nI_S (by omega), show S.2.1.length - 1 = S.2.1.dropLast.length by omega, mu_s]
    obtain ⟨σ1, p1, s1, r1⟩ := X9_brings (g := g) (σ := mu σ o 2 (nI S.2.1.dropLast.length)) (o := o) (c := S.2.1.dropLast.length) hg (by omega)
    rw [p1, bnd_s, s1 o (by omega), mu_s]
    dsimp only
    refine ⟨σ1, rfl, ⟨fA.same (fun j hj => ?_), ⟨?_, (show S.2.1.dropLast.length ≤ 4 by omega), fun i B hB => ?_⟩, ?_, fun B hB => ?_, ?_⟩, fun i hi => by rw [s1 i (by omega), mu_n (by omega)]⟩
    · rw [r1, if_pos hj, mu_n (by omega)]
    · rw [s1 o (by omega), mu_s]
    · have hi := lt_of_get hB
      have : S.2.1[i]? = some B := by rw [hd, List.getElem?_append_left hi]; exact hB
      exact (h2.2.2 i B this).same (fun j _ => by rw [s1 (o + 2) (by omega), mu_n (by omega)])
    · rw [s1 o (by omega), mu_k (by omega)]; exact h3
    · exact (h4 B hB).same (fun j _ => by rw [s1 (o + 2) (by omega), mu_n (by omega)])
    · unfold TextM
      rw [s1 o (by omega), mu_k (by omega), s1 (o + 4) (by omega), mu_n (by omega)]
      exact h5
theorem X8_keep (hg : 1000 ≤ g) (h : SysC σ o S) : ∃ σ', fX8_keep g σ o = some ((spKeep S).1, σ') ∧ SysC σ' o (spKeep S).2 ∧ same σ σ' o (o + 334) := by
  obtain ⟨h1, h2, h3, h4, h5⟩ := h
  obtain ⟨σ1, e1, r1, s1⟩ := X2_copyFrom (g := g) (σ := σ) (o := o + 53) (o1 := o + 1) hg h1 (by omega)
  have e0 : σ (o + 8) 0 = nI S.1.2.2.1.1.length := h1.2.1.1.1
  unfold fX8_keep spKeep
  rw [e1, bnd_s, stp_s, mu_n (by omega), s1 (o + 8) (by omega), e0]
  refine ⟨_, rfl, ⟨h1.same (fun i a b => by rw [mu_n (by omega), s1 i (by omega)]), h2.same (fun i a b => by rw [mu_n (by omega), s1 i (by omega)]), by rw [mu_s]; rfl, fun B hB => ?_, h5.same (fun i a b => by rw [mu_n (by omega), s1 i (by omega)])⟩, fun i hi => by rw [mu_n (by omega), s1 i (by omega)]⟩
  cases hB
  exact r1.same (fun i a b => mu_n (by omega))
theorem X9_keep (hg : 40000 ≤ g) (h : SysM σ o S) : ∃ σ', fX9_keep g σ o = some ((spKeep S).1, σ') ∧ SysM σ' o (spKeep S).2 ∧ chM σ σ' o := by
  obtain ⟨h1, h2, h3, h4, h5⟩ := h
  obtain ⟨σ1, e1, s1, r1⟩ := X9_keeps (g := g) (σ := σ) (o := o) (c := 4) hg (by omega)
  have e0 : σ (o + 1) 1 = nI S.1.2.2.1.1.length := h1.2.2.1.1
  unfold fX9_keep spKeep
  rw [e1, bnd_s, stp_s]
  simp (disch := omega) only [chk_T, okI_t, okI_f, okI_nN, b2i_t, b2i_f, ifTT, ifFT, ite_true, ite_false, nI_c, bnd_s, bnd2_s, stp_s, ifLE_t, ifLE_f, ifLT_t, ifLT_f, ifE_t, ifE_f, if0_t, if0_f, ifn0, ifp0, ifl0_t, ifl0_f, ifg0_t, ifg0_f, ifnE, ifnE2, ifNE_t, ifNE_f, ifN0, ifNl, ifNp, ifB, nI_A, nI_S, nI_M, mu_s, mu_k, mu_n, mcp_n, s1 (o + 1) (show o + 1 ≠ o + 2 by omega), e0]
  refine ⟨_, rfl, ⟨by rw [mu_n (by omega), s1 _ (by omega)]; exact h1, ⟨?_, h2.2.1, fun i B hB => ?_⟩, by rw [mu_s]; rfl, fun B hB => ?_, ?_⟩, fun i hi => by rw [mu_n (by omega), s1 i (by omega)]⟩
  · rw [mu_k (by omega), s1 o (by omega)]; exact h2.1
  · have hi : i < S.2.1.length := lt_of_get hB
    have := h2.2.1
    exact (h2.2.2 i B hB).same (fun j _ => by rw [mu_n (by omega), r1, if_neg (by omega)])
  · cases hB
    exact h1.same (fun j hj => by
      show mu σ1 o 3 (nI 1) (o + 2) (24144 + j) = _
      rw [mu_n (by omega), r1, if_pos (by omega), show 24144 + j - 4 * 6036 = j by omega])
  · unfold TextM
    rw [mu_k (by omega), s1 o (by omega), mu_n (by omega), s1 (o + 4) (by omega)]
    exact h5
theorem X8_restore (hg : 1000 ≤ g) (h : SysC σ o S) : ∃ σ', fX8_restore g σ o = some ((spRestore S).1, σ') ∧ SysC σ' o (spRestore S).2 ∧ same σ σ' o (o + 334) := by
  have h3 := h.2.2.1
  unfold fX8_restore spRestore
  rw [h3]
  cases hk : S.2.2.1 with
  | none => exact ⟨σ, rfl, h, same.rf⟩
  | some A =>
    obtain ⟨σ1, p1, r1, s1⟩ := h.rec hg
    obtain ⟨σ2, p2, r2, s2⟩ := X2_copyFrom (g := g) (σ := σ1) (o := o + 1) (o1 := o + 53) hg (r1.2.2.2.1 A hk) (by omega)
    have e0 : σ2 (o + 8) 0 = nI A.2.2.1.1.length := r2.2.1.1.1
    rw [if_neg (show ¬ b2i (some A).isSome = 0 from (by decide : ¬ b2i true = 0)), p1, bnd_s, p2, bnd_s, e0]
    exact ⟨σ2, rfl, r1.film r2 (fun i a b => s2 i (by omega)), fun i hi => by rw [s2 i (by omega), s1 i (by omega)]⟩
theorem X9_restore (hg : 40000 ≤ g) (h : SysM σ o S) : ∃ σ', fX9_restore g σ o = some ((spRestore S).1, σ') ∧ SysM σ' o (spRestore S).2 ∧ chM σ σ' o := by
  have h3 := h.2.2.1
  unfold fX9_restore spRestore
  rw [h3]
  cases hk : S.2.2.1 with
  | none => exact ⟨σ, rfl, h, fun _ _ => rfl⟩
  | some A =>
    obtain ⟨σ1, p1, r1, s1⟩ := h.rec hg
    obtain ⟨σ2, p2, s2, r2⟩ := X9_brings (g := g) (σ := σ1) (o := o) (c := 4) hg (by omega)
    have fA : FilmW (σ2 (o + 1)) A := (r1.2.2.2.1 A hk).same (fun j hj => by rw [r2, if_pos hj])
    have e0 : σ2 (o + 1) 1 = nI A.2.2.1.1.length := fA.2.2.1.1
    rw [if_neg (show ¬ b2i (some A).isSome = 0 from (by decide : ¬ b2i true = 0)), p1, bnd_s, p2, bnd_s]
    simp (disch := omega) only [chk_T, okI_t, okI_f, okI_nN, b2i_t, b2i_f, ifTT, ifFT, ite_true, ite_false, nI_c, bnd_s, bnd2_s, stp_s, ifLE_t, ifLE_f, ifLT_t, ifLT_f, ifE_t, ifE_f, if0_t, if0_f, ifn0, ifp0, ifl0_t, ifl0_f, ifg0_t, ifg0_f, ifnE, ifnE2, ifNE_t, ifNE_f, ifN0, ifNl, ifNp, ifB, nI_A, nI_S, nI_M, mu_s, mu_k, mu_n, mcp_n, e0]
    exact ⟨σ2, rfl, r1.film fA (fun i a b => s2 i a), fun i hi => by rw [s2 i (by omega), s1 i (by omega) (by omega)]⟩
theorem X8_next (hg : 1000 ≤ g) (h : SysC σ o S) (hok : ShowOK S.1) (p : Int32) : ∃ σ', fX8_next g σ o p = some (vNext p S, σ') ∧ SysC σ' o S ∧ same σ σ' o (o + 334) := by
  have e0 : σ (o + 8) 0 = nI S.1.2.2.1.1.length := h.1.2.1.1.1
  have l0 := h.1.2.1.1.2.1
  obtain ⟨k1, k2, k3, k4, k5, k6, k7, k8⟩ := hok
  unfold fX8_next vNext
  rw [X8_isWithin, within_0 (by omega), bnd_s, e0]
  cases c1 : okI p 8 with
  | false =>
    rw [if_pos (show b2i false = 0 from rfl), if_neg (fun q => Bool.noConfusion q)]
    exact ⟨σ, rfl, h, same.rf⟩
  | true =>
    obtain ⟨k, k1', k2', rfl, k4'⟩ := okI_of c1
    rw [if_neg (show ¬ b2i true = 0 by decide), if_pos (show true = true from rfl), k4']
    by_cases c2 : S.1.2.2.1.1.length = 0
    · rw [if0_t c2, if_pos c2]
      exact ⟨σ, rfl, h, same.rf⟩
    · rw [if0_f (by omega) (by omega), if_neg c2]
      obtain ⟨σ1, p1, r1, s1⟩ := X2_project (g := g) (o := o + 1) (o1 := o + 331) hg h.1 k1 k2 k4 (by omega) k5 k6 k7 k8
      have hv : σ1 (o + 332) k = if k = 0 then nI (aShow S.1).1.length else (aShow S.1).2 k := by
        by_cases c : k = 0
        · rw [if_pos c, c]; exact r1.1
        · rw [if_neg c]; exact r1.2.2.1 k (by omega) (by omega)
      rw [p1]
      simp (disch := omega) only [chk_T, okI_t, okI_f, okI_nN, b2i_t, b2i_f, ifTT, ifFT, ite_true, ite_false, nI_c, bnd_s, bnd2_s, stp_s, ifLE_t, ifLE_f, ifLT_t, ifLT_f, ifE_t, ifE_f, if0_t, if0_f, ifn0, ifp0, ifl0_t, ifl0_f, ifg0_t, ifg0_f, ifnE, ifnE2, ifNE_t, ifNE_f, ifN0, ifNl, ifNp, ifB, nI_A, nI_S, nI_M, mu_s, mu_k, mu_n, mcp_n, hv]
      exact ⟨σ1, rfl, h.film (h.1.same (fun i a b => s1 i (by omega))) (fun i a b => s1 i (by omega)), fun i hi => s1 i (by omega)⟩
theorem X9_next (hg : 40000 ≤ g) (h : SysM σ o S) (hok : ShowOK S.1) (p : Int32) : ∃ σ', fX9_next g σ o p = some (vNext p S, σ') ∧ SysM σ' o S ∧ chM σ σ' o := by
  have e0 : σ (o + 1) 1 = nI S.1.2.2.1.1.length := h.1.2.2.1.1
  have l0 := h.1.2.2.1.2.1
  unfold fX9_next vNext
  rw [X9_isIn, within_0 (by omega), bnd_s]
  cases c1 : okI p 8 with
  | false =>
    rw [if_pos (show b2i false = 0 from rfl), if_neg (fun q => Bool.noConfusion q)]
    exact ⟨σ, rfl, h, fun _ _ => rfl⟩
  | true =>
    obtain ⟨k, k1', k2', rfl, k4'⟩ := okI_of c1
    rw [if_neg (show ¬ b2i true = 0 by decide), if_pos (show true = true from rfl), k4']
    by_cases c2 : S.1.2.2.1.1.length = 0
    · simp (disch := omega) only [chk_T, okI_t, okI_f, okI_nN, b2i_t, b2i_f, ifTT, ifFT, ite_true, ite_false, nI_c, bnd_s, bnd2_s, stp_s, ifLE_t, ifLE_f, ifLT_t, ifLT_f, ifE_t, ifE_f, if0_t, if0_f, ifn0, ifp0, ifl0_t, ifl0_f, ifg0_t, ifg0_f, ifnE, ifnE2, ifNE_t, ifNE_f, ifN0, ifNl, ifNp, ifB, nI_A, nI_S, nI_M, mu_s, mu_k, mu_n, mcp_n, e0, if_pos c2]
      exact ⟨σ, rfl, h, fun _ _ => rfl⟩
    · simp (disch := omega) only [chk_T, okI_t, okI_f, okI_nN, b2i_t, b2i_f, ifTT, ifFT, ite_true, ite_false, nI_c, bnd_s, bnd2_s, stp_s, ifLE_t, ifLE_f, ifLT_t, ifLT_f, ifE_t, ifE_f, if0_t, if0_f, ifn0, ifp0, ifl0_t, ifl0_f, ifg0_t, ifg0_f, ifnE, ifnE2, ifNE_t, ifNE_f, ifN0, ifNl, ifNp, ifB, nI_A, nI_S, nI_M, mu_s, mu_k, mu_n, mcp_n, e0, if_neg c2]
      obtain ⟨h1, h2, h3, h4, h5⟩ := h
      obtain ⟨σ1, p1, r1, s1, t1⟩ := X9_tries (g := g) (o := o) (f := k) hg h1 hok (by omega)
      rw [p1, bnd2_s]
      refine ⟨σ1, rfl, ⟨r1, ⟨?_, h2.2.1, fun i B hB => ?_⟩, ?_, fun B hB => ?_, ?_⟩, fun i hi => s1 i (by omega) (by omega) (by omega)⟩
      · rw [s1 o (by omega) (by omega) (by omega)]; exact h2.1
      · have := lt_of_get hB
        have := h2.2.1
        exact (h2.2.2 i B hB).same (fun j _ => t1 _ (by omega))
      · rw [s1 o (by omega) (by omega) (by omega)]; exact h3
      · exact (h4 B hB).same (fun j _ => t1 _ (by omega))
      · unfold TextM
        rw [s1 o (by omega) (by omega) (by omega), s1 (o + 4) (by omega) (by omega) (by omega)]
        exact h5
end
