/-! PURE ROWS, 3: the five edits on lists of pieces, and the class's Bench -/
def pcc (x : Pc) (c : Nat) : Nat := match c with
  | 1 => x.1
  | 2 => x.2.1
  | 3 => x.2.2.1
  | _ => x.2.2.2
theorem RowC.col {σ : Mem} {o : Nat} {L : List Pc} (h : RowC σ o L) {i : Nat} {x : Pc} (hx : L[i]? = some x) : ∀ c, 1 ≤ c → c ≤ 4 → σ (o + c) i = nI (pcc x c) := by
  intro c h1 h2
  obtain ⟨e1, e2, e3, e4⟩ := h.2.2 i x hx
  rcases (show c = 1 ∨ c = 2 ∨ c = 3 ∨ c = 4 by omega) with rfl | rfl | rfl | rfl
  · exact e1
  · exact e2
  · exact e3
  · exact e4
theorem RowC.ofcol {σ : Mem} {o : Nat} {L : List Pc} (h0 : σ o 0 = nI L.length) (hl : L.length ≤ 20) (h : ∀ i x, L[i]? = some x → ∀ c, 1 ≤ c → c ≤ 4 → σ (o + c) i = nI (pcc x c)) : RowC σ o L :=
  ⟨h0, hl, fun i x hx => ⟨h i x hx 1 (by omega) (by omega), h i x hx 2 (by omega) (by omega), h i x hx 3 (by omega) (by omega), h i x hx 4 (by omega) (by omega)⟩⟩
def zp (x : Pc) : Pc := (x.1, x.2.1, x.2.2.1, 0)
def renew (L : List Pc) (i : Nat) : List Pc := L.mapIdx (fun j x => if j = i then zp x else x)
theorem renew_len {L : List Pc} {i : Nat} : (renew L i).length = L.length := by simp [renew]
theorem renew_get {L : List Pc} {i j : Nat} : (renew L i)[j]? = (L[j]?).map (fun x => if j = i then zp x else x) := by simp [renew]
def pullL (L : List Pc) (i : Nat) : List Pc := renew (L.eraseIdx i) i
def putL (L : List Pc) (i : Nat) (x : Pc) : List Pc := renew (L.insertIdx i (zp x)) (i + 1)
section
variable {g o : Nat} {σ : Mem} {L : List Pc}
theorem X4_copyPiece {a b : Nat} (ha : a < 20) (hb : b < 20) : ∃ σ', fX4_copyPiece g σ o (nI a) (nI b) = some σ' ∧ same σ σ' (o + 1) (o + 5) ∧ ∀ c, 1 ≤ c → c ≤ 4 → ∀ i, σ' (o + c) i = if i = b then σ (o + c) a else σ (o + c) i := by
  unfold fX4_copyPiece
  simp (disch := omega) only [chk_T, okI_t, okI_f, okI_nN, b2i_t, b2i_f, ifTT, ifFT, nI_c, bnd_s, bnd2_s, stp_s, ifLE_t, ifLE_f, ifLT_t, ifLT_f, ifE_t, ifE_f, if0_t, if0_f, ifn0, ifp0, ifl0_t, ifl0_f, ifg0_t, ifg0_f, ifnE, ifnE2, ifNE_t, ifNE_f, ifN0, ifNl, ifNp, ifB, nI_A, nI_S, nI_M, mu_s, mu_k, mu_n, mcp_n]
  refine ⟨_, rfl, fun i hi => ?_, fun c h1 h2 i => ?_⟩
  · simp (disch := omega) only [chk_T, okI_t, okI_f, okI_nN, b2i_t, b2i_f, ifTT, ifFT, nI_c, bnd_s, bnd2_s, stp_s, ifLE_t, ifLE_f, ifLT_t, ifLT_f, ifE_t, ifE_f, if0_t, if0_f, ifn0, ifp0, ifl0_t, ifl0_f, ifg0_t, ifg0_f, ifnE, ifnE2, ifNE_t, ifNE_f, ifN0, ifNl, ifNp, ifB, nI_A, nI_S, nI_M, mu_s, mu_k, mu_n, mcp_n]
  · rcases (show c = 1 ∨ c = 2 ∨ c = 3 ∨ c = 4 by omega) with rfl | rfl | rfl | rfl <;> simp (disch := omega) only [chk_T, okI_t, okI_f, okI_nN, b2i_t, b2i_f, ifTT, ifFT, nI_c, bnd_s, bnd2_s, stp_s, ifLE_t, ifLE_f, ifLT_t, ifLT_f, ifE_t, ifE_f, if0_t, if0_f, ifn0, ifp0, ifl0_t, ifl0_f, ifg0_t, ifg0_f, ifnE, ifnE2, ifNE_t, ifNE_f, ifN0, ifNl, ifNp, ifB, nI_A, nI_S, nI_M, mu_s, mu_k, mu_n, mcp_n, mu_ij]
theorem X8_isWithin (v lo hi : Int32) : fX8_isWithin g σ v lo hi = some (b2i (decide (lo ≤ v) && decide (v ≤ hi))) := by
  unfold fX8_isWithin
  by_cases h1 : v < lo
  · rw [if_pos h1, decide_eq_false (Int32.not_le.mpr h1)]; rfl
  · rw [if_neg h1, decide_eq_true (Int32.not_lt.mp h1)]
    by_cases h2 : hi < v
    · rw [if_pos h2, decide_eq_false (Int32.not_le.mpr h2)]; rfl
    · rw [if_neg h2, decide_eq_true (Int32.not_lt.mp h2)]; rfl
theorem within_0 {v : Int32} {n : Nat} (hn : n < 2147483647) : (decide (nI 0 ≤ v) && decide (v ≤ nI n)) = okI v (n + 1) := by
  by_cases h : v < 0
  · rw [show okI v (n + 1) = false by unfold okI; rw [decide_eq_true h]; rfl, decide_eq_false (by rw [show nI 0 = 0 from rfl]; exact Int32.not_le.mpr h)]; rfl
  · obtain ⟨j, hj, rfl⟩ := nI_of h
    rw [okI_nI (by omega), decide_eq_true ((nI_LE (by omega) (by omega)).2 (Nat.zero_le j))]
    simp only [Bool.true_and, nI_LE (a := j) (b := n) (by omega) (by omega), Nat.lt_succ_iff]
theorem X4_insert_26 {σ0 : Mem} {at_ s f l : Nat} (h : RowC σ0 o L) (hat : at_ ≤ L.length) (hl : L.length < 20) : ∀ n k σ, at_ ≤ k → k ≤ L.length → k - at_ < n → σ o 0 = nI L.length → same σ0 σ (o + 1) (o + 5) → (∀ c, 1 ≤ c → c ≤ 4 → ∀ i, σ (o + c) i = if k < i ∧ i ≤ L.length then σ0 (o + c) (i - 1) else σ0 (o + c) i) → ∃ σ', fX4_insert_26 g o n σ (nI at_) (nI s) (nI f) (nI l) (nI k) = some σ' ∧ RowC σ' o (L.insertIdx at_ (s, f, l, 0)) ∧ same σ0 σ' o (o + 5) := by
  intro n
  induction n with
  | zero => intro k σ _ _ q; omega
  | succ n ih =>
    intro k σ h1 h2 h3 h0 hs hc
    rw [fX4_insert_26]
    by_cases hk : k = at_
    · subst hk
      simp (disch := omega) only [chk_T, okI_t, okI_f, okI_nN, b2i_t, b2i_f, ifTT, ifFT, nI_c, bnd_s, bnd2_s, stp_s, ifLE_t, ifLE_f, ifLT_t, ifLT_f, ifE_t, ifE_f, if0_t, if0_f, ifn0, ifp0, ifl0_t, ifl0_f, ifg0_t, ifg0_f, ifnE, ifnE2, ifNE_t, ifNE_f, ifN0, ifNl, ifNp, ifB, nI_A, nI_S, nI_M, mu_s, mu_k, mu_n, mcp_n, h0]
      refine ⟨_, rfl, RowC.ofcol ?_ ?_ ?_, fun i hi => ?_⟩
      · simp (disch := omega) only [chk_T, okI_t, okI_f, okI_nN, b2i_t, b2i_f, ifTT, ifFT, nI_c, bnd_s, bnd2_s, stp_s, ifLE_t, ifLE_f, ifLT_t, ifLT_f, ifE_t, ifE_f, if0_t, if0_f, ifn0, ifp0, ifl0_t, ifl0_f, ifg0_t, ifg0_f, ifnE, ifnE2, ifNE_t, ifNE_f, ifN0, ifNl, ifNp, ifB, nI_A, nI_S, nI_M, mu_s, mu_k, mu_n, mcp_n, h0, List.length_insertIdx, if_pos hat]
      · rw [List.length_insertIdx, if_pos hat]; omega
      · intro i x hx c c1 c2
        rw [List.getElem?_insertIdx] at hx
        by_cases q1 : i < k
        · rw [if_pos q1] at hx
          have e := hc c c1 c2 i
          rw [if_neg (by omega), h.col hx c c1 c2] at e
          rw [← e]
          rcases (show c = 1 ∨ c = 2 ∨ c = 3 ∨ c = 4 by omega) with rfl | rfl | rfl | rfl <;> simp (disch := omega) only [chk_T, okI_t, okI_f, okI_nN, b2i_t, b2i_f, ifTT, ifFT, nI_c, bnd_s, bnd2_s, stp_s, ifLE_t, ifLE_f, ifLT_t, ifLT_f, ifE_t, ifE_f, if0_t, if0_f, ifn0, ifp0, ifl0_t, ifl0_f, ifg0_t, ifg0_f, ifnE, ifnE2, ifNE_t, ifNE_f, ifN0, ifNl, ifNp, ifB, nI_A, nI_S, nI_M, mu_s, mu_k, mu_n, mcp_n]
        · rw [if_neg q1] at hx
          by_cases q2 : i = k
          · rw [if_pos q2, if_pos (by omega)] at hx
            cases hx
            subst q2
            rcases (show c = 1 ∨ c = 2 ∨ c = 3 ∨ c = 4 by omega) with rfl | rfl | rfl | rfl <;> simp (disch := omega) only [chk_T, okI_t, okI_f, okI_nN, b2i_t, b2i_f, ifTT, ifFT, nI_c, bnd_s, bnd2_s, stp_s, ifLE_t, ifLE_f, ifLT_t, ifLT_f, ifE_t, ifE_f, if0_t, if0_f, ifn0, ifp0, ifl0_t, ifl0_f, ifg0_t, ifg0_f, ifnE, ifnE2, ifNE_t, ifNE_f, ifN0, ifNl, ifNp, ifB, nI_A, nI_S, nI_M, mu_s, mu_k, mu_n, mcp_n] <;> rfl
          · rw [if_neg q2] at hx
            have hlt := lt_of_get hx
            have e := hc c c1 c2 i
            rw [if_pos (by omega), h.col hx c c1 c2] at e
            rw [← e]
            rcases (show c = 1 ∨ c = 2 ∨ c = 3 ∨ c = 4 by omega) with rfl | rfl | rfl | rfl <;> simp (disch := omega) only [chk_T, okI_t, okI_f, okI_nN, b2i_t, b2i_f, ifTT, ifFT, nI_c, bnd_s, bnd2_s, stp_s, ifLE_t, ifLE_f, ifLT_t, ifLT_f, ifE_t, ifE_f, if0_t, if0_f, ifn0, ifp0, ifl0_t, ifl0_f, ifg0_t, ifg0_f, ifnE, ifnE2, ifNE_t, ifNE_f, ifN0, ifNl, ifNp, ifB, nI_A, nI_S, nI_M, mu_s, mu_k, mu_n, mcp_n]
      · rw [← hs i (by omega)]
        simp (disch := omega) only [chk_T, okI_t, okI_f, okI_nN, b2i_t, b2i_f, ifTT, ifFT, nI_c, bnd_s, bnd2_s, stp_s, ifLE_t, ifLE_f, ifLT_t, ifLT_f, ifE_t, ifE_f, if0_t, if0_f, ifn0, ifp0, ifl0_t, ifl0_f, ifg0_t, ifg0_f, ifnE, ifnE2, ifNE_t, ifNE_f, ifN0, ifNl, ifNp, ifB, nI_A, nI_S, nI_M, mu_s, mu_k, mu_n, mcp_n]
    · obtain ⟨σ1, e1, s1, c1⟩ := X4_copyPiece (g := g) (σ := σ) (o := o) (a := k - 1) (b := k) (by omega) (by omega)
      simp (disch := omega) only [chk_T, okI_t, okI_f, okI_nN, b2i_t, b2i_f, ifTT, ifFT, nI_c, bnd_s, bnd2_s, stp_s, ifLE_t, ifLE_f, ifLT_t, ifLT_f, ifE_t, ifE_f, if0_t, if0_f, ifn0, ifp0, ifl0_t, ifl0_f, ifg0_t, ifg0_f, ifnE, ifnE2, ifNE_t, ifNE_f, ifN0, ifNl, ifNp, ifB, nI_A, nI_S, nI_M, mu_s, mu_k, mu_n, mcp_n, e1]
      rw [show nI k + nN 1 = nI (k - 1) by obtain ⟨j, rfl⟩ : ∃ j, k = j + 1 := ⟨k - 1, by omega⟩; exact pk_m1 j]
      refine ih (k - 1) σ1 (by omega) (by omega) (by omega) (by rw [s1 o (by omega)]; exact h0) (hs.tr s1) (fun c h5 h6 i => ?_)
      rw [c1 c h5 h6, hc c h5 h6, hc c h5 h6]
      by_cases q1 : i = k
      · subst q1
        rw [if_pos rfl, if_neg (by omega), if_pos (by omega)]
      · rw [if_neg q1]
        by_cases q2 : k < i ∧ i ≤ L.length
        · rw [if_pos q2, if_pos (by omega)]
        · rw [if_neg q2, if_neg (by omega)]
theorem X4_insert {at_ s f l : Nat} (hg : 1000 ≤ g) (h : RowC σ o L) (hat : at_ ≤ L.length) (hl : L.length < 20) : ∃ σ', fX4_insert g σ o (nI at_) (nI s) (nI f) (nI l) = some σ' ∧ RowC σ' o (L.insertIdx at_ (s, f, l, 0)) ∧ same σ σ' o (o + 5) := by
  unfold fX4_insert
  rw [X4_isFull h, h.1, decide_eq_false (by omega), X8_isWithin, within_0 (by omega), okI_nI (by omega), decide_eq_true (by omega)]
  simp (disch := omega) only [chk_T, okI_t, okI_f, okI_nN, b2i_t, b2i_f, ifTT, ifFT, nI_c, bnd_s, bnd2_s, stp_s, ifLE_t, ifLE_f, ifLT_t, ifLT_f, ifE_t, ifE_f, if0_t, if0_f, ifn0, ifp0, ifl0_t, ifl0_f, ifg0_t, ifg0_f, ifnE, ifnE2, ifNE_t, ifNE_f, ifN0, ifNl, ifNp, ifB, nI_A, nI_S, nI_M, mu_s, mu_k, mu_n, mcp_n, b2i_f, b2i_t]
  exact X4_insert_26 h hat hl g L.length σ hat (Nat.le_refl _) (by omega) h.1 same.rf (fun c _ _ i => by rw [if_neg (by omega)])
theorem X4_drop_13 {σ0 : Mem} {at_ : Nat} (h : RowC σ0 o L) (hat : at_ < L.length) : ∀ n k σ, at_ < k → k ≤ L.length → L.length - k < n → σ o 0 = nI L.length → same σ0 σ (o + 1) (o + 5) → (∀ c, 1 ≤ c → c ≤ 4 → ∀ i, σ (o + c) i = if at_ ≤ i ∧ i + 1 < k then σ0 (o + c) (i + 1) else σ0 (o + c) i) → ∃ σ', fX4_drop_13 g o n σ (nI k) = some σ' ∧ RowC σ' o (L.eraseIdx at_) ∧ same σ0 σ' o (o + 5) := by
  have hl := h.2.1
  intro n
  induction n with
  | zero => intro k σ _ _ q; omega
  | succ n ih =>
    intro k σ h1 h2 h3 h0 hs hc
    rw [fX4_drop_13]
    by_cases hk : k = L.length
    · subst hk
      simp (disch := omega) only [chk_T, okI_t, okI_f, okI_nN, b2i_t, b2i_f, ifTT, ifFT, nI_c, bnd_s, bnd2_s, stp_s, ifLE_t, ifLE_f, ifLT_t, ifLT_f, ifE_t, ifE_f, if0_t, if0_f, ifn0, ifp0, ifl0_t, ifl0_f, ifg0_t, ifg0_f, ifnE, ifnE2, ifNE_t, ifNE_f, ifN0, ifNl, ifNp, ifB, nI_A, nI_S, nI_M, mu_s, mu_k, mu_n, mcp_n, h0]
      refine ⟨_, rfl, RowC.ofcol ?_ ?_ ?_, fun i hi => ?_⟩
      · rw [List.length_eraseIdx, if_pos hat, mu_s]
      · rw [List.length_eraseIdx, if_pos hat]; omega
      · intro i x hx c c1 c2
        rw [mu_n (by omega), hc c c1 c2]
        rw [List.getElem?_eraseIdx] at hx
        by_cases q1 : i < at_
        · rw [if_pos q1] at hx
          rw [if_neg (by omega), h.col hx c c1 c2]
        · rw [if_neg q1] at hx
          have := lt_of_get hx
          rw [if_pos (by omega), h.col hx c c1 c2]
      · rw [mu_n (by omega), hs i (by omega)]
    · obtain ⟨σ1, e1, s1, c1⟩ := X4_copyPiece (g := g) (σ := σ) (o := o) (a := k) (b := k - 1) (by omega) (by omega)
      simp (disch := omega) only [chk_T, okI_t, okI_f, okI_nN, b2i_t, b2i_f, ifTT, ifFT, nI_c, bnd_s, bnd2_s, stp_s, ifLE_t, ifLE_f, ifLT_t, ifLT_f, ifE_t, ifE_f, if0_t, if0_f, ifn0, ifp0, ifl0_t, ifl0_f, ifg0_t, ifg0_f, ifnE, ifnE2, ifNE_t, ifNE_f, ifN0, ifNl, ifNp, ifB, nI_A, nI_S, nI_M, mu_s, mu_k, mu_n, mcp_n, h0, e1]
      refine ih (k + 1) σ1 (by omega) (by omega) (by omega) (by rw [s1 o (by omega)]; exact h0) (hs.tr s1) (fun c h5 h6 i => ?_)
      rw [c1 c h5 h6, hc c h5 h6, hc c h5 h6]
      by_cases q1 : i = k - 1
      · rw [if_pos q1, if_neg (by omega), if_pos (by omega), show i + 1 = k by omega]
      · rw [if_neg q1]
        by_cases q2 : at_ ≤ i ∧ i + 1 < k
        · rw [if_pos q2, if_pos (by omega)]
        · rw [if_neg q2, if_neg (by omega)]
theorem X4_drop {at_ : Nat} (hg : 1000 ≤ g) (h : RowC σ o L) (hat : at_ < L.length) : ∃ σ', fX4_drop g σ o (nI at_) = some σ' ∧ RowC σ' o (L.eraseIdx at_) ∧ same σ σ' o (o + 5) := by
  have hl := h.2.1
  unfold fX4_drop
  rw [X4_has h, okI_nI (by omega), decide_eq_true hat]
  simp (disch := omega) only [chk_T, okI_t, okI_f, okI_nN, b2i_t, b2i_f, ifTT, ifFT, nI_c, bnd_s, bnd2_s, stp_s, ifLE_t, ifLE_f, ifLT_t, ifLT_f, ifE_t, ifE_f, if0_t, if0_f, ifn0, ifp0, ifl0_t, ifl0_f, ifg0_t, ifg0_f, ifnE, ifnE2, ifNE_t, ifNE_f, ifN0, ifNl, ifNp, ifB, nI_A, nI_S, nI_M, mu_s, mu_k, mu_n, mcp_n, b2i_t]
  exact X4_drop_13 h hat g (at_ + 1) σ (by omega) (by omega) (by omega) h.1 same.rf (fun c _ _ i => by rw [if_neg (by omega)])
theorem X4_renew {i : Nat} (h : RowC σ o L) (hi : i < 2147483647) : ∃ σ', fX4_renewSplice g σ o (nI i) = some σ' ∧ RowC σ' o (renew L i) ∧ same σ σ' o (o + 5) := by
  have hl := h.2.1
  unfold fX4_renewSplice
  rw [X4_has h, okI_nI (by omega)]
  by_cases q : i < L.length
  · rw [decide_eq_true q]
    simp (disch := omega) only [chk_T, okI_t, okI_f, okI_nN, b2i_t, b2i_f, ifTT, ifFT, nI_c, bnd_s, bnd2_s, stp_s, ifLE_t, ifLE_f, ifLT_t, ifLT_f, ifE_t, ifE_f, if0_t, if0_f, ifn0, ifp0, ifl0_t, ifl0_f, ifg0_t, ifg0_f, ifnE, ifnE2, ifNE_t, ifNE_f, ifN0, ifNl, ifNp, ifB, nI_A, nI_S, nI_M, mu_s, mu_k, mu_n, mcp_n, b2i_t]
    refine ⟨_, rfl, ⟨?_, ?_, ?_⟩, same_mu (by omega) (by omega)⟩
    · rw [mu_n (by omega), renew_len]; exact h.1
    · rw [renew_len]; exact hl
    · intro j x hx
      rw [renew_get] at hx
      obtain ⟨y, hy, rfl⟩ := Option.map_eq_some_iff.mp hx
      obtain ⟨e1, e2, e3, e4⟩ := h.2.2 j y hy
      rw [mu_n (by omega), mu_n (by omega), mu_n (by omega), e1, e2, e3, mu_ij]
      by_cases qj : j = i
      · rw [if_pos qj, if_pos qj]; exact ⟨rfl, rfl, rfl, rfl⟩
      · rw [if_neg qj, if_neg qj, e4]; exact ⟨rfl, rfl, rfl, rfl⟩
  · rw [decide_eq_false q]
    simp (disch := omega) only [chk_T, okI_t, okI_f, okI_nN, b2i_t, b2i_f, ifTT, ifFT, nI_c, bnd_s, bnd2_s, stp_s, ifLE_t, ifLE_f, ifLT_t, ifLT_f, ifE_t, ifE_f, if0_t, if0_f, ifn0, ifp0, ifl0_t, ifl0_f, ifg0_t, ifg0_f, ifnE, ifnE2, ifNE_t, ifNE_f, ifN0, ifNl, ifNp, ifB, nI_A, nI_S, nI_M, mu_s, mu_k, mu_n, mcp_n, b2i_f]
    refine ⟨_, rfl, ?_, same.rf⟩
    have : renew L i = L := by
      apply List.ext_getElem?
      intro j
      rw [renew_get]
      cases hj : L[j]? with
      | none => rfl
      | some y =>
        have := lt_of_get hj
        simp only [Option.map_some, if_neg (show ¬ j = i by omega)]
    rw [this]
    exact h
theorem X4_putAt {at_ : Nat} {x : Pc} (hg : 1000 ≤ g) (h : RowC σ o L) (hat : at_ ≤ L.length) (hl : L.length < 20) : ∃ σ', fX4_putAt g σ o (nI at_) (nI x.1) (nI x.2.1) (nI x.2.2.1) = some σ' ∧ RowC σ' o (putL L at_ x) ∧ same σ σ' o (o + 5) := by
  unfold fX4_putAt
  obtain ⟨σ1, e1, r1, s1⟩ := X4_insert (s := x.1) (f := x.2.1) (l := x.2.2.1) hg h hat hl
  obtain ⟨σ2, e2, r2, s2⟩ := X4_renew (g := g) (i := at_ + 1) r1 (by omega)
  rw [e1, bnd_s, nI_A, e2]
  exact ⟨σ2, rfl, r2, s1.tr s2⟩
theorem X4_pullFrom {at_ : Nat} (hg : 1000 ≤ g) (h : RowC σ o L) (hat : at_ < L.length) : ∃ σ', fX4_pullFrom g σ o (nI at_) = some σ' ∧ RowC σ' o (pullL L at_) ∧ same σ σ' o (o + 5) := by
  have hl := h.2.1
  unfold fX4_pullFrom
  obtain ⟨σ1, e1, r1, s1⟩ := X4_drop hg h hat
  obtain ⟨σ2, e2, r2, s2⟩ := X4_renew (g := g) (i := at_) r1 (by omega)
  rw [e1, bnd_s, e2]
  exact ⟨σ2, rfl, r2, s1.tr s2⟩
end
