/-! PURE ROWS, 11: the reference's state in a row of numbers; its copies -/
def RowW (w : Nat → Int32) (L : List Pc) : Prop := w 1 = nI L.length ∧ L.length ≤ 20 ∧ ∀ (i : Nat) (x : Pc), L[i]? = some x → ∀ c, c < 4 → w (992 + 4 * i + c) = nI (pcc x (c + 1))
def CanW (w : Nat → Int32) (L : List Pc) : Prop := w 2 = nI L.length ∧ L.length ≤ 20 ∧ ∀ (i : Nat) (x : Pc), L[i]? = some x → ∀ c, c < 3 → w (1072 + 3 * i + c) = nI (pcc x (c + 1))
def ScW (w : Nat → Int32) (sc : List (Nat × Nat)) : Prop := w 0 = nI sc.length ∧ sc.length ≤ 12 ∧ ∀ (i : Nat) (x : Nat × Nat), sc[i]? = some x → w (8 + 2 * i) = nI x.1 ∧ w (9 + 2 * i) = nI x.2
def WrW (w : Nat → Int32) (wr : Wr) : Prop := ∀ j, j < 480 → w (32 + 2 * j) = nI (wr.1 j) ∧ w (33 + 2 * j) = wr.2 j
def ShW (t : Nat → Int32) (s : Sw) : Prop := t 0 = nI s.1.length ∧ s.1.length ≤ 480 ∧ (∀ k, 1 ≤ k → k < 8 → t k = s.2 k) ∧ ∀ (u : Nat) (c : Int32), s.1[u]? = some c → t (8 + u) = c
def ShsW (w : Nat → Int32) (shs : List Sw) : Prop := w 3 = nI shs.length ∧ shs.length ≤ 10 ∧ ∀ (i : Nat) (s : Sw), shs[i]? = some s → ShW (fun k => w (1132 + 488 * i + k)) s
def WitW (w : Nat → Int32) (ws : List (Nat × Nat × Nat)) : Prop := w 4 = nI ws.length ∧ ws.length ≤ 8 ∧ ∀ (i : Nat) (x : Nat × Nat × Nat), ws[i]? = some x → w (6012 + 3 * i) = nI x.1 ∧ w (6013 + 3 * i) = nI x.2.1 ∧ w (6014 + 3 * i) = nI x.2.2
def FilmW (w : Nat → Int32) (A : Fa) : Prop := ScW w A.1 ∧ WrW w A.2.1 ∧ RowW w A.2.2.1.1 ∧ CanW w A.2.2.1.2 ∧ ShsW w A.2.2.2.1 ∧ WitW w A.2.2.2.2.1 ∧ w 5 = nI A.2.2.2.2.2.1 ∧ w 6 = nI A.2.2.2.2.2.2.1 ∧ w 7 = nI A.2.2.2.2.2.2.2
theorem ScW.same {w w' : Nat → Int32} {sc : List (Nat × Nat)} (h : ScW w sc) (e : ∀ j, (j = 0 ∨ 8 ≤ j ∧ j < 32) → w' j = w j) : ScW w' sc := by
  obtain ⟨h1, h2, h3⟩ := h
  refine ⟨by rw [e 0 (by omega)]; exact h1, h2, fun i x hx => ?_⟩
  have := lt_of_get hx
  rw [e _ (by omega), e _ (by omega)]
  exact h3 i x hx
theorem WrW.same {w w' : Nat → Int32} {wr : Wr} (h : WrW w wr) (e : ∀ j, 32 ≤ j → j < 992 → w' j = w j) : WrW w' wr := fun j hj => by
  rw [e _ (by omega) (by omega), e _ (by omega) (by omega)]
  exact h j hj
theorem RowW.same {w w' : Nat → Int32} {L : List Pc} (h : RowW w L) (e : ∀ j, (j = 1 ∨ 992 ≤ j ∧ j < 1072) → w' j = w j) : RowW w' L := by
  obtain ⟨h1, h2, h3⟩ := h
  refine ⟨by rw [e 1 (by omega)]; exact h1, h2, fun i x hx c hc => ?_⟩
  have := lt_of_get hx
  rw [e _ (by omega)]
  exact h3 i x hx c hc
theorem CanW.same {w w' : Nat → Int32} {L : List Pc} (h : CanW w L) (e : ∀ j, (j = 2 ∨ 1072 ≤ j ∧ j < 1132) → w' j = w j) : CanW w' L := by
  obtain ⟨h1, h2, h3⟩ := h
  refine ⟨by rw [e 2 (by omega)]; exact h1, h2, fun i x hx c hc => ?_⟩
  have := lt_of_get hx
  rw [e _ (by omega)]
  exact h3 i x hx c hc
theorem ShW.same {t t' : Nat → Int32} {s : Sw} (h : ShW t s) (e : ∀ j, j < 488 → t' j = t j) : ShW t' s := by
  obtain ⟨h1, h2, h3, h4⟩ := h
  refine ⟨by rw [e 0 (by omega)]; exact h1, h2, fun k a b => by rw [e k (by omega)]; exact h3 k a b, fun u c hc => ?_⟩
  have := lt_of_get hc
  rw [e _ (by omega)]
  exact h4 u c hc
theorem ShsW.same {w w' : Nat → Int32} {shs : List Sw} (h : ShsW w shs) (e : ∀ j, (j = 3 ∨ 1132 ≤ j ∧ j < 6012) → w' j = w j) : ShsW w' shs := by
  obtain ⟨h1, h2, h3⟩ := h
  refine ⟨by rw [e 3 (by omega)]; exact h1, h2, fun i s hs => ?_⟩
  have := lt_of_get hs
  exact (h3 i s hs).same (fun j hj => e _ (by omega))
theorem WitW.same {w w' : Nat → Int32} {ws : List (Nat × Nat × Nat)} (h : WitW w ws) (e : ∀ j, (j = 4 ∨ 6012 ≤ j ∧ j < 6036) → w' j = w j) : WitW w' ws := by
  obtain ⟨h1, h2, h3⟩ := h
  refine ⟨by rw [e 4 (by omega)]; exact h1, h2, fun i x hx => ?_⟩
  have := lt_of_get hx
  rw [e _ (by omega), e _ (by omega), e _ (by omega)]
  exact h3 i x hx
theorem FilmW.same {w w' : Nat → Int32} {A : Fa} (h : FilmW w A) (e : ∀ j, j < 6036 → w' j = w j) : FilmW w' A := by
  obtain ⟨h1, h2, h3, h4, h5, h6, h7, h8, h9⟩ := h
  exact ⟨h1.same (fun j q => e j (by omega)), h2.same (fun j a b => e j (by omega)), h3.same (fun j q => e j (by omega)), h4.same (fun j q => e j (by omega)), h5.same (fun j q => e j (by omega)), h6.same (fun j q => e j (by omega)), by rw [e 5 (by omega)]; exact h7, by rw [e 6 (by omega)]; exact h8, by rw [e 7 (by omega)]; exact h9⟩
def HistM (σ : Mem) (o : Nat) (hs : List Fa) : Prop := σ o 2 = nI hs.length ∧ hs.length ≤ 4 ∧ ∀ (i : Nat) (A : Fa), hs[i]? = some A → FilmW (fun k => σ (o + 2) (i * 6036 + k)) A
section
variable {g o : Nat} {σ : Mem}
theorem X9_keeps_2 {c : Nat} (hc : c < 6) : ∀ n k σ, k ≤ 6036 → 6036 - k < n → ∃ σ', fX9_keeps_2 g o n σ (nI c) (nI k) = some σ' ∧ (∀ i, i ≠ o + 2 → σ' i = σ i) ∧ ∀ j, σ' (o + 2) j = if c * 6036 + k ≤ j ∧ j < c * 6036 + 6036 then σ (o + 1) (j - c * 6036) else σ (o + 2) j := by
  intro n
  induction n with
  | zero => intro k σ _ q; omega
  | succ n ih =>
    intro k σ h1 h2
    rw [fX9_keeps_2]
    by_cases q : k = 6036
    · subst q
      simp (disch := omega) only [chk_T, okI_t, okI_f, okI_nN, b2i_t, b2i_f, ifTT, ifFT, ite_true, ite_false, nI_c, bnd_s, bnd2_s, stp_s, ifLE_t, ifLE_f, ifLT_t, ifLT_f, ifE_t, ifE_f, if0_t, if0_f, ifn0, ifp0, ifl0_t, ifl0_f, ifg0_t, ifg0_f, ifnE, ifnE2, ifNE_t, ifNE_f, ifN0, ifNl, ifNp, ifB, nI_A, nI_S, nI_M, mu_s, mu_k, mu_n, mcp_n]
      exact ⟨σ, rfl, fun _ _ => rfl, fun j => by rw [if_neg (by omega)]⟩
    · simp (disch := omega) only [chk_T, okI_t, okI_f, okI_nN, b2i_t, b2i_f, ifTT, ifFT, ite_true, ite_false, nI_c, bnd_s, bnd2_s, stp_s, ifLE_t, ifLE_f, ifLT_t, ifLT_f, ifE_t, ifE_f, if0_t, if0_f, ifn0, ifp0, ifl0_t, ifl0_f, ifg0_t, ifg0_f, ifnE, ifnE2, ifNE_t, ifNE_f, ifN0, ifNl, ifNp, ifB, nI_A, nI_S, nI_M, mu_s, mu_k, mu_n, mcp_n]
      obtain ⟨σ1, e1, s1, r1⟩ := ih (k + 1) (mu σ (o + 2) (c * 6036 + k) (σ (o + 1) k)) (by omega) (by omega)
      refine ⟨σ1, e1, fun i hi => by rw [s1 i hi, mu_n hi], fun j => ?_⟩
      rw [r1 j, mu_n (by omega), mu_ij]
      by_cases q1 : j = c * 6036 + k
      · rw [if_neg (by omega), if_pos q1, if_pos (by omega), q1, Nat.add_sub_cancel_left]
      · rw [if_neg q1]
        by_cases q2 : c * 6036 + (k + 1) ≤ j ∧ j < c * 6036 + 6036
        · rw [if_pos q2, if_pos (by omega)]
        · rw [if_neg q2, if_neg (by omega)]
theorem X9_keeps (hg : 40000 ≤ g) {c : Nat} (hc : c < 6) : ∃ σ', fX9_keeps g σ o (nI c) = some σ' ∧ (∀ i, i ≠ o + 2 → σ' i = σ i) ∧ ∀ j, σ' (o + 2) j = if c * 6036 ≤ j ∧ j < c * 6036 + 6036 then σ (o + 1) (j - c * 6036) else σ (o + 2) j := by
  obtain ⟨σ1, e, s, r⟩ := X9_keeps_2 (g := g) (o := o) hc g 0 σ (by omega) (by omega)
  exact ⟨σ1, e, s, fun j => by rw [r j, Nat.add_zero]⟩
theorem X9_brings_2 {c : Nat} (hc : c < 6) : ∀ n k σ, k ≤ 6036 → 6036 - k < n → ∃ σ', fX9_brings_2 g o n σ (nI c) (nI k) = some σ' ∧ (∀ i, i ≠ o + 1 → σ' i = σ i) ∧ ∀ j, σ' (o + 1) j = if k ≤ j ∧ j < 6036 then σ (o + 2) (c * 6036 + j) else σ (o + 1) j := by
  intro n
  induction n with
  | zero => intro k σ _ q; omega
  | succ n ih =>
    intro k σ h1 h2
    rw [fX9_brings_2]
    by_cases q : k = 6036
    · subst q
      simp (disch := omega) only [chk_T, okI_t, okI_f, okI_nN, b2i_t, b2i_f, ifTT, ifFT, ite_true, ite_false, nI_c, bnd_s, bnd2_s, stp_s, ifLE_t, ifLE_f, ifLT_t, ifLT_f, ifE_t, ifE_f, if0_t, if0_f, ifn0, ifp0, ifl0_t, ifl0_f, ifg0_t, ifg0_f, ifnE, ifnE2, ifNE_t, ifNE_f, ifN0, ifNl, ifNp, ifB, nI_A, nI_S, nI_M, mu_s, mu_k, mu_n, mcp_n]
      exact ⟨σ, rfl, fun _ _ => rfl, fun j => by rw [if_neg (by omega)]⟩
    · simp (disch := omega) only [chk_T, okI_t, okI_f, okI_nN, b2i_t, b2i_f, ifTT, ifFT, ite_true, ite_false, nI_c, bnd_s, bnd2_s, stp_s, ifLE_t, ifLE_f, ifLT_t, ifLT_f, ifE_t, ifE_f, if0_t, if0_f, ifn0, ifp0, ifl0_t, ifl0_f, ifg0_t, ifg0_f, ifnE, ifnE2, ifNE_t, ifNE_f, ifN0, ifNl, ifNp, ifB, nI_A, nI_S, nI_M, mu_s, mu_k, mu_n, mcp_n]
      obtain ⟨σ1, e1, s1, r1⟩ := ih (k + 1) (mu σ (o + 1) k (σ (o + 2) (c * 6036 + k))) (by omega) (by omega)
      refine ⟨σ1, e1, fun i hi => by rw [s1 i hi, mu_n hi], fun j => ?_⟩
      rw [r1 j, mu_n (by omega), mu_ij]
      by_cases q1 : j = k
      · rw [if_neg (by omega), if_pos q1, if_pos (by omega), q1]
      · rw [if_neg q1]
        by_cases q2 : k + 1 ≤ j ∧ j < 6036
        · rw [if_pos q2, if_pos (by omega)]
        · rw [if_neg q2, if_neg (by omega)]
theorem X9_brings (hg : 40000 ≤ g) {c : Nat} (hc : c < 6) : ∃ σ', fX9_brings g σ o (nI c) = some σ' ∧ (∀ i, i ≠ o + 1 → σ' i = σ i) ∧ ∀ j, σ' (o + 1) j = if j < 6036 then σ (o + 2) (c * 6036 + j) else σ (o + 1) j := by
  obtain ⟨σ1, e, s, r⟩ := X9_brings_2 (g := g) (o := o) hc g 0 σ (by omega) (by omega)
  exact ⟨σ1, e, s, fun j => by rw [r j]; simp⟩
theorem X9_records_51 {b L : Nat} (hb : b ≤ 1) (hL : L < 4) : ∀ n k σ, k ≤ 6036 → 6036 - k < n → σ o 2 = nI L → ∃ σ', fX9_records_51 g o n σ (nI b) (nI k) = some σ' ∧ (∀ i, i ≠ o → i ≠ o + 2 → σ' i = σ i) ∧ (∀ j, σ' o j = if j = 2 then nI (L + 1) else σ o j) ∧ ∀ j, σ' (o + 2) j = if L * 6036 + k ≤ j ∧ j < L * 6036 + 6036 then (if b = 0 then σ (o + 1) (j - L * 6036) else σ (o + 2) (30180 + (j - L * 6036))) else σ (o + 2) j := by
  intro n
  induction n with
  | zero => intro k σ _ q; omega
  | succ n ih =>
    intro k σ h1 h2 h3
    rw [fX9_records_51]
    by_cases q : k = 6036
    · subst q
      simp (disch := omega) only [chk_T, okI_t, okI_f, okI_nN, b2i_t, b2i_f, ifTT, ifFT, ite_true, ite_false, nI_c, bnd_s, bnd2_s, stp_s, ifLE_t, ifLE_f, ifLT_t, ifLT_f, ifE_t, ifE_f, if0_t, if0_f, ifn0, ifp0, ifl0_t, ifl0_f, ifg0_t, ifg0_f, ifnE, ifnE2, ifNE_t, ifNE_f, ifN0, ifNl, ifNp, ifB, nI_A, nI_S, nI_M, mu_s, mu_k, mu_n, mcp_n, h3]
      exact ⟨_, rfl, fun i hi _ => mu_n hi, fun j => by rw [mu_ij], fun j => by rw [if_neg (by omega), mu_n (by omega)]⟩
    · by_cases hb0 : b = 0
      · subst hb0
        simp (disch := omega) only [chk_T, okI_t, okI_f, okI_nN, b2i_t, b2i_f, ifTT, ifFT, ite_true, ite_false, nI_c, bnd_s, bnd2_s, stp_s, ifLE_t, ifLE_f, ifLT_t, ifLT_f, ifE_t, ifE_f, if0_t, if0_f, ifn0, ifp0, ifl0_t, ifl0_f, ifg0_t, ifg0_f, ifnE, ifnE2, ifNE_t, ifNE_f, ifN0, ifNl, ifNp, ifB, nI_A, nI_S, nI_M, mu_s, mu_k, mu_n, mcp_n, h3]
        obtain ⟨σ1, e1, s1, r0, r1⟩ := ih (k + 1) (mu σ (o + 2) (L * 6036 + k) (σ (o + 1) k)) (by omega) (by omega) (by rw [mu_n (by omega)]; exact h3)
        refine ⟨σ1, e1, fun i hi hj => by rw [s1 i hi hj, mu_n hj], fun j => by rw [r0 j, mu_n (by omega)], fun j => ?_⟩
        rw [r1 j, mu_n (show o + 1 ≠ o + 2 by omega)]
        simp only [mu_ij]
        by_cases q1 : j = L * 6036 + k
        · subst q1
          simp (disch := omega) only [if_pos, if_neg, ite_true, ite_false, Option.map_some, Nat.add_sub_cancel_left]
        · by_cases q2 : L * 6036 + (k + 1) ≤ j ∧ j < L * 6036 + 6036
          · simp (disch := omega) only [if_pos, if_neg, ite_true, ite_false, Option.map_some]
          · simp (disch := omega) only [if_pos, if_neg, ite_true, ite_false, Option.map_some]
      · simp (disch := omega) only [chk_T, okI_t, okI_f, okI_nN, b2i_t, b2i_f, ifTT, ifFT, ite_true, ite_false, nI_c, bnd_s, bnd2_s, stp_s, ifLE_t, ifLE_f, ifLT_t, ifLT_f, ifE_t, ifE_f, if0_t, if0_f, ifn0, ifp0, ifl0_t, ifl0_f, ifg0_t, ifg0_f, ifnE, ifnE2, ifNE_t, ifNE_f, ifN0, ifNl, ifNp, ifB, nI_A, nI_S, nI_M, mu_s, mu_k, mu_n, mcp_n, h3]
        obtain ⟨σ1, e1, s1, r0, r1⟩ := ih (k + 1) (mu σ (o + 2) (L * 6036 + k) (σ (o + 2) (30180 + k))) (by omega) (by omega) (by rw [mu_n (by omega)]; exact h3)
        refine ⟨σ1, e1, fun i hi hj => by rw [s1 i hi hj, mu_n hj], fun j => by rw [r0 j, mu_n (by omega)], fun j => ?_⟩
        rw [r1 j]
        simp only [mu_ij]
        by_cases q1 : j = L * 6036 + k
        · subst q1
          simp (disch := omega) only [if_pos, if_neg, ite_true, ite_false, Option.map_some, Nat.add_sub_cancel_left]
        · by_cases q2 : L * 6036 + (k + 1) ≤ j ∧ j < L * 6036 + 6036
          · simp (disch := omega) only [if_pos, if_neg, ite_true, ite_false, Option.map_some]
          · simp (disch := omega) only [if_pos, if_neg, ite_true, ite_false, Option.map_some]
theorem X9_records_10 {b : Nat} (hb : b ≤ 1) (hg : 40000 ≤ g) {σ0 : Mem} (h3 : σ0 o 2 = nI 4) : ∀ n k σ, k ≤ 18108 → 18108 - k < n → (∀ i, i ≠ o + 2 → σ i = σ0 i) → (∀ j, σ (o + 2) j = if j < k then σ0 (o + 2) (j + 6036) else σ0 (o + 2) j) → ∃ σ', fX9_records_10 g o n σ (nI b) (nI k) = some σ' ∧ (∀ i, i ≠ o → i ≠ o + 2 → σ' i = σ0 i) ∧ (∀ j, σ' o j = if j = 2 then nI 4 else σ0 o j) ∧ ∀ j, σ' (o + 2) j = if j < 18108 then σ0 (o + 2) (j + 6036) else if j < 24144 then (if b = 0 then σ0 (o + 1) (j - 18108) else σ0 (o + 2) (30180 + (j - 18108))) else σ0 (o + 2) j := by
  intro n
  induction n with
  | zero => intro k σ _ q; omega
  | succ n ih =>
    intro k σ h1 h2 hs hc
    rw [fX9_records_10]
    by_cases q : k = 18108
    · subst q
      have e4 : σ o 2 = nI 4 := by rw [hs o (by omega)]; exact h3
      simp (disch := omega) only [chk_T, okI_t, okI_f, okI_nN, b2i_t, b2i_f, ifTT, ifFT, ite_true, ite_false, nI_c, bnd_s, bnd2_s, stp_s, ifLE_t, ifLE_f, ifLT_t, ifLT_f, ifE_t, ifE_f, if0_t, if0_f, ifn0, ifp0, ifl0_t, ifl0_f, ifg0_t, ifg0_f, ifnE, ifnE2, ifNE_t, ifNE_f, ifN0, ifNl, ifNp, ifB, nI_A, nI_S, nI_M, mu_s, mu_k, mu_n, mcp_n, e4, Nat.reduceSub]
      obtain ⟨σ1, e1, s1, r0, r1⟩ := X9_records_51 (g := g) (o := o) (b := b) (L := 3) hb (by omega) g 0 (mu σ o 2 (nI 3)) (by omega) (by omega) mu_s
      refine ⟨σ1, e1, fun i hi hj => by rw [s1 i hi hj, mu_n hi]; exact hs i hj, fun j => ?_, fun j => ?_⟩
      · rw [r0 j]
        by_cases qj : j = 2
        · rw [if_pos qj, if_pos qj]
        · rw [if_neg qj, if_neg qj, mu_k qj, hs o (by omega)]
      · rw [r1 j, mu_n (show o + 1 ≠ o by omega), mu_n (show o + 2 ≠ o by omega), hs (o + 1) (by omega)]
        simp only [Nat.reduceMul, Nat.add_zero, Nat.reduceAdd]
        by_cases q1 : j < 18108
        · rw [if_neg (by omega), if_pos q1, hc j, if_pos q1]
        · by_cases q2 : j < 24144
          · rw [if_pos (by omega), if_neg q1, if_pos q2]
            by_cases hb0 : b = 0
            · rw [if_pos hb0, if_pos hb0]
            · rw [if_neg hb0, if_neg hb0, hc, if_neg (by omega)]
          · rw [if_neg (by omega), if_neg q1, if_neg q2, hc j, if_neg q1]
    · simp (disch := omega) only [chk_T, okI_t, okI_f, okI_nN, b2i_t, b2i_f, ifTT, ifFT, ite_true, ite_false, nI_c, bnd_s, bnd2_s, stp_s, ifLE_t, ifLE_f, ifLT_t, ifLT_f, ifE_t, ifE_f, if0_t, if0_f, ifn0, ifp0, ifl0_t, ifl0_f, ifg0_t, ifg0_f, ifnE, ifnE2, ifNE_t, ifNE_f, ifN0, ifNl, ifNp, ifB, nI_A, nI_S, nI_M, mu_s, mu_k, mu_n, mcp_n]
      refine ih (k + 1) (mu σ (o + 2) k (σ (o + 2) (k + 6036))) (by omega) (by omega) (fun i hi => by rw [mu_n hi]; exact hs i hi) (fun j => ?_)
      rw [mu_ij]
      by_cases q1 : j = k
      · rw [if_pos q1, if_pos (by omega), hc, if_neg (by omega), q1]
      · rw [if_neg q1, hc j]
        by_cases q2 : j < k
        · rw [if_pos q2, if_pos (by omega)]
        · rw [if_neg q2, if_neg (by omega)]
/-- what 'records' leaves as it was -/
def chH (σ σ' : Mem) (o : Nat) : Prop := (∀ i, i ≠ o → i ≠ o + 2 → σ' i = σ i) ∧ (∀ j, j ≠ 2 → σ' o j = σ o j) ∧ ∀ j, 24144 ≤ j → σ' (o + 2) j = σ (o + 2) j
theorem X9_records {b : Nat} (hb : b ≤ 1) (hg : 40000 ≤ g) {A : Fa} {hs : List Fa} (h : HistM σ o hs) (hA : FilmW (fun k => if b = 0 then σ (o + 1) k else σ (o + 2) (30180 + k)) A) : ∃ σ', fX9_records g σ o (nI b) = some σ' ∧ HistM σ' o (recd A hs) ∧ chH σ σ' o := by
  obtain ⟨h0, hl, hf⟩ := h
  have hrl := recd_len A hs hl
  unfold fX9_records
  rw [h0]
  by_cases q : hs.length = 4
  · simp (disch := omega) only [chk_T, okI_t, okI_f, okI_nN, b2i_t, b2i_f, ifTT, ifFT, ite_true, ite_false, nI_c, bnd_s, bnd2_s, stp_s, ifLE_t, ifLE_f, ifLT_t, ifLT_f, ifE_t, ifE_f, if0_t, if0_f, ifn0, ifp0, ifl0_t, ifl0_f, ifg0_t, ifg0_f, ifnE, ifnE2, ifNE_t, ifNE_f, ifN0, ifNl, ifNp, ifB, nI_A, nI_S, nI_M, mu_s, mu_k, mu_n, mcp_n]
    rw [if_pos q] at hrl
    obtain ⟨σ1, e1, s1, r0, r1⟩ := X9_records_10 (g := g) (o := o) (b := b) hb hg (by rw [h0, q]) g 0 σ (by omega) (by omega) (fun _ _ => rfl) (fun j => by rw [if_neg (by omega)])
    refine ⟨σ1, e1, ⟨by rw [r0, if_pos rfl, hrl], by omega, fun i B hB => ?_⟩, s1, fun j hj => by rw [r0, if_neg hj], fun j hj => by rw [r1, if_neg (by omega), if_neg (by omega)]⟩
    have hlt := lt_of_get hB
    unfold recd at hB
    rw [if_pos q] at hB
    by_cases q2 : i < 3
    · rw [List.getElem?_append_left (by rw [List.length_drop]; omega), List.getElem?_drop] at hB
      exact (hf _ B hB).same (fun j hj => by
        show σ1 (o + 2) (i * 6036 + j) = _
        rw [r1, if_pos (by omega), show i * 6036 + j + 6036 = (1 + i) * 6036 + j by omega])
    · rw [List.getElem?_append_right (by rw [List.length_drop]; omega), List.length_drop, show i - (hs.length - 1) = 0 by omega] at hB
      cases hB
      exact hA.same (fun j hj => by
        show σ1 (o + 2) (i * 6036 + j) = _
        rw [r1, if_neg (by omega), if_pos (by omega), show i * 6036 + j - 18108 = j by omega])
  · simp (disch := omega) only [chk_T, okI_t, okI_f, okI_nN, b2i_t, b2i_f, ifTT, ifFT, ite_true, ite_false, nI_c, bnd_s, bnd2_s, stp_s, ifLE_t, ifLE_f, ifLT_t, ifLT_f, ifE_t, ifE_f, if0_t, if0_f, ifn0, ifp0, ifl0_t, ifl0_f, ifg0_t, ifg0_f, ifnE, ifnE2, ifNE_t, ifNE_f, ifN0, ifNl, ifNp, ifB, nI_A, nI_S, nI_M, mu_s, mu_k, mu_n, mcp_n]
    rw [if_neg q] at hrl
    obtain ⟨σ1, e1, s1, r0, r1⟩ := X9_records_51 (g := g) (o := o) (b := b) (L := hs.length) hb (by omega) g 0 σ (by omega) (by omega) h0
    refine ⟨σ1, e1, ⟨by rw [r0, if_pos rfl, hrl], by omega, fun i B hB => ?_⟩, s1, fun j hj => by rw [r0, if_neg hj], fun j hj => by rw [r1, if_neg (by omega)]⟩
    have hlt := lt_of_get hB
    unfold recd at hB
    rw [if_neg q] at hB
    by_cases q2 : i < hs.length
    · rw [List.getElem?_append_left q2] at hB
      exact (hf _ B hB).same (fun j hj => by
        show σ1 (o + 2) (i * 6036 + j) = _
        rw [r1, if_neg (by omega)])
    · rw [List.getElem?_append_right (by omega), show i - hs.length = 0 by omega] at hB
      cases hB
      exact hA.same (fun j hj => by
        show σ1 (o + 2) (i * 6036 + j) = _
        have : i = hs.length := by omega
        subst this
        rw [r1, if_pos (by omega), Nat.add_sub_cancel_left])
end
