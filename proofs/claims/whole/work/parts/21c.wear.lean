/-! PURE ROWS, 10: wear; a show given; the class's way -/
def wear1 (w : Wr) (s : Nat) : Wr := (if w.1 s ≠ 0 ∧ w.1 s ≠ 15 ∧ (w.2 s + nI 1) - (w.2 s + nI 1) / nI 3 * nI 3 = 0 then (fun j => if j = s then low (w.1 s) else w.1 j) else w.1, upd w.2 s (w.2 s + nI 1))
def wearN (sc : Nat) : Nat → Nat → Wr → Wr
  | _, 0, w => w
  | f, n + 1, w => wearN sc (f + 1) n (wear1 w (40 * sc + f))
def wearP (x : Pc) (w : Wr) : Wr := wearN x.1 x.2.1 (plen x) w
def wearL : List Pc → Wr → Wr
  | [], w => w
  | x :: L, w => wearL L (wearP x w)
def TV (w : Wr) : Prop := ∀ j, w.1 j < 16
theorem wear1_TV {w : Wr} {s : Nat} (h : TV w) : TV (wear1 w s) := by
  intro j
  unfold wear1
  by_cases c : w.1 s ≠ 0 ∧ w.1 s ≠ 15 ∧ (w.2 s + nI 1) - (w.2 s + nI 1) / nI 3 * nI 3 = 0
  · rw [if_pos c]
    show (if j = s then low (w.1 s) else w.1 j) < 16
    by_cases e : j = s
    · rw [if_pos e]
      exact (low_16 _ (h s)).resolve_right c.2.1
    · rw [if_neg e]; exact h j
  · rw [if_neg c]; exact h j
theorem wearN_TV {sc : Nat} : ∀ n f w, TV w → TV (wearN sc f n w) := by
  intro n
  induction n with
  | zero => intro f w h; exact h
  | succ n ih => intro f w h; exact ih _ _ (wear1_TV h)
theorem wearL_TV : ∀ L w, TV w → TV (wearL L w) := by
  intro L
  induction L with
  | nil => intro w h; exact h
  | cons x L ih => intro w h; exact ih _ (wearN_TV _ _ _ h)
/-- the splices behind the first piece, up to that of piece t, have one pass more -/
def bumpK (L : List Pc) (t k : Nat) : List Pc := L.mapIdx (fun j x => if j ≠ 0 ∧ j ≤ t ∧ j < k then (x.1, x.2.1, x.2.2.1, x.2.2.2 + 1) else x)
def bump (L : List Pc) (t : Nat) : List Pc := bumpK L t (t + 1)
theorem bumpK_get {L : List Pc} {t k j : Nat} : (bumpK L t k)[j]? = (L[j]?).map (fun x => if j ≠ 0 ∧ j ≤ t ∧ j < k then (x.1, x.2.1, x.2.2.1, x.2.2.2 + 1) else x) := by simp [bumpK]
theorem bumpK_len {L : List Pc} {t k : Nat} : (bumpK L t k).length = L.length := by simp [bumpK]
def thrF (lim : Nat) : Nat → List Pc → Option Nat
  | _, [] => none
  | i, x :: L => if i ≠ 0 ∧ lim ≤ x.2.2.2 then some i else thrF lim (i + 1) L
def thr (lim : Nat) (L : List Pc) : Nat := (thrF lim 0 L).getD L.length
theorem thrF_lt (lim : Nat) : ∀ L i k, thrF lim i L = some k → i ≤ k ∧ k < i + L.length ∧ k ≠ 0 := by
  intro L
  induction L with
  | nil => intro i k h; cases h
  | cons x L ih =>
    intro i k h
    rw [thrF] at h
    rw [List.length_cons]
    by_cases c : i ≠ 0 ∧ lim ≤ x.2.2.2
    · rw [if_pos c] at h
      cases h
      exact ⟨Nat.le_refl _, by omega, c.1⟩
    · rw [if_neg c] at h
      have := ih _ _ h
      omega
theorem thr_le (lim : Nat) (L : List Pc) : thr lim L ≤ L.length := by
  unfold thr
  cases h : thrF lim 0 L with
  | none => exact Nat.le_refl _
  | some k => have := thrF_lt lim L 0 k h; show k ≤ _; omega
theorem num_6 {s : Sw} {k : Nat} {d : Int32} (h : k ≠ 6) : (num s k d).2 6 = s.2 6 := pk_un (by omega)
theorem playN_6 {t : Nat → Nat} {sc : Nat} : ∀ n f s, (playN t sc f n s).2 6 = s.2 6 := by
  intro n
  induction n with
  | zero => intro f s; rfl
  | succ n ih =>
    intro f s
    rw [playN, ih]
    unfold playF
    split
    · simp [unitS, num, upd]
    · simp [unitS, num, upd]
theorem windN_6 {t : Nat → Nat} {sc : Nat} : ∀ n f s, (windN t sc f n s).2 6 = s.2 6 := by
  intro n
  induction n with
  | zero => intro f s; rfl
  | succ n ih =>
    intro f s
    rw [windN, ih]
    unfold windF
    rw [num_6 (by omega), num_6 (by omega), num_6 (by omega)]
theorem darkS_2 : ∀ n s, (darkS n s).2 = s.2 := by
  intro n
  induction n with
  | zero => intro s; rfl
  | succ n ih => intro s; rw [darkS, ih]; rfl
theorem projL_6 {t : Nat → Nat} {sc : List (Nat × Nat)} {dis lim : Nat} : ∀ L i left s, s.2 6 = nN 5 → (projL t sc dis lim i left L s).2 6 = (match thrF lim i L with | some k => nI k | none => nN 5) := by
  intro L
  induction L with
  | nil => intro i left s h; exact h
  | cons x L ih =>
    intro i left s h
    rw [projL, thrF]
    by_cases c : i ≠ 0 ∧ lim ≤ x.2.2.2
    · rw [if_pos c, if_pos c]; show upd s.2 6 (nI i) 6 = nI i; exact pk_us
    · rw [if_neg c, if_neg c]
      split
      · exact ih _ _ _ (by unfold windP; rw [num_6 (by omega), darkS_2, windN_6]; exact h)
      · exact ih _ _ _ (by unfold playP; rw [playN_6]; exact h)
theorem aShow_6 (A : Fa) : (aShow A).2 6 = (match thrF A.2.2.2.2.2.2.2 0 A.2.2.1.1 with | some k => nI k | none => nN 5) := projL_6 _ _ _ _ rfl
def aRun (A : Fa) : Fa := (A.1, wearL (A.2.2.1.1.take (thr A.2.2.2.2.2.2.2 A.2.2.1.1)) A.2.1, (bump A.2.2.1.1 (thr A.2.2.2.2.2.2.2 A.2.2.1.1), A.2.2.1.2), A.2.2.2.1 ++ [aShow A], A.2.2.2.2)
section
variable {g : Nat} {σ : Mem}
theorem X6_wear {o s : Nat} {sc : List (Nat × Nat)} {w : Wr} (h : StockC σ o sc w) (hs : s < 480) (ht : TV w) : ∃ σ', fX6_wear g σ o (nI s) = some σ' ∧ StockC σ' o sc (wear1 w s) ∧ same σ σ' (o + 3) (o + 5) := by
  obtain ⟨h1, h2, h3, h4⟩ := h
  have e3 := (h4 s hs).1
  have e4 := (h4 s hs).2
  have ht16 := ht s
  have st1 : StockC (mu σ (o + 4) s (w.2 s + nI 1)) o sc (w.1, upd w.2 s (w.2 s + nI 1)) := by
    refine ⟨by rw [mu_n (by omega)]; exact h1, h2, fun i x hx => by rw [mu_n (by omega), mu_n (by omega)]; exact h3 i x hx, fun j hj => ⟨by rw [mu_n (by omega)]; exact (h4 j hj).1, ?_⟩⟩
    rw [mu_ij]
    show _ = upd w.2 s _ j
    unfold upd
    by_cases e : j = s
    · rw [if_pos e, if_pos e]
    · rw [if_neg e, if_neg e]; exact (h4 j hj).2
  unfold fX6_wear wear1
  simp (disch := omega) only [chk_T, okI_t, okI_f, okI_nN, b2i_t, b2i_f, ifTT, ifFT, ite_true, ite_false, nI_c, bnd_s, bnd2_s, stp_s, ifLE_t, ifLE_f, ifLT_t, ifLT_f, ifE_t, ifE_f, if0_t, if0_f, ifn0, ifp0, ifl0_t, ifl0_f, ifg0_t, ifg0_f, ifnE, ifnE2, ifNE_t, ifNE_f, ifN0, ifNl, ifNp, ifB, nI_A, nI_S, nI_M, mu_s, mu_k, mu_n, mcp_n, e4, e3]
  by_cases c1 : w.1 s = 0
  · simp (disch := omega) only [chk_T, okI_t, okI_f, okI_nN, b2i_t, b2i_f, ifTT, ifFT, ite_true, ite_false, nI_c, bnd_s, bnd2_s, stp_s, ifLE_t, ifLE_f, ifLT_t, ifLT_f, ifE_t, ifE_f, if0_t, if0_f, ifn0, ifp0, ifl0_t, ifl0_f, ifg0_t, ifg0_f, ifnE, ifnE2, ifNE_t, ifNE_f, ifN0, ifNl, ifNp, ifB, nI_A, nI_S, nI_M, mu_s, mu_k, mu_n, mcp_n, if_neg (show ¬ (w.1 s ≠ 0 ∧ w.1 s ≠ 15 ∧ (w.2 s + nI 1) - (w.2 s + nI 1) / nI 3 * nI 3 = 0) from fun q => q.1 c1)]
    exact ⟨_, rfl, st1, same_mu (by omega) (by omega)⟩
  · by_cases c2 : w.1 s = 15
    · simp (disch := omega) only [chk_T, okI_t, okI_f, okI_nN, b2i_t, b2i_f, ifTT, ifFT, ite_true, ite_false, nI_c, bnd_s, bnd2_s, stp_s, ifLE_t, ifLE_f, ifLT_t, ifLT_f, ifE_t, ifE_f, if0_t, if0_f, ifn0, ifp0, ifl0_t, ifl0_f, ifg0_t, ifg0_f, ifnE, ifnE2, ifNE_t, ifNE_f, ifN0, ifNl, ifNp, ifB, nI_A, nI_S, nI_M, mu_s, mu_k, mu_n, mcp_n, if_neg (show ¬ (w.1 s ≠ 0 ∧ w.1 s ≠ 15 ∧ (w.2 s + nI 1) - (w.2 s + nI 1) / nI 3 * nI 3 = 0) from fun q => q.2.1 c2)]
      exact ⟨_, rfl, st1, same_mu (by omega) (by omega)⟩
    · by_cases c3 : (w.2 s + nI 1) - (w.2 s + nI 1) / nI 3 * nI 3 = 0
      · rw [if_pos (show w.1 s ≠ 0 ∧ w.1 s ≠ 15 ∧ (w.2 s + nI 1) - (w.2 s + nI 1) / nI 3 * nI 3 = 0 from ⟨c1, c2, c3⟩)]
        have low1 : fJ6_lowestOneBit_0f7a4 g (mu σ (o + 4) s (w.2 s + nI 1)) (nI (w.1 s) ^^^ nN 1) = some ((nI (w.1 s) ^^^ nN 1) &&& -(nI (w.1 s) ^^^ nN 1)) := rfl
        simp (disch := omega) only [chk_T, okI_t, okI_f, okI_nN, b2i_t, b2i_f, ifTT, ifFT, ite_true, ite_false, nI_c, bnd_s, bnd2_s, stp_s, ifLE_t, ifLE_f, ifLT_t, ifLT_f, ifE_t, ifE_f, if0_t, if0_f, ifn0, ifp0, ifl0_t, ifl0_f, ifg0_t, ifg0_f, ifnE, ifnE2, ifNE_t, ifNE_f, ifN0, ifNl, ifNp, ifB, nI_A, nI_S, nI_M, mu_s, mu_k, mu_n, mcp_n, if_pos c3, low1, low_s _ (show w.1 s < 15 by omega)]
        refine ⟨_, rfl, ⟨?_, h2, fun i x hx => ?_, fun j hj => ⟨?_, ?_⟩⟩, (same_mu (by omega) (by omega)).tr (same_mu (by omega) (by omega))⟩
        · rw [mu_n (by omega), mu_n (by omega)]; exact h1
        · rw [mu_n (by omega), mu_n (by omega), mu_n (by omega), mu_n (by omega)]; exact h3 i x hx
        · rw [mu_ij]
          show _ = nI (if j = s then low (w.1 s) else w.1 j)
          by_cases e : j = s
          · rw [if_pos e, if_pos e]
          · rw [if_neg e, if_neg e, mu_n (by omega)]; exact (h4 j hj).1
        · rw [mu_n (by omega)]; exact (st1.2.2.2 j hj).2
      · rw [if_neg (show ¬ (w.1 s ≠ 0 ∧ w.1 s ≠ 15 ∧ (w.2 s + nI 1) - (w.2 s + nI 1) / nI 3 * nI 3 = 0) from fun q => c3 q.2.2)]
        simp (disch := omega) only [chk_T, okI_t, okI_f, okI_nN, b2i_t, b2i_f, ifTT, ifFT, ite_true, ite_false, nI_c, bnd_s, bnd2_s, stp_s, ifLE_t, ifLE_f, ifLT_t, ifLT_f, ifE_t, ifE_f, if0_t, if0_f, ifn0, ifp0, ifl0_t, ifl0_f, ifg0_t, ifg0_f, ifnE, ifnE2, ifNE_t, ifNE_f, ifN0, ifNl, ifNp, ifB, nI_A, nI_S, nI_M, mu_s, mu_k, mu_n, mcp_n, if_neg c3]
        exact ⟨_, rfl, st1, same_mu (by omega) (by omega)⟩
theorem X2_wearDown_41 {o i : Nat} {sc : List (Nat × Nat)} {L : List Pc} {x : Pc} {x3 : Int32} {K : Mem → Int32 → Int32 → Option Mem} (hx : L[i]? = some x) (hv : PV x) : ∀ n k f w σ, f + k = x.2.2.1 + 1 → k < n → TV w → StockC σ (o + 1) sc w → RowC σ (o + 7) L → ∃ σ', fX2_wearDown_41 g o K n σ x3 (nI i) (nI f) = K σ' x3 (nI (i + 1)) ∧ StockC σ' (o + 1) sc (wearN x.1 f k w) ∧ same σ σ' (o + 4) (o + 6) := by
  obtain ⟨v0, v1, v2, v3⟩ := hv
  intro n
  induction n with
  | zero => intro k f w σ _ q; omega
  | succ n ih =>
    intro k f w σ h1 h2 hT hS hR
    have hi := lt_of_get hx
    have hl := hR.2.1
    have e3 : σ (o + 10) i = nI x.2.2.1 := (hR.2.2 i x hx).2.2.1
    have e0 : σ (o + 8) i = nI x.1 := (hR.2.2 i x hx).1
    rw [fX2_wearDown_41]
    cases k with
    | zero =>
      simp (disch := omega) only [chk_T, okI_t, okI_f, okI_nN, b2i_t, b2i_f, ifTT, ifFT, ite_true, ite_false, nI_c, bnd_s, bnd2_s, stp_s, ifLE_t, ifLE_f, ifLT_t, ifLT_f, ifE_t, ifE_f, if0_t, if0_f, ifn0, ifp0, ifl0_t, ifl0_f, ifg0_t, ifg0_f, ifnE, ifnE2, ifNE_t, ifNE_f, ifN0, ifNl, ifNp, ifB, nI_A, nI_S, nI_M, mu_s, mu_k, mu_n, mcp_n, e3]
      exact ⟨σ, rfl, hS, same.rf⟩
    | succ k =>
      obtain ⟨σ1, e1, r1, s1⟩ := X6_wear (g := g) (s := 40 * x.1 + f) hS (by omega) hT
      simp (disch := omega) only [chk_T, okI_t, okI_f, okI_nN, b2i_t, b2i_f, ifTT, ifFT, ite_true, ite_false, nI_c, bnd_s, bnd2_s, stp_s, ifLE_t, ifLE_f, ifLT_t, ifLT_f, ifE_t, ifE_f, if0_t, if0_f, ifn0, ifp0, ifl0_t, ifl0_f, ifg0_t, ifg0_f, ifnE, ifnE2, ifNE_t, ifNE_f, ifN0, ifNl, ifNp, ifB, nI_A, nI_S, nI_M, mu_s, mu_k, mu_n, mcp_n, e3, e0, X8_slotOf, e1]
      obtain ⟨σ2, e2, r2, s2⟩ := ih k (f + 1) _ σ1 (by omega) (by omega) (wear1_TV hT) r1 (hR.same (fun j a b => s1 j (by omega)))
      exact ⟨σ2, e2, r2, fun j hj => by rw [s2 j (by omega), s1 j (by omega)]⟩
theorem X2_wearDown_87 {o t : Nat} {L : List Pc} (hV : RowV L) (ht : t < 1000) : ∀ n k σ, 1 ≤ k → k ≤ L.length + 1 → L.length + 1 - k < n → RowC σ (o + 7) (bumpK L t k) → ∃ σ', fX2_wearDown_87 g o n σ (nI t) (nI k) = some σ' ∧ RowC σ' (o + 7) (bump L t) ∧ same σ σ' (o + 7) (o + 12) := by
  intro n
  induction n with
  | zero => intro k σ _ _ q; omega
  | succ n ih =>
    intro k σ h1 hk1 h2 hR
    have hl := hR.2.1
    have h0 := hR.1
    rw [bumpK_len] at hl h0
    have fin : (t < k ∨ L.length ≤ k) → bumpK L t k = bump L t := by
      intro q
      apply List.ext_getElem?
      intro j
      unfold bump
      rw [bumpK_get, bumpK_get]
      cases hj : L[j]? with
      | none => rfl
      | some y =>
        have := lt_of_get hj
        simp only [Option.map_some]
        by_cases c : j ≠ 0 ∧ j ≤ t ∧ j < k
        · rw [if_pos c, if_pos (by omega)]
        · rw [if_neg c, if_neg (by omega)]
    rw [fX2_wearDown_87]
    by_cases c1 : t < k
    · rw [ifLT_t c1 (by omega)]
      exact ⟨σ, rfl, by rw [← fin (Or.inl c1)]; exact hR, same.rf⟩
    · by_cases c2 : L.length ≤ k
      · rw [ifLT_f (by omega) (by omega), h0, ifLE_t c2 (by omega)]
        exact ⟨σ, rfl, by rw [← fin (Or.inr c2)]; exact hR, same.rf⟩
      · obtain ⟨x, hx⟩ := get_of (L := L) (i := k) (by omega)
        have hb : (bumpK L t k)[k]? = some x := by
          rw [bumpK_get, hx, Option.map_some, if_neg (by omega)]
        obtain ⟨e1, e2, e3, e4⟩ := hR.2.2 k x hb
        have e4 : σ (o + 11) k = nI x.2.2.2 := e4
        obtain ⟨v0, v1, v2, v3⟩ := hV k x hx
        simp (disch := omega) only [chk_T, okI_t, okI_f, okI_nN, b2i_t, b2i_f, ifTT, ifFT, ite_true, ite_false, nI_c, bnd_s, bnd2_s, stp_s, ifLE_t, ifLE_f, ifLT_t, ifLT_f, ifE_t, ifE_f, if0_t, if0_f, ifn0, ifp0, ifl0_t, ifl0_f, ifg0_t, ifg0_f, ifnE, ifnE2, ifNE_t, ifNE_f, ifN0, ifNl, ifNp, ifB, nI_A, nI_S, nI_M, mu_s, mu_k, mu_n, mcp_n, h0, e4]
        obtain ⟨σ2, f2, r2, s2⟩ := ih (k + 1) (mu σ (o + 11) k (nI (x.2.2.2 + 1))) (by omega) (by omega) (by omega) ⟨by rw [mu_n (by omega), bumpK_len]; exact h0, by rw [bumpK_len]; exact hl, fun j y hy => by
          rw [bumpK_get] at hy
          obtain ⟨z, hz, rfl⟩ := Option.map_eq_some_iff.mp hy
          have old : (bumpK L t k)[j]? = some (if j ≠ 0 ∧ j ≤ t ∧ j < k then (z.1, z.2.1, z.2.2.1, z.2.2.2 + 1) else z) := by rw [bumpK_get, hz, Option.map_some]
          obtain ⟨d1, d2, d3, d4⟩ := hR.2.2 j _ old
          rw [mu_n (by omega), mu_n (by omega), mu_n (by omega), show o + 7 + 4 = o + 11 by omega, mu_ij]
          by_cases ej : j = k
          · subst ej
            rw [hx] at hz
            cases hz
            rw [if_neg (by omega)] at d1 d2 d3
            rw [if_pos (show j ≠ 0 ∧ j ≤ t ∧ j < j + 1 by omega), if_pos rfl]
            exact ⟨d1, d2, d3, rfl⟩
          · rw [if_neg ej]
            have e : (j ≠ 0 ∧ j ≤ t ∧ j < k + 1) ↔ (j ≠ 0 ∧ j ≤ t ∧ j < k) := by omega
            simp only [e]
            exact ⟨d1, d2, d3, d4⟩⟩
        exact ⟨σ2, f2, r2, (same_mu (by omega) (by omega)).tr s2⟩
theorem X2_wearDown_26 (hg : 1000 ≤ g) {o t : Nat} {sc : List (Nat × Nat)} {L : List Pc} (hV : RowV L) (htl : t ≤ L.length) : ∀ n i w σ, i ≤ t → t - i < n → TV w → StockC σ (o + 1) sc w → RowC σ (o + 7) L → ∃ σ', fX2_wearDown_26 g o n σ (nI t) (nI i) = some σ' ∧ StockC σ' (o + 1) sc (wearL ((L.take t).drop i) w) ∧ RowC σ' (o + 7) (bump L t) ∧ ∀ j, (j < o + 4 ∨ o + 6 ≤ j) → (j < o + 7 ∨ o + 12 ≤ j) → σ' j = σ j := by
  intro n
  induction n with
  | zero => intro i w σ _ q; omega
  | succ n ih =>
    intro i w σ h1 h2 hT hS hR
    have hl := hR.2.1
    rw [fX2_wearDown_26]
    by_cases c : i = t
    · subst c
      simp (disch := omega) only [chk_T, okI_t, okI_f, okI_nN, b2i_t, b2i_f, ifTT, ifFT, ite_true, ite_false, nI_c, bnd_s, bnd2_s, stp_s, ifLE_t, ifLE_f, ifLT_t, ifLT_f, ifE_t, ifE_f, if0_t, if0_f, ifn0, ifp0, ifl0_t, ifl0_f, ifg0_t, ifg0_f, ifnE, ifnE2, ifNE_t, ifNE_f, ifN0, ifNl, ifNp, ifB, nI_A, nI_S, nI_M, mu_s, mu_k, mu_n, mcp_n]
      have hb : bumpK L i 1 = L := by
        apply List.ext_getElem?
        intro j
        rw [bumpK_get]
        cases L[j]? with
        | none => rfl
        | some y => simp only [Option.map_some]; rw [if_neg (by omega)]
      obtain ⟨σ2, e2, r2, s2⟩ := X2_wearDown_87 (g := g) (t := i) hV (by omega) g 1 σ (by omega) (by omega) (by omega) (by rw [hb]; exact hR)
      rw [List.drop_eq_nil_of_le (by rw [List.length_take]; omega)]
      exact ⟨σ2, e2, hS.same (fun j a b => s2 j (by omega)), r2, fun j _ hj => s2 j hj⟩
    · obtain ⟨x, hx⟩ := get_of (L := L) (i := i) (by omega)
      have hv := hV i x hx
      have hpl := plen_b hv
      have e2 : σ (o + 9) i = nI x.2.1 := (hR.2.2 i x hx).2.1
      simp (disch := omega) only [chk_T, okI_t, okI_f, okI_nN, b2i_t, b2i_f, ifTT, ifFT, ite_true, ite_false, nI_c, bnd_s, bnd2_s, stp_s, ifLE_t, ifLE_f, ifLT_t, ifLT_f, ifE_t, ifE_f, if0_t, if0_f, ifn0, ifp0, ifl0_t, ifl0_f, ifg0_t, ifg0_f, ifnE, ifnE2, ifNE_t, ifNE_f, ifN0, ifNl, ifNp, ifB, nI_A, nI_S, nI_M, mu_s, mu_k, mu_n, mcp_n, e2]
      obtain ⟨σ1, e1, r1, s1⟩ := X2_wearDown_41 (g := g) (o := o) (K := fun σ y3 y4 => fX2_wearDown_26 g o n σ y3 y4) (x3 := nI t) hx hv g (plen x) x.2.1 w σ (by omega) (by omega) hT hS hR
      obtain ⟨σ2, e3, r2, r3, s2⟩ := ih (i + 1) _ σ1 (by omega) (by omega) (wearN_TV _ _ _ hT) r1 (hR.same (fun j a b => s1 j (by omega)))
      rw [drop_get (L := L.take t) (i := i) (x := x) (by rw [List.getElem?_take, if_pos (by omega)]; exact hx), wearL]
      exact ⟨σ2, e1.trans e3, r2, r3, fun j a b => by rw [s2 j a b, s1 j (by omega)]⟩
theorem X2_wearDown (hg : 1000 ≤ g) {o : Nat} {A : Fa} (h : FilmC σ o A) (hT : TV A.2.1) (hV : RowV A.2.2.1.1) : ∃ σ', fX2_wearDown g σ o ((aShow A).2 6) = some σ' ∧ StockC σ' (o + 1) A.1 (aRun A).2.1 ∧ RowC σ' (o + 7) (aRun A).2.2.1.1 ∧ ∀ j, (j < o + 4 ∨ o + 6 ≤ j) → (j < o + 7 ∨ o + 12 ≤ j) → σ' j = σ j := by
  obtain ⟨h1, h2, h3, h4, h5, h6, h7, h8⟩ := h
  have hl := h2.1.2.1
  have htl := thr_le A.2.2.2.2.2.2.2 A.2.2.1.1
  obtain ⟨σ1, e1, r1, r2, s1⟩ := X2_wearDown_26 (g := g) hg hV htl g 0 A.2.1 σ (by omega) (by omega) hT h1 h2.1
  rw [List.drop_zero] at r1
  have h0 : σ (o + 7) 0 = nI A.2.2.1.1.length := h2.1.1
  unfold fX2_wearDown
  rw [aShow_6, h0]
  unfold thr at e1
  cases hq : thrF A.2.2.2.2.2.2.2 0 A.2.2.1.1 with
  | none =>
    rw [hq] at e1
    simp (disch := omega) only [chk_T, okI_t, okI_f, okI_nN, b2i_t, b2i_f, ifTT, ifFT, ite_true, ite_false, nI_c, bnd_s, bnd2_s, stp_s, ifLE_t, ifLE_f, ifLT_t, ifLT_f, ifE_t, ifE_f, if0_t, if0_f, ifn0, ifp0, ifl0_t, ifl0_f, ifg0_t, ifg0_f, ifnE, ifnE2, ifNE_t, ifNE_f, ifN0, ifNl, ifNp, ifB, nI_A, nI_S, nI_M, mu_s, mu_k, mu_n, mcp_n]
    exact ⟨σ1, e1, r1, r2, s1⟩
  | some k =>
    rw [hq] at e1
    have := thrF_lt _ _ _ _ hq
    simp (disch := omega) only [chk_T, okI_t, okI_f, okI_nN, b2i_t, b2i_f, ifTT, ifFT, ite_true, ite_false, nI_c, bnd_s, bnd2_s, stp_s, ifLE_t, ifLE_f, ifLT_t, ifLT_f, ifE_t, ifE_f, if0_t, if0_f, ifn0, ifp0, ifl0_t, ifl0_f, ifg0_t, ifg0_f, ifnE, ifnE2, ifNE_t, ifNE_f, ifN0, ifNl, ifNp, ifB, nI_A, nI_S, nI_M, mu_s, mu_k, mu_n, mcp_n]
    exact ⟨σ1, e1, r1, r2, s1⟩
theorem X2_giveShow (hg : 1000 ≤ g) {o : Nat} {A : Fa} (h : FilmC σ o A) (hT : TV A.2.1) (hV : RowV A.2.2.1.1) (hSc : InSc A.1 A.2.2.1.1) (hU : tot A.2.2.1.1 ≤ 480) (h64 : A.2.2.2.2.2.1 < 64) (hen : A.2.2.2.2.2.2.1 < 1000) (hlim : A.2.2.2.2.2.2.2 < 1000) (h10 : A.2.2.2.1.length < 10) : ∃ σ', fX2_giveShow g σ o = some (nI A.2.2.2.1.length, σ') ∧ FilmC σ' o (aRun A) ∧ same σ σ' o (o + 52) := by
  have hA := h
  obtain ⟨h1, h2, h3, h4, h5, h6, h7, h8⟩ := h
  unfold fX2_giveShow
  rw [h5]
  simp (disch := omega) only [chk_T, okI_t, okI_f, okI_nN, b2i_t, b2i_f, ifTT, ifFT, ite_true, ite_false, nI_c, bnd_s, bnd2_s, stp_s, ifLE_t, ifLE_f, ifLT_t, ifLT_f, ifE_t, ifE_f, if0_t, if0_f, ifn0, ifp0, ifl0_t, ifl0_f, ifg0_t, ifg0_f, ifnE, ifnE2, ifNE_t, ifNE_f, ifN0, ifNl, ifNp, ifB, nI_A, nI_S, nI_M, mu_s, mu_k, mu_n, mcp_n]
  obtain ⟨σ1, e1, r1, s1⟩ := X2_project (g := g) (o1 := o + 17 + 5 + 3 * A.2.2.2.1.length) hg hA hT hV hSc (by omega) hU h64 hen hlim
  have e6 : σ1 (o + 17 + 5 + 3 * A.2.2.2.1.length + 1) 6 = (aShow A).2 6 := r1.2.2.1 6 (by omega) (by omega)
  simp (disch := omega) only [chk_T, okI_t, okI_f, okI_nN, b2i_t, b2i_f, ifTT, ifFT, ite_true, ite_false, nI_c, bnd_s, bnd2_s, stp_s, ifLE_t, ifLE_f, ifLT_t, ifLT_f, ifE_t, ifE_f, if0_t, if0_f, ifn0, ifp0, ifl0_t, ifl0_f, ifg0_t, ifg0_f, ifnE, ifnE2, ifNE_t, ifNE_f, ifN0, ifNl, ifNp, ifB, nI_A, nI_S, nI_M, mu_s, mu_k, mu_n, mcp_n, e1, e6]
  have hA1 : StockC σ1 (o + 1) A.1 A.2.1 := h1.same (fun j a b => s1 j (by omega))
  have hB1 : BnC σ1 (o + 6) A.2.2.1 := h2.same (fun j a b => s1 j (by omega))
  have hW1 : WitC σ1 (o + 18) A.2.2.2.2.1 := h4.same (fun j a b => s1 j (by omega))
  have so : σ1 o = σ o := s1 o (by omega)
  have hS1 : ShowsC σ1 (o + 22) (A.2.2.2.1 ++ [aShow A]) := by
    refine ⟨by rw [List.length_append, List.length_singleton]; omega, fun i s hs => ?_⟩
    by_cases c : i < A.2.2.2.1.length
    · rw [List.getElem?_append_left c] at hs
      exact (h3.2 i s hs).same (fun j a b => s1 j (by omega))
    · have := lt_of_get hs
      rw [List.length_append, List.length_singleton] at this
      rw [List.getElem?_append_right (by omega), show i - A.2.2.2.1.length = 0 by omega] at hs
      cases hs
      rw [show i = A.2.2.2.1.length by omega]
      exact r1
  -- the wear of the film as it was
  obtain ⟨σ2, e2, r2, r3, s2⟩ : ∃ σ', fX2_wearDown g σ1 o ((aShow A).2 6) = some σ' ∧ StockC σ' (o + 1) A.1 (aRun A).2.1 ∧ RowC σ' (o + 7) (aRun A).2.2.1.1 ∧ ∀ j, (j < o + 4 ∨ o + 6 ≤ j) → (j < o + 7 ∨ o + 12 ≤ j) → σ' j = σ1 j :=
    X2_wearDown (g := g) (o := o) (A := A) hg ⟨hA1, hB1, ⟨h3.1, fun i s hs => (hS1.2 i s (by rw [List.getElem?_append_left (lt_of_get hs)]; exact hs))⟩, hW1, by rw [so]; exact h5, by rw [so]; exact h6, by rw [so]; exact h7, by rw [so]; exact h8⟩ hT hV
  have s2o : σ2 o = σ o := (s2 o (by omega) (by omega)).trans so
  simp (disch := omega) only [chk_T, okI_t, okI_f, okI_nN, b2i_t, b2i_f, ifTT, ifFT, ite_true, ite_false, nI_c, bnd_s, bnd2_s, stp_s, ifLE_t, ifLE_f, ifLT_t, ifLT_f, ifE_t, ifE_f, if0_t, if0_f, ifn0, ifp0, ifl0_t, ifl0_f, ifg0_t, ifg0_f, ifnE, ifnE2, ifNE_t, ifNE_f, ifN0, ifNl, ifNp, ifB, nI_A, nI_S, nI_M, mu_s, mu_k, mu_n, mcp_n, e2, s2o, h5]
  refine ⟨_, rfl, ⟨?_, ⟨?_, ?_⟩, ?_, ?_, ?_, ?_, ?_, ?_⟩, fun j hj => ?_⟩
  · exact r2.same (fun j a b => mu_n (by omega))
  · exact r3.same (fun j a b => mu_n (by omega))
  · exact hB1.2.same (fun j a b => by rw [mu_n (by omega), s2 j (by omega) (by omega)])
  · exact hS1.same (fun j a b => by rw [mu_n (by omega), s2 j (by omega) (by omega)])
  · exact hW1.same (fun j a b => by rw [mu_n (by omega), s2 j (by omega) (by omega)])
  · rw [mu_s]
    show _ = nI (A.2.2.2.1 ++ [aShow A]).length
    rw [List.length_append, List.length_singleton]
  · rw [mu_k (by omega), s2o]; exact h6
  · rw [mu_k (by omega), s2o]; exact h7
  · rw [mu_k (by omega), s2o]; exact h8
  · rw [mu_n (by omega), s2 j (by omega) (by omega), s1 j (by omega)]
end
