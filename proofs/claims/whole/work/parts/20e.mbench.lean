/-! PURE ROWS, 5: the reference's pieces, in one row of numbers -/
def RowM (σ : Mem) (o : Nat) (L : List Pc) : Prop := σ (o + 1) 1 = nI L.length ∧ L.length ≤ 20 ∧ ∀ (i : Nat) (x : Pc), L[i]? = some x → ∀ c, c < 4 → σ (o + 1) (992 + 4 * i + c) = nI (pcc x (c + 1))
def CanM (σ : Mem) (o : Nat) (L : List Pc) : Prop := σ (o + 1) 2 = nI L.length ∧ L.length ≤ 20 ∧ ∀ (i : Nat) (x : Pc), L[i]? = some x → ∀ c, c < 3 → σ (o + 1) (1072 + 3 * i + c) = nI (pcc x (c + 1))
/-- only pieces on the reel have changed; or also those in the can -/
def chP (σ σ' : Mem) (o : Nat) : Prop := (∀ i, i ≠ o + 1 → σ' i = σ i) ∧ ∀ j, j ≠ 1 → (j < 992 ∨ 1072 ≤ j) → σ' (o + 1) j = σ (o + 1) j
def chB (σ σ' : Mem) (o : Nat) : Prop := (∀ i, i ≠ o + 1 → σ' i = σ i) ∧ ∀ j, j ≠ 1 → j ≠ 2 → (j < 992 ∨ 1132 ≤ j) → σ' (o + 1) j = σ (o + 1) j
theorem chP.rf {σ : Mem} {o : Nat} : chP σ σ o := ⟨fun _ _ => rfl, fun _ _ _ => rfl⟩
theorem chB.rf {σ : Mem} {o : Nat} : chB σ σ o := ⟨fun _ _ => rfl, fun _ _ _ _ => rfl⟩
theorem chP.tr {σ σ1 σ2 : Mem} {o : Nat} (h : chP σ σ1 o) (h2 : chP σ1 σ2 o) : chP σ σ2 o := ⟨fun i q => (h2.1 i q).trans (h.1 i q), fun j q r => (h2.2 j q r).trans (h.2 j q r)⟩
theorem chB.tr {σ σ1 σ2 : Mem} {o : Nat} (h : chB σ σ1 o) (h2 : chB σ1 σ2 o) : chB σ σ2 o := ⟨fun i q => (h2.1 i q).trans (h.1 i q), fun j q r s => (h2.2 j q r s).trans (h.2 j q r s)⟩
theorem chP.b {σ σ' : Mem} {o : Nat} (h : chP σ σ' o) : chB σ σ' o := ⟨h.1, fun j q _ r => h.2 j q (by omega)⟩
theorem chP_mu {σ : Mem} {o k : Nat} {x : Int32} (h : k = 1 ∨ 992 ≤ k ∧ k < 1072) : chP σ (mu σ (o + 1) k x) o := ⟨fun i q => mu_n q, fun j q r => mu_k (by omega)⟩
theorem chB_mu {σ : Mem} {o k : Nat} {x : Int32} (h : k = 1 ∨ k = 2 ∨ 992 ≤ k ∧ k < 1132) : chB σ (mu σ (o + 1) k x) o := ⟨fun i q => mu_n q, fun j q r s => mu_k (by omega)⟩
theorem CanM.p {σ σ' : Mem} {o : Nat} {L : List Pc} (h : CanM σ o L) (c : chP σ σ' o) : CanM σ' o L := by
  have hl := h.2.1
  refine ⟨by rw [c.2 2 (by omega) (by omega)]; exact h.1, hl, fun i x hx k hk => ?_⟩
  have := lt_of_get hx
  rw [c.2 _ (by omega) (by omega)]
  exact h.2.2 i x hx k hk
theorem sub1_lt {K m : Nat} (hK : K < 2147483648) (hm : m < 2147483648) : (nI K - nI 1 < nI m) ↔ K ≤ m := by
  cases K with
  | zero =>
    have : nI 0 - nI 1 = nN 1 := by decide
    rw [this]
    refine ⟨fun _ => Nat.zero_le m, fun _ => ?_⟩
    rw [Int32.lt_iff_toInt_lt, nN_toInt (by omega), nI_toInt (by omega)]
    omega
  | succ k => rw [nI_S (by omega), nI_LT (by omega) hm]; omega
theorem X9_isIn {g : Nat} {σ : Mem} (v lo hi : Int32) : fX9_isIn g σ v lo hi = some (b2i (decide (lo ≤ v) && decide (v ≤ hi))) := by
  unfold fX9_isIn
  by_cases h1 : v < lo
  · rw [if_pos h1, decide_eq_false (Int32.not_le.mpr h1)]; rfl
  · rw [if_neg h1, decide_eq_true (Int32.not_lt.mp h1)]
    by_cases h2 : hi < v
    · rw [if_pos h2, decide_eq_false (Int32.not_le.mpr h2)]; rfl
    · rw [if_neg h2, decide_eq_true (Int32.not_lt.mp h2)]; rfl
theorem in_sub1 {v : Int32} {n : Nat} (hn : n < 2147483648) : (decide (nI 0 ≤ v) && decide (v ≤ nI n - nI 1)) = okI v n := by
  by_cases h : v < 0
  · rw [show okI v n = false by unfold okI; rw [decide_eq_true h]; rfl, decide_eq_false (by rw [show nI 0 = 0 from rfl]; exact Int32.not_le.mpr h)]; rfl
  · obtain ⟨j, hj, rfl⟩ := nI_of h
    rw [okI_nI (by omega), decide_eq_true ((nI_LE (by omega) (by omega)).2 (Nat.zero_le j)), Bool.true_and]
    have := sub1_lt (K := n) (m := j) hn (by omega)
    by_cases q : j < n
    · rw [decide_eq_true q, decide_eq_true (Int32.not_lt.mp (fun z => by have := this.1 z; omega))]
    · rw [decide_eq_false q, decide_eq_false (Int32.not_le.mpr (this.2 (by omega)))]
section
variable {g o : Nat} {σ : Mem} {L : List Pc}
theorem X9_isPiece (h : RowM σ o L) (p : Int32) : fX9_isPiece g σ o p = some (b2i (okI p L.length)) := by
  have hl := h.2.1
  unfold fX9_isPiece
  rw [X9_isIn]
  simp (disch := omega) only [chk_T, okI_t, okI_f, okI_nN, b2i_t, b2i_f, ifTT, ifFT, nI_c, bnd_s, bnd2_s, stp_s, ifLE_t, ifLE_f, ifLT_t, ifLT_f, ifE_t, ifE_f, if0_t, if0_f, ifn0, ifp0, ifl0_t, ifl0_f, ifg0_t, ifg0_f, ifnE, ifnE2, ifNE_t, ifNE_f, ifN0, ifNl, ifNp, ifB, nI_A, nI_S, nI_M, mu_s, mu_k, mu_n, mcp_n, h.1]
  rw [in_sub1 (by omega), chk_t isZ_b]
theorem X9_ofP (h : RowM σ o L) {i c : Nat} {x : Pc} (hx : L[i]? = some x) (hc : c < 4) : fX9_ofP g σ o (nI i) (nI c) = some (nI (pcc x (c + 1))) := by
  have hl := h.2.1
  have hi := lt_of_get hx
  unfold fX9_ofP
  simp (disch := omega) only [chk_T, okI_t, okI_f, okI_nN, b2i_t, b2i_f, ifTT, ifFT, nI_c, bnd_s, bnd2_s, stp_s, ifLE_t, ifLE_f, ifLT_t, ifLT_f, ifE_t, ifE_f, if0_t, if0_f, ifn0, ifp0, ifl0_t, ifl0_f, ifg0_t, ifg0_f, ifnE, ifnE2, ifNE_t, ifNE_f, ifN0, ifNl, ifNp, ifB, nI_A, nI_S, nI_M, mu_s, mu_k, mu_n, mcp_n, h.2.2 i x hx c hc]
theorem X9_setsP {i c : Nat} {v : Int32} (hi : i < 20) (hc : c < 4) : fX9_setsP g σ o (nI i) (nI c) v = some (mu σ (o + 1) (992 + 4 * i + c) v) := by
  unfold fX9_setsP
  simp (disch := omega) only [chk_T, okI_t, okI_f, okI_nN, b2i_t, b2i_f, ifTT, ifFT, nI_c, bnd_s, bnd2_s, stp_s, ifLE_t, ifLE_f, ifLT_t, ifLT_f, ifE_t, ifE_f, if0_t, if0_f, ifn0, ifp0, ifl0_t, ifl0_f, ifg0_t, ifg0_f, ifnE, ifnE2, ifNE_t, ifNE_f, ifN0, ifNl, ifNp, ifB, nI_A, nI_S, nI_M, mu_s, mu_k, mu_n, mcp_n]
theorem X9_framesIn (h : RowM σ o L) (hV : RowV L) {i : Nat} {x : Pc} (hx : L[i]? = some x) : fX9_framesIn g σ o (nI i) = some (nI (plen x)) := by
  obtain ⟨-, v1, v2, -⟩ := hV i x hx
  unfold fX9_framesIn
  simp (disch := omega) only [chk_T, okI_t, okI_f, okI_nN, b2i_t, b2i_f, ifTT, ifFT, nI_c, bnd_s, bnd2_s, stp_s, ifLE_t, ifLE_f, ifLT_t, ifLT_f, ifE_t, ifE_f, if0_t, if0_f, ifn0, ifp0, ifl0_t, ifl0_f, ifg0_t, ifg0_f, ifnE, ifnE2, ifNE_t, ifNE_f, ifN0, ifNl, ifNp, ifB, nI_A, nI_S, nI_M, mu_s, mu_k, mu_n, mcp_n, X9_ofP h hx, pcc]
  rfl
theorem X9_positionOf_4 (h : RowM σ o L) (hV : RowV L) {k : Nat} (hk : k ≤ L.length) : ∀ n i, i ≤ k → k - i < n → fX9_positionOf_4 g o n σ (nI k) (nI (posOf L i)) (nI i) = some (nI (posOf L k)) := by
  have hl := h.2.1
  intro n
  induction n with
  | zero => intro i _ q; omega
  | succ n ih =>
    intro i h1 h2
    rw [fX9_positionOf_4]
    by_cases hik : i = k
    · subst hik
      simp (disch := omega) only [chk_T, okI_t, okI_f, okI_nN, b2i_t, b2i_f, ifTT, ifFT, nI_c, bnd_s, bnd2_s, stp_s, ifLE_t, ifLE_f, ifLT_t, ifLT_f, ifE_t, ifE_f, if0_t, if0_f, ifn0, ifp0, ifl0_t, ifl0_f, ifg0_t, ifg0_f, ifnE, ifnE2, ifNE_t, ifNE_f, ifN0, ifNl, ifNp, ifB, nI_A, nI_S, nI_M, mu_s, mu_k, mu_n, mcp_n]
    · obtain ⟨x, hx⟩ := get_of (L := L) (i := i) (by omega)
      simp (disch := omega) only [chk_T, okI_t, okI_f, okI_nN, b2i_t, b2i_f, ifTT, ifFT, nI_c, bnd_s, bnd2_s, stp_s, ifLE_t, ifLE_f, ifLT_t, ifLT_f, ifE_t, ifE_f, if0_t, if0_f, ifn0, ifp0, ifl0_t, ifl0_f, ifg0_t, ifg0_f, ifnE, ifnE2, ifNE_t, ifNE_f, ifN0, ifNl, ifNp, ifB, nI_A, nI_S, nI_M, mu_s, mu_k, mu_n, mcp_n, X9_framesIn h hV hx]
      rw [← posOf_s hx]
      exact ih (i + 1) (by omega) (by omega)
theorem X9_positionOf (hg : 1000 ≤ g) (h : RowM σ o L) (hV : RowV L) {k : Nat} (hk : k ≤ L.length) : fX9_positionOf g σ o (nI k) = some (nI (posOf L k)) := by
  have hl := h.2.1
  have := X9_positionOf_4 (g := g) h hV hk g 0 (by omega) (by omega)
  rw [posOf_0] at this
  exact this
theorem X9_onReel (hg : 1000 ≤ g) (h : RowM σ o L) (hV : RowV L) : fX9_onReel g σ o = some (nI (tot L)) := by
  have hl := h.2.1
  unfold fX9_onReel
  simp (disch := omega) only [chk_T, okI_t, okI_f, okI_nN, b2i_t, b2i_f, ifTT, ifFT, nI_c, bnd_s, bnd2_s, stp_s, ifLE_t, ifLE_f, ifLT_t, ifLT_f, ifE_t, ifE_f, if0_t, if0_f, ifn0, ifp0, ifl0_t, ifl0_f, ifg0_t, ifg0_f, ifnE, ifnE2, ifNE_t, ifNE_f, ifN0, ifNl, ifNp, ifB, nI_A, nI_S, nI_M, mu_s, mu_k, mu_n, mcp_n, h.1, X9_positionOf hg h hV (Nat.le_refl _)]
  rfl
theorem X9_pieceAt_2 (hg : 1000 ≤ g) (h : RowM σ o L) (hV : RowV L) {q : Nat} (hq : q < tot L) : ∀ n i, i ≤ pAt L q → pAt L q - i < n → fX9_pieceAt_2 g o n σ (nI q) (nI i) = some (nI (pAt L q)) := by
  have hl := h.2.1
  have ht := tot_le hV hl
  obtain ⟨a1, a2, a3⟩ := pAt_spec L q hq
  intro n
  induction n with
  | zero => intro i _ q; omega
  | succ n ih =>
    intro i h1 h2
    rw [fX9_pieceAt_2]
    obtain ⟨x, hx⟩ := get_of (L := L) (i := i) (by omega)
    have hs := posOf_s hx
    have b1 := posOf_le hV i (by omega)
    have b2 := plen_b (hV i x hx)
    simp (disch := omega) only [chk_T, okI_t, okI_f, okI_nN, b2i_t, b2i_f, ifTT, ifFT, nI_c, bnd_s, bnd2_s, stp_s, ifLE_t, ifLE_f, ifLT_t, ifLT_f, ifE_t, ifE_f, if0_t, if0_f, ifn0, ifp0, ifl0_t, ifl0_f, ifg0_t, ifg0_f, ifnE, ifnE2, ifNE_t, ifNE_f, ifN0, ifNl, ifNp, ifB, nI_A, nI_S, nI_M, mu_s, mu_k, mu_n, mcp_n, X9_positionOf hg h hV (show i ≤ L.length by omega), X9_framesIn h hV hx]
    rw [← hs]
    by_cases c : q < posOf L (i + 1)
    · have : pAt L q = i := by
        by_cases c2 : pAt L q = i
        · exact c2
        · have := posOf_mono (L := L) (i := i + 1) (j := pAt L q) (by omega) (by omega)
          omega
      rw [ifLT_t c (by omega), this]
    · rw [ifLT_f (by omega) (by omega)]
      have : pAt L q ≠ i := fun e => by rw [e] at a3; omega
      exact ih (i + 1) (by omega) (by omega)
theorem X9_pieceAt (hg : 1000 ≤ g) (h : RowM σ o L) (hV : RowV L) {q : Nat} (hq : q < tot L) : fX9_pieceAt g σ o (nI q) = some (nI (pAt L q)) := by
  have hl := h.2.1
  have := (pAt_spec L q hq).1
  exact X9_pieceAt_2 hg h hV hq g 0 (by omega) (by omega)
/-- the splice of a piece anew, if there is one -/
theorem RowM_renew {i : Nat} (h : RowM σ o L) (hi : i < L.length) : RowM (mu σ (o + 1) (992 + 4 * i + 3) (nI 0)) o (renew L i) := by
  have hl := h.2.1
  refine ⟨by rw [mu_k (by omega), renew_len]; exact h.1, by rw [renew_len]; exact hl, fun j x hx c hc => ?_⟩
  rw [renew_get] at hx
  obtain ⟨y, hy, rfl⟩ := Option.map_eq_some_iff.mp hx
  have := h.2.2 j y hy c hc
  rw [mu_ij]
  by_cases q : j = i
  · subst q
    rw [if_pos rfl]
    rcases (show c = 0 ∨ c = 1 ∨ c = 2 ∨ c = 3 by omega) with rfl | rfl | rfl | rfl
    · rw [if_neg (by omega)]; exact this
    · rw [if_neg (by omega)]; exact this
    · rw [if_neg (by omega)]; exact this
    · rw [if_pos (by omega)]; rfl
  · rw [if_neg (by omega), if_neg q]; exact this
theorem renew_out {i : Nat} (h : L.length ≤ i) : renew L i = L := by
  apply List.ext_getElem?
  intro j
  rw [renew_get]
  cases hj : L[j]? with
  | none => rfl
  | some y =>
    have := lt_of_get hj
    simp only [Option.map_some, if_neg (show ¬ j = i by omega)]
/-- one number of a piece set -/
theorem RowM_set {i c : Nat} {v : Int32} {x y : Pc} (h : RowM σ o L) (hx : L[i]? = some x) (hc : c < 4) (hy : ∀ d, d < 4 → nI (pcc y (d + 1)) = if d = c then v else nI (pcc x (d + 1))) : RowM (mu σ (o + 1) (992 + 4 * i + c) v) o (L.set i y) := by
  have hi := lt_of_get hx
  have hl := h.2.1
  refine ⟨by rw [mu_k (by omega), List.length_set]; exact h.1, by rw [List.length_set]; exact hl, fun j z hz d hd => ?_⟩
  rw [List.getElem?_set] at hz
  rw [mu_ij]
  by_cases q : i = j
  · subst q
    rw [if_pos rfl, if_pos hi] at hz
    cases hz
    rw [hy d hd]
    by_cases e : d = c
    · rw [if_pos (by omega), if_pos e]
    · rw [if_neg (by omega), if_neg e]; exact h.2.2 i x hx d hd
  · rw [if_neg q] at hz
    rw [if_neg (by omega)]
    exact h.2.2 j z hz d hd
theorem X9_inserts_12 {σ0 : Mem} {at_ s f l : Nat} (h : RowM σ0 o L) (hat : at_ ≤ L.length) (hl : L.length < 20) : ∀ n K σ, 4 * at_ ≤ K → K ≤ 4 * L.length → K - 4 * at_ < n → chP σ0 σ o → σ (o + 1) 1 = nI L.length → (∀ j, σ (o + 1) (992 + j) = if K + 4 ≤ j ∧ j < 4 * L.length + 4 then σ0 (o + 1) (992 + (j - 4)) else σ0 (o + 1) (992 + j)) → ∃ σ', fX9_inserts_12 g o n σ (nI at_) (nI s) (nI f) (nI l) (nI K - nI 1) = some σ' ∧ RowM σ' o (putL L at_ (s, f, l, 0)) ∧ chP σ0 σ' o := by
  intro n
  induction n with
  | zero => intro k σ _ _ q; omega
  | succ n ih =>
    intro K σ h1 h2 h3 hs h0 hc
    rw [fX9_inserts_12]
    by_cases hk : K = 4 * at_
    · rw [nI_M, if_pos ((sub1_lt (by omega) (by omega)).2 (by omega))]
      simp (disch := omega) only [chk_T, okI_t, okI_f, okI_nN, b2i_t, b2i_f, ifTT, ifFT, nI_c, bnd_s, bnd2_s, stp_s, ifLE_t, ifLE_f, ifLT_t, ifLT_f, ifE_t, ifE_f, if0_t, if0_f, ifn0, ifp0, ifl0_t, ifl0_f, ifg0_t, ifg0_f, ifnE, ifnE2, ifNE_t, ifNE_f, ifN0, ifNl, ifNp, ifB, nI_A, nI_S, nI_M, mu_s, mu_k, mu_n, mcp_n, h0]
      have hset : ∀ (τ : Mem) (c : Nat) (v : Int32), c < 4 → fX9_setsP g τ o (nI at_) (nI c) v = some (mu τ (o + 1) (992 + 4 * at_ + c) v) := fun τ c v hc => X9_setsP (by omega) hc
      simp (disch := omega) only [chk_T, okI_t, okI_f, okI_nN, b2i_t, b2i_f, ifTT, ifFT, nI_c, bnd_s, bnd2_s, stp_s, ifLE_t, ifLE_f, ifLT_t, ifLT_f, ifE_t, ifE_f, if0_t, if0_f, ifn0, ifp0, ifl0_t, ifl0_f, ifg0_t, ifg0_f, ifnE, ifnE2, ifNE_t, ifNE_f, ifN0, ifNl, ifNp, ifB, nI_A, nI_S, nI_M, mu_s, mu_k, mu_n, mcp_n, hset]
      generalize hτ : mu (mu (mu (mu (mu σ (o + 1) 1 (nI (L.length + 1))) (o + 1) (992 + 4 * at_ + 0) (nI s)) (o + 1) (992 + 4 * at_ + 1) (nI f)) (o + 1) (992 + 4 * at_ + 2) (nI l)) (o + 1) (992 + 4 * at_ + 3) (nI 0) = τ
      have hch : chP σ0 τ o := by
        rw [← hτ]
        exact ((((hs.tr (chP_mu (by omega))).tr (chP_mu (by omega))).tr (chP_mu (by omega))).tr (chP_mu (by omega))).tr (chP_mu (by omega))
      have hR : RowM τ o (L.insertIdx at_ (s, f, l, 0)) := by
        refine ⟨?_, ?_, fun i x hx c hc4 => ?_⟩
        · rw [← hτ, List.length_insertIdx, if_pos hat]
          simp (disch := omega) only [chk_T, okI_t, okI_f, okI_nN, b2i_t, b2i_f, ifTT, ifFT, nI_c, bnd_s, bnd2_s, stp_s, ifLE_t, ifLE_f, ifLT_t, ifLT_f, ifE_t, ifE_f, if0_t, if0_f, ifn0, ifp0, ifl0_t, ifl0_f, ifg0_t, ifg0_f, ifnE, ifnE2, ifNE_t, ifNE_f, ifN0, ifNl, ifNp, ifB, nI_A, nI_S, nI_M, mu_s, mu_k, mu_n, mcp_n]
        · rw [List.length_insertIdx, if_pos hat]; omega
        · rw [List.getElem?_insertIdx] at hx
          by_cases q1 : i < at_
          · rw [if_pos q1] at hx
            have e := hc (4 * i + c)
            rw [if_neg (by omega)] at e
            rw [show 992 + 4 * i + c = 992 + (4 * i + c) by omega, ← hτ, mu_k (by omega), mu_k (by omega), mu_k (by omega), mu_k (by omega), mu_k (by omega), e, ← Nat.add_assoc]
            exact h.2.2 i x hx c hc4
          · rw [if_neg q1] at hx
            by_cases q2 : i = at_
            · rw [if_pos q2, if_pos (by omega)] at hx
              cases hx
              subst q2
              rw [← hτ]
              rcases (show c = 0 ∨ c = 1 ∨ c = 2 ∨ c = 3 by omega) with rfl | rfl | rfl | rfl <;> simp (disch := omega) only [chk_T, okI_t, okI_f, okI_nN, b2i_t, b2i_f, ifTT, ifFT, nI_c, bnd_s, bnd2_s, stp_s, ifLE_t, ifLE_f, ifLT_t, ifLT_f, ifE_t, ifE_f, if0_t, if0_f, ifn0, ifp0, ifl0_t, ifl0_f, ifg0_t, ifg0_f, ifnE, ifnE2, ifNE_t, ifNE_f, ifN0, ifNl, ifNp, ifB, nI_A, nI_S, nI_M, mu_s, mu_k, mu_n, mcp_n] <;> rfl
            · rw [if_neg q2] at hx
              have hlt := lt_of_get hx
              have e := hc (4 * i + c)
              rw [if_pos (by omega)] at e
              rw [show 992 + 4 * i + c = 992 + (4 * i + c) by omega, ← hτ, mu_k (by omega), mu_k (by omega), mu_k (by omega), mu_k (by omega), mu_k (by omega), e, show 992 + (4 * i + c - 4) = 992 + 4 * (i - 1) + c by omega]
              exact h.2.2 (i - 1) x hx c hc4
      rw [X9_isPiece hR]
      have hlen : (L.insertIdx at_ (s, f, l, 0)).length = L.length + 1 := by rw [List.length_insertIdx, if_pos hat]
      unfold putL
      by_cases q : at_ + 1 < L.length + 1
      · simp (disch := omega) only [chk_T, okI_t, okI_f, okI_nN, b2i_t, b2i_f, ifTT, ifFT, nI_c, bnd_s, bnd2_s, stp_s, ifLE_t, ifLE_f, ifLT_t, ifLT_f, ifE_t, ifE_f, if0_t, if0_f, ifn0, ifp0, ifl0_t, ifl0_f, ifg0_t, ifg0_f, ifnE, ifnE2, ifNE_t, ifNE_f, ifN0, ifNl, ifNp, ifB, nI_A, nI_S, nI_M, mu_s, mu_k, mu_n, mcp_n, hlen, X9_setsP (g := g) (σ := τ) (o := o) (i := at_ + 1) (c := 3) (v := nI 0) (by omega) (by omega)]
        exact ⟨_, rfl, RowM_renew hR (show at_ + 1 < (L.insertIdx at_ (s, f, l, 0)).length by omega), hch.tr (chP_mu (by omega))⟩
      · simp (disch := omega) only [chk_T, okI_t, okI_f, okI_nN, b2i_t, b2i_f, ifTT, ifFT, nI_c, bnd_s, bnd2_s, stp_s, ifLE_t, ifLE_f, ifLT_t, ifLT_f, ifE_t, ifE_f, if0_t, if0_f, ifn0, ifp0, ifl0_t, ifl0_f, ifg0_t, ifg0_f, ifnE, ifnE2, ifNE_t, ifNE_f, ifN0, ifNl, ifNp, ifB, nI_A, nI_S, nI_M, mu_s, mu_k, mu_n, mcp_n, hlen]
        exact ⟨_, rfl, by rw [renew_out (L := L.insertIdx at_ (zp (s, f, l, 0))) (by rw [List.length_insertIdx, if_pos hat]; omega)]; exact hR, hch⟩
    · rw [nI_M, if_neg (fun q => by have := (sub1_lt (by omega) (by omega)).1 q; omega), nI_S (by omega)]
      simp (disch := omega) only [chk_T, okI_t, okI_f, okI_nN, b2i_t, b2i_f, ifTT, ifFT, nI_c, bnd_s, bnd2_s, stp_s, ifLE_t, ifLE_f, ifLT_t, ifLT_f, ifE_t, ifE_f, if0_t, if0_f, ifn0, ifp0, ifl0_t, ifl0_f, ifg0_t, ifg0_f, ifnE, ifnE2, ifNE_t, ifNE_f, ifN0, ifNl, ifNp, ifB, nI_A, nI_S, nI_M, mu_s, mu_k, mu_n, mcp_n]
      obtain ⟨K, rfl⟩ : ∃ k, K = k + 1 := ⟨K - 1, by omega⟩
      rw [show K + 1 - 1 = K by omega, show nI K + nN 1 = nI K - nI 1 by unfold nN; rw [Int32.sub_eq_add_neg]]
      refine ih K _ (by omega) (by omega) (by omega) (hs.tr (chP_mu (by omega))) (by rw [mu_k (by omega)]; exact h0) (fun j => ?_)
      rw [mu_ij]
      by_cases q1 : 992 + j = 992 + K + 4
      · rw [if_pos q1, if_pos (by omega), hc K, if_neg (by omega), show j - 4 = K by omega]
      · rw [if_neg q1, hc j]
        by_cases q2 : K + 1 + 4 ≤ j ∧ j < 4 * L.length + 4
        · rw [if_pos q2, if_pos (by omega)]
        · rw [if_neg q2, if_neg (by omega)]
theorem X9_inserts {at_ s f l : Nat} (hg : 1000 ≤ g) (h : RowM σ o L) (hat : at_ ≤ L.length) (hl : L.length < 20) : ∃ σ', fX9_inserts g σ o (nI at_) (nI s) (nI f) (nI l) = some σ' ∧ RowM σ' o (putL L at_ (s, f, l, 0)) ∧ chP σ σ' o := by
  have h0 := h.1
  unfold fX9_inserts
  simp (disch := omega) only [chk_T, okI_t, nI_c, h0, nI_M]
  exact X9_inserts_12 h hat hl g (4 * L.length) σ (by omega) (Nat.le_refl _) (by omega) chP.rf h0 (fun j => by rw [if_neg (by omega)])
theorem X9_removes_14 {σ0 : Mem} {at_ : Nat} (h : RowM σ0 o L) (hat : at_ < L.length) : ∀ n k σ, 4 * at_ ≤ k → k ≤ 4 * (L.length - 1) → 4 * L.length - k < n → chP σ0 σ o → σ (o + 1) 1 = nI (L.length - 1) → (∀ j, σ (o + 1) (992 + j) = if 4 * at_ ≤ j ∧ j < k then σ0 (o + 1) (992 + (j + 4)) else σ0 (o + 1) (992 + j)) → ∃ σ', fX9_removes_14 g o n σ (nI at_) (nI k) = some σ' ∧ RowM σ' o (pullL L at_) ∧ chP σ0 σ' o := by
  have hl := h.2.1
  intro n
  induction n with
  | zero => intro k σ _ _ q; omega
  | succ n ih =>
    intro k σ h1 h2 h3 hs h0 hc
    rw [fX9_removes_14]
    by_cases hk : k = 4 * (L.length - 1)
    · simp (disch := omega) only [chk_T, okI_t, okI_f, okI_nN, b2i_t, b2i_f, ifTT, ifFT, nI_c, bnd_s, bnd2_s, stp_s, ifLE_t, ifLE_f, ifLT_t, ifLT_f, ifE_t, ifE_f, if0_t, if0_f, ifn0, ifp0, ifl0_t, ifl0_f, ifg0_t, ifg0_f, ifnE, ifnE2, ifNE_t, ifNE_f, ifN0, ifNl, ifNp, ifB, nI_A, nI_S, nI_M, mu_s, mu_k, mu_n, mcp_n, h0]
      have hlen : (L.eraseIdx at_).length = L.length - 1 := by rw [List.length_eraseIdx, if_pos hat]
      have hR : RowM σ o (L.eraseIdx at_) := by
        refine ⟨by rw [hlen]; exact h0, by omega, fun i x hx c hc4 => ?_⟩
        have hlt := lt_of_get hx
        rw [List.getElem?_eraseIdx] at hx
        have e := hc (4 * i + c)
        rw [show 992 + 4 * i + c = 992 + (4 * i + c) by omega, e]
        by_cases q1 : i < at_
        · rw [if_pos q1] at hx
          rw [if_neg (by omega), ← Nat.add_assoc]
          exact h.2.2 i x hx c hc4
        · rw [if_neg q1] at hx
          rw [if_pos (by omega), show 992 + (4 * i + c + 4) = 992 + 4 * (i + 1) + c by omega]
          exact h.2.2 (i + 1) x hx c hc4
      rw [X9_isPiece hR]
      unfold pullL
      by_cases q : at_ < L.length - 1
      · simp (disch := omega) only [chk_T, okI_t, okI_f, okI_nN, b2i_t, b2i_f, ifTT, ifFT, nI_c, bnd_s, bnd2_s, stp_s, ifLE_t, ifLE_f, ifLT_t, ifLT_f, ifE_t, ifE_f, if0_t, if0_f, ifn0, ifp0, ifl0_t, ifl0_f, ifg0_t, ifg0_f, ifnE, ifnE2, ifNE_t, ifNE_f, ifN0, ifNl, ifNp, ifB, nI_A, nI_S, nI_M, mu_s, mu_k, mu_n, mcp_n, hlen, X9_setsP (g := g) (σ := σ) (o := o) (i := at_) (c := 3) (v := nI 0) (by omega) (by omega)]
        exact ⟨_, rfl, RowM_renew hR (by omega), hs.tr (chP_mu (by omega))⟩
      · simp (disch := omega) only [chk_T, okI_t, okI_f, okI_nN, b2i_t, b2i_f, ifTT, ifFT, nI_c, bnd_s, bnd2_s, stp_s, ifLE_t, ifLE_f, ifLT_t, ifLT_f, ifE_t, ifE_f, if0_t, if0_f, ifn0, ifp0, ifl0_t, ifl0_f, ifg0_t, ifg0_f, ifnE, ifnE2, ifNE_t, ifNE_f, ifN0, ifNl, ifNp, ifB, nI_A, nI_S, nI_M, mu_s, mu_k, mu_n, mcp_n, hlen]
        exact ⟨_, rfl, by rw [renew_out (by omega)]; exact hR, hs⟩
    · simp (disch := omega) only [chk_T, okI_t, okI_f, okI_nN, b2i_t, b2i_f, ifTT, ifFT, nI_c, bnd_s, bnd2_s, stp_s, ifLE_t, ifLE_f, ifLT_t, ifLT_f, ifE_t, ifE_f, if0_t, if0_f, ifn0, ifp0, ifl0_t, ifl0_f, ifg0_t, ifg0_f, ifnE, ifnE2, ifNE_t, ifNE_f, ifN0, ifNl, ifNp, ifB, nI_A, nI_S, nI_M, mu_s, mu_k, mu_n, mcp_n, h0]
      refine ih (k + 1) _ (by omega) (by omega) (by omega) (hs.tr (chP_mu (by omega))) (by rw [mu_k (by omega)]; exact h0) (fun j => ?_)
      rw [mu_ij]
      by_cases q1 : 992 + j = 992 + k
      · rw [if_pos q1, if_pos (by omega), show 992 + k + 4 = 992 + (k + 4) by omega, hc (k + 4), if_neg (by omega), show j = k by omega]
      · rw [if_neg q1, hc j]
        by_cases q2 : 4 * at_ ≤ j ∧ j < k
        · rw [if_pos q2, if_pos (by omega)]
        · rw [if_neg q2, if_neg (by omega)]
theorem X9_removes {at_ : Nat} (hg : 1000 ≤ g) (h : RowM σ o L) (hat : at_ < L.length) : ∃ σ', fX9_removes g σ o (nI at_) = some σ' ∧ RowM σ' o (pullL L at_) ∧ chP σ σ' o := by
  have hl := h.2.1
  unfold fX9_removes
  simp (disch := omega) only [chk_T, okI_t, okI_f, okI_nN, b2i_t, b2i_f, ifTT, ifFT, nI_c, bnd_s, bnd2_s, stp_s, ifLE_t, ifLE_f, ifLT_t, ifLT_f, ifE_t, ifE_f, if0_t, if0_f, ifn0, ifp0, ifl0_t, ifl0_f, ifg0_t, ifg0_f, ifnE, ifnE2, ifNE_t, ifNE_f, ifN0, ifNl, ifNp, ifB, nI_A, nI_S, nI_M, mu_s, mu_k, mu_n, mcp_n, h.1]
  exact X9_removes_14 h hat g (4 * at_) _ (by omega) (by omega) (by omega) (chP_mu (by omega)) mu_s (fun j => by rw [if_neg (by omega), mu_k (by omega)])
end
