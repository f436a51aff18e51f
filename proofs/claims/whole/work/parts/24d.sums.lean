/-! PURE ROWS, 23: sums over pieces and frames: both sides -/
def sumD (f : Pc → Nat) (L : List Pc) (k : Nat) : Nat := ((L.drop k).map f).sum
def sumR (f : Nat → Nat) : Nat → Nat → Nat
  | _, 0 => 0
  | k, n + 1 => f k + sumR f (k + 1) n
theorem sumD_s {f : Pc → Nat} {L : List Pc} {k : Nat} {x : Pc} (h : L[k]? = some x) : sumD f L k = f x + sumD f L (k + 1) := by
  unfold sumD
  rw [drop_get h, List.map_cons, List.sum_cons]
theorem sumD_e {f : Pc → Nat} {L : List Pc} : sumD f L L.length = 0 := by unfold sumD; rw [List.drop_length]; rfl
def fOn (s : Nat) (x : Pc) : Nat := if x.1 = s then plen x else 0
def pOf (s : Nat) (x : Pc) : Nat := if x.1 = s then 1 else 0
def brk (lim : Nat) (x : Pc) : Nat := if lim ≤ x.2.2.2 then 1 else 0
def tornS (t : Nat → Nat) (s F : Nat) : Nat := sumR (fun f => pop (t (40 * s + f))) 0 F
section
variable {g o : Nat} {σ : Mem} {L : List Pc}
theorem X4_framesOf_4 (h : RowC σ o L) (hV : RowV L) {s : Nat} (hs : s < 12) : ∀ n k a, k ≤ L.length → L.length - k < n → fX4_framesOf_4 g o n σ (nI s) (nI a) (nI k) = some (nI (a + sumD (fOn s) L k)) := by
  intro n
  induction n with
  | zero => intro k a _ q; omega
  | succ n ih =>
    intro k a h1 h2
    have hl := h.2.1
    rw [fX4_framesOf_4, h.1]
    by_cases c : k = L.length
    · subst c
      rw [ifLE_t (Nat.le_refl _) (by omega), sumD_e]; rfl
    · obtain ⟨x, hx⟩ := get_of (L := L) (i := k) (by omega)
      have hv := hV k x hx
      have e1 := (h.2.2 k x hx).1
      rw [ifLE_f (by omega) (by omega), sumD_s hx, okI_t (by omega) (by omega), chk_T, nI_c (by omega), e1, X4_lengthOf h hV hx, bnd_s, nI_A, nI_A, nI_A]
      unfold fOn
      by_cases c2 : x.1 = s
      · rw [if_pos (by rw [c2]), if_pos c2, ih (k + 1) _ (by omega) (by omega), Nat.add_assoc]; rfl
      · rw [if_neg (fun z => c2 ((nI_E (by have := hv.1; omega) (by omega)).1 z)), if_neg c2, ih (k + 1) _ (by omega) (by omega), Nat.add_assoc]; rfl
theorem X4_framesOf (hg : 1000 ≤ g) (h : RowC σ o L) (hV : RowV L) {s : Nat} (hs : s < 12) : fX4_framesOf g σ o (nI s) = some (nI (sumD (fOn s) L 0)) := by
  have hl := h.2.1
  unfold fX4_framesOf
  rw [X4_framesOf_4 h hV hs g 0 0 (by omega) (by omega), Nat.zero_add]
theorem X9_framesOnReel_4 (h : RowM σ o L) (hV : RowV L) {s : Nat} (hs : s < 12) : ∀ n k a, k ≤ L.length → L.length - k < n → fX9_framesOnReel_4 g o n σ (nI s) (nI a) (nI k) = some (nI (a + sumD (fOn s) L k)) := by
  intro n
  induction n with
  | zero => intro k a _ q; omega
  | succ n ih =>
    intro k a h1 h2
    have hl := h.2.1
    have h0 : σ (o + 1) 1 = nI L.length := h.1
    rw [fX9_framesOnReel_4]
    by_cases c : k = L.length
    · subst c
      simp (disch := omega) only [chk_T, okI_t, okI_f, okI_nN, b2i_t, b2i_f, ifTT, ifFT, ite_true, ite_false, nI_c, bnd_s, bnd2_s, stp_s, ifLE_t, ifLE_f, ifLT_t, ifLT_f, ifE_t, ifE_f, if0_t, if0_f, ifn0, ifp0, ifl0_t, ifl0_f, ifg0_t, ifg0_f, ifnE, ifnE2, ifNE_t, ifNE_f, ifN0, ifNl, ifNp, ifB, nI_A, nI_S, nI_M, mu_s, mu_k, mu_n, mcp_n, h0]
      rw [sumD_e]; rfl
    · obtain ⟨x, hx⟩ := get_of (L := L) (i := k) (by omega)
      have hv := hV k x hx
      simp (disch := omega) only [chk_T, okI_t, okI_f, okI_nN, b2i_t, b2i_f, ifTT, ifFT, ite_true, ite_false, nI_c, bnd_s, bnd2_s, stp_s, ifLE_t, ifLE_f, ifLT_t, ifLT_f, ifE_t, ifE_f, if0_t, if0_f, ifn0, ifp0, ifl0_t, ifl0_f, ifg0_t, ifg0_f, ifnE, ifnE2, ifNE_t, ifNE_f, ifN0, ifNl, ifNp, ifB, nI_A, nI_S, nI_M, mu_s, mu_k, mu_n, mcp_n, h0, X9_ofP h hx, X9_framesIn h hV hx, pcc]
      rw [sumD_s hx]
      unfold fOn
      by_cases c2 : x.1 = s
      · rw [if_pos (by rw [c2]), if_pos c2, ih (k + 1) _ (by omega) (by omega), Nat.add_assoc]; rfl
      · rw [if_neg (fun z => c2 ((nI_E (by have := hv.1; omega) (by omega)).1 z)), if_neg c2, ih (k + 1) _ (by omega) (by omega), Nat.zero_add]; rfl
theorem X9_framesOnReel (hg : 1000 ≤ g) (h : RowM σ o L) (hV : RowV L) {s : Nat} (hs : s < 12) : fX9_framesOnReel g σ o (nI s) = some (nI (sumD (fOn s) L 0)) := by
  have hl := h.2.1
  unfold fX9_framesOnReel
  rw [X9_framesOnReel_4 h hV hs g 0 0 (by omega) (by omega), Nat.zero_add]
theorem pOf_if {s : Nat} {x : Pc} (hx : x.1 < 12) (hs : s < 12) : (if nI x.1 = nI s then nI 1 else nI 0) = nI (pOf s x) := by
  unfold pOf
  by_cases c : x.1 = s
  · rw [if_pos (by rw [c]), if_pos c]
  · rw [if_neg (fun z => c ((nI_E (by omega) (by omega)).1 z)), if_neg c]
theorem X4_piecesOf_4 (h : RowC σ o L) (hV : RowV L) {s : Nat} (hs : s < 12) : ∀ n k a, k ≤ L.length → L.length - k < n → fX4_piecesOf_4 g o n σ (nI s) (nI a) (nI k) = some (nI (a + sumD (pOf s) L k)) := by
  intro n
  induction n with
  | zero => intro k a _ q; omega
  | succ n ih =>
    intro k a h1 h2
    have hl := h.2.1
    rw [fX4_piecesOf_4, h.1]
    by_cases c : k = L.length
    · subst c
      rw [ifLE_t (Nat.le_refl _) (by omega), sumD_e]; rfl
    · obtain ⟨x, hx⟩ := get_of (L := L) (i := k) (by omega)
      have hv := hV k x hx
      have e1 := (h.2.2 k x hx).1
      rw [ifLE_f (by omega) (by omega), sumD_s hx, okI_t (by omega) (by omega), chk_T, nI_c (by omega), e1, pOf_if hv.1 hs, nI_A, nI_A, ih (k + 1) _ (by omega) (by omega), Nat.add_assoc]
theorem X4_piecesOf (hg : 1000 ≤ g) (h : RowC σ o L) (hV : RowV L) {s : Nat} (hs : s < 12) : fX4_piecesOf g σ o (nI s) = some (nI (sumD (pOf s) L 0)) := by
  have hl := h.2.1
  unfold fX4_piecesOf
  rw [X4_piecesOf_4 h hV hs g 0 0 (by omega) (by omega), Nat.zero_add]
theorem X9_piecesOf_40 {C : List Pc} (h : CanM σ o C) (hV : RowV C) {s : Nat} (hs : s < 12) : ∀ n k a, k ≤ C.length → C.length - k < n → fX9_piecesOf_40 g o n σ (nI s) (nI a) (nI k) = some (nI (a + sumD (pOf s) C k)) := by
  intro n
  induction n with
  | zero => intro k a _ q; omega
  | succ n ih =>
    intro k a h1 h2
    have hl := h.2.1
    have h0 : σ (o + 1) 2 = nI C.length := h.1
    rw [fX9_piecesOf_40]
    by_cases c : k = C.length
    · subst c
      simp (disch := omega) only [chk_T, okI_t, okI_f, okI_nN, b2i_t, b2i_f, ifTT, ifFT, ite_true, ite_false, nI_c, bnd_s, bnd2_s, stp_s, ifLE_t, ifLE_f, ifLT_t, ifLT_f, ifE_t, ifE_f, if0_t, if0_f, ifn0, ifp0, ifl0_t, ifl0_f, ifg0_t, ifg0_f, ifnE, ifnE2, ifNE_t, ifNE_f, ifN0, ifNl, ifNp, ifB, nI_A, nI_S, nI_M, mu_s, mu_k, mu_n, mcp_n, h0]
      rw [sumD_e]; rfl
    · obtain ⟨x, hx⟩ := get_of (L := C) (i := k) (by omega)
      have hv := hV k x hx
      simp (disch := omega) only [chk_T, okI_t, okI_f, okI_nN, b2i_t, b2i_f, ifTT, ifFT, ite_true, ite_false, nI_c, bnd_s, bnd2_s, stp_s, ifLE_t, ifLE_f, ifLT_t, ifLT_f, ifE_t, ifE_f, if0_t, if0_f, ifn0, ifp0, ifl0_t, ifl0_f, ifg0_t, ifg0_f, ifnE, ifnE2, ifNE_t, ifNE_f, ifN0, ifNl, ifNp, ifB, nI_A, nI_S, nI_M, mu_s, mu_k, mu_n, mcp_n, h0, X9_ofC h hx, pcc]
      rw [sumD_s hx, pOf_if hv.1 hs, nI_A, ih (k + 1) _ (by omega) (by omega), Nat.add_assoc]
theorem X9_piecesOf_4 {C : List Pc} (hg : 1000 ≤ g) (h : RowM σ o L) (hV : RowV L) (hC : CanM σ o C) (hVC : RowV C) {s : Nat} (hs : s < 12) : ∀ n k a, k ≤ L.length → L.length - k < n → fX9_piecesOf_4 g o n σ (nI s) (nI a) (nI k) = some (nI (a + sumD (pOf s) L k + sumD (pOf s) C 0)) := by
  intro n
  induction n with
  | zero => intro k a _ q; omega
  | succ n ih =>
    intro k a h1 h2
    have hl := h.2.1
    have hlC := hC.2.1
    have h0 : σ (o + 1) 1 = nI L.length := h.1
    rw [fX9_piecesOf_4]
    by_cases c : k = L.length
    · subst c
      simp (disch := omega) only [chk_T, okI_t, okI_f, okI_nN, b2i_t, b2i_f, ifTT, ifFT, ite_true, ite_false, nI_c, bnd_s, bnd2_s, stp_s, ifLE_t, ifLE_f, ifLT_t, ifLT_f, ifE_t, ifE_f, if0_t, if0_f, ifn0, ifp0, ifl0_t, ifl0_f, ifg0_t, ifg0_f, ifnE, ifnE2, ifNE_t, ifNE_f, ifN0, ifNl, ifNp, ifB, nI_A, nI_S, nI_M, mu_s, mu_k, mu_n, mcp_n, h0]
      rw [X9_piecesOf_40 hC hVC hs g 0 _ (by omega) (by omega), sumD_e]; rfl
    · obtain ⟨x, hx⟩ := get_of (L := L) (i := k) (by omega)
      have hv := hV k x hx
      simp (disch := omega) only [chk_T, okI_t, okI_f, okI_nN, b2i_t, b2i_f, ifTT, ifFT, ite_true, ite_false, nI_c, bnd_s, bnd2_s, stp_s, ifLE_t, ifLE_f, ifLT_t, ifLT_f, ifE_t, ifE_f, if0_t, if0_f, ifn0, ifp0, ifl0_t, ifl0_f, ifg0_t, ifg0_f, ifnE, ifnE2, ifNE_t, ifNE_f, ifN0, ifNl, ifNp, ifB, nI_A, nI_S, nI_M, mu_s, mu_k, mu_n, mcp_n, h0, X9_ofP h hx, pcc]
      rw [sumD_s hx, pOf_if hv.1 hs, nI_A, ih (k + 1) _ (by omega) (by omega), Nat.add_assoc a]
theorem X9_piecesOf {C : List Pc} (hg : 1000 ≤ g) (h : RowM σ o L) (hV : RowV L) (hC : CanM σ o C) (hVC : RowV C) {s : Nat} (hs : s < 12) : fX9_piecesOf g σ o (nI s) = some (nI (sumD (pOf s) L 0 + sumD (pOf s) C 0)) := by
  have hl := h.2.1
  unfold fX9_piecesOf
  rw [X9_piecesOf_4 hg h hV hC hVC hs g 0 0 (by omega) (by omega), Nat.zero_add]
theorem X4_splicesFrom_4 (h : RowC σ o L) (hV : RowV L) {lim : Nat} (hlim : lim < 1000) : ∀ n k a, L.length - k < n → k ≤ 1000 → fX4_splicesFrom_4 g o n σ (nI lim) (nI a) (nI k) = some (nI (a + sumD (brk lim) L k)) := by
  intro n
  induction n with
  | zero => intro k a q; omega
  | succ n ih =>
    intro k a h2 hk
    have hl := h.2.1
    rw [fX4_splicesFrom_4, h.1]
    by_cases c : L.length ≤ k
    · rw [ifLE_t c (by omega)]
      unfold sumD
      rw [List.drop_eq_nil_of_le c]; rfl
    · obtain ⟨x, hx⟩ := get_of (L := L) (i := k) (by omega)
      have hv := hV k x hx
      have e4 := (h.2.2 k x hx).2.2.2
      rw [ifLE_f (by omega) (by omega), sumD_s hx, okI_t (by omega) (by omega), chk_T, nI_c (by omega), e4, nI_A]
      unfold brk
      by_cases c2 : lim ≤ x.2.2.2
      · rw [ifLT_f c2 (by have := hv.2.2.2; omega), if_pos c2, nI_A, ih (k + 1) _ (by omega) (by omega), Nat.add_assoc]; rfl
      · rw [ifLT_t (by omega) (by omega), if_neg c2, nI_A, ih (k + 1) _ (by omega) (by omega), Nat.add_assoc]; rfl
theorem X9_breaks_4 (h : RowM σ o L) (hV : RowV L) {lim : Nat} (hlim : lim < 1000) (h7 : σ (o + 1) 7 = nI lim) : ∀ n k a, L.length - k < n → k ≤ 1000 → fX9_breaks_4 g o n σ (nI a) (nI k) = some (nI (a + sumD (brk lim) L k)) := by
  intro n
  induction n with
  | zero => intro k a q; omega
  | succ n ih =>
    intro k a h2 hk
    have hl := h.2.1
    have h0 : σ (o + 1) 1 = nI L.length := h.1
    rw [fX9_breaks_4]
    by_cases c : L.length ≤ k
    · simp (disch := omega) only [chk_T, okI_t, okI_f, okI_nN, b2i_t, b2i_f, ifTT, ifFT, ite_true, ite_false, nI_c, bnd_s, bnd2_s, stp_s, ifLE_t, ifLE_f, ifLT_t, ifLT_f, ifE_t, ifE_f, if0_t, if0_f, ifn0, ifp0, ifl0_t, ifl0_f, ifg0_t, ifg0_f, ifnE, ifnE2, ifNE_t, ifNE_f, ifN0, ifNl, ifNp, ifB, nI_A, nI_S, nI_M, mu_s, mu_k, mu_n, mcp_n, h0]
      unfold sumD
      rw [List.drop_eq_nil_of_le c]; rfl
    · obtain ⟨x, hx⟩ := get_of (L := L) (i := k) (by omega)
      have hv := hV k x hx
      simp (disch := omega) only [chk_T, okI_t, okI_f, okI_nN, b2i_t, b2i_f, ifTT, ifFT, ite_true, ite_false, nI_c, bnd_s, bnd2_s, stp_s, ifLE_t, ifLE_f, ifLT_t, ifLT_f, ifE_t, ifE_f, if0_t, if0_f, ifn0, ifp0, ifl0_t, ifl0_f, ifg0_t, ifg0_f, ifnE, ifnE2, ifNE_t, ifNE_f, ifN0, ifNl, ifNp, ifB, nI_A, nI_S, nI_M, mu_s, mu_k, mu_n, mcp_n, h0, X9_ofP h hx, pcc, h7]
      rw [sumD_s hx]
      unfold brk
      by_cases c2 : lim ≤ x.2.2.2
      · rw [ifLT_f c2 (by have := hv.2.2.2; omega), if_pos c2, nI_A, ih (k + 1) _ (by omega) (by omega), Nat.add_assoc]; rfl
      · rw [ifLT_t (by omega) (by omega), if_neg c2, nI_A, ih (k + 1) _ (by omega) (by omega), Nat.add_assoc]; rfl
theorem tot_sumD : ∀ L : List Pc, tot L = sumD plen L 0 := by
  intro L
  unfold tot posOf sumD
  rw [List.take_length, List.drop_zero]
theorem X9_framesInCan_4 {C : List Pc} (h : CanM σ o C) (hV : RowV C) : ∀ n k a, k ≤ C.length → C.length - k < n → fX9_framesInCan_4 g o n σ (nI a) (nI k) = some (nI (a + sumD plen C k)) := by
  intro n
  induction n with
  | zero => intro k a _ q; omega
  | succ n ih =>
    intro k a h1 h2
    have hl := h.2.1
    have h0 : σ (o + 1) 2 = nI C.length := h.1
    rw [fX9_framesInCan_4]
    by_cases c : k = C.length
    · subst c
      simp (disch := omega) only [chk_T, okI_t, okI_f, okI_nN, b2i_t, b2i_f, ifTT, ifFT, ite_true, ite_false, nI_c, bnd_s, bnd2_s, stp_s, ifLE_t, ifLE_f, ifLT_t, ifLT_f, ifE_t, ifE_f, if0_t, if0_f, ifn0, ifp0, ifl0_t, ifl0_f, ifg0_t, ifg0_f, ifnE, ifnE2, ifNE_t, ifNE_f, ifN0, ifNl, ifNp, ifB, nI_A, nI_S, nI_M, mu_s, mu_k, mu_n, mcp_n, h0]
      rw [sumD_e]; rfl
    · obtain ⟨x, hx⟩ := get_of (L := C) (i := k) (by omega)
      have hv := hV k x hx
      obtain ⟨v0, v1, v2, v3⟩ := hv
      simp (disch := omega) only [chk_T, okI_t, okI_f, okI_nN, b2i_t, b2i_f, ifTT, ifFT, ite_true, ite_false, nI_c, bnd_s, bnd2_s, stp_s, ifLE_t, ifLE_f, ifLT_t, ifLT_f, ifE_t, ifE_f, if0_t, if0_f, ifn0, ifp0, ifl0_t, ifl0_f, ifg0_t, ifg0_f, ifnE, ifnE2, ifNE_t, ifNE_f, ifN0, ifNl, ifNp, ifB, nI_A, nI_S, nI_M, mu_s, mu_k, mu_n, mcp_n, h0, X9_ofC h hx, pcc]
      rw [sumD_s hx, ih (k + 1) _ (by omega) (by omega), Nat.add_assoc]; rfl
theorem X9_framesInCan {C : List Pc} (hg : 1000 ≤ g) (h : CanM σ o C) (hV : RowV C) : fX9_framesInCan g σ o = some (nI (tot C)) := by
  have hl := h.2.1
  unfold fX9_framesInCan
  rw [X9_framesInCan_4 h hV g 0 0 (by omega) (by omega), Nat.zero_add, tot_sumD]
/-- a scene's torn holes -/
theorem X6_tornHolesOf_4 {sc : List (Nat × Nat)} {wr : Wr} (h : StockC σ o sc wr) (hT : TV wr) {s : Nat} {y : Nat × Nat} (hy : sc[s]? = some y) (h40 : y.2 ≤ 40) : ∀ n k a, k ≤ y.2 → y.2 - k < n → fX6_tornHolesOf_4 g o n σ (nI s) (nI a) (nI k) = some (nI (a + sumR (fun f => pop (wr.1 (40 * s + f))) k (y.2 - k))) := by
  have hs := lt_of_get hy
  have h12 := h.2.1
  have e2 := (h.2.2.1 s y hy).2
  intro n
  induction n with
  | zero => intro k a _ q; omega
  | succ n ih =>
    intro k a h1 h2
    rw [fX6_tornHolesOf_4, okI_t (by omega) (by omega), chk_T, nI_c (by omega), e2]
    by_cases c : k = y.2
    · subst c
      rw [ifLE_t (Nat.le_refl _) (by omega), Nat.sub_self]; rfl
    · have ht := hT (40 * s + k)
      have e3 := (h.2.2.2 (40 * s + k) (by omega)).1
      obtain ⟨d, hd⟩ : ∃ d, y.2 - k = d + 1 := ⟨y.2 - k - 1, by omega⟩
      rw [ifLE_f (by omega) (by omega), X8_slotOf, bnd_s, okI_t (by omega) (by omega), chk_T, nI_c (by omega), e3, bitCount_s _ (by omega), bnd_s, nI_A, nI_A, ih (k + 1) _ (by omega) (by omega), hd, sumR, show y.2 - (k + 1) = d by omega, Nat.add_assoc]
theorem X6_tornHolesOf (hg : 1000 ≤ g) {sc : List (Nat × Nat)} {wr : Wr} (h : StockC σ o sc wr) (hT : TV wr) {s : Nat} {y : Nat × Nat} (hy : sc[s]? = some y) (h40 : y.2 ≤ 40) : fX6_tornHolesOf g σ o (nI s) = some (nI (tornS wr.1 s y.2)) := by
  unfold fX6_tornHolesOf
  rw [X6_tornHolesOf_4 h hT hy h40 g 0 0 (by omega) (by omega), Nat.zero_add]; rfl
theorem X9_framesOf {sc : List (Nat × Nat)} (h : ScW (σ (o + 1)) sc) {s : Nat} {y : Nat × Nat} (hy : sc[s]? = some y) : fX9_framesOf g σ o (nI s) = some (nI y.2) := by
  have hs := lt_of_get hy
  have h12 := h.2.1
  have e := (h.2.2 s y hy).2
  unfold fX9_framesOf
  simp (disch := omega) only [chk_T, okI_t, okI_f, okI_nN, b2i_t, b2i_f, ifTT, ifFT, ite_true, ite_false, nI_c, bnd_s, bnd2_s, stp_s, ifLE_t, ifLE_f, ifLT_t, ifLT_f, ifE_t, ifE_f, if0_t, if0_f, ifn0, ifp0, ifl0_t, ifl0_f, ifg0_t, ifg0_f, ifnE, ifnE2, ifNE_t, ifNE_f, ifN0, ifNl, ifNp, ifB, nI_A, nI_S, nI_M, mu_s, mu_k, mu_n, mcp_n]
  rw [show 8 + 2 * s + 1 = 9 + 2 * s by omega, e]
theorem X9_tornIn_4 (hg : 1000 ≤ g) {sc : List (Nat × Nat)} {wr : Wr} (h : ScW (σ (o + 1)) sc) (hw : WrW (σ (o + 1)) wr) (hT : TV wr) {s : Nat} {y : Nat × Nat} (hy : sc[s]? = some y) (h40 : y.2 ≤ 40) : ∀ n k a, k ≤ y.2 → y.2 - k < n → fX9_tornIn_4 g o n σ (nI s) (nI a) (nI k) = some (nI (a + sumR (fun f => pop (wr.1 (40 * s + f))) k (y.2 - k))) := by
  have hs := lt_of_get hy
  have h12 := h.2.1
  intro n
  induction n with
  | zero => intro k a _ q; omega
  | succ n ih =>
    intro k a h1 h2
    rw [fX9_tornIn_4, X9_framesOf h hy, bnd_s]
    by_cases c : k = y.2
    · subst c
      rw [ifLE_t (Nat.le_refl _) (by omega), Nat.sub_self]; rfl
    · have ht := hT (40 * s + k)
      obtain ⟨d, hd⟩ : ∃ d, y.2 - k = d + 1 := ⟨y.2 - k - 1, by omega⟩
      rw [ifLE_f (by omega) (by omega), X9_torn hw (by omega), bnd_s, X9_ones hg (by omega), bnd_s, nI_A, nI_A, ih (k + 1) _ (by omega) (by omega), hd, sumR, show y.2 - (k + 1) = d by omega, Nat.add_assoc]
theorem X9_tornIn (hg : 1000 ≤ g) {sc : List (Nat × Nat)} {wr : Wr} (h : ScW (σ (o + 1)) sc) (hw : WrW (σ (o + 1)) wr) (hT : TV wr) {s : Nat} {y : Nat × Nat} (hy : sc[s]? = some y) (h40 : y.2 ≤ 40) : fX9_tornIn g σ o (nI s) = some (nI (tornS wr.1 s y.2)) := by
  unfold fX9_tornIn
  rw [X9_tornIn_4 hg h hw hT hy h40 g 0 0 (by omega) (by omega), Nat.zero_add]; rfl
def tornA (t : Nat → Nat) (sc : List (Nat × Nat)) (k : Nat) : Nat := sumR (fun s => tornS t s ((sc[s]?).getD (0, 0)).2) k (sc.length - k)
theorem tornA_s {t : Nat → Nat} {sc : List (Nat × Nat)} {k : Nat} {y : Nat × Nat} (h : sc[k]? = some y) : tornA t sc k = tornS t k y.2 + tornA t sc (k + 1) := by
  have hk := lt_of_get h
  unfold tornA
  obtain ⟨d, hd⟩ : ∃ d, sc.length - k = d + 1 := ⟨sc.length - k - 1, by omega⟩
  rw [hd, sumR, show sc.length - (k + 1) = d by omega, h]
  rfl
theorem X6_allTornHoles_4 (hg : 1000 ≤ g) {sc : List (Nat × Nat)} {wr : Wr} (h : StockC σ o sc wr) (hv : ScV sc) (hT : TV wr) : ∀ n k a, k ≤ sc.length → sc.length - k < n → fX6_allTornHoles_4 g o n σ (nI a) (nI k) = some (nI (a + tornA wr.1 sc k)) := by
  intro n
  induction n with
  | zero => intro k a _ q; omega
  | succ n ih =>
    intro k a h1 h2
    have h12 := h.2.1
    rw [fX6_allTornHoles_4, h.1]
    by_cases c : k = sc.length
    · subst c
      rw [ifLE_t (Nat.le_refl _) (by omega)]
      unfold tornA
      rw [Nat.sub_self]; rfl
    · obtain ⟨y, hy⟩ := get_of (L := sc) (i := k) (by omega)
      have := hv k y hy
      rw [ifLE_f (by omega) (by omega), X6_tornHolesOf hg h hT hy (by omega), bnd_s, nI_A, nI_A, ih (k + 1) _ (by omega) (by omega), tornA_s hy, Nat.add_assoc]
theorem X9_allTorn_4 (hg : 1000 ≤ g) {sc : List (Nat × Nat)} {wr : Wr} (h : ScW (σ (o + 1)) sc) (hw : WrW (σ (o + 1)) wr) (hv : ScV sc) (hT : TV wr) : ∀ n k a, k ≤ sc.length → sc.length - k < n → fX9_allTorn_4 g o n σ (nI a) (nI k) = some (nI (a + tornA wr.1 sc k)) := by
  intro n
  induction n with
  | zero => intro k a _ q; omega
  | succ n ih =>
    intro k a h1 h2
    have h12 := h.2.1
    have h0 : σ (o + 1) 0 = nI sc.length := h.1
    rw [fX9_allTorn_4]
    by_cases c : k = sc.length
    · subst c
      simp (disch := omega) only [chk_T, okI_t, okI_f, okI_nN, b2i_t, b2i_f, ifTT, ifFT, ite_true, ite_false, nI_c, bnd_s, bnd2_s, stp_s, ifLE_t, ifLE_f, ifLT_t, ifLT_f, ifE_t, ifE_f, if0_t, if0_f, ifn0, ifp0, ifl0_t, ifl0_f, ifg0_t, ifg0_f, ifnE, ifnE2, ifNE_t, ifNE_f, ifN0, ifNl, ifNp, ifB, nI_A, nI_S, nI_M, mu_s, mu_k, mu_n, mcp_n, h0]
      unfold tornA
      rw [Nat.sub_self]; rfl
    · obtain ⟨y, hy⟩ := get_of (L := sc) (i := k) (by omega)
      have := hv k y hy
      simp (disch := omega) only [chk_T, okI_t, okI_f, okI_nN, b2i_t, b2i_f, ifTT, ifFT, ite_true, ite_false, nI_c, bnd_s, bnd2_s, stp_s, ifLE_t, ifLE_f, ifLT_t, ifLT_f, ifE_t, ifE_f, if0_t, if0_f, ifn0, ifp0, ifl0_t, ifl0_f, ifg0_t, ifg0_f, ifnE, ifnE2, ifNE_t, ifNE_f, ifN0, ifNl, ifNp, ifB, nI_A, nI_S, nI_M, mu_s, mu_k, mu_n, mcp_n, h0, X9_tornIn hg h hw hT hy (show y.2 ≤ 40 by omega)]
      rw [ih (k + 1) _ (by omega) (by omega), tornA_s hy, Nat.add_assoc]
end
