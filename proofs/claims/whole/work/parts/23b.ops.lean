/-! PURE ROWS, 15: scenes, tears, patches, splices, what is disliked, settings: both sides -/
theorem has_b {p : Int32} {n : Nat} (hn : n < 2147483648) : (if p < 0 then some (nI 0) else if nI n ≤ p then some (nI 0) else some (nI 1)) = some (b2i (okI p n)) := by
  by_cases hp : p < 0
  · rw [if_pos hp, show okI p n = false by unfold okI; rw [decide_eq_true hp]; rfl]; rfl
  · obtain ⟨j, hj, rfl⟩ := nI_of hp
    rw [if_neg hp, okI_nI (by omega)]
    by_cases q : n ≤ j
    · rw [if_pos ((nI_LE hn (by omega)).2 q), decide_eq_false (by omega)]; rfl
    · rw [if_neg (fun z => q ((nI_LE hn (by omega)).1 z)), decide_eq_true (by omega)]; rfl
def in40 (p : Int32) : Bool := decide (nI 1 ≤ p) && decide (p ≤ nI 40)
theorem in40_of {p : Int32} (h : in40 p = true) : ∃ f, 1 ≤ f ∧ f ≤ 40 ∧ p = nI f ∧ p.toNatClampNeg = f := by
  unfold in40 at h
  simp only [Bool.and_eq_true, decide_eq_true_eq] at h
  have hp : ¬ p < 0 := fun q => by
    have := h.1
    rw [Int32.le_iff_toInt_le, nI_toInt (by omega)] at this
    rw [Int32.lt_iff_toInt_lt, show (0 : Int32).toInt = 0 from by decide] at q
    omega
  obtain ⟨j, hj, rfl⟩ := nI_of hp
  have h1 := (nI_LE (by omega) (by omega)).1 h.1
  have h2 := (nI_LE (by omega) (by omega)).1 h.2
  exact ⟨j, h1, h2, rfl, nI_c (by omega)⟩
def isFr (sc : List (Nat × Nat)) (p q : Int32) : Bool := match sc[p.toNatClampNeg]? with
  | some y => okI p sc.length && okI q y.2
  | none => false
def ScV (sc : List (Nat × Nat)) : Prop := ∀ (i : Nat) (y : Nat × Nat), sc[i]? = some y → y.1 < 6 ∧ 1 ≤ y.2 ∧ y.2 ≤ 40
theorem isFr_of {sc : List (Nat × Nat)} {p q : Int32} (h : isFr sc p q = true) : ∃ a b y, sc[a]? = some y ∧ b < y.2 ∧ p = nI a ∧ q = nI b ∧ p.toNatClampNeg = a ∧ q.toNatClampNeg = b := by
  unfold isFr at h
  cases hy : sc[p.toNatClampNeg]? with
  | none => rw [hy] at h; cases h
  | some y =>
    rw [hy] at h
    simp only [Bool.and_eq_true] at h
    obtain ⟨a, a1, a2, a3, a4⟩ := okI_of h.1
    obtain ⟨b, b1, b2, b3, b4⟩ := okI_of h.2
    exact ⟨a, b, y, by rw [a4] at hy; exact hy, b1, a3, b3, a4, b4⟩
def addA (k f : Nat) (A : Fa) : Fa := (A.1 ++ [(k, f)], A.2.1, (putL A.2.2.1.1 A.2.2.1.1.length (A.1.length, 0, f - 1, 0), A.2.2.1.2), A.2.2.2)
def spAdd (p q : Int32) (S : SS) : Int32 × SS := if okI p 6 = true ∧ in40 q = true then (if 12 ≤ S.1.1.length ∨ 20 ≤ S.1.2.2.1.1.length then (nN 3, S) else (nI S.1.1.length, put S (addA p.toNatClampNeg q.toNatClampNeg S.1))) else (nN 2, S)
def setN (f : Nat → Nat) (s v : Nat) : Nat → Nat := fun j => if j = s then v else f j
def setT (A : Fa) (s v : Nat) : Fa := (A.1, (setN A.2.1.1 s v, A.2.1.2), A.2.2)
def spTear (p q r : Int32) (S : SS) : Int32 × SS := if isFr S.1.1 p q = true then (if okI r 4 = true then (if S.1.2.1.1 (40 * p.toNatClampNeg + q.toNatClampNeg) / 2 ^ r.toNatClampNeg % 2 = 1 then (nN 5, S) else (nI (gd (setN S.1.2.1.1 (40 * p.toNatClampNeg + q.toNatClampNeg) (S.1.2.1.1 (40 * p.toNatClampNeg + q.toNatClampNeg) + 2 ^ r.toNatClampNeg)) (40 * p.toNatClampNeg + q.toNatClampNeg)), put S (setT S.1 (40 * p.toNatClampNeg + q.toNatClampNeg) (S.1.2.1.1 (40 * p.toNatClampNeg + q.toNatClampNeg) + 2 ^ r.toNatClampNeg)))) else (nN 2, S)) else (nN 1, S)
def spPatch (p q : Int32) (S : SS) : Int32 × SS := if isFr S.1.1 p q = true then (if S.1.2.1.1 (40 * p.toNatClampNeg + q.toNatClampNeg) = 0 then (nN 5, S) else (nI (pop (S.1.2.1.1 (40 * p.toNatClampNeg + q.toNatClampNeg))), put S (setT S.1 (40 * p.toNatClampNeg + q.toNatClampNeg) 0))) else (nN 1, S)
def spSplice (p : Int32) (S : SS) : Int32 × SS := match S.1.2.2.1.1[p.toNatClampNeg]? with
  | some x => if p < 0 then (nN 1, S) else if x.2.2.2 = 0 then (nN 5, S) else (nI x.2.2.2, put S (setB S.1 (S.1.2.2.1.1.set p.toNatClampNeg (zp x), S.1.2.2.1.2)))
  | none => (nN 1, S)
def dis1 (b : Bool) (d k : Nat) : Nat := if b then d + 2 ^ k else d - 2 ^ k
def setD (A : Fa) (d : Nat) : Fa := (A.1, A.2.1, A.2.2.1, A.2.2.2.1, A.2.2.2.2.1, d, A.2.2.2.2.2.2)
def setE (A : Fa) (d : Nat) : Fa := (A.1, A.2.1, A.2.2.1, A.2.2.2.1, A.2.2.2.2.1, A.2.2.2.2.2.1, d, A.2.2.2.2.2.2.2)
def setL (A : Fa) (d : Nat) : Fa := (A.1, A.2.1, A.2.2.1, A.2.2.2.1, A.2.2.2.2.1, A.2.2.2.2.2.1, A.2.2.2.2.2.2.1, d)
def spDis (p : Int32) (b : Bool) (S : SS) : Int32 × SS := if okI p 6 = true then (if isDis S.1.2.2.2.2.2.1 p.toNatClampNeg = b then (nN 5, S) else (nI (pop (dis1 b S.1.2.2.2.2.2.1 p.toNatClampNeg)), put S (setD S.1 (dis1 b S.1.2.2.2.2.2.1 p.toNatClampNeg)))) else (nN 2, S)
def spSet (p q : Int32) (S : SS) : Int32 × SS := if p = 0 then (if okI q 21 = true then (if S.1.2.2.2.2.2.2.1 = q.toNatClampNeg then (nN 5, S) else (nI S.1.2.2.2.2.2.2.1, put S (setE S.1 q.toNatClampNeg))) else (nN 2, S)) else if p = nI 1 then (if okI q 21 = true ∧ ¬ q = 0 then (if S.1.2.2.2.2.2.2.2 = q.toNatClampNeg then (nN 5, S) else (nI S.1.2.2.2.2.2.2.2, put S (setL S.1 q.toNatClampNeg))) else (nN 2, S)) else (nN 2, S)
theorem dis_bits : ∀ d, d < 64 → ∀ k, k < 6 → (d / 2 ^ k % 2 = 0 → nI d ^^^ (nI 1 <<< (nI k &&& 31)) = nI (d + 2 ^ k) ∧ nI d + (nI 1 <<< (nI k &&& 31)) = nI (d + 2 ^ k) ∧ d + 2 ^ k < 64) ∧ (d / 2 ^ k % 2 = 1 → nI d ^^^ (nI 1 <<< (nI k &&& 31)) = nI (d - 2 ^ k) ∧ nI d + (-(nI 1 <<< (nI k &&& 31))) = nI (d - 2 ^ k)) := by decide +kernel
theorem tear_lt : ∀ t, t < 16 → ∀ k, k < 4 → t / 2 ^ k % 2 = 0 → t + 2 ^ k < 16 := by decide +kernel
section
variable {g o : Nat} {σ : Mem} {S : SS}
theorem X6_hasScene {sc : List (Nat × Nat)} {wr : Wr} (h : StockC σ o sc wr) (p : Int32) : fX6_hasScene g σ o p = some (b2i (okI p sc.length)) := by
  have := h.2.1
  unfold fX6_hasScene
  rw [h.1]
  exact has_b (by omega)
theorem X6_hasFrame {sc : List (Nat × Nat)} {wr : Wr} (h : StockC σ o sc wr) (hv : ScV sc) (p q : Int32) : fX6_hasFrame g σ o p q = some (b2i (isFr sc p q)) := by
  have hl := h.2.1
  unfold fX6_hasFrame isFr
  rw [X6_hasScene h, bnd_s]
  rcases okI_get (p := p) (L := sc) (by omega) with ⟨y, j, rfl, c1, c2, -, c3, c4⟩ | ⟨c1, c2⟩
  · have e := (h.2.2.1 j y c3).2
    have := hv j y c3
    rw [c4, c1, c3, if_neg (show ¬ b2i true = 0 by decide), okI_t (by omega) (by omega), chk_T, e, has_b (by omega)]
    simp only [Bool.true_and]
  · rw [c1, if_pos (show b2i false = 0 from rfl)]
    cases sc[p.toNatClampNeg]? <;> rfl
theorem X8_addScene (hg : 1000 ≤ g) (h : SysC σ o S) (p q : Int32) : ∃ σ', fX8_addScene g σ o p q = some ((spAdd p q S).1, σ') ∧ SysC σ' o (spAdd p q S).2 ∧ same σ σ' o (o + 334) := by
  unfold fX8_addScene spAdd
  rw [X8_isWithin, within_0 (by omega), bnd_s]
  cases c1 : okI p 6 with
  | false =>
    rw [if_pos (show b2i false = 0 from rfl), if_neg (fun q => Bool.noConfusion q.1)]
    exact ⟨σ, rfl, h, same.rf⟩
  | true =>
    rw [if_neg (show ¬ b2i true = 0 by decide), X8_isWithin, bnd_s]
    have e40 : (decide (nI 1 ≤ q) && decide (q ≤ nI 40)) = in40 q := rfl
    rw [e40]
    cases c2 : in40 q with
    | false =>
      rw [if_pos (show b2i false = 0 from rfl), if_neg (fun q => Bool.noConfusion q.2)]
      exact ⟨σ, rfl, h, same.rf⟩
    | true =>
      obtain ⟨f, f1, f2, rfl, f4⟩ := in40_of c2
      obtain ⟨k, k1, k2, rfl, k4⟩ := okI_of c1
      rw [if_neg (show ¬ b2i true = 0 by decide), if_pos (show true = true ∧ true = true from ⟨rfl, rfl⟩), k4, f4]
      have hF := h.1
      have hR : RowC σ (o + 8) S.1.2.2.1.1 := hF.2.1.1
      have e0 : σ (o + 2) 0 = nI S.1.1.length := hF.1.1
      have l0 := hF.1.2.1
      have l1 := hR.2.1
      rw [e0, X4_isFull hR]
      by_cases c3 : 12 ≤ S.1.1.length
      · simp (disch := omega) only [chk_T, okI_t, okI_f, okI_nN, b2i_t, b2i_f, ifTT, ifFT, ite_true, ite_false, nI_c, bnd_s, bnd2_s, stp_s, ifLE_t, ifLE_f, ifLT_t, ifLT_f, ifE_t, ifE_f, if0_t, if0_f, ifn0, ifp0, ifl0_t, ifl0_f, ifg0_t, ifg0_f, ifnE, ifnE2, ifNE_t, ifNE_f, ifN0, ifNl, ifNp, ifB, nI_A, nI_S, nI_M, mu_s, mu_k, mu_n, mcp_n]
        rw [if_pos (Or.inl c3)]
        exact ⟨σ, rfl, h, same.rf⟩
      · by_cases c4 : 20 ≤ S.1.2.2.1.1.length
        · simp (disch := omega) only [chk_T, okI_t, okI_f, okI_nN, b2i_t, b2i_f, ifTT, ifFT, ite_true, ite_false, nI_c, bnd_s, bnd2_s, stp_s, ifLE_t, ifLE_f, ifLT_t, ifLT_f, ifE_t, ifE_f, if0_t, if0_f, ifn0, ifp0, ifl0_t, ifl0_f, ifg0_t, ifg0_f, ifnE, ifnE2, ifNE_t, ifNE_f, ifN0, ifNl, ifNp, ifB, nI_A, nI_S, nI_M, mu_s, mu_k, mu_n, mcp_n, decide_eq_true c4]
          rw [if_pos (Or.inr c4)]
          exact ⟨σ, rfl, h, same.rf⟩
        · obtain ⟨σ1, p1, r1, s1⟩ := h.rec hg
          have hF1 : FilmC σ1 (o + 1) S.1 := r1.1
          have e1 : σ1 (o + 2) 0 = nI S.1.1.length := hF1.1.1
          unfold fX6_append
          simp (disch := omega) only [chk_T, okI_t, okI_f, okI_nN, b2i_t, b2i_f, ifTT, ifFT, ite_true, ite_false, nI_c, bnd_s, bnd2_s, stp_s, ifLE_t, ifLE_f, ifLT_t, ifLT_f, ifE_t, ifE_f, if0_t, if0_f, ifn0, ifp0, ifl0_t, ifl0_f, ifg0_t, ifg0_f, ifnE, ifnE2, ifNE_t, ifNE_f, ifN0, ifNl, ifNp, ifB, nI_A, nI_S, nI_M, mu_s, mu_k, mu_n, mcp_n, decide_eq_false c4, p1, e1]
          have hR2 : RowC (mu (mu (mu σ1 (o + 2 + 1) S.1.1.length (nI k)) (o + 2 + 2) S.1.1.length (nI f)) (o + 2) 0 (nI (S.1.1.length + 1))) (o + 8) S.1.2.2.1.1 := RowC.same (σ := σ1) hF1.2.1.1 (fun i a b => by rw [mu_n (by omega), mu_n (by omega), mu_n (by omega)])
          have e8 : σ1 (o + 8) 0 = nI S.1.2.2.1.1.length := hF1.2.1.1.1
          obtain ⟨σ2, p2, r2, s2⟩ := X4_putAt (g := g) (x := (S.1.1.length, 0, f - 1, 0)) hg hR2 (Nat.le_refl _) (by omega)
          dsimp only at p2
          simp (disch := omega) only [chk_T, okI_t, okI_f, okI_nN, b2i_t, b2i_f, ifTT, ifFT, ite_true, ite_false, nI_c, bnd_s, bnd2_s, stp_s, ifLE_t, ifLE_f, ifLT_t, ifLT_f, ifE_t, ifE_f, if0_t, if0_f, ifn0, ifp0, ifl0_t, ifl0_f, ifg0_t, ifg0_f, ifnE, ifnE2, ifNE_t, ifNE_f, ifN0, ifNl, ifNp, ifB, nI_A, nI_S, nI_M, mu_s, mu_k, mu_n, mcp_n, e8, p2]
          rw [if_neg (by omega)]
          have t : ∀ i, i ≠ o + 2 → i ≠ o + 3 → i ≠ o + 4 → (i < o + 8 ∨ o + 13 ≤ i) → σ2 i = σ1 i := fun i a b c d => by rw [s2 i (by omega), mu_n (by omega), mu_n (by omega), mu_n (by omega)]
          refine ⟨σ2, rfl, r1.film ⟨?_, ⟨?_, ?_⟩, ?_, ?_, ?_⟩ (fun i a b => t i (by omega) (by omega) (by omega) (by omega)), fun i hi => by rw [t i (by omega) (by omega) (by omega) (by omega), s1 i (by omega)]⟩
          · obtain ⟨a1, a2, a3, a4⟩ := hF1.1
            refine ⟨?_, ?_, fun i x hx => ?_, fun j hj => ?_⟩
            · rw [s2 _ (by omega), show o + 1 + 1 = o + 2 from rfl, mu_s]
              simp [addA]
            · simp [addA]; omega
            · have hx : (S.1.1 ++ [(k, f)])[i]? = some x := hx
              rw [s2 _ (by omega), s2 _ (by omega), show o + 1 + 1 + 1 = o + 2 + 1 from rfl, show o + 1 + 1 + 2 = o + 2 + 2 from rfl]
              simp (disch := omega) only [mu_n, mu_ij]
              by_cases q : i < S.1.1.length
              · rw [List.getElem?_append_left q] at hx
                rw [if_neg (by omega), if_neg (by omega)]
                exact a3 i x hx
              · have := lt_of_get hx
                rw [List.length_append, List.length_singleton] at this
                rw [List.getElem?_append_right (by omega), show i - S.1.1.length = 0 by omega] at hx
                cases hx
                rw [if_pos (by omega), if_pos (by omega)]
                exact ⟨rfl, rfl⟩
            · rw [t _ (by omega) (by omega) (by omega) (by omega), t _ (by omega) (by omega) (by omega) (by omega)]
              exact a4 j hj
          · exact r2
          · exact hF1.2.1.2.same (fun i a b => t i (by omega) (by omega) (by omega) (by omega))
          · exact hF1.2.2.1.same (fun i a b => t i (by omega) (by omega) (by omega) (by omega))
          · exact hF1.2.2.2.1.same (fun i a b => t i (by omega) (by omega) (by omega) (by omega))
          · rw [t (o + 1) (by omega) (by omega) (by omega) (by omega)]
            exact hF1.2.2.2.2
theorem X9_addScene (hg : 40000 ≤ g) (h : SysM σ o S) (p q : Int32) : ∃ σ', fX9_addScene g σ o p q = some ((spAdd p q S).1, σ') ∧ SysM σ' o (spAdd p q S).2 ∧ chM σ σ' o := by
  unfold fX9_addScene spAdd
  rw [X9_isIn, within_0 (by omega), bnd_s]
  cases c1 : okI p 6 with
  | false =>
    rw [if_pos (show b2i false = 0 from rfl), if_neg (fun q => Bool.noConfusion q.1)]
    exact ⟨σ, rfl, h, fun _ _ => rfl⟩
  | true =>
    rw [if_neg (show ¬ b2i true = 0 by decide), X9_isIn, bnd_s]
    have e40 : (decide (nI 1 ≤ q) && decide (q ≤ nI 40)) = in40 q := rfl
    rw [e40]
    cases c2 : in40 q with
    | false =>
      rw [if_pos (show b2i false = 0 from rfl), if_neg (fun q => Bool.noConfusion q.2)]
      exact ⟨σ, rfl, h, fun _ _ => rfl⟩
    | true =>
      obtain ⟨f, f1, f2, rfl, f4⟩ := in40_of c2
      obtain ⟨k, k1, k2, rfl, k4⟩ := okI_of c1
      rw [if_neg (show ¬ b2i true = 0 by decide), if_pos (show true = true ∧ true = true from ⟨rfl, rfl⟩), k4, f4]
      have hF := h.1
      have e0 : σ (o + 1) 0 = nI S.1.1.length := hF.1.1
      have e1 : σ (o + 1) 1 = nI S.1.2.2.1.1.length := hF.2.2.1.1
      have l0 := hF.1.2.1
      have l1 := hF.2.2.1.2.1
      by_cases c3 : 12 ≤ S.1.1.length
      · simp (disch := omega) only [chk_T, okI_t, okI_f, okI_nN, b2i_t, b2i_f, ifTT, ifFT, ite_true, ite_false, nI_c, bnd_s, bnd2_s, stp_s, ifLE_t, ifLE_f, ifLT_t, ifLT_f, ifE_t, ifE_f, if0_t, if0_f, ifn0, ifp0, ifl0_t, ifl0_f, ifg0_t, ifg0_f, ifnE, ifnE2, ifNE_t, ifNE_f, ifN0, ifNl, ifNp, ifB, nI_A, nI_S, nI_M, mu_s, mu_k, mu_n, mcp_n, e0]
        rw [if_pos (Or.inl c3)]
        exact ⟨σ, rfl, h, fun _ _ => rfl⟩
      · by_cases c4 : 20 ≤ S.1.2.2.1.1.length
        · simp (disch := omega) only [chk_T, okI_t, okI_f, okI_nN, b2i_t, b2i_f, ifTT, ifFT, ite_true, ite_false, nI_c, bnd_s, bnd2_s, stp_s, ifLE_t, ifLE_f, ifLT_t, ifLT_f, ifE_t, ifE_f, if0_t, if0_f, ifn0, ifp0, ifl0_t, ifl0_f, ifg0_t, ifg0_f, ifnE, ifnE2, ifNE_t, ifNE_f, ifN0, ifNl, ifNp, ifB, nI_A, nI_S, nI_M, mu_s, mu_k, mu_n, mcp_n, e0, e1]
          rw [if_pos (Or.inr c4)]
          exact ⟨σ, rfl, h, fun _ _ => rfl⟩
        · obtain ⟨σ1, p1, r1, s1⟩ := h.rec hg
          have hF1 : FilmW (σ1 (o + 1)) S.1 := r1.1
          have e2 : σ1 (o + 1) 0 = nI S.1.1.length := hF1.1.1
          have e3 : σ1 (o + 1) 1 = nI S.1.2.2.1.1.length := hF1.2.2.1.1
          have hR2 : RowM (mu (mu (mu σ1 (o + 1) 0 (nI (S.1.1.length + 1))) (o + 1) (8 + 2 * S.1.1.length) (nI k)) (o + 1) (8 + 2 * S.1.1.length + 1) (nI f)) o S.1.2.2.1.1 := RowW.same (w := σ1 (o + 1)) hF1.2.2.1 (fun j q => by rw [mu_k (by omega), mu_k (by omega), mu_k (by omega)])
          obtain ⟨σ2, p2, r2, s2⟩ := X9_inserts (g := g) (s := S.1.1.length) (f := 0) (l := f - 1) (by omega) hR2 (Nat.le_refl _) (by omega)
          simp (disch := omega) only [chk_T, okI_t, okI_f, okI_nN, b2i_t, b2i_f, ifTT, ifFT, ite_true, ite_false, nI_c, bnd_s, bnd2_s, stp_s, ifLE_t, ifLE_f, ifLT_t, ifLT_f, ifE_t, ifE_f, if0_t, if0_f, ifn0, ifp0, ifl0_t, ifl0_f, ifg0_t, ifg0_f, ifnE, ifnE2, ifNE_t, ifNE_f, ifN0, ifNl, ifNp, ifB, nI_A, nI_S, nI_M, mu_s, mu_k, mu_n, mcp_n, e0, e1, p1, e2, e3, p2]
          rw [if_neg (by omega)]
          have t : ∀ j, j ≠ 1 → (j < 992 ∨ 1072 ≤ j) → j ≠ 0 → j ≠ 8 + 2 * S.1.1.length → j ≠ 8 + 2 * S.1.1.length + 1 → σ2 (o + 1) j = σ1 (o + 1) j := fun j a b c d e => by rw [s2.2 j a b, mu_k e, mu_k d, mu_k c]
          refine ⟨σ2, rfl, r1.film ⟨?_, ?_, r2, ?_, ?_, ?_, ?_, ?_, ?_⟩ (fun i a b => by rw [s2.1 i a, mu_n a, mu_n a, mu_n a]), fun i hi => by rw [s2.1 i (by omega), mu_n (by omega), mu_n (by omega), mu_n (by omega), s1 i (by omega) (by omega)]⟩
          · obtain ⟨a1, a2, a3⟩ := hF1.1
            refine ⟨?_, ?_, fun i x hx => ?_⟩
            · rw [s2.2 0 (by omega) (by omega), mu_k (by omega), mu_k (by omega), mu_s]
              simp [addA]
            · simp [addA]; omega
            · have hx : (S.1.1 ++ [(k, f)])[i]? = some x := hx
              by_cases q : i < S.1.1.length
              · rw [List.getElem?_append_left q] at hx
                rw [t _ (by omega) (by omega) (by omega) (by omega) (by omega), t _ (by omega) (by omega) (by omega) (by omega) (by omega)]
                exact a3 i x hx
              · have := lt_of_get hx
                rw [List.length_append, List.length_singleton] at this
                rw [List.getElem?_append_right (by omega), show i - S.1.1.length = 0 by omega] at hx
                cases hx
                have hi : i = S.1.1.length := by omega
                subst hi
                rw [s2.2 _ (by omega) (by omega), s2.2 _ (by omega) (by omega), mu_k (by omega), mu_s, show 9 + 2 * S.1.1.length = 8 + 2 * S.1.1.length + 1 by omega, mu_s]
                exact ⟨rfl, rfl⟩
          · exact hF1.2.1.same (fun j a b => t j (by omega) (by omega) (by omega) (by omega) (by omega))
          · exact hF1.2.2.2.1.same (fun j a => t j (by omega) (by omega) (by omega) (by omega) (by omega))
          · exact hF1.2.2.2.2.1.same (fun j a => t j (by omega) (by omega) (by omega) (by omega) (by omega))
          · exact hF1.2.2.2.2.2.1.same (fun j a => t j (by omega) (by omega) (by omega) (by omega) (by omega))
          · rw [t 5 (by omega) (by omega) (by omega) (by omega) (by omega)]; exact hF1.2.2.2.2.2.2.1
          · rw [t 6 (by omega) (by omega) (by omega) (by omega) (by omega)]; exact hF1.2.2.2.2.2.2.2.1
          · rw [t 7 (by omega) (by omega) (by omega) (by omega) (by omega)]; exact hF1.2.2.2.2.2.2.2.2
theorem FilmC_torn {A : Fa} {s v : Nat} (h : FilmC σ (o + 1) A) : FilmC (mu σ (o + 5) s (nI v)) (o + 1) (setT A s v) := by
  refine h.stock (sc := A.1) (wr := (setN A.2.1.1 s v, A.2.1.2)) ⟨?_, h.1.2.1, fun i x hx => ?_, fun j hj => ⟨?_, ?_⟩⟩ (fun i a b c => mu_n (by omega))
  · rw [mu_n (by omega)]; exact h.1.1
  · rw [mu_n (by omega), mu_n (by omega)]; exact h.1.2.2.1 i x hx
  · rw [show o + 1 + 1 + 3 = o + 5 from rfl, mu_ij]
    show _ = nI (if j = s then v else A.2.1.1 j)
    by_cases e : j = s
    · rw [if_pos e, if_pos e]
    · rw [if_neg e, if_neg e]; exact (h.1.2.2.2 j hj).1
  · rw [mu_n (by omega)]; exact (h.1.2.2.2 j hj).2
theorem FilmW_torn {A : Fa} {w : Nat → Int32} {s v : Nat} (h : FilmW w A) (hs : s < 480) : FilmW (upd w (32 + 2 * s) (nI v)) (setT A s v) := by
  obtain ⟨f1, f2, f3, f4, f5, f6, f7, f8, f9⟩ := h
  refine ⟨f1.same (fun j q => pk_un (by omega)), fun j hj => ⟨?_, ?_⟩, f3.same (fun j q => pk_un (by omega)), f4.same (fun j q => pk_un (by omega)), f5.same (fun j q => pk_un (by omega)), f6.same (fun j q => pk_un (by omega)), by rw [pk_un (by omega)]; exact f7, by rw [pk_un (by omega)]; exact f8, by rw [pk_un (by omega)]; exact f9⟩
  · show upd w (32 + 2 * s) (nI v) (32 + 2 * j) = nI (if j = s then v else A.2.1.1 j)
    unfold upd
    by_cases e : j = s
    · rw [if_pos (by omega), if_pos e]
    · rw [if_neg (by omega), if_neg e]; exact (f2 j hj).1
  · rw [pk_un (by omega)]; exact (f2 j hj).2
theorem setN_s {f : Nat → Nat} {s v : Nat} : setN f s v s = v := by unfold setN; rw [if_pos rfl]
theorem setT_TV {A : Fa} {s v : Nat} (h : TV A.2.1) (hv : v < 16) : TV (setT A s v).2.1 := by
  intro j
  show (if j = s then v else A.2.1.1 j) < 16
  by_cases e : j = s
  · rw [if_pos e]; exact hv
  · rw [if_neg e]; exact h j
theorem X8_tear (hg : 1000 ≤ g) (h : SysC σ o S) (hv : ScV S.1.1) (hT : TV S.1.2.1) (p q r : Int32) : ∃ σ', fX8_tear g σ o p q r = some ((spTear p q r S).1, σ') ∧ SysC σ' o (spTear p q r S).2 ∧ same σ σ' o (o + 334) := by
  have hF := h.1
  have hSt : StockC σ (o + 2) S.1.1 S.1.2.1 := hF.1
  unfold fX8_tear spTear
  rw [X6_hasFrame hSt hv, bnd_s]
  cases c1 : isFr S.1.1 p q with
  | false =>
    rw [if_pos (show b2i false = 0 from rfl), if_neg (fun q => Bool.noConfusion q)]
    exact ⟨σ, rfl, h, same.rf⟩
  | true =>
    obtain ⟨a, b, y, y1, y2, rfl, rfl, ca, cb⟩ := isFr_of c1
    have ya := lt_of_get y1
    have y3 := hv a y y1
    have l12 := hF.1.2.1
    rw [if_neg (show ¬ b2i true = 0 by decide), if_pos (show true = true from rfl), X8_isWithin, within_0 (by omega), bnd_s, ca, cb]
    cases c2 : okI r 4 with
    | false =>
      rw [if_pos (show b2i false = 0 from rfl), if_neg (fun q => Bool.noConfusion q)]
      exact ⟨σ, rfl, h, same.rf⟩
    | true =>
      obtain ⟨k, k1, k2, rfl, k4⟩ := okI_of c2
      have e5 : σ (o + 5) (40 * a + b) = nI (S.1.2.1.1 (40 * a + b)) := (hF.1.2.2.2 _ (by omega)).1
      have ht := hT (40 * a + b)
      rw [if_neg (show ¬ b2i true = 0 by decide), if_pos (show true = true from rfl), k4, X8_slotOf]
      simp (disch := omega) only [chk_T, okI_t, okI_f, okI_nN, b2i_t, b2i_f, ifTT, ifFT, ite_true, ite_false, nI_c, bnd_s, bnd2_s, stp_s, ifLE_t, ifLE_f, ifLT_t, ifLT_f, ifE_t, ifE_f, if0_t, if0_f, ifn0, ifp0, ifl0_t, ifl0_f, ifg0_t, ifg0_f, ifnE, ifnE2, ifNE_t, ifNE_f, ifN0, ifNl, ifNp, ifB, nI_A, nI_S, nI_M, mu_s, mu_k, mu_n, mcp_n, e5]
      rw [bit_at (by omega) (by omega)]
      have hb2 : S.1.2.1.1 (40 * a + b) / 2 ^ k % 2 < 2 := Nat.mod_lt _ (by omega)
      by_cases c3 : S.1.2.1.1 (40 * a + b) / 2 ^ k % 2 = 1
      · rw [if_pos (by rw [c3]), if_pos c3]
        exact ⟨σ, rfl, h, same.rf⟩
      · rw [if_neg (fun z => c3 ((nI_E (by omega) (by omega)).1 z)), if_neg c3]
        obtain ⟨σ1, p1, r1, s1⟩ := h.rec hg
        have e6 : σ1 (o + 5) (40 * a + b) = nI (S.1.2.1.1 (40 * a + b)) := by rw [s1 _ (by omega)]; exact e5
        have ob := or_bit _ ht k k1 (by omega)
        have hF1 : FilmC σ1 (o + 1) S.1 := r1.1
        have hF2 := FilmC_torn (s := 40 * a + b) (v := S.1.2.1.1 (40 * a + b) + 2 ^ k) hF1
        have gh := X6_goodHoles (g := g) (slot := 40 * a + b) hF2.1 (by omega) (setT_TV hT (tear_lt _ ht k k1 (by omega)))
        have gh : fX6_goodHoles g (mu σ1 (o + 5) (40 * a + b) (nI (S.1.2.1.1 (40 * a + b) + 2 ^ k))) (o + 2) (nI (40 * a + b)) = some (nI (gd (setN S.1.2.1.1 (40 * a + b) (S.1.2.1.1 (40 * a + b) + 2 ^ k)) (40 * a + b))) := gh
        rw [p1]
        simp (disch := omega) only [chk_T, okI_t, okI_f, okI_nN, b2i_t, b2i_f, ifTT, ifFT, ite_true, ite_false, nI_c, bnd_s, bnd2_s, stp_s, ifLE_t, ifLE_f, ifLT_t, ifLT_f, ifE_t, ifE_f, if0_t, if0_f, ifn0, ifp0, ifl0_t, ifl0_f, ifg0_t, ifg0_f, ifnE, ifnE2, ifNE_t, ifNE_f, ifN0, ifNl, ifNp, ifB, nI_A, nI_S, nI_M, mu_s, mu_k, mu_n, mcp_n, e6, ob, gh]
        exact ⟨_, rfl, r1.film hF2 (fun i a b => mu_n (by omega)), fun i hi => by rw [mu_n (by omega), s1 i (by omega)]⟩
theorem X9_isScene {m : Nat} (h : FilmW (σ (m + 1)) S.1) (p : Int32) : fX9_isScene g σ m p = some (b2i (okI p S.1.1.length)) := by
  have hl := h.1.2.1
  unfold fX9_isScene
  rw [X9_isIn]
  simp (disch := omega) only [chk_T, okI_t, okI_f, okI_nN, b2i_t, b2i_f, ifTT, ifFT, ite_true, ite_false, nI_c, bnd_s, bnd2_s, stp_s, ifLE_t, ifLE_f, ifLT_t, ifLT_f, ifE_t, ifE_f, if0_t, if0_f, ifn0, ifp0, ifl0_t, ifl0_f, ifg0_t, ifg0_f, ifnE, ifnE2, ifNE_t, ifNE_f, ifN0, ifNl, ifNp, ifB, nI_A, nI_S, nI_M, mu_s, mu_k, mu_n, mcp_n, h.1.1]
  rw [in_sub1 (by omega), chk_t isZ_b]
theorem X9_isFrame {m : Nat} (h : FilmW (σ (m + 1)) S.1) (hv : ScV S.1.1) (p q : Int32) : fX9_isFrame g σ m p q = some (b2i (isFr S.1.1 p q)) := by
  have hl := h.1.2.1
  unfold fX9_isFrame isFr
  rw [X9_isScene h, bnd_s]
  rcases okI_get (p := p) (L := S.1.1) (by omega) with ⟨y, j, rfl, c1, c2, -, c3, c4⟩ | ⟨c1, c2⟩
  · have e := (h.1.2.2 j y c3).2
    have := hv j y c3
    rw [c4, c1, c3, if_neg (show ¬ b2i true = 0 by decide)]
    unfold fX9_framesOf
    simp (disch := omega) only [chk_T, okI_t, okI_f, okI_nN, b2i_t, b2i_f, ifTT, ifFT, ite_true, ite_false, nI_c, bnd_s, bnd2_s, stp_s, ifLE_t, ifLE_f, ifLT_t, ifLT_f, ifE_t, ifE_f, if0_t, if0_f, ifn0, ifp0, ifl0_t, ifl0_f, ifg0_t, ifg0_f, ifnE, ifnE2, ifNE_t, ifNE_f, ifN0, ifNl, ifNp, ifB, nI_A, nI_S, nI_M, mu_s, mu_k, mu_n, mcp_n]
    rw [show 8 + 2 * j + 1 = 9 + 2 * j by omega, e, X9_isIn, in_sub1 (by omega), bnd_s]
    cases okI q y.2 <;> rfl
  · rw [c1, if_pos (show b2i false = 0 from rfl)]
    cases S.1.1[p.toNatClampNeg]? <;> rfl
theorem X9_tear (hg : 40000 ≤ g) (h : SysM σ o S) (hv : ScV S.1.1) (hT : TV S.1.2.1) (p q r : Int32) : ∃ σ', fX9_tear g σ o p q r = some ((spTear p q r S).1, σ') ∧ SysM σ' o (spTear p q r S).2 ∧ chM σ σ' o := by
  have hF := h.1
  unfold fX9_tear spTear
  rw [X9_isFrame hF hv, bnd_s]
  cases c1 : isFr S.1.1 p q with
  | false =>
    rw [if_pos (show b2i false = 0 from rfl), if_neg (fun q => Bool.noConfusion q)]
    exact ⟨σ, rfl, h, fun _ _ => rfl⟩
  | true =>
    obtain ⟨a, b, y, y1, y2, rfl, rfl, ca, cb⟩ := isFr_of c1
    have ya := lt_of_get y1
    have y3 := hv a y y1
    have l12 := hF.1.2.1
    rw [if_neg (show ¬ b2i true = 0 by decide), if_pos (show true = true from rfl), X9_isIn, within_0 (by omega), bnd_s, ca, cb]
    cases c2 : okI r 4 with
    | false =>
      rw [if_pos (show b2i false = 0 from rfl), if_neg (fun q => Bool.noConfusion q)]
      exact ⟨σ, rfl, h, fun _ _ => rfl⟩
    | true =>
      obtain ⟨k, k1, k2, rfl, k4⟩ := okI_of c2
      have ht := hT (40 * a + b)
      rw [if_neg (show ¬ b2i true = 0 by decide), if_pos (show true = true from rfl), k4, X9_torn hF.2.1 (by omega), bnd_s, bit_at (by omega) (by omega)]
      have hb2 : S.1.2.1.1 (40 * a + b) / 2 ^ k % 2 < 2 := Nat.mod_lt _ (by omega)
      by_cases c3 : S.1.2.1.1 (40 * a + b) / 2 ^ k % 2 = 1
      · rw [if_pos (by rw [c3]), if_pos c3]
        exact ⟨σ, rfl, h, fun _ _ => rfl⟩
      · rw [if_neg (fun z => c3 ((nI_E (by omega) (by omega)).1 z)), if_neg c3]
        obtain ⟨σ1, p1, r1, s1⟩ := h.rec hg
        have hF1 : FilmW (σ1 (o + 1)) S.1 := r1.1
        have hF2 : FilmW (mu σ1 (o + 1) (32 + 2 * (40 * a + b)) (nI (S.1.2.1.1 (40 * a + b) + 2 ^ k)) (o + 1)) (setT S.1 (40 * a + b) (S.1.2.1.1 (40 * a + b) + 2 ^ k)) := by
          rw [mu_i]
          exact FilmW_torn hF1 (by omega)
        rw [p1, bnd_s, X9_torn hF1.2.1 (by omega), bnd_s, or_bit _ ht k k1 (by omega), X9_setsTorn (by omega), bnd_s, X9_good (by omega) hF2.2.1 (by omega) (setT_TV hT (tear_lt _ ht k k1 (by omega)))]
        exact ⟨_, rfl, r1.film hF2 (fun i a b => mu_n a), fun i hi => by rw [mu_n (by omega), s1 i (by omega) (by omega)]⟩
theorem X8_patch (hg : 1000 ≤ g) (h : SysC σ o S) (hv : ScV S.1.1) (hT : TV S.1.2.1) (p q : Int32) : ∃ σ', fX8_patch g σ o p q = some ((spPatch p q S).1, σ') ∧ SysC σ' o (spPatch p q S).2 ∧ same σ σ' o (o + 334) := by
  have hF := h.1
  have hSt : StockC σ (o + 2) S.1.1 S.1.2.1 := hF.1
  unfold fX8_patch spPatch
  rw [X6_hasFrame hSt hv, bnd_s]
  cases c1 : isFr S.1.1 p q with
  | false =>
    rw [if_pos (show b2i false = 0 from rfl), if_neg (fun q => Bool.noConfusion q)]
    exact ⟨σ, rfl, h, same.rf⟩
  | true =>
    obtain ⟨a, b, y, y1, y2, rfl, rfl, ca, cb⟩ := isFr_of c1
    have ya := lt_of_get y1
    have y3 := hv a y y1
    have l12 := hF.1.2.1
    have e5 : σ (o + 5) (40 * a + b) = nI (S.1.2.1.1 (40 * a + b)) := (hF.1.2.2.2 _ (by omega)).1
    have ht := hT (40 * a + b)
    have h4 := pop_16 _ ht
    have h0 := pop_0 _ ht
    rw [if_neg (show ¬ b2i true = 0 by decide), if_pos (show true = true from rfl), ca, cb, X8_slotOf]
    simp (disch := omega) only [chk_T, okI_t, okI_f, okI_nN, b2i_t, b2i_f, ifTT, ifFT, ite_true, ite_false, nI_c, bnd_s, bnd2_s, stp_s, ifLE_t, ifLE_f, ifLT_t, ifLT_f, ifE_t, ifE_f, if0_t, if0_f, ifn0, ifp0, ifl0_t, ifl0_f, ifg0_t, ifg0_f, ifnE, ifnE2, ifNE_t, ifNE_f, ifN0, ifNl, ifNp, ifB, nI_A, nI_S, nI_M, mu_s, mu_k, mu_n, mcp_n, e5, bitCount_s _ (show S.1.2.1.1 (40 * a + b) < 64 by omega)]
    by_cases c2 : S.1.2.1.1 (40 * a + b) = 0
    · rw [if0_t (h0.2 c2), if_pos c2]
      exact ⟨σ, rfl, h, same.rf⟩
    · rw [if0_f (Nat.pos_of_ne_zero (fun z => c2 (h0.1 z))) (by omega), if_neg c2]
      obtain ⟨σ1, p1, r1, s1⟩ := h.rec hg
      rw [p1]
      simp (disch := omega) only [chk_T, okI_t, okI_f, okI_nN, b2i_t, b2i_f, ifTT, ifFT, ite_true, ite_false, nI_c, bnd_s, bnd2_s, stp_s, ifLE_t, ifLE_f, ifLT_t, ifLT_f, ifE_t, ifE_f, if0_t, if0_f, ifn0, ifp0, ifl0_t, ifl0_f, ifg0_t, ifg0_f, ifnE, ifnE2, ifNE_t, ifNE_f, ifN0, ifNl, ifNp, ifB, nI_A, nI_S, nI_M, mu_s, mu_k, mu_n, mcp_n]
      exact ⟨_, rfl, r1.film (FilmC_torn r1.1) (fun i a b => mu_n (by omega)), fun i hi => by rw [mu_n (by omega), s1 i (by omega)]⟩
theorem X9_patch (hg : 40000 ≤ g) (h : SysM σ o S) (hv : ScV S.1.1) (hT : TV S.1.2.1) (p q : Int32) : ∃ σ', fX9_patch g σ o p q = some ((spPatch p q S).1, σ') ∧ SysM σ' o (spPatch p q S).2 ∧ chM σ σ' o := by
  have hF := h.1
  unfold fX9_patch spPatch
  rw [X9_isFrame hF hv, bnd_s]
  cases c1 : isFr S.1.1 p q with
  | false =>
    rw [if_pos (show b2i false = 0 from rfl), if_neg (fun q => Bool.noConfusion q)]
    exact ⟨σ, rfl, h, fun _ _ => rfl⟩
  | true =>
    obtain ⟨a, b, y, y1, y2, rfl, rfl, ca, cb⟩ := isFr_of c1
    have ya := lt_of_get y1
    have y3 := hv a y y1
    have l12 := hF.1.2.1
    have ht := hT (40 * a + b)
    have h4 := pop_16 _ ht
    have h0 := pop_0 _ ht
    rw [if_neg (show ¬ b2i true = 0 by decide), if_pos (show true = true from rfl), ca, cb, X9_torn hF.2.1 (by omega), bnd_s, X9_ones (by omega) (by omega), bnd_s]
    by_cases c2 : S.1.2.1.1 (40 * a + b) = 0
    · rw [if0_t (h0.2 c2), if_pos c2]
      exact ⟨σ, rfl, h, fun _ _ => rfl⟩
    · rw [if0_f (Nat.pos_of_ne_zero (fun z => c2 (h0.1 z))) (by omega), if_neg c2]
      obtain ⟨σ1, p1, r1, s1⟩ := h.rec hg
      rw [p1, bnd_s, X9_setsTorn (by omega), bnd_s]
      exact ⟨_, rfl, r1.film (by rw [mu_i]; exact FilmW_torn r1.1 (by omega)) (fun i a b => mu_n a), fun i hi => by rw [mu_n (by omega), s1 i (by omega) (by omega)]⟩
end
