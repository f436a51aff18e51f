/-! PURE ROWS, 8: a film as lists; the class's Stock, Show, Witnesses, Film, History: copies -/
/-- a show: its units' codes, its numbers 1 to 7 -/
abbrev Sw : Type := List Int32 × (Nat → Int32)
/-- the wear: torn holes as bits, passes, by slot -/
abbrev Wr : Type := (Nat → Nat) × (Nat → Int32)
/-- scenes (kind, frames), wear, reel and can, shows, witnesses (show, from, to), disliked kinds, energy, limit -/
abbrev Fa : Type := List (Nat × Nat) × Wr × Bn × List Sw × List (Nat × Nat × Nat) × Nat × Nat × Nat
def StockC (σ : Mem) (o : Nat) (sc : List (Nat × Nat)) (wr : Wr) : Prop := σ o 0 = nI sc.length ∧ sc.length ≤ 12 ∧ (∀ i x, sc[i]? = some x → σ (o + 1) i = nI x.1 ∧ σ (o + 2) i = nI x.2) ∧ ∀ j, j < 480 → σ (o + 3) j = nI (wr.1 j) ∧ σ (o + 4) j = wr.2 j
def ShowC (σ : Mem) (q : Nat) (s : Sw) : Prop := σ (q + 1) 0 = nI s.1.length ∧ s.1.length ≤ 480 ∧ (∀ k, 1 ≤ k → k < 8 → σ (q + 1) k = s.2 k) ∧ ∀ i c, s.1[i]? = some c → σ (q + 2) i = c
def ShowsC (σ : Mem) (q : Nat) (shs : List Sw) : Prop := shs.length ≤ 10 ∧ ∀ i s, shs[i]? = some s → ShowC σ (q + 3 * i) s
def WitC (σ : Mem) (o : Nat) (ws : List (Nat × Nat × Nat)) : Prop := σ o 0 = nI ws.length ∧ ws.length ≤ 8 ∧ ∀ i x, ws[i]? = some x → σ (o + 1) i = nI x.1 ∧ σ (o + 2) i = nI x.2.1 ∧ σ (o + 3) i = nI x.2.2
def FilmC (σ : Mem) (f : Nat) (A : Fa) : Prop := StockC σ (f + 1) A.1 A.2.1 ∧ BnC σ (f + 6) A.2.2.1 ∧ ShowsC σ (f + 22) A.2.2.2.1 ∧ WitC σ (f + 18) A.2.2.2.2.1 ∧ σ f 4 = nI A.2.2.2.1.length ∧ σ f 5 = nI A.2.2.2.2.2.1 ∧ σ f 6 = nI A.2.2.2.2.2.2.1 ∧ σ f 7 = nI A.2.2.2.2.2.2.2
theorem StockC.same {σ σ' : Mem} {o : Nat} {sc : List (Nat × Nat)} {wr : Wr} (h : StockC σ o sc wr) (e : ∀ i, o ≤ i → i < o + 5 → σ' i = σ i) : StockC σ' o sc wr := by
  unfold StockC
  rw [e o (by omega) (by omega), e (o + 1) (by omega) (by omega), e (o + 2) (by omega) (by omega), e (o + 3) (by omega) (by omega), e (o + 4) (by omega) (by omega)]
  exact h
theorem ShowC.same {σ σ' : Mem} {q : Nat} {s : Sw} (h : ShowC σ q s) (e : ∀ i, q ≤ i → i < q + 3 → σ' i = σ i) : ShowC σ' q s := by
  unfold ShowC
  rw [e (q + 1) (by omega) (by omega), e (q + 2) (by omega) (by omega)]
  exact h
theorem ShowsC.same {σ σ' : Mem} {q : Nat} {shs : List Sw} (h : ShowsC σ q shs) (e : ∀ i, q ≤ i → i < q + 30 → σ' i = σ i) : ShowsC σ' q shs :=
  ⟨h.1, fun i s hs => by
    have := lt_of_get hs
    have := h.1
    exact (h.2 i s hs).same (fun j a b => e j (by omega) (by omega))⟩
theorem WitC.same {σ σ' : Mem} {o : Nat} {ws : List (Nat × Nat × Nat)} (h : WitC σ o ws) (e : ∀ i, o ≤ i → i < o + 4 → σ' i = σ i) : WitC σ' o ws := by
  unfold WitC
  rw [e o (by omega) (by omega), e (o + 1) (by omega) (by omega), e (o + 2) (by omega) (by omega), e (o + 3) (by omega) (by omega)]
  exact h
theorem FilmC.same {σ σ' : Mem} {f : Nat} {A : Fa} (h : FilmC σ f A) (e : ∀ i, f ≤ i → i < f + 52 → σ' i = σ i) : FilmC σ' f A := by
  obtain ⟨h1, h2, h3, h4, h5⟩ := h
  refine ⟨h1.same (fun i a b => e i (by omega) (by omega)), h2.same (fun i a b => e i (by omega) (by omega)), h3.same (fun i a b => e i (by omega) (by omega)), h4.same (fun i a b => e i (by omega) (by omega)), ?_⟩
  rw [e f (by omega) (by omega)]
  exact h5
section
variable {g : Nat} {σ : Mem}
theorem X6_copyFrom {o o1 : Nat} {sc : List (Nat × Nat)} {wr : Wr} (h : StockC σ o1 sc wr) (hd : o + 5 ≤ o1 ∨ o1 + 5 ≤ o) : ∃ σ', fX6_copyFrom g σ o o1 = some σ' ∧ StockC σ' o sc wr ∧ same σ σ' o (o + 5) := by
  have hl := h.2.1
  unfold fX6_copyFrom
  refine ⟨_, rfl, ⟨?_, hl, fun i x hx => ?_, fun j hj => ?_⟩, fun i hi => ?_⟩
  · simp (disch := omega) only [chk_T, okI_t, okI_f, okI_nN, b2i_t, b2i_f, ifTT, ifFT, ite_true, ite_false, nI_c, bnd_s, bnd2_s, stp_s, ifLE_t, ifLE_f, ifLT_t, ifLT_f, ifE_t, ifE_f, if0_t, if0_f, ifn0, ifp0, ifl0_t, ifl0_f, ifg0_t, ifg0_f, ifnE, ifnE2, ifNE_t, ifNE_f, ifN0, ifNl, ifNp, ifB, nI_A, nI_S, nI_M, mu_s, mu_k, mu_n, mcp_n, h.1]
  · have hi := lt_of_get hx
    obtain ⟨e1, e2⟩ := h.2.2.1 i x hx
    simp (disch := omega) only [chk_T, okI_t, okI_f, okI_nN, b2i_t, b2i_f, ifTT, ifFT, ite_true, ite_false, nI_c, bnd_s, bnd2_s, stp_s, ifLE_t, ifLE_f, ifLT_t, ifLT_f, ifE_t, ifE_f, if0_t, if0_f, ifn0, ifp0, ifl0_t, ifl0_f, ifg0_t, ifg0_f, ifnE, ifnE2, ifNE_t, ifNE_f, ifN0, ifNl, ifNp, ifB, nI_A, nI_S, nI_M, mu_s, mu_k, mu_n, mcp_n, mcp_s, if_pos (show i < 12 by omega), e1, e2]
    exact ⟨trivial, trivial⟩
  · obtain ⟨e1, e2⟩ := h.2.2.2 j hj
    simp (disch := omega) only [chk_T, okI_t, okI_f, okI_nN, b2i_t, b2i_f, ifTT, ifFT, ite_true, ite_false, nI_c, bnd_s, bnd2_s, stp_s, ifLE_t, ifLE_f, ifLT_t, ifLT_f, ifE_t, ifE_f, if0_t, if0_f, ifn0, ifp0, ifl0_t, ifl0_f, ifg0_t, ifg0_f, ifnE, ifnE2, ifNE_t, ifNE_f, ifN0, ifNl, ifNp, ifB, nI_A, nI_S, nI_M, mu_s, mu_k, mu_n, mcp_n, mcp_s, if_pos hj, e1, e2]
    exact ⟨trivial, trivial⟩
  · simp (disch := omega) only [chk_T, okI_t, okI_f, okI_nN, b2i_t, b2i_f, ifTT, ifFT, ite_true, ite_false, nI_c, bnd_s, bnd2_s, stp_s, ifLE_t, ifLE_f, ifLT_t, ifLT_f, ifE_t, ifE_f, if0_t, if0_f, ifn0, ifp0, ifl0_t, ifl0_f, ifg0_t, ifg0_f, ifnE, ifnE2, ifNE_t, ifNE_f, ifN0, ifNl, ifNp, ifB, nI_A, nI_S, nI_M, mu_s, mu_k, mu_n, mcp_n]
theorem X7_copyFrom {o o1 : Nat} {ws : List (Nat × Nat × Nat)} (h : WitC σ o1 ws) (hd : o + 4 ≤ o1 ∨ o1 + 4 ≤ o) : ∃ σ', fX7_copyFrom g σ o o1 = some σ' ∧ WitC σ' o ws ∧ same σ σ' o (o + 4) := by
  have hl := h.2.1
  unfold fX7_copyFrom
  refine ⟨_, rfl, ⟨?_, hl, fun i x hx => ?_⟩, fun i hi => ?_⟩
  · simp (disch := omega) only [chk_T, okI_t, okI_f, okI_nN, b2i_t, b2i_f, ifTT, ifFT, ite_true, ite_false, nI_c, bnd_s, bnd2_s, stp_s, ifLE_t, ifLE_f, ifLT_t, ifLT_f, ifE_t, ifE_f, if0_t, if0_f, ifn0, ifp0, ifl0_t, ifl0_f, ifg0_t, ifg0_f, ifnE, ifnE2, ifNE_t, ifNE_f, ifN0, ifNl, ifNp, ifB, nI_A, nI_S, nI_M, mu_s, mu_k, mu_n, mcp_n, h.1]
  · have hi := lt_of_get hx
    obtain ⟨e1, e2, e3⟩ := h.2.2 i x hx
    simp (disch := omega) only [chk_T, okI_t, okI_f, okI_nN, b2i_t, b2i_f, ifTT, ifFT, ite_true, ite_false, nI_c, bnd_s, bnd2_s, stp_s, ifLE_t, ifLE_f, ifLT_t, ifLT_f, ifE_t, ifE_f, if0_t, if0_f, ifn0, ifp0, ifl0_t, ifl0_f, ifg0_t, ifg0_f, ifnE, ifnE2, ifNE_t, ifNE_f, ifN0, ifNl, ifNp, ifB, nI_A, nI_S, nI_M, mu_s, mu_k, mu_n, mcp_n, mcp_s, if_pos (show i < 8 by omega), e1, e2, e3]
    exact ⟨trivial, trivial, trivial⟩
  · simp (disch := omega) only [chk_T, okI_t, okI_f, okI_nN, b2i_t, b2i_f, ifTT, ifFT, ite_true, ite_false, nI_c, bnd_s, bnd2_s, stp_s, ifLE_t, ifLE_f, ifLT_t, ifLT_f, ifE_t, ifE_f, if0_t, if0_f, ifn0, ifp0, ifl0_t, ifl0_f, ifg0_t, ifg0_f, ifnE, ifnE2, ifNE_t, ifNE_f, ifN0, ifNl, ifNp, ifB, nI_A, nI_S, nI_M, mu_s, mu_k, mu_n, mcp_n]
theorem X5_copyFrom {o o1 : Nat} {s : Sw} (h : ShowC σ o1 s) (hd : o + 3 ≤ o1 ∨ o1 + 3 ≤ o) : ∃ σ', fX5_copyFrom g σ o o1 = some σ' ∧ ShowC σ' o s ∧ same σ σ' o (o + 3) := by
  have hl := h.2.1
  unfold fX5_copyFrom
  refine ⟨_, rfl, ⟨?_, hl, fun k k1 k2 => ?_, fun i c hc => ?_⟩, fun i hi => ?_⟩
  · simp (disch := omega) only [chk_T, okI_t, okI_f, okI_nN, b2i_t, b2i_f, ifTT, ifFT, ite_true, ite_false, nI_c, bnd_s, bnd2_s, stp_s, ifLE_t, ifLE_f, ifLT_t, ifLT_f, ifE_t, ifE_f, if0_t, if0_f, ifn0, ifp0, ifl0_t, ifl0_f, ifg0_t, ifg0_f, ifnE, ifnE2, ifNE_t, ifNE_f, ifN0, ifNl, ifNp, ifB, nI_A, nI_S, nI_M, mu_s, mu_k, mu_n, mcp_n, mcp_s, if_pos (show 0 < 8 by omega), h.1]
  · simp (disch := omega) only [chk_T, okI_t, okI_f, okI_nN, b2i_t, b2i_f, ifTT, ifFT, ite_true, ite_false, nI_c, bnd_s, bnd2_s, stp_s, ifLE_t, ifLE_f, ifLT_t, ifLT_f, ifE_t, ifE_f, if0_t, if0_f, ifn0, ifp0, ifl0_t, ifl0_f, ifg0_t, ifg0_f, ifnE, ifnE2, ifNE_t, ifNE_f, ifN0, ifNl, ifNp, ifB, nI_A, nI_S, nI_M, mu_s, mu_k, mu_n, mcp_n, mcp_s, if_pos k2, h.2.2.1 k k1 k2]
  · have hi := lt_of_get hc
    simp (disch := omega) only [chk_T, okI_t, okI_f, okI_nN, b2i_t, b2i_f, ifTT, ifFT, ite_true, ite_false, nI_c, bnd_s, bnd2_s, stp_s, ifLE_t, ifLE_f, ifLT_t, ifLT_f, ifE_t, ifE_f, if0_t, if0_f, ifn0, ifp0, ifl0_t, ifl0_f, ifg0_t, ifg0_f, ifnE, ifnE2, ifNE_t, ifNE_f, ifN0, ifNl, ifNp, ifB, nI_A, nI_S, nI_M, mu_s, mu_k, mu_n, mcp_n, mcp_s, if_pos (show i < 480 by omega), h.2.2.2 i c hc]
  · simp (disch := omega) only [chk_T, okI_t, okI_f, okI_nN, b2i_t, b2i_f, ifTT, ifFT, ite_true, ite_false, nI_c, bnd_s, bnd2_s, stp_s, ifLE_t, ifLE_f, ifLT_t, ifLT_f, ifE_t, ifE_f, if0_t, if0_f, ifn0, ifp0, ifl0_t, ifl0_f, ifg0_t, ifg0_f, ifnE, ifnE2, ifNE_t, ifNE_f, ifN0, ifNl, ifNp, ifB, nI_A, nI_S, nI_M, mu_s, mu_k, mu_n, mcp_n]
theorem X2_copyFrom_90 {o o1 : Nat} {shs : List Sw} (hd : o + 52 ≤ o1 ∨ o1 + 52 ≤ o) : ∀ n i σ, i ≤ shs.length → shs.length - i < n → σ o 4 = nI shs.length → ShowsC σ (o1 + 22) shs → (∀ j s, j < i → shs[j]? = some s → ShowC σ (o + 22 + 3 * j) s) → ∃ σ', fX2_copyFrom_90 g o o1 n σ (nI i) = some σ' ∧ ShowsC σ' (o + 22) shs ∧ same σ σ' (o + 22) (o + 52) := by
  intro n
  induction n with
  | zero => intro i σ _ q; omega
  | succ n ih =>
    intro i σ h1 h2 h4 hs hdone
    have hl := hs.1
    rw [fX2_copyFrom_90, h4]
    by_cases hi : i = shs.length
    · subst hi
      simp (disch := omega) only [chk_T, okI_t, okI_f, okI_nN, b2i_t, b2i_f, ifTT, ifFT, ite_true, ite_false, nI_c, bnd_s, bnd2_s, stp_s, ifLE_t, ifLE_f, ifLT_t, ifLT_f, ifE_t, ifE_f, if0_t, if0_f, ifn0, ifp0, ifl0_t, ifl0_f, ifg0_t, ifg0_f, ifnE, ifnE2, ifNE_t, ifNE_f, ifN0, ifNl, ifNp, ifB, nI_A, nI_S, nI_M, mu_s, mu_k, mu_n, mcp_n]
      exact ⟨σ, rfl, ⟨hl, fun j s hj => hdone j s (lt_of_get hj) hj⟩, same.rf⟩
    · obtain ⟨s, hsi⟩ := get_of (L := shs) (i := i) (by omega)
      simp (disch := omega) only [chk_T, okI_t, okI_f, okI_nN, b2i_t, b2i_f, ifTT, ifFT, ite_true, ite_false, nI_c, bnd_s, bnd2_s, stp_s, ifLE_t, ifLE_f, ifLT_t, ifLT_f, ifE_t, ifE_f, if0_t, if0_f, ifn0, ifp0, ifl0_t, ifl0_f, ifg0_t, ifg0_f, ifnE, ifnE2, ifNE_t, ifNE_f, ifN0, ifNl, ifNp, ifB, nI_A, nI_S, nI_M, mu_s, mu_k, mu_n, mcp_n]
      obtain ⟨σ1, e1, r1, s1⟩ := X5_copyFrom (g := g) (σ := σ) (o := o + 22 + 3 * i) (o1 := o1 + 22 + 3 * i) (hs.2 i s hsi) (by omega)
      have e1 : fX5_copyFrom g σ (o + 17 + 5 + 3 * i) (o1 + 17 + 5 + 3 * i) = some σ1 := e1
      simp (disch := omega) only [chk_T, okI_t, okI_f, okI_nN, b2i_t, b2i_f, ifTT, ifFT, ite_true, ite_false, nI_c, bnd_s, bnd2_s, stp_s, ifLE_t, ifLE_f, ifLT_t, ifLT_f, ifE_t, ifE_f, if0_t, if0_f, ifn0, ifp0, ifl0_t, ifl0_f, ifg0_t, ifg0_f, ifnE, ifnE2, ifNE_t, ifNE_f, ifN0, ifNl, ifNp, ifB, nI_A, nI_S, nI_M, mu_s, mu_k, mu_n, mcp_n, e1]
      obtain ⟨σ2, e2, r2, s2⟩ := ih (i + 1) σ1 (by omega) (by omega) (by rw [s1 o (by omega)]; exact h4) (hs.same (fun j a b => s1 j (by omega))) (fun j s' hj hs' => by
        by_cases q : j = i
        · subst q
          rw [hsi] at hs'
          cases hs'
          exact r1
        · exact (hdone j s' (by omega) hs').same (fun k a b => s1 k (by omega)))
      exact ⟨σ2, e2, r2, fun k hk => by rw [s2 k hk, s1 k (by omega)]⟩
theorem X2_copyFrom (hg : 1000 ≤ g) {o o1 : Nat} {A : Fa} (h : FilmC σ o1 A) (hd : o + 52 ≤ o1 ∨ o1 + 52 ≤ o) : ∃ σ', fX2_copyFrom g σ o o1 = some σ' ∧ FilmC σ' o A ∧ same σ σ' o (o + 52) := by
  obtain ⟨sc, wr, bn, shs, wit, dis, en, lim⟩ := A
  obtain ⟨h1, h2, h3, h4, h5, h6, h7, h8⟩ := h
  dsimp only at h1 h2 h3 h4 h5 h6 h7 h8
  have hl := h3.1
  unfold fX2_copyFrom
  obtain ⟨σ1, e1, r1, s1⟩ := X6_copyFrom (g := g) (o := o + 1) h1 (by omega)
  obtain ⟨σ2, e2, r2, s2⟩ := RowC_copy (g := g) (o := o + 7) (o1 := o1 + 7) (h2.1.same (fun i a b => s1 i (by omega))) (by omega)
  obtain ⟨σ3, e3, r3, s3⟩ := RowC_copy (g := g) (o := o + 12) (o1 := o1 + 12) (h2.2.same (fun i a b => (s2 i (by omega)).trans (s1 i (by omega)))) (by omega)
  obtain ⟨σ4, e4, r4, s4⟩ := X7_copyFrom (g := g) (o := o + 18) (o1 := o1 + 18) (h4.same (fun i a b => (s3 i (by omega)).trans ((s2 i (by omega)).trans (s1 i (by omega))))) (by omega)
  have t : ∀ i, (i < o ∨ o + 52 ≤ i) → σ4 i = σ i := fun i hi => (s4 i (by omega)).trans ((s3 i (by omega)).trans ((s2 i (by omega)).trans (s1 i (by omega))))
  simp (disch := omega) only [chk_T, okI_t, okI_f, okI_nN, b2i_t, b2i_f, ifTT, ifFT, ite_true, ite_false, nI_c, bnd_s, bnd2_s, stp_s, ifLE_t, ifLE_f, ifLT_t, ifLT_f, ifE_t, ifE_f, if0_t, if0_f, ifn0, ifp0, ifl0_t, ifl0_f, ifg0_t, ifg0_f, ifnE, ifnE2, ifNE_t, ifNE_f, ifN0, ifNl, ifNp, ifB, nI_A, nI_S, nI_M, mu_s, mu_k, mu_n, mcp_n, e1, e2, e3, e4]
  rw [t o1 (by omega), h5, h6, h7, h8]
  obtain ⟨σ5, e5, r5, s5⟩ := X2_copyFrom_90 (g := g) (o := o) (o1 := o1) (shs := shs) hd g 0 (mu (mu (mu (mu σ4 o 4 (nI shs.length)) o 5 (nI dis)) o 6 (nI en)) o 7 (nI lim)) (by omega) (by omega) (by simp (disch := omega) only [chk_T, okI_t, okI_f, okI_nN, b2i_t, b2i_f, ifTT, ifFT, ite_true, ite_false, nI_c, bnd_s, bnd2_s, stp_s, ifLE_t, ifLE_f, ifLT_t, ifLT_f, ifE_t, ifE_f, if0_t, if0_f, ifn0, ifp0, ifl0_t, ifl0_f, ifg0_t, ifg0_f, ifnE, ifnE2, ifNE_t, ifNE_f, ifN0, ifNl, ifNp, ifB, nI_A, nI_S, nI_M, mu_s, mu_k, mu_n, mcp_n]) (h3.same (fun i a b => by simp (disch := omega) only [chk_T, okI_t, okI_f, okI_nN, b2i_t, b2i_f, ifTT, ifFT, ite_true, ite_false, nI_c, bnd_s, bnd2_s, stp_s, ifLE_t, ifLE_f, ifLT_t, ifLT_f, ifE_t, ifE_f, if0_t, if0_f, ifn0, ifp0, ifl0_t, ifl0_f, ifg0_t, ifg0_f, ifnE, ifnE2, ifNE_t, ifNE_f, ifN0, ifNl, ifNp, ifB, nI_A, nI_S, nI_M, mu_s, mu_k, mu_n, mcp_n]; exact t i (by omega))) (fun j s hj => by omega)
  have u : ∀ i, (i < o + 22 ∨ o + 52 ≤ i) → i ≠ o → σ5 i = σ4 i := fun i hi hn => by rw [s5 i hi]; simp (disch := omega) only [chk_T, okI_t, okI_f, okI_nN, b2i_t, b2i_f, ifTT, ifFT, ite_true, ite_false, nI_c, bnd_s, bnd2_s, stp_s, ifLE_t, ifLE_f, ifLT_t, ifLT_f, ifE_t, ifE_f, if0_t, if0_f, ifn0, ifp0, ifl0_t, ifl0_f, ifg0_t, ifg0_f, ifnE, ifnE2, ifNE_t, ifNE_f, ifN0, ifNl, ifNp, ifB, nI_A, nI_S, nI_M, mu_s, mu_k, mu_n, mcp_n]
  refine ⟨σ5, e5, ⟨?_, ⟨?_, ?_⟩, r5, ?_, ?_, ?_, ?_, ?_⟩, fun i hi => ?_⟩
  · exact r1.same (fun i a b => by rw [u i (by omega) (by omega), s4 i (by omega), s3 i (by omega), s2 i (by omega)])
  · exact r2.same (fun i a b => by rw [u i (by omega) (by omega), s4 i (by omega), s3 i (by omega)])
  · exact r3.same (fun i a b => by rw [u i (by omega) (by omega), s4 i (by omega)])
  · exact r4.same (fun i a b => by rw [u i (by omega) (by omega)])
  · rw [s5 o (by omega)]; simp (disch := omega) only [chk_T, okI_t, okI_f, okI_nN, b2i_t, b2i_f, ifTT, ifFT, ite_true, ite_false, nI_c, bnd_s, bnd2_s, stp_s, ifLE_t, ifLE_f, ifLT_t, ifLT_f, ifE_t, ifE_f, if0_t, if0_f, ifn0, ifp0, ifl0_t, ifl0_f, ifg0_t, ifg0_f, ifnE, ifnE2, ifNE_t, ifNE_f, ifN0, ifNl, ifNp, ifB, nI_A, nI_S, nI_M, mu_s, mu_k, mu_n, mcp_n]
  · rw [s5 o (by omega)]; simp (disch := omega) only [chk_T, okI_t, okI_f, okI_nN, b2i_t, b2i_f, ifTT, ifFT, ite_true, ite_false, nI_c, bnd_s, bnd2_s, stp_s, ifLE_t, ifLE_f, ifLT_t, ifLT_f, ifE_t, ifE_f, if0_t, if0_f, ifn0, ifp0, ifl0_t, ifl0_f, ifg0_t, ifg0_f, ifnE, ifnE2, ifNE_t, ifNE_f, ifN0, ifNl, ifNp, ifB, nI_A, nI_S, nI_M, mu_s, mu_k, mu_n, mcp_n]
  · rw [s5 o (by omega)]; simp (disch := omega) only [chk_T, okI_t, okI_f, okI_nN, b2i_t, b2i_f, ifTT, ifFT, ite_true, ite_false, nI_c, bnd_s, bnd2_s, stp_s, ifLE_t, ifLE_f, ifLT_t, ifLT_f, ifE_t, ifE_f, if0_t, if0_f, ifn0, ifp0, ifl0_t, ifl0_f, ifg0_t, ifg0_f, ifnE, ifnE2, ifNE_t, ifNE_f, ifN0, ifNl, ifNp, ifB, nI_A, nI_S, nI_M, mu_s, mu_k, mu_n, mcp_n]
  · rw [s5 o (by omega)]; simp (disch := omega) only [chk_T, okI_t, okI_f, okI_nN, b2i_t, b2i_f, ifTT, ifFT, ite_true, ite_false, nI_c, bnd_s, bnd2_s, stp_s, ifLE_t, ifLE_f, ifLT_t, ifLT_f, ifE_t, ifE_f, if0_t, if0_f, ifn0, ifp0, ifl0_t, ifl0_f, ifg0_t, ifg0_f, ifnE, ifnE2, ifNE_t, ifNE_f, ifN0, ifNl, ifNp, ifB, nI_A, nI_S, nI_M, mu_s, mu_k, mu_n, mcp_n]
  · rw [u i (by omega) (by omega), t i hi]
/-- the history: the oldest state first, in a ring of four -/
def HistC (σ : Mem) (h : Nat) (hs : List Fa) : Prop := σ h 0 = nI hs.length ∧ hs.length ≤ 4 ∧ ∃ top, top < 4 ∧ σ h 1 = nI top ∧ ∀ i A, hs[i]? = some A → FilmC σ (h + 2 + 52 * ((top + 4 - hs.length + i) % 4)) A
def recd (A : Fa) (hs : List Fa) : List Fa := if hs.length = 4 then hs.drop 1 ++ [A] else hs ++ [A]
theorem recd_len (A : Fa) (hs : List Fa) (h : hs.length ≤ 4) : (recd A hs).length = if hs.length = 4 then 4 else hs.length + 1 := by
  unfold recd
  by_cases q : hs.length = 4
  · rw [if_pos q, if_pos q]; simp; omega
  · rw [if_neg q, if_neg q]; simp
theorem X3_record (hg : 1000 ≤ g) {o o1 : Nat} {A : Fa} {hs : List Fa} (h : HistC σ o hs) (hA : FilmC σ o1 A) (hd : o1 + 52 ≤ o ∨ o + 210 ≤ o1) : ∃ σ', fX3_record g σ o o1 = some σ' ∧ HistC σ' o (recd A hs) ∧ same σ σ' o (o + 210) := by
  obtain ⟨h0, hl, top, ht, h1, hf⟩ := h
  unfold fX3_record
  rw [h1]
  simp (disch := omega) only [chk_T, okI_t, okI_f, okI_nN, b2i_t, b2i_f, ifTT, ifFT, ite_true, ite_false, nI_c, bnd_s, bnd2_s, stp_s, ifLE_t, ifLE_f, ifLT_t, ifLT_f, ifE_t, ifE_f, if0_t, if0_f, ifn0, ifp0, ifl0_t, ifl0_f, ifg0_t, ifg0_f, ifnE, ifnE2, ifNE_t, ifNE_f, ifN0, ifNl, ifNp, ifB, nI_A, nI_S, nI_M, mu_s, mu_k, mu_n, mcp_n]
  obtain ⟨σ1, e1, r1, s1⟩ := X2_copyFrom (g := g) (σ := σ) (o := o + 1 + 1 + 52 * top) (o1 := o1) hg hA (by omega)
  have ho : σ1 o = σ o := s1 o (by omega)
  simp (disch := omega) only [chk_T, okI_t, okI_f, okI_nN, b2i_t, b2i_f, ifTT, ifFT, ite_true, ite_false, nI_c, bnd_s, bnd2_s, stp_s, ifLE_t, ifLE_f, ifLT_t, ifLT_f, ifE_t, ifE_f, if0_t, if0_f, ifn0, ifp0, ifl0_t, ifl0_f, ifg0_t, ifg0_f, ifnE, ifnE2, ifNE_t, ifNE_f, ifN0, ifNl, ifNp, ifB, nI_A, nI_S, nI_M, mu_s, mu_k, mu_n, mcp_n, e1, ho, h1, h0, nI_R]
  refine ⟨_, rfl, ⟨?_, ?_, (top + 1) % 4, by omega, ?_, ?_⟩, fun i hi => ?_⟩
  · simp (disch := omega) only [chk_T, okI_t, okI_f, okI_nN, b2i_t, b2i_f, ifTT, ifFT, ite_true, ite_false, nI_c, bnd_s, bnd2_s, stp_s, ifLE_t, ifLE_f, ifLT_t, ifLT_f, ifE_t, ifE_f, if0_t, if0_f, ifn0, ifp0, ifl0_t, ifl0_f, ifg0_t, ifg0_f, ifnE, ifnE2, ifNE_t, ifNE_f, ifN0, ifNl, ifNp, ifB, nI_A, nI_S, nI_M, mu_s, mu_k, mu_n, mcp_n, recd_len A hs hl]
    by_cases q : hs.length = 4
    · rw [if_pos q, if_pos ((nI_LT (by omega) (by omega)).2 (by omega))]
    · rw [if_neg q, if_neg (fun z => by have := (nI_LT (by omega) (by omega)).1 z; omega)]
  · rw [recd_len A hs hl]; split <;> omega
  · simp (disch := omega) only [chk_T, okI_t, okI_f, okI_nN, b2i_t, b2i_f, ifTT, ifFT, ite_true, ite_false, nI_c, bnd_s, bnd2_s, stp_s, ifLE_t, ifLE_f, ifLT_t, ifLT_f, ifE_t, ifE_f, if0_t, if0_f, ifn0, ifp0, ifl0_t, ifl0_f, ifg0_t, ifg0_f, ifnE, ifnE2, ifNE_t, ifNE_f, ifN0, ifNl, ifNp, ifB, nI_A, nI_S, nI_M, mu_s, mu_k, mu_n, mcp_n]
  · intro i B hB
    have hlt := lt_of_get hB
    have hrl := recd_len A hs hl
    have far : ∀ k, k < 4 → ∀ j, o + 2 + 52 * k ≤ j → j < o + 2 + 52 * k + 52 → (mu (mu σ1 o 1 (nI ((top + 1) % 4))) o 0 (if nI 4 < nI (hs.length + 1) then nI 4 else nI (hs.length + 1))) j = σ1 j := fun k hk j a b => by simp (disch := omega) only [chk_T, okI_t, okI_f, okI_nN, b2i_t, b2i_f, ifTT, ifFT, ite_true, ite_false, nI_c, bnd_s, bnd2_s, stp_s, ifLE_t, ifLE_f, ifLT_t, ifLT_f, ifE_t, ifE_f, if0_t, if0_f, ifn0, ifp0, ifl0_t, ifl0_f, ifg0_t, ifg0_f, ifnE, ifnE2, ifNE_t, ifNE_f, ifN0, ifNl, ifNp, ifB, nI_A, nI_S, nI_M, mu_s, mu_k, mu_n, mcp_n]
    unfold recd at hB
    by_cases q : hs.length = 4
    · rw [if_pos q] at hB hrl
      rw [hrl] at hlt ⊢
      by_cases q2 : i < 3
      · rw [List.getElem?_append_left (by rw [List.length_drop]; omega), List.getElem?_drop] at hB
        have := hf _ B hB
        rw [q] at this
        rw [show (top + 1) % 4 + 4 - 4 + i = (top + 1) % 4 + i by omega, show ((top + 1) % 4 + i) % 4 = (top + 4 - 4 + (1 + i)) % 4 by omega]
        exact this.same (fun j a b => by rw [far _ (Nat.mod_lt _ (by omega)) j a b]; exact s1 j (by omega))
      · rw [List.getElem?_append_right (by rw [List.length_drop]; omega), List.length_drop, show i - (hs.length - 1) = 0 by omega] at hB
        cases hB
        rw [show ((top + 1) % 4 + 4 - 4 + i) % 4 = top by omega]
        exact r1.same (fun j a b => far top ht j a b)
    · rw [if_neg q] at hB hrl
      rw [hrl] at hlt ⊢
      by_cases q2 : i < hs.length
      · rw [List.getElem?_append_left q2] at hB
        have := hf _ B hB
        rw [show ((top + 1) % 4 + 4 - (hs.length + 1) + i) % 4 = (top + 4 - hs.length + i) % 4 by omega]
        exact this.same (fun j a b => by rw [far _ (Nat.mod_lt _ (by omega)) j a b]; exact s1 j (by omega))
      · rw [List.getElem?_append_right (by omega), show i - hs.length = 0 by omega] at hB
        cases hB
        rw [show ((top + 1) % 4 + 4 - (hs.length + 1) + i) % 4 = top by omega]
        exact r1.same (fun j a b => far top ht j a b)
  · simp (disch := omega) only [chk_T, okI_t, okI_f, okI_nN, b2i_t, b2i_f, ifTT, ifFT, ite_true, ite_false, nI_c, bnd_s, bnd2_s, stp_s, ifLE_t, ifLE_f, ifLT_t, ifLT_f, ifE_t, ifE_f, if0_t, if0_f, ifn0, ifp0, ifl0_t, ifl0_f, ifg0_t, ifg0_f, ifnE, ifnE2, ifNE_t, ifNE_f, ifN0, ifNl, ifNp, ifB, nI_A, nI_S, nI_M, mu_s, mu_k, mu_n, mcp_n]
    exact s1 i (by omega)
theorem X3_giveBack (hg : 1000 ≤ g) {o o1 : Nat} {A : Fa} {hs : List Fa} (h : HistC σ o (hs ++ [A])) (hd : o1 + 52 ≤ o ∨ o + 210 ≤ o1) : ∃ σ', fX3_giveBack g σ o o1 = some σ' ∧ HistC σ' o hs ∧ FilmC σ' o1 A ∧ ∀ i, i ≠ o → (i < o1 ∨ o1 + 52 ≤ i) → σ' i = σ i := by
  obtain ⟨h0, hl, top, ht, h1, hf⟩ := h
  rw [List.length_append, List.length_singleton] at h0 hl hf
  unfold fX3_giveBack
  have hA := hf hs.length A (by rw [List.getElem?_append_right (Nat.le_refl _), Nat.sub_self]; rfl)
  rw [show (top + 4 - (hs.length + 1) + hs.length) % 4 = (top + 3) % 4 by omega] at hA
  simp (disch := omega) only [chk_T, okI_t, okI_f, okI_nN, b2i_t, b2i_f, ifTT, ifFT, ite_true, ite_false, nI_c, bnd_s, bnd2_s, stp_s, ifLE_t, ifLE_f, ifLT_t, ifLT_f, ifE_t, ifE_f, if0_t, if0_f, ifn0, ifp0, ifl0_t, ifl0_f, ifg0_t, ifg0_f, ifnE, ifnE2, ifNE_t, ifNE_f, ifN0, ifNl, ifNp, ifB, nI_A, nI_S, nI_M, mu_s, mu_k, mu_n, mcp_n, h0, h1, nI_R]
  rw [show top + 4 - 1 = top + 3 by omega]
  have hA : FilmC (mu σ o 1 (nI ((top + 3) % 4))) (o + 1 + 1 + 52 * ((top + 3) % 4)) A := hA.same (fun i a b => by simp (disch := omega) only [chk_T, okI_t, okI_f, okI_nN, b2i_t, b2i_f, ifTT, ifFT, ite_true, ite_false, nI_c, bnd_s, bnd2_s, stp_s, ifLE_t, ifLE_f, ifLT_t, ifLT_f, ifE_t, ifE_f, if0_t, if0_f, ifn0, ifp0, ifl0_t, ifl0_f, ifg0_t, ifg0_f, ifnE, ifnE2, ifNE_t, ifNE_f, ifN0, ifNl, ifNp, ifB, nI_A, nI_S, nI_M, mu_s, mu_k, mu_n, mcp_n])
  obtain ⟨σ1, e1, r1, s1⟩ := X2_copyFrom (g := g) (o := o1) hg hA (by omega)
  have ho : σ1 o = upd (σ o) 1 (nI ((top + 3) % 4)) := by rw [s1 o (by omega), mu_i]
  have h02 : σ1 o 0 = nI (hs.length + 1) := by rw [ho, pk_un (by omega)]; exact h0
  have h12 : σ1 o 1 = nI ((top + 3) % 4) := by rw [ho, pk_us]
  simp (disch := omega) only [chk_T, okI_t, okI_f, okI_nN, b2i_t, b2i_f, ifTT, ifFT, ite_true, ite_false, nI_c, bnd_s, bnd2_s, stp_s, ifLE_t, ifLE_f, ifLT_t, ifLT_f, ifE_t, ifE_f, if0_t, if0_f, ifn0, ifp0, ifl0_t, ifl0_f, ifg0_t, ifg0_f, ifnE, ifnE2, ifNE_t, ifNE_f, ifN0, ifNl, ifNp, ifB, nI_A, nI_S, nI_M, mu_s, mu_k, mu_n, mcp_n, e1, h02]
  refine ⟨_, rfl, ⟨?_, by omega, (top + 3) % 4, by omega, ?_, ?_⟩, r1.same (fun i a b => mu_n (by omega)), fun i hi hj => ?_⟩
  · simp (disch := omega) only [chk_T, okI_t, okI_f, okI_nN, b2i_t, b2i_f, ifTT, ifFT, ite_true, ite_false, nI_c, bnd_s, bnd2_s, stp_s, ifLE_t, ifLE_f, ifLT_t, ifLT_f, ifE_t, ifE_f, if0_t, if0_f, ifn0, ifp0, ifl0_t, ifl0_f, ifg0_t, ifg0_f, ifnE, ifnE2, ifNE_t, ifNE_f, ifN0, ifNl, ifNp, ifB, nI_A, nI_S, nI_M, mu_s, mu_k, mu_n, mcp_n, Nat.add_sub_cancel]
  · simp (disch := omega) only [chk_T, okI_t, okI_f, okI_nN, b2i_t, b2i_f, ifTT, ifFT, ite_true, ite_false, nI_c, bnd_s, bnd2_s, stp_s, ifLE_t, ifLE_f, ifLT_t, ifLT_f, ifE_t, ifE_f, if0_t, if0_f, ifn0, ifp0, ifl0_t, ifl0_f, ifg0_t, ifg0_f, ifnE, ifnE2, ifNE_t, ifNE_f, ifN0, ifNl, ifNp, ifB, nI_A, nI_S, nI_M, mu_s, mu_k, mu_n, mcp_n, h12]
  · intro i B hB
    have hlt := lt_of_get hB
    have := hf i B (by rw [List.getElem?_append_left hlt]; exact hB)
    rw [show ((top + 3) % 4 + 4 - hs.length + i) % 4 = (top + 4 - (hs.length + 1) + i) % 4 by omega]
    exact this.same (fun j a b => by
      have : (top + 4 - (hs.length + 1) + i) % 4 < 4 := Nat.mod_lt _ (by omega)
      simp (disch := omega) only [chk_T, okI_t, okI_f, okI_nN, b2i_t, b2i_f, ifTT, ifFT, ite_true, ite_false, nI_c, bnd_s, bnd2_s, stp_s, ifLE_t, ifLE_f, ifLT_t, ifLT_f, ifE_t, ifE_f, if0_t, if0_f, ifn0, ifp0, ifl0_t, ifl0_f, ifg0_t, ifg0_f, ifnE, ifnE2, ifNE_t, ifNE_f, ifN0, ifNl, ifNp, ifB, nI_A, nI_S, nI_M, mu_s, mu_k, mu_n, mcp_n]
      rw [s1 j (by omega)]
      simp (disch := omega) only [chk_T, okI_t, okI_f, okI_nN, b2i_t, b2i_f, ifTT, ifFT, ite_true, ite_false, nI_c, bnd_s, bnd2_s, stp_s, ifLE_t, ifLE_f, ifLT_t, ifLT_f, ifE_t, ifE_f, if0_t, if0_f, ifn0, ifp0, ifl0_t, ifl0_f, ifg0_t, ifg0_f, ifnE, ifnE2, ifNE_t, ifNE_f, ifN0, ifNl, ifNp, ifB, nI_A, nI_S, nI_M, mu_s, mu_k, mu_n, mcp_n])
  · simp (disch := omega) only [chk_T, okI_t, okI_f, okI_nN, b2i_t, b2i_f, ifTT, ifFT, ite_true, ite_false, nI_c, bnd_s, bnd2_s, stp_s, ifLE_t, ifLE_f, ifLT_t, ifLT_f, ifE_t, ifE_f, if0_t, if0_f, ifn0, ifp0, ifl0_t, ifl0_f, ifg0_t, ifg0_f, ifnE, ifnE2, ifNE_t, ifNE_f, ifN0, ifNl, ifNp, ifB, nI_A, nI_S, nI_M, mu_s, mu_k, mu_n, mcp_n]
    rw [s1 i hj]
    simp (disch := omega) only [chk_T, okI_t, okI_f, okI_nN, b2i_t, b2i_f, ifTT, ifFT, ite_true, ite_false, nI_c, bnd_s, bnd2_s, stp_s, ifLE_t, ifLE_f, ifLT_t, ifLT_f, ifE_t, ifE_f, if0_t, if0_f, ifn0, ifp0, ifl0_t, ifl0_f, ifg0_t, ifg0_f, ifnE, ifnE2, ifNE_t, ifNE_f, ifN0, ifNl, ifNp, ifB, nI_A, nI_S, nI_M, mu_s, mu_k, mu_n, mcp_n]
end
