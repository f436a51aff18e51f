/-! PURE ROWS, 22: the edits of a text, all or none: both sides -/
def edApp : List Ed → Bn → Option Int32 × Bn
  | [], b => (none, b)
  | e :: L, b => if (bOp e.1 (nI e.2.1) (nI e.2.2) b).1 < 0 then (if (bOp e.1 (nI e.2.1) (nI e.2.2) b).1 = nN 5 then edApp L b else (some (bOp e.1 (nI e.2.1) (nI e.2.2) b).1, b)) else edApp L (bOp e.1 (nI e.2.1) (nI e.2.2) b).2
def spEdit (S : SS) : Int32 × SS := match eds S.2.2.2 with
  | .inl f => (nN 100 - nI f, S)
  | .inr L => match edApp L S.1.2.2.1 with
    | (some r, _) => (r, S)
    | (none, b) => (nI L.length, put S (setB S.1 b))
theorem BV.edApp {n : Nat} {sc : List (Nat × Nat)} : ∀ L b, BV n sc b → BV n sc (edApp L b).2 := by
  intro L
  induction L with
  | nil => intro b h; exact h
  | cons e L ih =>
    intro b h
    show BV n sc (if _ then _ else _ : Option Int32 × Bn).2
    split
    · split
      · exact ih b h
      · exact h
    · exact ih _ (h.op _ _ _)
section
variable {g o : Nat} {σ : Mem} {S : SS} {n : Nat}
theorem EdC.same {σ' : Mem} {q : Nat} {es : List Ed} (h : EdC σ q es) (e : ∀ i, q ≤ i → i < q + 4 → σ' i = σ i) : EdC σ' q es := ⟨by rw [e q (by omega) (by omega)]; exact h.1, fun i d hd => by rw [e _ (by omega) (by omega), e _ (by omega) (by omega), e _ (by omega) (by omega)]; exact h.2 i d hd⟩
theorem X8_edit_34 (hg : 1000 ≤ g) (hv : ScV S.1.1) (hl12 : S.1.1.length ≤ 12) (hn : n < 1000000) {L : List Ed} (hL : L.length ≤ 20) : ∀ f k b σ, k ≤ L.length → L.length - k < f → BV n S.1.1 b → SysC σ o S → EdC σ (o + 315) L → BnC σ (o + 320) b → ∃ σ', fX8_edit_34 g o f σ (nI k) = some ((match edApp (L.drop k) b with | (some r, _) => r | (none, _) => nI L.length), σ') ∧ SysC σ' o (match edApp (L.drop k) b with | (some _, _) => S | (none, b') => put S (setB S.1 b')) ∧ same σ σ' o (o + 334) := by
  intro f
  induction f with
  | zero => intro k b σ _ q; omega
  | succ f ih =>
    intro k b σ h1 h2 hB h hE hT
    rw [fX8_edit_34]
    by_cases c : k = L.length
    · subst c
      rw [List.drop_length]
      have e1 : σ (o + 315) 1 = nI L.length := hE.1
      obtain ⟨σ3, e3, r3, s3⟩ := h.rec hg
      obtain ⟨σ4, e4, r4, s4⟩ := X0_copyFrom (g := g) (σ := σ3) (o := o + 1 + 6) (o1 := o + 320) (hT.same (fun i a b => s3 i (by omega))) (by omega)
      have e4 : fX0_copyFrom g σ3 (o + 7) (o + 320) = some σ4 := e4
      have e5 : σ4 (o + 315) 1 = nI L.length := by rw [s4 _ (by omega), s3 _ (by omega)]; exact e1
      unfold fX8_takeOverTrial
      rw [e1, ifLE_t (Nat.le_refl _) (by omega), e3, bnd_s, e4, bnd_s, bnd_s, e5]
      exact ⟨σ4, rfl, r3.film (r3.1.bench r4 (fun i a b c => s4 i (by omega))) (fun i a b => s4 i (by omega)), fun i hi => by rw [s4 i (by omega), s3 i (by omega)]⟩
    · obtain ⟨e, he⟩ := get_of (L := L) (i := k) (by omega)
      obtain ⟨a1, a2, a3⟩ := hE.2 k e he
      have a1 : σ (o + 316) k = e.1 := a1
      have a2 : σ (o + 317) k = nI e.2.1 := a2
      have a3 : σ (o + 318) k = nI e.2.2 := a3
      have hV := hB.V hv hl12 hn
      obtain ⟨σ1, e1, r1, s1⟩ := X0_perform (g := g) (σ := σ) (o := o + 320) hg hT hV e.1 (nI e.2.1) (nI e.2.2)
      rw [hE.1, ifLE_f (by omega) (by omega)]
      simp (disch := omega) only [chk_T, okI_t, okI_f, okI_nN, b2i_t, b2i_f, ifTT, ifFT, ite_true, ite_false, nI_c, bnd_s, bnd2_s, stp_s, ifLE_t, ifLE_f, ifLT_t, ifLT_f, ifE_t, ifE_f, if0_t, if0_f, ifn0, ifp0, ifl0_t, ifl0_f, ifg0_t, ifg0_f, ifnE, ifnE2, ifNE_t, ifNE_f, ifN0, ifNl, ifNp, ifB, nI_A, nI_S, nI_M, mu_s, mu_k, mu_n, mcp_n, a1, a2, a3, e1]
      rw [drop_get he]
      have hS1 : SysC σ1 o S := h.film (h.1.same (fun i a b => s1 i (by omega))) (fun i a b => s1 i (by omega))
      have hE1 : EdC σ1 (o + 315) L := hE.same (fun i a b => s1 i (by omega))
      by_cases c2 : (bOp e.1 (nI e.2.1) (nI e.2.2) b).1 < 0
      · have hbb := bOp_neg hV hT.1.2.1 hT.2.2.1 c2
        rw [if_neg (Int32.not_le.mpr c2)]
        by_cases c3 : (bOp e.1 (nI e.2.1) (nI e.2.2) b).1 = nN 5
        · have ee : edApp (e :: L.drop (k + 1)) b = edApp (L.drop (k + 1)) b := by
            show (if _ then _ else _ : Option Int32 × Bn) = _
            rw [if_pos c2, if_pos c3]
          rw [if_pos c3, ee]
          obtain ⟨σ2, e2, r2, s2⟩ := ih (k + 1) b σ1 (by omega) (by omega) hB hS1 hE1 (by rw [hbb] at r1; exact r1)
          exact ⟨σ2, e2, r2, s1.wd (by omega) (by omega) |>.tr s2⟩
        · have ee : edApp (e :: L.drop (k + 1)) b = (some (bOp e.1 (nI e.2.1) (nI e.2.2) b).1, b) := by
            show (if _ then _ else _ : Option Int32 × Bn) = _
            rw [if_pos c2, if_neg c3]
          rw [if_neg c3, ee]
          exact ⟨σ1, rfl, hS1, s1.wd (by omega) (by omega)⟩
      · have ee : edApp (e :: L.drop (k + 1)) b = edApp (L.drop (k + 1)) (bOp e.1 (nI e.2.1) (nI e.2.2) b).2 := by
          show (if _ then _ else _ : Option Int32 × Bn) = _
          rw [if_neg c2]
        rw [if_pos (Int32.not_lt.mp c2), ee]
        obtain ⟨σ2, e2, r2, s2⟩ := ih (k + 1) _ σ1 (by omega) (by omega) (hB.op _ _ _) hS1 hE1 r1
        exact ⟨σ2, e2, r2, s1.wd (by omega) (by omega) |>.tr s2⟩
theorem edsT_len {tx : List Int32} (hl : tx.length ≤ 60) : ∀ f j L, edsT tx f j = .inr L → j ≤ tx.length → 3 * L.length + j ≤ 60 := by
  intro f
  induction f with
  | zero => intro j L h; cases h
  | succ f ih =>
    intro j L h hj
    rw [edsT] at h
    by_cases c : tx.length ≤ j
    · rw [if_pos c] at h
      cases h
      simp
      omega
    · rw [if_neg c] at h
      by_cases c2 : tx[j]? = some (nI 59)
      · rw [if_pos c2] at h
        cases hR : edR tx (j + 1) with
        | mk r k =>
        cases r with
        | none => rw [hR] at h; cases h
        | some e =>
          rw [hR] at h
          dsimp only at h
          have hb := edR_b hR
          cases hE : edsT tx f k with
          | inl f => rw [hE] at h; cases h
          | inr L' =>
            rw [hE] at h
            cases h
            have := ih k L' hE (by omega)
            rw [List.length_cons]
            omega
      · rw [if_neg c2] at h; cases h
theorem eds_len {tx : List Int32} (hl : tx.length ≤ 60) {L : List Ed} (h : eds tx = .inr L) : L.length ≤ 20 := by
  unfold eds at h
  cases hR : edR tx 0 with
  | mk r k =>
  cases r with
  | none => rw [hR] at h; cases h
  | some e =>
    rw [hR] at h
    dsimp only at h
    have hb := edR_b hR
    cases hE : edsT tx 21 k with
    | inl f => rw [hE] at h; cases h
    | inr L' =>
      rw [hE] at h
      cases h
      have := edsT_len hl 21 k L' hE (by omega)
      rw [List.length_cons]
      omega
theorem edR_n {tx : List Int32} {i k : Nat} (h : edR tx i = (none, k)) : k ≤ i ∨ k ≤ tx.length := by
  unfold edR at h
  cases hc : tx[i]? with
  | none => rw [hc] at h; cases h; exact Or.inl (Nat.le_refl _)
  | some c =>
    rw [hc] at h
    dsimp only at h
    have hl := lt_of_get hc
    by_cases c2 : c = nI 105 ∨ c = nI 109
    · rw [if_pos c2] at h
      cases hn : numR tx (i + 1) with
      | none => rw [hn] at h; cases h; omega
      | some vj =>
        obtain ⟨v, j⟩ := vj
        rw [hn] at h
        dsimp only at h
        have := numR_b hn
        by_cases c3 : tx[j]? = some (nI 44)
        · rw [if_pos c3] at h
          have := lt_of_get c3
          cases hn2 : numR tx (j + 1) with
          | none => rw [hn2] at h; cases h; omega
          | some wk =>
            obtain ⟨w, k'⟩ := wk
            rw [hn2] at h
            cases h
        · rw [if_neg c3] at h; cases h; omega
    · rw [if_neg c2] at h
      by_cases c3 : c = nI 99 ∨ c = nI 106 ∨ c = nI 111
      · rw [if_pos c3] at h
        cases hn : numR tx (i + 1) with
        | none => rw [hn] at h; cases h; omega
        | some vj =>
          obtain ⟨v, j⟩ := vj
          rw [hn] at h
          cases h
      · rw [if_neg c3] at h; cases h; omega
theorem edsT_f {tx : List Int32} (hl : tx.length ≤ 60) : ∀ n j f, edsT tx n j = .inl f → 60 < j + 3 * n → j ≤ tx.length → f ≤ 60 := by
  intro n
  induction n with
  | zero => intro j f _ h1 h2; omega
  | succ n ih =>
    intro j f h h1 h2
    rw [edsT] at h
    by_cases c : tx.length ≤ j
    · rw [if_pos c] at h; cases h
    · rw [if_neg c] at h
      by_cases c2 : tx[j]? = some (nI 59)
      · rw [if_pos c2] at h
        cases hR : edR tx (j + 1) with
        | mk r k =>
        cases r with
        | none =>
          rw [hR] at h
          cases h
          have := edR_n hR
          omega
        | some e =>
          rw [hR] at h
          dsimp only at h
          have hb := edR_b hR
          cases hE : edsT tx n k with
          | inl f' =>
            rw [hE] at h
            cases h
            exact ih k f hE (by omega) (by omega)
          | inr L' => rw [hE] at h; cases h
      · rw [if_neg c2] at h; cases h; omega
theorem eds_f {tx : List Int32} (hl : tx.length ≤ 60) {f : Nat} (h : eds tx = .inl f) : f ≤ 60 := by
  unfold eds at h
  cases hR : edR tx 0 with
  | mk r k =>
  cases r with
  | none =>
    rw [hR] at h
    cases h
    have := edR_n hR
    omega
  | some e =>
    rw [hR] at h
    dsimp only at h
    have hb := edR_b hR
    cases hE : edsT tx 21 k with
    | inl f' =>
      rw [hE] at h
      cases h
      exact edsT_f hl 21 k f hE (by omega) (by omega)
    | inr L' => rw [hE] at h; cases h
theorem X8_edit (hg : 1000 ≤ g) (h : SysC σ o S) (hv : ScV S.1.1) (hB : BV n S.1.1 S.1.2.2.1) (hn : n < 1000000) : ∃ σ', fX8_edit g σ o = some ((spEdit S).1, σ') ∧ SysC σ' o (spEdit S).2 ∧ same σ σ' o (o + 334) := by
  have hT := h.2.2.2.2
  obtain ⟨σ1, e1, c1⟩ := X1_readEdits (g := g) hg hT
  have hS1 : SysC σ1 o S := by
    obtain ⟨h1, h2, h3, h4, h5⟩ := h
    exact ⟨h1.same (fun i a b => c1.1 i (by omega)), h2.same (fun i a b => c1.1 i (by omega)), by rw [c1.1 o (by omega)]; exact h3, fun B hB => (h4 B hB).same (fun i a b => c1.1 i (by omega)), c1.text h5⟩
  unfold fX8_edit spEdit
  cases hE : eds S.2.2.2 with
  | inl f =>
    rw [hE] at e1
    have e1 : fX1_readEdits g σ (o + 315) = some (nI f, σ1) := e1
    have hf : f < 2147483648 ∨ 2147483648 ≤ f := by omega
    rw [e1, bnd2_s]
    have hne : ¬ nI f = nN 1 := by
      have hb : f ≤ 60 := by
        exact eds_f hT.2.1 hE
      exact fun z => (nN_n (by omega) (by omega) (by omega)).1 z
    rw [if_neg hne]
    exact ⟨σ1, rfl, hS1, fun i hi => c1.1 i (by omega)⟩
  | inr L =>
    rw [hE] at e1
    obtain ⟨e1, hEd⟩ := e1
    rw [List.nil_append] at hEd
    rw [e1, bnd2_s, if_pos rfl]
    obtain ⟨σ2, e2, r2, s2⟩ := X0_copyFrom (g := g) (σ := σ1) (o := o + 320) (o1 := o + 1 + 6) hS1.1.2.1 (by omega)
    have e2 : fX0_copyFrom g σ1 (o + 320) (o + 7) = some σ2 := e2
    rw [e2, bnd_s]
    have hL := eds_len hT.2.1 hE
    have hS2 : SysC σ2 o S := hS1.film (hS1.1.same (fun i a b => s2 i (by omega))) (fun i a b => s2 i (by omega))
    obtain ⟨σ3, e3, r3, s3⟩ := X8_edit_34 (g := g) (o := o) (S := S) (n := n) hg hv h.1.1.2.1 hn hL g 0 S.1.2.2.1 σ2 (by omega) (by omega) hB hS2 (hEd.same (fun i a b => s2 i (by omega))) r2
    rw [List.drop_zero] at e3 r3
    refine ⟨σ3, ?_, ?_, fun i hi => by rw [s3 i hi, s2 i (by omega), c1.1 i (by omega)]⟩
    · rw [e3]
      dsimp only
      rcases edApp L S.1.2.2.1 with ⟨r, b⟩
      cases r <;> rfl
    · dsimp only
      revert r3
      rcases edApp L S.1.2.2.1 with ⟨r, b⟩
      cases r <;> exact fun r3 => r3
theorem err_eq {r : Int32} : errOf r = nN 5 ↔ r = nN 5 := by
  unfold errOf
  by_cases c : r < 0
  · rw [if_pos c]
  · rw [if_neg c]
    constructor
    · intro h; exact absurd h (by decide)
    · intro h; rw [h] at c; exact absurd (nN_l (k := 5) (by omega) (by omega)) c
theorem X9_editError (hg : 1000 ≤ g) {b : Bn} {e : Ed} (h : BnM σ o b) (hV : BnV b) (h8 : σ o 8 = e.1) (h10 : σ o 10 = nI e.2.1) (h11 : e.1 = nI 105 ∨ e.1 = nI 109 → σ o 11 = nI e.2.2) (hk : e.1 = nI 105 ∨ e.1 = nI 109 ∨ e.1 = nI 99 ∨ e.1 = nI 106 ∨ e.1 = nI 111) : fX9_editError g σ o = some (errOf (bOp e.1 (nI e.2.1) (nI e.2.2) b).1) := by
  unfold fX9_editError
  rw [h8, h10]
  rcases hk with k | k | k | k | k
  · rw [h11 (Or.inl k), k, if_neg (by decide), if_pos rfl, bOp_i, X9_putError h]; rfl
  · rw [h11 (Or.inr k), k, if_neg (by decide), if_neg (by decide), if_neg (by decide), if_neg (by decide), bOp_m, X9_moveError h.1 _ _ (by have := tot_le hV.1 h.1.2.1; omega) hV.1]; rfl
  · rw [k, if_pos rfl, bOp_c, X9_cutError hg h.1 hV.1]; rfl
  · rw [k, if_neg (by decide), if_neg (by decide), if_pos rfl, bOp_j, X9_joinError h.1 hV.1]; rfl
  · rw [k, if_neg (by decide), if_neg (by decide), if_neg (by decide), if_pos rfl, bOp_o, X9_takeError h]; rfl
theorem X9_does (hg : 1000 ≤ g) {b : Bn} {e : Ed} (h : BnM σ o b) (hV : BnV b) (h8 : σ o 8 = e.1) (h10 : σ o 10 = nI e.2.1) (h11 : e.1 = nI 105 ∨ e.1 = nI 109 → σ o 11 = nI e.2.2) (hk : e.1 = nI 105 ∨ e.1 = nI 109 ∨ e.1 = nI 99 ∨ e.1 = nI 106 ∨ e.1 = nI 111) (he : ¬ (bOp e.1 (nI e.2.1) (nI e.2.2) b).1 < 0) : ∃ σ', fX9_does g σ o = some ((bOp e.1 (nI e.2.1) (nI e.2.2) b).1, σ') ∧ BnM σ' o (bOp e.1 (nI e.2.1) (nI e.2.2) b).2 ∧ chB σ σ' o := by
  unfold fX9_does
  rw [h8, h10]
  rcases hk with k | k | k | k | k
  · rw [k, bOp_i] at he ⊢
    obtain ⟨σ1, e1, r1, c1⟩ := X9_puts (g := g) hg h (nI e.2.1) (nI e.2.2) he
    rw [h11 (Or.inl k), if_neg (by decide), if_pos rfl, e1]
    exact ⟨σ1, rfl, r1, c1⟩
  · rw [k, bOp_m] at he ⊢
    obtain ⟨σ1, e1, r1, c1⟩ := X9_moves (g := g) hg h hV (nI e.2.1) (nI e.2.2) he
    rw [h11 (Or.inr k), if_neg (by decide), if_neg (by decide), if_neg (by decide), if_neg (by decide), e1]
    exact ⟨σ1, rfl, r1, c1.B⟩
  · rw [k, bOp_c] at he ⊢
    obtain ⟨σ1, e1, r1, c1⟩ := X9_cuts (g := g) hg h hV (nI e.2.1) he
    rw [if_pos rfl, e1]
    exact ⟨σ1, rfl, r1, c1.B⟩
  · rw [k, bOp_j] at he ⊢
    obtain ⟨σ1, e1, r1, c1⟩ := X9_joins (g := g) hg h hV (nI e.2.1) he
    rw [if_neg (by decide), if_neg (by decide), if_pos rfl, e1]
    exact ⟨σ1, rfl, r1, c1.B⟩
  · rw [k, bOp_o] at he ⊢
    obtain ⟨σ1, e1, r1, c1⟩ := X9_takes (g := g) hg h (nI e.2.1) he
    rw [if_neg (by decide), if_neg (by decide), if_neg (by decide), if_pos rfl, e1]
    exact ⟨σ1, rfl, r1, c1⟩
/-- while the reference does a text's edits: only its bench and the cells of reading change -/
def chX (σ σ' : Mem) (m : Nat) : Prop := (∀ i, i ≠ m → i ≠ m + 1 → σ' i = σ i) ∧ (∀ j, (j < 7 ∨ 12 ≤ j) → σ' m j = σ m j) ∧ ∀ j, j ≠ 1 → j ≠ 2 → (j < 992 ∨ 1132 ≤ j) → σ' (m + 1) j = σ (m + 1) j
theorem chX.rf : chX σ σ o := ⟨fun _ _ _ => rfl, fun _ _ => rfl, fun _ _ _ _ => rfl⟩
theorem chX.tr {σ1 σ2 : Mem} (h : chX σ σ1 o) (h2 : chX σ1 σ2 o) : chX σ σ2 o := ⟨fun i a b => (h2.1 i a b).trans (h.1 i a b), fun j a => (h2.2.1 j a).trans (h.2.1 j a), fun j a b c => (h2.2.2 j a b c).trans (h.2.2 j a b c)⟩
theorem chQ.X {σ1 : Mem} (h : chQ σ σ1 o) : chX σ σ1 o := ⟨fun i a _ => h.1 i a, h.2, fun j _ _ _ => by rw [h.1 _ (by omega)]⟩
theorem chB.X {σ1 : Mem} (h : chB σ σ1 o) : chX σ σ1 o := ⟨fun i _ b => h.1 i b, fun j _ => by rw [h.1 _ (by omega)], h.2⟩
theorem chX.text {σ1 : Mem} {tx : List Int32} (c : chX σ σ1 o) (h : TextM σ o tx) : TextM σ1 o tx := ⟨by rw [c.2.1 6 (by omega)]; exact h.1, h.2.1, fun i d hd => by rw [c.1 _ (by omega) (by omega)]; exact h.2.2 i d hd⟩
theorem chQ.bm {σ1 : Mem} {b : Bn} (c : chQ σ σ1 o) (h : BnM σ o b) : BnM σ1 o b := by
  have e : σ1 (o + 1) = σ (o + 1) := c.1 _ (by omega)
  unfold BnM RowM CanM
  rw [e]
  exact h
theorem X9_edit_28 (hg : 40000 ≤ g) (hv : ScV S.1.1) (hl12 : S.1.1.length ≤ 12) (hn : n < 1000000) {σ0 : Mem} (h0 : SysM σ0 o S) (hk0 : FilmW (fun k => σ0 (o + 2) (30180 + k)) S.1) : ∀ f L i c b σ, L.length < f → i ≤ 61 → BV n S.1.1 b → Run S.2.2.2 L i → chX σ0 σ o → BnM σ o b → σ o 7 = nI i → ∃ σ', fX9_edit_28 g o f σ (nI c) = some ((match edApp L b with | (some r, _) => r | (none, _) => nI (c + L.length)), σ') ∧ SysM σ' o (match edApp L b with | (some _, _) => S | (none, b') => put S (setB S.1 b')) ∧ chM σ0 σ' o := by
  intro f
  induction f with
  | zero => intro L i c b σ q; omega
  | succ f ih =>
    intro L i c b σ h1 hi hB hR hX hb h7
    have hT := hX.text h0.2.2.2.2
    have hl := hT.2.1
    have hV := hB.V hv hl12 hn
    rw [fX9_edit_28, hT.1, h7]
    cases L with
    | nil =>
      have hR : S.2.2.2.length ≤ i := hR
      rw [ifLE_t hR (by omega)]
      have hH : HistM σ o S.2.1 := by
        obtain ⟨a1, a2, a3⟩ := h0.2.1
        exact ⟨by rw [hX.2.1 2 (by omega)]; exact a1, a2, by rw [hX.1 (o + 2) (by omega) (by omega)]; exact a3⟩
      obtain ⟨σ1, p1, r1, c1, c2, c3⟩ := X9_records (g := g) (o := o) (b := 1) (by omega) hg hH (A := S.1) (by
        simp only [if_neg (show ¬ (1 : Nat) = 0 by omega)]
        rw [hX.1 (o + 2) (by omega) (by omega)]
        exact hk0)
      rw [p1, bnd_s]
      refine ⟨σ1, rfl, ⟨?_, r1, ?_, fun A hA => ?_, ?_⟩, fun i hi => by rw [c1 i (by omega) (by omega), hX.1 i (by omega) (by omega)]⟩
      · show FilmW (σ1 (o + 1)) (setB S.1 b)
        rw [c1 (o + 1) (by omega) (by omega)]
        exact h0.1.bench hb.1 hb.2 hX.2.2
      · rw [c2 3 (by omega), hX.2.1 3 (by omega)]; exact h0.2.2.1
      · exact (h0.2.2.2.1 A hA).same (fun j _ => by rw [c3 _ (by omega), hX.1 (o + 2) (by omega) (by omega)])
      · unfold TextM
        rw [c2 6 (by omega), c1 (o + 4) (by omega) (by omega)]
        exact hT
    | cons e L =>
      obtain ⟨k, hE, hR'⟩ := hR
      have hbd := edR_b hE
      rw [ifLE_f (by omega) (by omega)]
      obtain ⟨σ1, m1, q1⟩ := X9_passesEdit (g := g) (m := o) (i := i) (by omega) (by omega) hT h7
      rw [hE] at m1
      obtain ⟨a1, a2, a3, a4, a5⟩ := m1
      have hb1 := q1.bm hb
      rw [a1, bnd2_s, X9_editError (by omega) hb1 hV a3 a4 a5 hbd.2.2.2.2, bnd_s]
      have hX1 := hX.tr q1.X
      by_cases c2 : (bOp e.1 (nI e.2.1) (nI e.2.2) b).1 < 0
      · rw [errOf_lt c2, if_neg (fun q => by rw [q] at c2; exact absurd c2 (by decide))]
        by_cases c3 : (bOp e.1 (nI e.2.1) (nI e.2.2) b).1 = nN 5
        · have ee : edApp (e :: L) b = edApp L b := by
            show (if _ then _ else _ : Option Int32 × Bn) = _
            rw [if_pos c2, if_pos c3]
          rw [if_pos c3, ee, stp_s, a2, if_neg (show ¬ nI 1 = 0 by decide), nI_A, nI_A]
          obtain ⟨σ2, e2, r2, s2⟩ := ih L (k + 1) (c + 1) b (mu σ1 o 7 (nI (k + 1))) (by rw [List.length_cons] at h1; omega) (by omega) hB hR' (hX1.tr (chQ_k (by omega) (by omega)).X) ((chQ_k (by omega) (by omega)).bm hb1) mu_s
          exact ⟨σ2, by rw [e2, List.length_cons, show c + 1 + L.length = c + (L.length + 1) by omega], r2, s2⟩
        · have ee : edApp (e :: L) b = (some (bOp e.1 (nI e.2.1) (nI e.2.2) b).1, b) := by
            show (if _ then _ else _ : Option Int32 × Bn) = _
            rw [if_pos c2, if_neg c3]
          rw [if_neg c3, ee]
          obtain ⟨σ2, p2, s2, r2⟩ := X9_brings (g := g) (σ := σ1) (o := o) (c := 5) hg (by omega)
          rw [p2, bnd_s]
          have e2 : σ1 (o + 2) = σ0 (o + 2) := hX1.1 _ (by omega) (by omega)
          refine ⟨σ2, rfl, ⟨hk0.same (fun j hj => ?_), ?_, ?_, fun A hA => ?_, ?_⟩, fun i hi => by rw [s2 i (by omega), hX1.1 i (by omega) (by omega)]⟩
          · rw [r2, if_pos hj, e2]
          · obtain ⟨b1, b2, b3⟩ := h0.2.1
            exact ⟨by rw [s2 o (by omega), hX1.2.1 2 (by omega)]; exact b1, b2, by rw [s2 (o + 2) (by omega), e2]; exact b3⟩
          · rw [s2 o (by omega), hX1.2.1 3 (by omega)]; exact h0.2.2.1
          · rw [s2 (o + 2) (by omega), e2]; exact h0.2.2.2.1 A hA
          · unfold TextM
            rw [s2 o (by omega), s2 (o + 4) (by omega)]
            exact hX1.text h0.2.2.2.2
      · have ee : edApp (e :: L) b = edApp L (bOp e.1 (nI e.2.1) (nI e.2.2) b).2 := by
          show (if _ then _ else _ : Option Int32 × Bn) = _
          rw [if_neg c2]
        rw [errOf_ge c2, if_pos (show nI 0 = 0 from rfl), ee]
        obtain ⟨σ2, p2, r2, s2⟩ := X9_does (g := g) (o := o) (σ := σ1) (e := e) (by omega) hb1 hV a3 a4 a5 hbd.2.2.2.2 c2
        rw [p2, bnd2_s, stp_s, s2.1 o (by omega), a2, if_neg (show ¬ nI 1 = 0 by decide), if_pos (Int32.not_lt.mp c2), nI_A, nI_A]
        obtain ⟨σ3, e3, r3, s3⟩ := ih L (k + 1) (c + 1) _ (mu σ2 o 7 (nI (k + 1))) (by rw [List.length_cons] at h1; omega) (by omega) (hB.op e.1 (nI e.2.1) (nI e.2.2)) hR' ((hX1.tr s2.X).tr (chQ_k (by omega) (by omega)).X) ((chQ_k (by omega) (by omega)).bm r2) mu_s
        exact ⟨σ3, by rw [e3, List.length_cons, show c + 1 + L.length = c + (L.length + 1) by omega], r3, s3⟩
theorem X9_edit (hg : 40000 ≤ g) (h : SysM σ o S) (hv : ScV S.1.1) (hB : BV n S.1.1 S.1.2.2.1) (hn : n < 1000000) : ∃ σ', fX9_edit g σ o = some ((spEdit S).1, σ') ∧ SysM σ' o (spEdit S).2 ∧ chM σ σ' o := by
  have hT := h.2.2.2.2
  obtain ⟨σ1, e1, c1⟩ := X9_faultOf (g := g) (m := o) (by omega) hT
  have hS1 : SysM σ1 o S := by
    obtain ⟨h1, h2, h3, h4, h5⟩ := h
    unfold SysM HistM
    rw [c1.1 (o + 1) (by omega), c1.1 (o + 2) (by omega), c1.2 2 (by omega), c1.2 3 (by omega)]
    exact ⟨h1, h2, h3, h4, c1.text h5⟩
  unfold fX9_edit spEdit
  cases hE : eds S.2.2.2 with
  | inl f =>
    rw [hE] at e1
    have e1 : fX9_faultOf g σ o = some (nI f, σ1) := e1
    have := eds_f hT.2.1 hE
    rw [e1, bnd2_s, if_neg (fun z => (nN_n (by omega) (by omega) (by omega)).1 z)]
    exact ⟨σ1, rfl, hS1, fun i hi => c1.1 i (by omega)⟩
  | inr L =>
    rw [hE] at e1
    have e1 : fX9_faultOf g σ o = some (nN 5, σ1) := e1
    obtain ⟨σ2, e2, s2, r2⟩ := X9_keeps (g := g) (σ := σ1) (o := o) (c := 5) hg (by omega)
    have hS2 : SysM σ2 o S := by
      obtain ⟨h1, h2, h3, h4, h5⟩ := hS1
      refine ⟨by rw [s2 _ (by omega)]; exact h1, ⟨by rw [s2 o (by omega)]; exact h2.1, h2.2.1, fun i B hB => ?_⟩, by rw [s2 o (by omega)]; exact h3, fun B hB => ?_, by unfold TextM; rw [s2 o (by omega), s2 (o + 4) (by omega)]; exact h5⟩
      · have hi : i < S.2.1.length := lt_of_get hB
        have := h2.2.1
        exact (h2.2.2 i B hB).same (fun j _ => by rw [r2, if_neg (by omega)])
      · exact (h4 B hB).same (fun j _ => by rw [r2, if_neg (by omega)])
    rw [e1, bnd2_s, if_pos rfl, e2, bnd_s, stp_s]
    have k0 : FilmW (fun k => σ2 (o + 2) (30180 + k)) S.1 := hS1.1.same (fun j hj => by
      show σ2 (o + 2) (30180 + j) = _
      rw [r2, if_pos (by omega), show 30180 + j - 5 * 6036 = j by omega])
    have q7 : chQ σ2 (mu σ2 o 7 (nI 0)) o := chQ_k (by omega) (by omega)
    have hL := eds_len hT.2.1 hE
    obtain ⟨σ3, e3, r3, s3⟩ := X9_edit_28 (g := g) (o := o) (S := S) (n := n) hg hv h.1.1.2.1 hn hS2 k0 g L 0 0 S.1.2.2.1 (mu σ2 o 7 (nI 0)) (by omega) (by omega) hB (eds_run hE) q7.X (q7.bm hS2.bm) mu_s
    rw [Nat.zero_add] at e3
    refine ⟨σ3, ?_, ?_, fun i hi => by rw [s3 i hi, s2 i (by omega), c1.1 i (by omega)]⟩
    · rw [e3]
      dsimp only
      rcases edApp L S.1.2.2.1 with ⟨r, b⟩
      cases r <;> rfl
    · dsimp only
      revert r3
      rcases edApp L S.1.2.2.1 with ⟨r, b⟩
      cases r <;> exact fun r3 => r3
end
