/-! PURE ROWS, 19: the text of edits: how both sides read it -/
abbrev Ed : Type := Int32 × Nat × Nat
def isDg (tx : List Int32) (i : Nat) : Bool := match tx[i]? with
  | some c => decide (nI 48 ≤ c) && decide (c ≤ nI 57)
  | none => false
def dg (tx : List Int32) (i : Nat) : Nat := match tx[i]? with
  | some c => c.toNatClampNeg - 48
  | none => 0
def numL (tx : List Int32) : Nat → Nat → Nat → Nat × Nat
  | 0, i, v => (v, i)
  | n + 1, i, v => if isDg tx i = true then numL tx n (i + 1) (v * 10 + dg tx i) else (v, i)
def numR (tx : List Int32) (i : Nat) : Option (Nat × Nat) := if isDg tx i = true then some (numL tx (if dg tx i = 0 then 1 else 3) i 0) else none
def edR (tx : List Int32) (i : Nat) : Option Ed × Nat := match tx[i]? with
  | none => (none, i)
  | some c => if c = nI 105 ∨ c = nI 109 then (match numR tx (i + 1) with
      | none => (none, i + 1)
      | some (v, j) => if tx[j]? = some (nI 44) then (match numR tx (j + 1) with
          | none => (none, j + 1)
          | some (w, k) => (some (c, v, w), k)) else (none, j))
    else if c = nI 99 ∨ c = nI 106 ∨ c = nI 111 then (match numR tx (i + 1) with
      | none => (none, i + 1)
      | some (v, j) => (some (c, v, 0), j)) else (none, i)
def edsT (tx : List Int32) : Nat → Nat → Nat ⊕ List Ed
  | 0, _ => .inl 0
  | n + 1, j => if tx.length ≤ j then .inr [] else if tx[j]? = some (nI 59) then (match edR tx (j + 1) with
      | (none, k) => .inl k
      | (some e, k) => match edsT tx n k with
        | .inl f => .inl f
        | .inr L => .inr (e :: L)) else .inl j
def eds (tx : List Int32) : Nat ⊕ List Ed := match edR tx 0 with
  | (none, k) => .inl k
  | (some e, k) => match edsT tx 21 k with
    | .inl f => .inl f
    | .inr L => .inr (e :: L)
theorem isDg_of {tx : List Int32} {i : Nat} (h : isDg tx i = true) : i < tx.length ∧ dg tx i < 10 ∧ tx[i]? = some (nI (48 + dg tx i)) := by
  unfold isDg at h
  unfold dg
  cases hc : tx[i]? with
  | none => rw [hc] at h; cases h
  | some c =>
    rw [hc] at h
    simp only [Bool.and_eq_true, decide_eq_true_eq] at h
    have hp : ¬ c < 0 := fun q => by
      have := h.1
      rw [Int32.le_iff_toInt_le, nI_toInt (by omega)] at this
      rw [Int32.lt_iff_toInt_lt, show (0 : Int32).toInt = 0 from by decide] at q
      omega
    obtain ⟨j, hj, rfl⟩ := nI_of hp
    have h1 := (nI_LE (by omega) (by omega)).1 h.1
    have h2 := (nI_LE (by omega) (by omega)).1 h.2
    refine ⟨lt_of_get hc, ?_, ?_⟩
    · show (nI j).toNatClampNeg - 48 < 10
      rw [nI_c (by omega)]; omega
    · show some (nI j) = some (nI (48 + ((nI j).toNatClampNeg - 48)))
      rw [nI_c (by omega), show 48 + (j - 48) = j by omega]
theorem numL_b {tx : List Int32} : ∀ n i v, i ≤ (numL tx n i v).2 ∧ ((numL tx n i v).2 ≤ i ∨ (numL tx n i v).2 ≤ tx.length) := by
  intro n
  induction n with
  | zero => intro i v; exact ⟨Nat.le_refl _, Or.inl (Nat.le_refl _)⟩
  | succ n ih =>
    intro i v
    rw [numL]
    by_cases c : isDg tx i = true
    · rw [if_pos c]
      have := ih (i + 1) (v * 10 + dg tx i)
      have := (isDg_of c).1
      omega
    · rw [if_neg c]; exact ⟨Nat.le_refl _, Or.inl (Nat.le_refl _)⟩
theorem numR_b {tx : List Int32} {i v j : Nat} (h : numR tx i = some (v, j)) : i + 1 ≤ j ∧ j ≤ tx.length := by
  unfold numR at h
  by_cases c : isDg tx i = true
  · rw [if_pos c] at h
    have hl := (isDg_of c).1
    have key : ∀ n, (numL tx (n + 1) i 0) = (v, j) → i + 1 ≤ j ∧ j ≤ tx.length := by
      intro n hn
      rw [numL, if_pos c] at hn
      have := numL_b (tx := tx) n (i + 1) (0 * 10 + dg tx i)
      rw [hn] at this
      dsimp only at this
      omega
    have h := Option.some.inj h
    by_cases d : dg tx i = 0
    · rw [if_pos d] at h; exact key 0 h
    · rw [if_neg d] at h; exact key 2 h
  · rw [if_neg c] at h; cases h
theorem edR_b {tx : List Int32} {i k : Nat} {e : Ed} (h : edR tx i = (some e, k)) : i + 2 ≤ k ∧ k ≤ tx.length ∧ i < tx.length ∧ tx[i]? = some e.1 ∧ (e.1 = nI 105 ∨ e.1 = nI 109 ∨ e.1 = nI 99 ∨ e.1 = nI 106 ∨ e.1 = nI 111) := by
  unfold edR at h
  cases hc : tx[i]? with
  | none => rw [hc] at h; cases h
  | some c =>
    rw [hc] at h
    dsimp only at h
    have hl := lt_of_get hc
    by_cases c2 : c = nI 105 ∨ c = nI 109
    · rw [if_pos c2] at h
      cases hn : numR tx (i + 1) with
      | none => rw [hn] at h; cases h
      | some vj =>
        obtain ⟨v, j⟩ := vj
        rw [hn] at h
        dsimp only at h
        have := numR_b hn
        by_cases c3 : tx[j]? = some (nI 44)
        · rw [if_pos c3] at h
          cases hn2 : numR tx (j + 1) with
          | none => rw [hn2] at h; cases h
          | some wk =>
            obtain ⟨w, k'⟩ := wk
            rw [hn2] at h
            have := numR_b hn2
            cases h
            exact ⟨by omega, by omega, hl, rfl, by rcases c2 with c2 | c2 <;> simp [c2]⟩
        · rw [if_neg c3] at h; cases h
    · rw [if_neg c2] at h
      by_cases c3 : c = nI 99 ∨ c = nI 106 ∨ c = nI 111
      · rw [if_pos c3] at h
        cases hn : numR tx (i + 1) with
        | none => rw [hn] at h; cases h
        | some vj =>
          obtain ⟨v, j⟩ := vj
          rw [hn] at h
          have := numR_b hn
          cases h
          exact ⟨by omega, by omega, hl, rfl, by rcases c3 with c3 | c3 | c3 <;> simp [c3]⟩
      · rw [if_neg c3] at h; cases h
/-- the class's list of edits read so far -/
def EdC (σ : Mem) (q : Nat) (es : List Ed) : Prop := σ q 1 = nI es.length ∧ ∀ (i : Nat) (e : Ed), es[i]? = some e → σ (q + 1) i = e.1 ∧ σ (q + 2) i = nI e.2.1 ∧ σ (q + 3) i = nI e.2.2
/-- only the place and the number change -/
def chT (σ σ' : Mem) (q : Nat) : Prop := (∀ i, i ≠ q → σ' i = σ i) ∧ ∀ j, j ≠ 6 → j ≠ 7 → σ' q j = σ q j
theorem chT.rf {σ : Mem} {q : Nat} : chT σ σ q := ⟨fun _ _ => rfl, fun _ _ _ => rfl⟩
theorem chT.tr {σ σ1 σ2 : Mem} {q : Nat} (h : chT σ σ1 q) (h2 : chT σ1 σ2 q) : chT σ σ2 q := ⟨fun i a => (h2.1 i a).trans (h.1 i a), fun j a b => (h2.2 j a b).trans (h.2 j a b)⟩
theorem chT_6 {σ : Mem} {q : Nat} {x : Int32} : chT σ (mu σ q 6 x) q := ⟨fun _ a => mu_n a, fun _ a _ => mu_k a⟩
theorem chT_7 {σ : Mem} {q : Nat} {x : Int32} : chT σ (mu σ q 7 x) q := ⟨fun _ a => mu_n a, fun _ _ a => mu_k a⟩
theorem chT.text {σ σ' : Mem} {q : Nat} {tx : List Int32} (c : chT σ σ' q) (h : TextC σ q tx) : TextC σ' q tx := ⟨by rw [c.2 0 (by omega) (by omega)]; exact h.1, h.2.1, fun i d hd => by rw [c.1 _ (by omega)]; exact h.2.2 i d hd⟩
theorem chT.eds {σ σ' : Mem} {q : Nat} {es : List Ed} (c : chT σ σ' q) (h : EdC σ q es) : EdC σ' q es := ⟨by rw [c.2 1 (by omega) (by omega)]; exact h.1, fun i d hd => by rw [c.1 _ (by omega), c.1 _ (by omega), c.1 _ (by omega)]; exact h.2 i d hd⟩
section
variable {g q : Nat} {σ : Mem} {tx : List Int32} {i : Nat}
theorem X1_signHere (h : TextC σ q tx) (hp : σ q 6 = nI i) (hi : i < 1000) : fX1_signHere g σ q = some ((tx[i]?).getD (nN 5)) := by
  have hl := h.2.1
  unfold fX1_signHere
  rw [h.1, hp]
  by_cases c : tx.length ≤ i
  · rw [ifLE_t c (by omega), List.getElem?_eq_none c]; rfl
  · obtain ⟨d, hd⟩ := get_of (L := tx) (i := i) (by omega)
    have e4 := h.2.2 i d hd
    simp (disch := omega) only [chk_T, okI_t, okI_f, okI_nN, b2i_t, b2i_f, ifTT, ifFT, ite_true, ite_false, nI_c, bnd_s, bnd2_s, stp_s, ifLE_t, ifLE_f, ifLT_t, ifLT_f, ifE_t, ifE_f, if0_t, if0_f, ifn0, ifp0, ifl0_t, ifl0_f, ifg0_t, ifg0_f, ifnE, ifnE2, ifNE_t, ifNE_f, ifN0, ifNl, ifNp, ifB, nI_A, nI_S, nI_M, mu_s, mu_k, mu_n, mcp_n, hd, e4]
    rfl
theorem X1_isDigitHere (h : TextC σ q tx) (hp : σ q 6 = nI i) (hi : i < 1000) : fX1_isDigitHere g σ q = some (b2i (isDg tx i)) := by
  unfold fX1_isDigitHere isDg
  rw [X1_signHere h hp hi, bnd_s, X8_isWithin, bnd_s, chk_t isZ_b]
  cases tx[i]? with
  | none => rfl
  | some c => rfl
theorem X1_readNumber_31 {lim : Nat} (hlim : lim ≤ 3) : ∀ n k i v σ, k ≤ lim → lim - k < n → i ≤ 60 → TextC σ q tx → σ q 6 = nI i → σ q 7 = nI v → ∃ σ', fX1_readNumber_31 g q n σ (nI lim) (nI k) = some (nI 1, σ') ∧ σ' q 7 = nI (numL tx (lim - k) i v).1 ∧ σ' q 6 = nI (numL tx (lim - k) i v).2 ∧ chT σ σ' q := by
  intro n
  induction n with
  | zero => intro k i v σ _ q; omega
  | succ n ih =>
    intro k i v σ h1 h2 hi hT h6 h7
    rw [fX1_readNumber_31]
    by_cases c : k = lim
    · subst c
      rw [ifLE_t (Nat.le_refl _) (by omega), Nat.sub_self]
      exact ⟨σ, rfl, h7, h6, chT.rf⟩
    · rw [ifLE_f (by omega) (by omega), X1_isDigitHere hT h6 (by omega), bnd_s]
      obtain ⟨d, hd⟩ : ∃ d, lim - k = d + 1 := ⟨lim - k - 1, by omega⟩
      rw [hd, numL]
      cases c2 : isDg tx i with
      | false =>
        rw [if_pos (show b2i false = 0 from rfl), if_neg (fun z => Bool.noConfusion z)]
        exact ⟨σ, rfl, h7, h6, chT.rf⟩
      | true =>
        obtain ⟨d1, d2, d3⟩ := isDg_of c2
        have hl := hT.2.1
        rw [if_neg (show ¬ b2i true = 0 by decide), if_pos (show true = true from rfl), X1_signHere hT h6 (by omega), bnd_s, stp_s, stp_s, h7, d3, Option.getD_some, nI_M, nI_A, nI_S (by omega), show v * 10 + (48 + dg tx i) - 48 = v * 10 + dg tx i by omega, mu_k (by omega), h6, nI_A, nI_A]
        obtain ⟨σ1, e1, r1, r2, c1⟩ := ih (k + 1) (i + 1) (v * 10 + dg tx i) (mu (mu σ q 7 (nI (v * 10 + dg tx i))) q 6 (nI (i + 1))) (by omega) (by omega) (by omega) ((chT_7.tr chT_6).text hT) mu_s (by rw [mu_k (by omega), mu_s])
        rw [show lim - (k + 1) = d by omega] at r1 r2
        exact ⟨σ1, e1, r1, r2, (chT_7.tr chT_6).tr c1⟩
theorem X1_readNumber (hg : 1000 ≤ g) (hi : i ≤ 60) (hT : TextC σ q tx) (h6 : σ q 6 = nI i) : ∃ σ', (match numR tx i with | some (v, j) => fX1_readNumber g σ q = some (nI 1, σ') ∧ σ' q 7 = nI v ∧ σ' q 6 = nI j | none => fX1_readNumber g σ q = some (nI 0, σ') ∧ σ' q 6 = nI i) ∧ chT σ σ' q := by
  unfold fX1_readNumber numR
  rw [X1_isDigitHere hT h6 (by omega), bnd_s]
  cases c2 : isDg tx i with
  | false =>
    rw [if_pos (show b2i false = 0 from rfl), if_neg (fun z => Bool.noConfusion z)]
    exact ⟨σ, ⟨rfl, h6⟩, chT.rf⟩
  | true =>
    obtain ⟨d1, d2, d3⟩ := isDg_of c2
    rw [if_neg (show ¬ b2i true = 0 by decide), if_pos (show true = true from rfl), stp_s, X1_signHere (chT_7.text hT) (by rw [mu_k (by omega)]; exact h6) (by omega), bnd_s, d3, Option.getD_some]
    have hlim : (if nI (48 + dg tx i) = nI 48 then nI 1 else nI 3) = nI (if dg tx i = 0 then 1 else 3) := by
      by_cases d : dg tx i = 0
      · rw [if_pos d, d]; rfl
      · rw [if_neg d, if_neg (fun z => by have := (nI_E (by omega) (by omega)).1 z; omega)]
    have hle : (if dg tx i = 0 then 1 else 3) ≤ 3 := by split <;> omega
    rw [hlim]
    obtain ⟨σ1, e1, r1, r2, c1⟩ := X1_readNumber_31 (g := g) (q := q) (tx := tx) hle g 0 i 0 (mu σ q 7 (nI 0)) (by omega) (by omega) hi (chT_7.text hT) (by rw [mu_k (by omega)]; exact h6) mu_s
    rw [Nat.sub_zero] at r1 r2
    exact ⟨σ1, ⟨e1, r1, r2⟩, chT_7.tr c1⟩
/-- after an edit has been put down: the list, the place, the number -/
def chL (σ σ' : Mem) (q : Nat) : Prop := (∀ i, (i < q ∨ q + 4 ≤ i) → σ' i = σ i) ∧ ∀ j, j ≠ 1 → j ≠ 6 → j ≠ 7 → σ' q j = σ q j
theorem chL.rf : chL σ σ q := ⟨fun _ _ => rfl, fun _ _ _ _ => rfl⟩
theorem chL.tr {σ1 σ2 : Mem} (h : chL σ σ1 q) (h2 : chL σ1 σ2 q) : chL σ σ2 q := ⟨fun i a => (h2.1 i a).trans (h.1 i a), fun j a b c => (h2.2 j a b c).trans (h.2 j a b c)⟩
theorem chT.L {σ1 : Mem} (h : chT σ σ1 q) : chL σ σ1 q := ⟨fun i a => h.1 i (by omega), fun j a b c => h.2 j b c⟩
theorem chL.text {σ' : Mem} (c : chL σ σ' q) (h : TextC σ q tx) : TextC σ' q tx := ⟨by rw [c.2 0 (by omega) (by omega) (by omega)]; exact h.1, h.2.1, fun i d hd => by rw [c.1 _ (by omega)]; exact h.2.2 i d hd⟩
theorem X1_addEdit {es : List Ed} {c : Int32} {v w : Nat} (h : EdC σ q es) (hl : es.length < 20) : ∃ σ', fX1_addEdit g σ q c (nI v) (nI w) = some σ' ∧ EdC σ' q (es ++ [(c, v, w)]) ∧ chL σ σ' q ∧ σ' q 6 = σ q 6 := by
  unfold fX1_addEdit
  simp (disch := omega) only [chk_T, okI_t, okI_f, okI_nN, b2i_t, b2i_f, ifTT, ifFT, ite_true, ite_false, nI_c, bnd_s, bnd2_s, stp_s, ifLE_t, ifLE_f, ifLT_t, ifLT_f, ifE_t, ifE_f, if0_t, if0_f, ifn0, ifp0, ifl0_t, ifl0_f, ifg0_t, ifg0_f, ifnE, ifnE2, ifNE_t, ifNE_f, ifN0, ifNl, ifNp, ifB, nI_A, nI_S, nI_M, mu_s, mu_k, mu_n, mcp_n, h.1]
  refine ⟨_, rfl, ⟨?_, fun i e he => ?_⟩, ⟨fun i hi => by simp (disch := omega) only [mu_n], fun j a b c => by simp (disch := omega) only [mu_k, mu_n]⟩, by simp (disch := omega) only [mu_k, mu_n]⟩
  · rw [mu_s, List.length_append, List.length_singleton]
  · simp (disch := omega) only [mu_n, mu_ij]
    by_cases z : i < es.length
    · rw [List.getElem?_append_left z] at he
      simp (disch := omega) only [if_pos, if_neg, ite_true, ite_false, Option.map_some]
      exact h.2 i e he
    · have := lt_of_get he
      rw [List.length_append, List.length_singleton] at this
      rw [List.getElem?_append_right (by omega), show i - es.length = 0 by omega] at he
      cases he
      simp (disch := omega) only [if_pos, if_neg, ite_true, ite_false, Option.map_some]
      first | trivial | exact ⟨rfl, rfl, rfl⟩
theorem X1_readSign {p : Nat} (hp : p < 1000) (hi : i < 1000) (hT : TextC σ q tx) (h6 : σ q 6 = nI i) : fX1_readSign g σ q (nI p) = if tx[i]? = some (nI p) then some (nI 1, mu σ q 6 (nI (i + 1))) else some (nI 0, σ) := by
  unfold fX1_readSign
  rw [X1_signHere hT h6 hi, bnd_s]
  cases hc : tx[i]? with
  | none =>
    rw [Option.getD_none, if_neg (fun z => (nN_n' (by omega) (by omega) (by omega)).1 z), if_neg (show ¬ (none : Option Int32) = some (nI p) by simp)]
  | some c =>
    rw [Option.getD_some]
    by_cases e : c = nI p
    · rw [if_pos e, if_pos (by rw [e]), stp_s, h6, nI_A]
    · rw [if_neg e, if_neg (fun z => e (Option.some.inj z))]
theorem X1_readEdit (hg : 1000 ≤ g) {es : List Ed} (hi : i ≤ 60) (hes : 3 * es.length ≤ i) (hT : TextC σ q tx) (h6 : σ q 6 = nI i) (hE : EdC σ q es) : ∃ σ', (match edR tx i with | (some e, k) => fX1_readEdit g σ q = some (nI 1, σ') ∧ σ' q 6 = nI k ∧ EdC σ' q (es ++ [e]) | (none, k) => fX1_readEdit g σ q = some (nI 0, σ') ∧ σ' q 6 = nI k) ∧ chL σ σ' q := by
  have hl := hT.2.1
  unfold fX1_readEdit
  rw [X1_signHere hT h6 (by omega), bnd_s]
  cases hR : edR tx i with
  | mk r k =>
  have hR0 := hR
  unfold edR at hR
  cases hc : tx[i]? with
  | none =>
    rw [hc] at hR
    cases hR
    rw [Option.getD_none, if_neg (fun z => (nN_n' (by omega) (by omega) (by omega)).1 z), if_neg (fun z => (nN_n' (by omega) (by omega) (by omega)).1 z)]
    unfold fX1_readEdit_22
    rw [if_pos (show nI 0 = 0 from rfl), if_neg (fun z => (nN_n' (by omega) (by omega) (by omega)).1 z), if_neg (fun z => (nN_n' (by omega) (by omega) (by omega)).1 z), if_neg (fun z => (nN_n' (by omega) (by omega) (by omega)).1 z)]
    exact ⟨σ, ⟨rfl, h6⟩, chL.rf⟩
  | some c =>
    have hil := lt_of_get hc
    rw [hc] at hR
    dsimp only at hR
    rw [Option.getD_some]
    have hT1 : TextC (mu σ q 6 (nI (i + 1))) q tx := chT_6.text hT
    obtain ⟨σ1, m1, c1⟩ := X1_readNumber (g := g) (σ := mu σ q 6 (nI (i + 1))) (i := i + 1) hg (by omega) hT1 mu_s
    have hc01 := chT_6.tr c1
    by_cases c2 : c = nI 105 ∨ c = nI 109
    · rw [if_pos c2] at hR
      have go : (if c = nI 105 then fX1_readEdit_22 g q σ c (nI 1) else fX1_readEdit_22 g q σ c (if c = nI 109 then nI 1 else nI 0)) = fX1_readEdit_47 g q σ c (nI 1) := by
        have e22 : fX1_readEdit_22 g q σ c (nI 1) = fX1_readEdit_47 g q σ c (nI 1) := by
          unfold fX1_readEdit_22
          rw [if_neg (show ¬ nI 1 = 0 by decide)]
        by_cases z : c = nI 105
        · rw [if_pos z]; exact e22
        · rw [if_neg z, if_pos (c2.resolve_left z)]; exact e22
      rw [go]
      unfold fX1_readEdit_47
      rw [stp_s, h6, nI_A]
      cases hn : numR tx (i + 1) with
      | none =>
        rw [hn] at m1 hR
        cases hR
        rw [m1.1, bnd2_s, if_pos (show nI 0 = 0 from rfl)]
        exact ⟨σ1, ⟨rfl, m1.2⟩, hc01.L⟩
      | some vj =>
        obtain ⟨v, j⟩ := vj
        rw [hn] at m1 hR
        dsimp only at m1 hR
        have hb := numR_b hn
        rw [m1.1, bnd2_s, if_neg (show ¬ nI 1 = 0 by decide), if_neg (show ¬ nI 1 = 0 by decide), X1_readSign (by omega) (by omega) (hc01.text hT) m1.2.2]
        by_cases c3 : tx[j]? = some (nI 44)
        · rw [if_pos c3] at hR ⊢
          rw [bnd2_s, if_neg (show ¬ nI 1 = 0 by decide)]
          have hj := lt_of_get c3
          have hc02 := hc01.tr (chT_6 (x := nI (j + 1)))
          obtain ⟨σ2, m2, c4⟩ := X1_readNumber (g := g) (σ := mu σ1 q 6 (nI (j + 1))) (i := j + 1) hg (by omega) (hc02.text hT) mu_s
          have hc03 := hc02.tr c4
          cases hn2 : numR tx (j + 1) with
          | none =>
            rw [hn2] at m2 hR
            cases hR
            rw [m2.1, bnd2_s, if_pos (show nI 0 = 0 from rfl)]
            exact ⟨σ2, ⟨rfl, m2.2⟩, hc03.L⟩
          | some wk =>
            obtain ⟨w, k'⟩ := wk
            rw [hn2] at m2 hR
            have hb2 := numR_b hn2
            cases hR
            dsimp only at m2
            rw [m2.1, bnd2_s, if_neg (show ¬ nI 1 = 0 by decide), if_neg (show ¬ nI 1 = 0 by decide), m1.2.1, m2.2.1]
            obtain ⟨σ3, e3, r3, c5, t3⟩ := X1_addEdit (g := g) (c := c) (v := v) (w := w) (hc03.eds hE) (by omega)
            rw [e3, bnd_s]
            exact ⟨σ3, ⟨rfl, by rw [t3]; exact m2.2.2, r3⟩, hc03.L.tr c5⟩
        · rw [if_neg c3] at hR ⊢
          cases hR
          rw [bnd2_s, if_pos (show nI 0 = 0 from rfl)]
          exact ⟨σ1, ⟨rfl, m1.2.2⟩, hc01.L⟩
    · rw [if_neg c2] at hR
      rw [if_neg (fun z => c2 (Or.inl z)), if_neg (fun z => c2 (Or.inr z))]
      unfold fX1_readEdit_22
      rw [if_pos (show nI 0 = 0 from rfl)]
      by_cases c3 : c = nI 99 ∨ c = nI 106 ∨ c = nI 111
      · rw [if_pos c3] at hR
        have go : (if c = nI 99 then fX1_readEdit_47 g q σ c (nI 0) else if c = nI 106 then fX1_readEdit_47 g q σ c (nI 0) else if c = nI 111 then fX1_readEdit_47 g q σ c (nI 0) else some (nI 0, σ)) = fX1_readEdit_47 g q σ c (nI 0) := by
          by_cases z : c = nI 99
          · rw [if_pos z]
          · by_cases z2 : c = nI 106
            · rw [if_neg z, if_pos z2]
            · rw [if_neg z, if_neg z2, if_pos ((c3.resolve_left z).resolve_left z2)]
        rw [go]
        unfold fX1_readEdit_47
        rw [stp_s, h6, nI_A]
        cases hn : numR tx (i + 1) with
        | none =>
          rw [hn] at m1 hR
          cases hR
          rw [m1.1, bnd2_s, if_pos (show nI 0 = 0 from rfl)]
          exact ⟨σ1, ⟨rfl, m1.2⟩, hc01.L⟩
        | some vj =>
          obtain ⟨v, j⟩ := vj
          rw [hn] at m1 hR
          have hb := numR_b hn
          cases hR
          dsimp only at m1
          rw [m1.1, bnd2_s, if_neg (show ¬ nI 1 = 0 by decide), if_pos (show nI 0 = 0 from rfl), if_pos (show nI 0 = 0 from rfl), m1.2.1]
          obtain ⟨σ3, e3, r3, c5, t3⟩ := X1_addEdit (g := g) (c := c) (v := v) (w := 0) (hc01.eds hE) (by omega)
          rw [e3, bnd_s]
          exact ⟨σ3, ⟨rfl, by rw [t3]; exact m1.2.2, r3⟩, hc01.L.tr c5⟩
      · rw [if_neg c3] at hR
        cases hR
        rw [if_neg (fun z => c3 (Or.inl z)), if_neg (fun z => c3 (Or.inr (Or.inl z))), if_neg (fun z => c3 (Or.inr (Or.inr z)))]
        exact ⟨σ, ⟨rfl, h6⟩, chL.rf⟩
/-- how a reading of the whole text ends in the class -/
def endsC (σ' : Mem) (q : Nat) (r : Option (Int32 × Mem)) (es : List Ed) : Nat ⊕ List Ed → Prop
  | .inl f => r = some (nI f, σ')
  | .inr L => r = some (nN 1, σ') ∧ EdC σ' q (es ++ L)
theorem X1_readEdits_0 {f n x : Nat} (h6 : σ q 6 = nI f) : fX1_readEdits_17 g q (n + 1) σ (nI 0) (nI x) = some (nI f, σ) := by
  rw [fX1_readEdits_17, h6]
  simp only [if_pos (show nI 0 = 0 from rfl), ite_self]
theorem X1_readEdits_17 (hg : 1000 ≤ g) : ∀ n f j x es σ, 60 < j + 3 * f → x + n > 70 → 3 * x ≤ j → j ≤ tx.length → 3 * es.length ≤ j + 1 → TextC σ q tx → σ q 6 = nI j → EdC σ q es → ∃ σ', endsC σ' q (fX1_readEdits_17 g q n σ (nI 1) (nI x)) es (edsT tx f j) ∧ chL σ σ' q := by
  intro n
  induction n with
  | zero => intro f j x es σ h1 h2 h3 h4 _ hT; have := hT.2.1; omega
  | succ n ih =>
    intro f j x es σ h1 h2 h3 h4 h5 hT h6 hE
    have hl := hT.2.1
    obtain ⟨f, rfl⟩ : ∃ f', f = f' + 1 := ⟨f - 1, by omega⟩
    rw [fX1_readEdits_17, edsT]
    rw [ifLE_f (by omega) (by omega), if_neg (show ¬ nI 1 = 0 by decide), if_neg (show ¬ nI 1 = 0 by decide), hT.1, h6]
    by_cases c : tx.length ≤ j
    · rw [ifLE_t c (by omega), if_pos c]
      exact ⟨σ, ⟨rfl, by rw [List.append_nil]; exact hE⟩, chL.rf⟩
    · rw [ifLE_f (by omega) (by omega), if_neg c, X1_readSign (by omega) (by omega) hT h6]
      obtain ⟨m, rfl⟩ : ∃ m, n = m + 1 := ⟨n - 1, by omega⟩
      by_cases c2 : tx[j]? = some (nI 59)
      · rw [if_pos c2, if_pos c2, bnd2_s, if_neg (show ¬ nI 1 = 0 by decide)]
        obtain ⟨σ1, m1, c1⟩ := X1_readEdit (g := g) (σ := mu σ q 6 (nI (j + 1))) (i := j + 1) (es := es) hg (by omega) (by omega) (chT_6.text hT) mu_s (chT_6.eds hE)
        have hc01 := (chT_6 (σ := σ) (q := q) (x := nI (j + 1))).L.tr c1
        cases hR : edR tx (j + 1) with
        | mk r k =>
        cases r with
        | none =>
          rw [hR] at m1
          dsimp only at m1
          rw [m1.1, bnd2_s, if_pos (show nI 0 = 0 from rfl), nI_A, X1_readEdits_0 m1.2]
          exact ⟨σ1, rfl, hc01⟩
        | some e =>
          rw [hR] at m1
          dsimp only at m1
          have hb := edR_b hR
          rw [m1.1, bnd2_s, if_neg (show ¬ nI 1 = 0 by decide), nI_A]
          obtain ⟨σ2, e2, c3⟩ := ih f k (x + 1) (es ++ [e]) σ1 (by omega) (by omega) (by omega) (by omega) (by rw [List.length_append, List.length_singleton]; omega) (hc01.text hT) m1.2.1 m1.2.2
          refine ⟨σ2, ?_, hc01.tr c3⟩
          dsimp only
          cases hE2 : edsT tx f k with
          | inl f' => rw [hE2] at e2; exact e2
          | inr L =>
            rw [hE2] at e2
            refine ⟨e2.1, ?_⟩
            have := e2.2
            rw [List.append_assoc] at this
            exact this
      · rw [if_neg c2, if_neg c2, bnd2_s, if_pos (show nI 0 = 0 from rfl), nI_A, X1_readEdits_0 h6]
        exact ⟨σ, rfl, chL.rf⟩
theorem X1_readEdits (hg : 1000 ≤ g) (hT : TextC σ q tx) : ∃ σ', endsC σ' q (fX1_readEdits g σ q) [] (eds tx) ∧ chL σ σ' q := by
  have hl := hT.2.1
  unfold fX1_readEdits eds
  rw [stp_s, stp_s]
  have c0 : chL σ (mu (mu σ q 1 (nI 0)) q 6 (nI 0)) q := ⟨fun i a => by rw [mu_n (by omega), mu_n (by omega)], fun j a b c => by rw [mu_k b, mu_k a]⟩
  obtain ⟨σ1, m1, c1⟩ := X1_readEdit (g := g) (σ := mu (mu σ q 1 (nI 0)) q 6 (nI 0)) (i := 0) (es := []) hg (by omega) (by simp) (c0.text hT) mu_s ⟨by rw [mu_k (by omega), mu_s]; rfl, fun i e he => by simp at he⟩
  cases hR : edR tx 0 with
  | mk r k =>
  cases r with
  | none =>
    rw [hR] at m1
    dsimp only at m1
    rw [m1.1, bnd2_s]
    obtain ⟨n, rfl⟩ : ∃ n, g = n + 1 := ⟨g - 1, by omega⟩
    rw [X1_readEdits_0 m1.2]
    exact ⟨σ1, rfl, c0.tr c1⟩
  | some e =>
    rw [hR] at m1
    dsimp only at m1
    have hb := edR_b hR
    rw [m1.1, bnd2_s]
    obtain ⟨σ2, e2, c3⟩ := X1_readEdits_17 (g := g) (q := q) (tx := tx) hg g 21 k 0 [e] σ1 (by omega) (by omega) (by omega) (by omega) (by simp; omega) ((c0.tr c1).text hT) m1.2.1 m1.2.2
    refine ⟨σ2, ?_, (c0.tr c1).tr c3⟩
    dsimp only
    cases hE2 : edsT tx 21 k with
    | inl f' => rw [hE2] at e2; exact e2
    | inr L => rw [hE2] at e2; exact e2
end
