/-! PURE ROWS, 21: the reference reads the text of edits -/
/-- only the reference's cells of reading change -/
def chQ (σ σ' : Mem) (m : Nat) : Prop := (∀ i, i ≠ m → σ' i = σ i) ∧ ∀ j, (j < 7 ∨ 12 ≤ j) → σ' m j = σ m j
theorem chQ.rf {σ : Mem} {m : Nat} : chQ σ σ m := ⟨fun _ _ => rfl, fun _ _ => rfl⟩
theorem chQ.tr {σ σ1 σ2 : Mem} {m : Nat} (h : chQ σ σ1 m) (h2 : chQ σ1 σ2 m) : chQ σ σ2 m := ⟨fun i a => (h2.1 i a).trans (h.1 i a), fun j a => (h2.2 j a).trans (h.2 j a)⟩
theorem chQ_k {σ : Mem} {m k : Nat} {x : Int32} (h : 7 ≤ k) (h2 : k < 12) : chQ σ (mu σ m k x) m := ⟨fun _ a => mu_n a, fun _ a => mu_k (by omega)⟩
theorem chQ.text {σ σ' : Mem} {m : Nat} {tx : List Int32} (c : chQ σ σ' m) (h : TextM σ m tx) : TextM σ' m tx := ⟨by rw [c.2 6 (by omega)]; exact h.1, h.2.1, fun i d hd => by rw [c.1 _ (by omega)]; exact h.2.2 i d hd⟩
section
variable {g m : Nat} {σ : Mem} {tx : List Int32} {i : Nat}
theorem X9_isHere (hT : TextM σ m tx) (h7 : σ m 7 = nI i) (hi : i < 1000) (lo hh : Int32) : fX9_isHere g σ m lo hh = some (b2i (match tx[i]? with | some c => decide (lo ≤ c) && decide (c ≤ hh) | none => false)) := by
  have hl := hT.2.1
  unfold fX9_isHere
  rw [hT.1, h7]
  by_cases c : tx.length ≤ i
  · rw [ifLE_t c (by omega), List.getElem?_eq_none c]; rfl
  · obtain ⟨d, hd⟩ := get_of (L := tx) (i := i) (by omega)
    have e4 := hT.2.2 i d hd
    simp (disch := omega) only [chk_T, okI_t, okI_f, okI_nN, b2i_t, b2i_f, ifTT, ifFT, ite_true, ite_false, nI_c, bnd_s, bnd2_s, stp_s, ifLE_t, ifLE_f, ifLT_t, ifLT_f, ifE_t, ifE_f, if0_t, if0_f, ifn0, ifp0, ifl0_t, ifl0_f, ifg0_t, ifg0_f, ifnE, ifnE2, ifNE_t, ifNE_f, ifN0, ifNl, ifNp, ifB, nI_A, nI_S, nI_M, mu_s, mu_k, mu_n, mcp_n, hd, e4, X9_isIn]
    cases (decide (lo ≤ d) && decide (d ≤ hh)) <;> rfl
theorem isDg_eq : (match tx[i]? with | some c => decide (nI 48 ≤ c) && decide (c ≤ nI 57) | none => false) = isDg tx i := rfl
theorem X9_passesSign (hT : TextM σ m tx) (h7 : σ m 7 = nI i) (hi : i < 1000) (p : Int32) : ∃ σ', fX9_passesSign g σ m p = some ((if tx[i]? = some p then nI 1 else nI 0), σ') ∧ σ' m 7 = nI (if tx[i]? = some p then i + 1 else i) ∧ chQ σ σ' m ∧ ∀ j, j ≠ 7 → σ' m j = σ m j := by
  unfold fX9_passesSign
  rw [X9_isHere hT h7 hi, bnd_s, stp_s, h7]
  have e : (match tx[i]? with | some c => decide (p ≤ c) && decide (c ≤ p) | none => false) = decide (tx[i]? = some p) := by
    cases hc : tx[i]? with
    | none => rw [decide_eq_false (by simp)]
    | some c =>
      by_cases z : c = p
      · subst z
        rw [decide_eq_true rfl]
        simp [Int32.le_refl]
      · rw [decide_eq_false (fun w => z (Option.some.inj w))]
        by_cases a : p ≤ c
        · by_cases b : c ≤ p
          · exact absurd (Int32.le_antisymm b a) z
          · simp [b]
        · simp [a]
  rw [e]
  by_cases c : tx[i]? = some p
  · rw [decide_eq_true c, if_pos c, if_pos c, if_neg (show ¬ b2i true = 0 by decide), nI_A]
    exact ⟨_, rfl, mu_s, chQ_k (by omega) (by omega), fun j hj => mu_k hj⟩
  · rw [decide_eq_false c, if_neg c, if_neg c, if_pos (show b2i false = 0 from rfl), nI_A, Nat.add_zero]
    exact ⟨_, rfl, mu_s, chQ_k (by omega) (by omega), fun j hj => mu_k hj⟩
theorem X9_passesNumber_38 : ∀ n k i v σ, 1 ≤ k → k ≤ 3 → 3 - k < n → i ≤ 60 → 0 < v → v < 10 ^ k → TextM σ m tx → σ m 7 = nI i → ∃ σ', fX9_passesNumber_38 g m n σ (nI v) (nI k) = some (nI 1, σ') ∧ σ' m 9 = nI (numL tx (3 - k) i v).1 ∧ σ' m 7 = nI (numL tx (3 - k) i v).2 ∧ chQ σ σ' m ∧ σ' m 8 = σ m 8 ∧ σ' m 10 = σ m 10 := by
  intro n
  induction n with
  | zero => intro k i v σ _ _ q; omega
  | succ n ih =>
    intro k i v σ h0 h1 h2 hi hv hvk hT h7
    have hvb : v < 1000 := Nat.lt_of_lt_of_le hvk (Nat.pow_le_pow_right (by omega) h1)
    rw [fX9_passesNumber_38]
    by_cases c : k = 3
    · subst c
      rw [ifLE_t (Nat.le_refl _) (by omega), stp_s]
      exact ⟨_, rfl, mu_s, by rw [mu_k (by omega)]; exact h7, chQ_k (by omega) (by omega), mu_k (by omega), mu_k (by omega)⟩
    · rw [ifLE_f (by omega) (by omega), ifl0_f hv (by omega), X9_isHere hT h7 (by omega), isDg_eq, bnd_s]
      obtain ⟨d, hd⟩ : ∃ d, 3 - k = d + 1 := ⟨3 - k - 1, by omega⟩
      rw [hd, numL]
      cases c2 : isDg tx i with
      | false =>
        rw [if_pos (show b2i false = 0 from rfl), if_neg (fun z => Bool.noConfusion z), stp_s]
        exact ⟨_, rfl, mu_s, by rw [mu_k (by omega)]; exact h7, chQ_k (by omega) (by omega), mu_k (by omega), mu_k (by omega)⟩
      | true =>
        obtain ⟨d1, d2, d3⟩ := isDg_of c2
        have hl := hT.2.1
        have e4 := hT.2.2 i _ d3
        rw [if_neg (show ¬ b2i true = 0 by decide), if_pos (show true = true from rfl), h7]
        simp (disch := omega) only [chk_T, okI_t, okI_f, okI_nN, b2i_t, b2i_f, ifTT, ifFT, ite_true, ite_false, nI_c, bnd_s, bnd2_s, stp_s, ifLE_t, ifLE_f, ifLT_t, ifLT_f, ifE_t, ifE_f, if0_t, if0_f, ifn0, ifp0, ifl0_t, ifl0_f, ifg0_t, ifg0_f, ifnE, ifnE2, ifNE_t, ifNE_f, ifN0, ifNl, ifNp, ifB, nI_A, nI_S, nI_M, mu_s, mu_k, mu_n, mcp_n, e4]
        rw [show 10 * v + (48 + dg tx i) - 48 = v * 10 + dg tx i by omega]
        have hp : 10 ^ (k + 1) = 10 ^ k * 10 := Nat.pow_succ 10 k
        obtain ⟨σ1, e1, r1, r2, c1, r3, r4⟩ := ih (k + 1) (i + 1) (v * 10 + dg tx i) (mu σ m 7 (nI (i + 1))) (by omega) (by omega) (by omega) (by omega) (by omega) (by omega) ((chQ_k (by omega) (by omega)).text hT) mu_s
        rw [show 3 - (k + 1) = d by omega] at r1 r2
        exact ⟨σ1, e1, r1, r2, (chQ_k (by omega) (by omega)).tr c1, by rw [r3, mu_k (by omega)], by rw [r4, mu_k (by omega)]⟩
theorem X9_passesNumber (hg : 1000 ≤ g) (hi : i ≤ 60) (hT : TextM σ m tx) (h7 : σ m 7 = nI i) : ∃ σ', (match numR tx i with | some (v, j) => fX9_passesNumber g σ m = some (nI 1, σ') ∧ σ' m 9 = nI v ∧ σ' m 7 = nI j | none => fX9_passesNumber g σ m = some (nI 0, σ') ∧ σ' m 7 = nI i) ∧ chQ σ σ' m ∧ σ' m 8 = σ m 8 ∧ σ' m 10 = σ m 10 := by
  unfold fX9_passesNumber numR
  rw [X9_isHere hT h7 (by omega), isDg_eq, bnd_s]
  cases c2 : isDg tx i with
  | false =>
    rw [if_pos (show b2i false = 0 from rfl), if_neg (fun z => Bool.noConfusion z)]
    exact ⟨σ, ⟨rfl, h7⟩, chQ.rf, rfl, rfl⟩
  | true =>
    obtain ⟨d1, d2, d3⟩ := isDg_of c2
    have hl := hT.2.1
    have e4 := hT.2.2 i _ d3
    rw [if_neg (show ¬ b2i true = 0 by decide), if_pos (show true = true from rfl), h7]
    simp (disch := omega) only [chk_T, okI_t, okI_f, okI_nN, b2i_t, b2i_f, ifTT, ifFT, ite_true, ite_false, nI_c, bnd_s, bnd2_s, stp_s, ifLE_t, ifLE_f, ifLT_t, ifLT_f, ifE_t, ifE_f, if0_t, if0_f, ifn0, ifp0, ifl0_t, ifl0_f, ifg0_t, ifg0_f, ifnE, ifnE2, ifNE_t, ifNE_f, ifN0, ifNl, ifNp, ifB, nI_A, nI_S, nI_M, mu_s, mu_k, mu_n, mcp_n, e4]
    rw [show 48 + dg tx i - 48 = dg tx i by omega]
    by_cases d : dg tx i = 0
    · obtain ⟨n, rfl⟩ : ∃ n, g = n + 1 := ⟨g - 1, by omega⟩
      rw [if_pos d, fX9_passesNumber_38, ifLE_f (by omega) (by omega), ifl0_t d, stp_s, numL, if_pos c2, numL, d]
      exact ⟨_, ⟨rfl, mu_s, by rw [mu_k (by omega), mu_s]⟩, (chQ_k (by omega) (by omega)).tr (chQ_k (by omega) (by omega)), by rw [mu_k (by omega), mu_k (by omega)], by rw [mu_k (by omega), mu_k (by omega)]⟩
    · rw [if_neg d, numL, if_pos c2, Nat.zero_mul, Nat.zero_add]
      obtain ⟨σ1, e1, r1, r2, c1, r3, r4⟩ := X9_passesNumber_38 (g := g) (m := m) (tx := tx) g 1 (i + 1) (dg tx i) (mu σ m 7 (nI (i + 1))) (by omega) (by omega) (by omega) (by omega) (by omega) (by omega) ((chQ_k (by omega) (by omega)).text hT) mu_s
      exact ⟨σ1, ⟨e1, r1, r2⟩, (chQ_k (by omega) (by omega)).tr c1, by rw [r3, mu_k (by omega)], by rw [r4, mu_k (by omega)]⟩
/-- an edit that the reference has passed -/
def passC (σ' : Mem) (m : Nat) (r : Option (Int32 × Mem)) : Option Ed × Nat → Prop
  | (some e, k) => r = some (nI 1, σ') ∧ σ' m 7 = nI k ∧ σ' m 8 = e.1 ∧ σ' m 10 = nI e.2.1 ∧ (e.1 = nI 105 ∨ e.1 = nI 109 → σ' m 11 = nI e.2.2)
  | (none, k) => r = some (nI 0, σ') ∧ σ' m 7 = nI k
theorem X9_passesEdit (hg : 1000 ≤ g) (hi : i ≤ 60) (hT : TextM σ m tx) (h7 : σ m 7 = nI i) : ∃ σ', passC σ' m (fX9_passesEdit g σ m) (edR tx i) ∧ chQ σ σ' m := by
  have hl := hT.2.1
  unfold fX9_passesEdit
  rw [hT.1, h7]
  unfold edR
  cases hc : tx[i]? with
  | none =>
    have : tx.length ≤ i := none_of hc
    rw [ifLE_t this (by omega), stp_s, mu_s, if_neg (show ¬ nI 0 = nI 99 by decide), if_neg (show ¬ nI 0 = nI 106 by decide), if_neg (show ¬ nI 0 = nI 111 by decide), if_neg (show ¬ nI 0 = nI 105 by decide), if_neg (show ¬ nI 0 = nI 109 by decide)]
    exact ⟨_, ⟨rfl, by rw [mu_k (by omega)]; exact h7⟩, chQ_k (by omega) (by omega)⟩
  | some c =>
    have hil := lt_of_get hc
    have e4 := hT.2.2 i c hc
    rw [ifLE_f (by omega) (by omega), okI_t (by omega) (by omega), chk_T, nI_c (by omega), e4, stp_s, mu_s]
    dsimp only
    have k1 : chQ σ (mu σ m 8 c) m := chQ_k (by omega) (by omega)
    have k2 : chQ (mu σ m 8 c) (mu (mu σ m 8 c) m 7 (nI (i + 1))) m := chQ_k (by omega) (by omega)
    have k12 := k1.tr k2
    obtain ⟨σ1, m1, c1, p8, p10⟩ := X9_passesNumber (g := g) (m := m) (σ := mu (mu σ m 8 c) m 7 (nI (i + 1))) (i := i + 1) hg (by omega) (k12.text hT) mu_s
    have kk := k12.tr c1
    have p8 : σ1 m 8 = c := by rw [p8, mu_k (by omega), mu_s]
    have go : ∀ (hgood : c = nI 99 ∨ c = nI 106 ∨ c = nI 111 ∨ c = nI 105 ∨ c = nI 109), (if c = nI 99 then fX9_passesEdit_75 g m (mu σ m 8 c) else if c = nI 106 then fX9_passesEdit_75 g m (mu σ m 8 c) else if c = nI 111 then fX9_passesEdit_75 g m (mu σ m 8 c) else if c = nI 105 then fX9_passesEdit_75 g m (mu σ m 8 c) else if c = nI 109 then fX9_passesEdit_75 g m (mu σ m 8 c) else some (nI 0, mu σ m 8 c)) = fX9_passesEdit_75 g m (mu σ m 8 c) := by
      intro hgood
      by_cases z1 : c = nI 99
      · rw [if_pos z1]
      · by_cases z2 : c = nI 106
        · rw [if_neg z1, if_pos z2]
        · by_cases z3 : c = nI 111
          · rw [if_neg z1, if_neg z2, if_pos z3]
          · by_cases z4 : c = nI 105
            · rw [if_neg z1, if_neg z2, if_neg z3, if_pos z4]
            · rw [if_neg z1, if_neg z2, if_neg z3, if_neg z4, if_pos (by rcases hgood with h | h | h | h | h; exact absurd h z1; exact absurd h z2; exact absurd h z3; exact absurd h z4; exact h)]
    have e75 : fX9_passesEdit_75 g m (mu σ m 8 c) = bnd2 (fX9_passesNumber g (mu (mu σ m 8 c) m 7 (nI (i + 1))) m) fun r4 σ5 => if r4 = 0 then (some ((nI 0), σ5)) else (stp (mu σ5 m 10 (σ5 m 9)) fun σ6 => if (σ6 m 8) = (nI 105) then (fX9_passesEdit_120 g m σ6) else (if (σ6 m 8) = (nI 109) then (fX9_passesEdit_120 g m σ6) else (some ((nI 1), σ6)))) := by
      unfold fX9_passesEdit_75
      rw [stp_s, mu_k (show (7 : Nat) ≠ 8 by omega), h7, nI_A]
    by_cases c2 : c = nI 105 ∨ c = nI 109
    · rw [go (by rcases c2 with c2 | c2 <;> simp [c2]), if_pos c2, e75]
      cases hn : numR tx (i + 1) with
      | none =>
        rw [hn] at m1
        rw [m1.1, bnd2_s, if_pos (show nI 0 = 0 from rfl)]
        exact ⟨σ1, ⟨rfl, m1.2⟩, kk⟩
      | some vj =>
        obtain ⟨v, j⟩ := vj
        rw [hn] at m1
        have hb := numR_b hn
        dsimp only at m1 ⊢
        rw [m1.1, bnd2_s, if_neg (show ¬ nI 1 = 0 by decide), stp_s, m1.2.1, mu_k (show (8 : Nat) ≠ 10 by omega), p8]
        have go2 : (if c = nI 105 then fX9_passesEdit_120 g m (mu σ1 m 10 (nI v)) else if c = nI 109 then fX9_passesEdit_120 g m (mu σ1 m 10 (nI v)) else some (nI 1, mu σ1 m 10 (nI v))) = fX9_passesEdit_120 g m (mu σ1 m 10 (nI v)) := by
          by_cases z : c = nI 105
          · rw [if_pos z]
          · rw [if_neg z, if_pos (c2.resolve_left z)]
        rw [go2]
        unfold fX9_passesEdit_120
        have k3 := kk.tr (chQ_k (k := 10) (x := nI v) (by omega) (by omega))
        obtain ⟨σ2, q1, q2, c3, q4⟩ := X9_passesSign (g := g) (σ := mu σ1 m 10 (nI v)) (i := j) (k3.text hT) (by rw [mu_k (by omega)]; exact m1.2.2) (by omega) (nI 44)
        have k4 := k3.tr c3
        have c3' := c3
        rw [q1, bnd2_s]
        by_cases c5 : tx[j]? = some (nI 44)
        · rw [if_pos c5, if_neg (show ¬ nI 1 = 0 by decide), if_pos c5]
          rw [if_pos c5] at q2
          have hj := lt_of_get c5
          obtain ⟨σ3, m2, c6, r8, r10⟩ := X9_passesNumber (g := g) (m := m) (σ := σ2) (i := j + 1) hg (by omega) (k4.text hT) q2
          have k5 := k4.tr c6
          cases hn2 : numR tx (j + 1) with
          | none =>
            rw [hn2] at m2
            rw [m2.1, bnd2_s, if_pos (show nI 0 = 0 from rfl)]
            exact ⟨σ3, ⟨rfl, m2.2⟩, k5⟩
          | some wk =>
            obtain ⟨w, k'⟩ := wk
            rw [hn2] at m2
            dsimp only at m2 ⊢
            rw [m2.1, bnd2_s, if_neg (show ¬ nI 1 = 0 by decide), stp_s, m2.2.1]
            refine ⟨_, ⟨rfl, by rw [mu_k (by omega)]; exact m2.2.2, ?_, ?_, fun _ => mu_s⟩, k5.tr (chQ_k (by omega) (by omega))⟩
            · rw [mu_k (by omega), r8, q4 8 (by omega), mu_k (by omega)]; exact p8
            · rw [mu_k (by omega), r10, q4 10 (by omega), mu_s]
        · rw [if_neg c5, if_pos (show nI 0 = 0 from rfl), if_neg c5]
          rw [if_neg c5] at q2
          exact ⟨σ2, ⟨rfl, q2⟩, k4⟩
    · rw [if_neg c2]
      by_cases c3 : c = nI 99 ∨ c = nI 106 ∨ c = nI 111
      · rw [go (by rcases c3 with c3 | c3 | c3 <;> simp [c3]), if_pos c3, e75]
        cases hn : numR tx (i + 1) with
        | none =>
          rw [hn] at m1
          rw [m1.1, bnd2_s, if_pos (show nI 0 = 0 from rfl)]
          exact ⟨σ1, ⟨rfl, m1.2⟩, kk⟩
        | some vj =>
          obtain ⟨v, j⟩ := vj
          rw [hn] at m1
          dsimp only at m1 ⊢
          rw [m1.1, bnd2_s, if_neg (show ¬ nI 1 = 0 by decide), stp_s, m1.2.1, mu_k (show (8 : Nat) ≠ 10 by omega), p8, if_neg (fun z => c2 (Or.inl z)), if_neg (fun z => c2 (Or.inr z))]
          exact ⟨_, ⟨rfl, by rw [mu_k (by omega)]; exact m1.2.2, by rw [mu_k (by omega)]; exact p8, mu_s, fun z => absurd z c2⟩, kk.tr (chQ_k (by omega) (by omega))⟩
      · rw [if_neg c3, if_neg (fun z => c3 (Or.inl z)), if_neg (fun z => c3 (Or.inr (Or.inl z))), if_neg (fun z => c3 (Or.inr (Or.inr z))), if_neg (fun z => c2 (Or.inl z)), if_neg (fun z => c2 (Or.inr z))]
        exact ⟨_, ⟨rfl, by rw [mu_k (by omega)]; exact h7⟩, k1⟩
/-- the edits from a place on -/
def Run (tx : List Int32) : List Ed → Nat → Prop
  | [], i => tx.length ≤ i
  | e :: L, i => ∃ k, edR tx i = (some e, k) ∧ Run tx L (k + 1)
theorem edsT_run : ∀ n j L, edsT tx n j = .inr L → Run tx L (j + 1) := by
  intro n
  induction n with
  | zero => intro j L h; cases h
  | succ n ih =>
    intro j L h
    rw [edsT] at h
    by_cases c : tx.length ≤ j
    · rw [if_pos c] at h
      cases h
      show tx.length ≤ j + 1
      omega
    · rw [if_neg c] at h
      by_cases c2 : tx[j]? = some (nI 59)
      · rw [if_pos c2] at h
        cases hR : edR tx (j + 1) with
        | mk r k =>
        cases r with
        | none => rw [hR] at h; cases h
        | some e =>
          rw [hR] at h
          dsimp only at h
          cases hE : edsT tx n k with
          | inl f => rw [hE] at h; cases h
          | inr L' =>
            rw [hE] at h
            cases h
            exact ⟨k, hR, ih k L' hE⟩
      · rw [if_neg c2] at h; cases h
theorem eds_run {L : List Ed} (h : eds tx = .inr L) : Run tx L 0 := by
  unfold eds at h
  cases hR : edR tx 0 with
  | mk r k =>
  cases r with
  | none => rw [hR] at h; cases h
  | some e =>
    rw [hR] at h
    dsimp only at h
    cases hE : edsT tx 21 k with
    | inl f => rw [hE] at h; cases h
    | inr L' =>
      rw [hE] at h
      cases h
      exact ⟨k, hR, edsT_run 21 k L' hE⟩
def endsM (σ' : Mem) (r : Option (Int32 × Mem)) : Nat ⊕ List Ed → Prop
  | .inl f => r = some (nI f, σ')
  | .inr _ => r = some (nN 5, σ')
theorem X9_faultOf_17 (hg : 1000 ≤ g) : ∀ n f j σ, 60 < j + 3 * f → 60 < j + 3 * n → j ≤ tx.length → TextM σ m tx → σ m 7 = nI j → ∃ σ', endsM σ' (fX9_faultOf_17 g m n σ) (edsT tx f j) ∧ chQ σ σ' m := by
  intro n
  induction n with
  | zero => intro f j σ h1 h2 h3 hT; have := hT.2.1; omega
  | succ n ih =>
    intro f j σ h1 h2 h3 hT h7
    have hl := hT.2.1
    obtain ⟨f, rfl⟩ : ∃ f', f = f' + 1 := ⟨f - 1, by omega⟩
    rw [fX9_faultOf_17, edsT, hT.1, h7]
    by_cases c : tx.length ≤ j
    · rw [ifLE_t c (by omega), if_pos c]
      exact ⟨σ, rfl, chQ.rf⟩
    · rw [ifLE_f (by omega) (by omega), if_neg c]
      obtain ⟨σ1, q1, q2, c1, -⟩ := X9_passesSign (g := g) hT h7 (by omega) (nI 59)
      rw [q1, bnd2_s]
      by_cases c2 : tx[j]? = some (nI 59)
      · rw [if_pos c2] at q2
        rw [if_pos c2, if_pos c2, if_neg (show ¬ nI 1 = 0 by decide)]
        obtain ⟨σ2, m1, k2⟩ := X9_passesEdit (g := g) (σ := σ1) (i := j + 1) hg (by omega) (c1.text hT) q2
        have kk := c1.tr k2
        cases hR : edR tx (j + 1) with
        | mk r k =>
        cases r with
        | none =>
          rw [hR] at m1
          obtain ⟨a1, a2⟩ := m1
          rw [a1, bnd2_s, if_pos (show nI 0 = 0 from rfl), a2]
          exact ⟨σ2, rfl, kk⟩
        | some e =>
          rw [hR] at m1
          obtain ⟨a1, a2, -⟩ := m1
          have hb := edR_b hR
          rw [a1, bnd2_s, if_neg (show ¬ nI 1 = 0 by decide)]
          obtain ⟨σ3, e3, k3⟩ := ih f k σ2 (by omega) (by omega) (by omega) (kk.text hT) a2
          refine ⟨σ3, ?_, kk.tr k3⟩
          dsimp only
          cases hE2 : edsT tx f k with
          | inl f' => rw [hE2] at e3; exact e3
          | inr L => rw [hE2] at e3; exact e3
      · rw [if_neg c2] at q2
        rw [if_neg c2, if_neg c2, if_pos (show nI 0 = 0 from rfl), q2]
        exact ⟨σ1, rfl, c1⟩
theorem X9_faultOf (hg : 1000 ≤ g) (hT : TextM σ m tx) : ∃ σ', endsM σ' (fX9_faultOf g σ m) (eds tx) ∧ chQ σ σ' m := by
  have hl := hT.2.1
  unfold fX9_faultOf eds
  rw [stp_s]
  have k1 : chQ σ (mu σ m 7 (nI 0)) m := chQ_k (by omega) (by omega)
  obtain ⟨σ2, m1, k2⟩ := X9_passesEdit (g := g) (σ := mu σ m 7 (nI 0)) (i := 0) hg (by omega) (k1.text hT) mu_s
  have kk := k1.tr k2
  cases hR : edR tx 0 with
  | mk r k =>
  cases r with
  | none =>
    rw [hR] at m1
    obtain ⟨a1, a2⟩ := m1
    rw [a1, bnd2_s, if_pos (show nI 0 = 0 from rfl), a2]
    exact ⟨σ2, rfl, kk⟩
  | some e =>
    rw [hR] at m1
    obtain ⟨a1, a2, -⟩ := m1
    have hb := edR_b hR
    rw [a1, bnd2_s, if_neg (show ¬ nI 1 = 0 by decide)]
    obtain ⟨σ3, e3, k3⟩ := X9_faultOf_17 (g := g) (m := m) (tx := tx) hg g 21 k σ2 (by omega) (by omega) (by omega) (kk.text hT) a2
    refine ⟨σ3, ?_, kk.tr k3⟩
    dsimp only
    cases hE2 : edsT tx 21 k with
    | inl f' => rw [hE2] at e3; exact e3
    | inr L => rw [hE2] at e3; exact e3
end
