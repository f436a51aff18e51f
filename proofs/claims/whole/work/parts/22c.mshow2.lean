/-! PURE ROWS, 13: the reference's show, piece by piece; the run; the trial run -/
theorem RowM_W {σ : Mem} {o : Nat} {L : List Pc} : RowM σ o L ↔ RowW (σ (o + 1)) L := Iff.rfl
theorem chW.row {σ σ' : Mem} {o : Nat} {L : List Pc} (c : chW σ σ' o) (h : RowM σ o L) : RowM σ' o L := RowW.same (w := σ (o + 1)) h (fun j q => c.2 j (by omega))
theorem chW.tv {σ σ' : Mem} {o : Nat} {w : Wr} (c : chW σ σ' o) (j : Nat) (h : j < 32 ∨ 992 ≤ j) : σ' (o + 1) j = σ (o + 1) j := c.2 j h
/-- the places of two pieces lie apart -/
def apart (x y : Pc) : Prop := 40 * x.1 + x.2.2.1 < 40 * y.1 + y.2.1 ∨ 40 * y.1 + y.2.2.1 < 40 * x.1 + x.2.1
def Dj (L : List Pc) : Prop := ∀ (i j : Nat) (x y : Pc), i < j → L[i]? = some x → L[j]? = some y → apart x y
theorem wear1_un {w : Wr} {s j : Nat} (h : j ≠ s) : (wear1 w s).1 j = w.1 j := by
  unfold wear1
  dsimp only
  split
  · show (if j = s then low (w.1 s) else w.1 j) = w.1 j
    rw [if_neg h]
  · rfl
theorem wearN_un {sc : Nat} : ∀ n f w j, (j < 40 * sc + f ∨ 40 * sc + f + n ≤ j) → (wearN sc f n w).1 j = w.1 j := by
  intro n
  induction n with
  | zero => intro f w j _; rfl
  | succ n ih => intro f w j h; rw [wearN, ih _ _ _ (by omega), wear1_un (by omega)]
theorem windN_num {t : Nat → Nat} {sc : Nat} (k : Nat) (d : Int32) : k ≠ 3 → k ≠ 4 → k ≠ 5 → ∀ n f s, windN t sc f n (num s k d) = num (windN t sc f n s) k d := by
  intro h3 h4 h5 n
  induction n with
  | zero => intro f s; rfl
  | succ n ih =>
    intro f s
    rw [windN, windN, ← ih]
    congr 1
    unfold windF num
    dsimp only
    congr 1
    funext j
    simp only [upd]
    by_cases e3 : j = 3
    · simp [e3, Ne.symm h3, upd]
    · by_cases e4 : j = 4
      · simp [e4, Ne.symm h4, upd]
      · by_cases e5 : j = 5
        · simp [e5, Ne.symm h5, upd]
        · by_cases ek : j = k
          · simp [ek, h3, h4, h5, upd]
          · simp [ek, e3, e4, e5, upd]
section
variable {g o : Nat} {σ : Mem} {L : List Pc}
theorem X9_goesThrough_60 : ∀ n D s σ, D < n → D < 1000 → s.1.length + D ≤ 480 → ShW (σ (o + 3)) s → ∃ σ', fX9_goesThrough_60 g o n σ (nI D) = some σ' ∧ ShW (σ' (o + 3)) (darkS D s) ∧ (∀ i, i ≠ o + 3 → σ' i = σ i) := by
  intro n
  induction n with
  | zero => intro D s σ q; omega
  | succ n ih =>
    intro D s σ h1 h2 h3 hS
    rw [fX9_goesThrough_60]
    cases D with
    | zero =>
      simp (disch := omega) only [chk_T, okI_t, okI_f, okI_nN, b2i_t, b2i_f, ifTT, ifFT, ite_true, ite_false, nI_c, bnd_s, bnd2_s, stp_s, ifLE_t, ifLE_f, ifLT_t, ifLT_f, ifE_t, ifE_f, if0_t, if0_f, ifn0, ifp0, ifl0_t, ifl0_f, ifg0_t, ifg0_f, ifnE, ifnE2, ifNE_t, ifNE_f, ifN0, ifNl, ifNp, ifB, nI_A, nI_S, nI_M, mu_s, mu_k, mu_n, mcp_n]
      exact ⟨σ, rfl, hS, fun _ _ => rfl⟩
    | succ D =>
      have e0 := hS.1
      simp (disch := omega) only [chk_T, okI_t, okI_f, okI_nN, b2i_t, b2i_f, ifTT, ifFT, ite_true, ite_false, nI_c, bnd_s, bnd2_s, stp_s, ifLE_t, ifLE_f, ifLT_t, ifLT_f, ifE_t, ifE_f, if0_t, if0_f, ifn0, ifp0, ifl0_t, ifl0_f, ifg0_t, ifg0_f, ifnE, ifnE2, ifNE_t, ifNE_f, ifN0, ifNl, ifNp, ifB, nI_A, nI_S, nI_M, mu_s, mu_k, mu_n, mcp_n, e0, nI_m1, Nat.add_sub_cancel]
      obtain ⟨σ1, e1, r1, s1⟩ := ih D (unitS s (nN 5)) (mu (mu σ (o + 3) (8 + s.1.length) (nN 5)) (o + 3) 0 (nI (s.1.length + 1))) (by omega) (by omega) (by simp [unitS]; omega) (by rw [mu_i, mu_i]; exact ShW_unit hS (by omega))
      exact ⟨σ1, e1, r1, fun i hi => by rw [s1 i hi, mu_n hi, mu_n hi]⟩
theorem X9_framesIn' (h : RowM σ o L) {i : Nat} {x : Pc} (hx : L[i]? = some x) (v1 : x.2.1 ≤ x.2.2.1) : fX9_framesIn g σ o (nI i) = some (nI (plen x)) := by
  unfold fX9_framesIn
  simp (disch := omega) only [chk_T, okI_t, okI_f, okI_nN, b2i_t, b2i_f, ifTT, ifFT, ite_true, ite_false, nI_c, bnd_s, bnd2_s, stp_s, ifLE_t, ifLE_f, ifLT_t, ifLT_f, ifE_t, ifE_f, if0_t, if0_f, ifn0, ifp0, ifl0_t, ifl0_f, ifg0_t, ifg0_f, ifnE, ifnE2, ifNE_t, ifNE_f, ifN0, ifNl, ifNp, ifB, nI_A, nI_S, nI_M, mu_s, mu_k, mu_n, mcp_n, X9_ofP h hx, pcc]
  rfl
theorem X9_goesThrough_7 (hg : 1000 ≤ g) {i c : Nat} {x : Pc} {t : Nat → Nat} (hc : c ≤ 1) (hx : L[i]? = some x) (v0 : x.1 < 12) (v1 : x.2.1 ≤ x.2.2.1) (v2 : x.2.2.1 < 40) : ∀ n k f w s σ, f + k = x.2.2.1 + 1 → k < n → TV w → RowM σ o L → WrW (σ (o + 1)) w → ShW (σ (o + 3)) s → (∀ j, 40 * x.1 + f ≤ j → j ≤ 40 * x.1 + x.2.2.1 → w.1 j = t j) → s.1.length + (if c = 0 then k else (plen x + 3) / 4) ≤ 480 → ∃ σ', fX9_goesThrough_7 g o n σ (nI i) (nI c) (nI f) = some σ' ∧ WrW (σ' (o + 1)) (wearN x.1 f k w) ∧ ShW (σ' (o + 3)) (if c = 0 then playN t x.1 f k s else num (darkS ((plen x + 3) / 4) (windN t x.1 f k s)) 7 (nI 1)) ∧ chW σ σ' o := by
  have hpl : plen x ≤ 40 := by unfold plen; omega
  intro n
  induction n with
  | zero => intro k f w s σ _ q; omega
  | succ n ih =>
    intro k f w s σ h1 h2 hT hR hW hS hun hlen
    have hi := lt_of_get hx
    have hl := hR.2.1
    rw [fX9_goesThrough_7]
    cases k with
    | zero =>
      by_cases hc0 : c = 0
      · subst hc0
        simp (disch := omega) only [chk_T, okI_t, okI_f, okI_nN, b2i_t, b2i_f, ifTT, ifFT, ite_true, ite_false, nI_c, bnd_s, bnd2_s, stp_s, ifLE_t, ifLE_f, ifLT_t, ifLT_f, ifE_t, ifE_f, if0_t, if0_f, ifn0, ifp0, ifl0_t, ifl0_f, ifg0_t, ifg0_f, ifnE, ifnE2, ifNE_t, ifNE_f, ifN0, ifNl, ifNp, ifB, nI_A, nI_S, nI_M, mu_s, mu_k, mu_n, mcp_n, X9_ofP hR hx, pcc]
        exact ⟨σ, rfl, hW, hS, chW.rf⟩
      · rw [if_neg hc0] at hlen
        have hR7 : RowM (mu σ (o + 3) 7 (σ (o + 3) 7 + nI 1)) o L := (chW_told (k := 7)).row hR
        have S7 : ShW (mu σ (o + 3) 7 (σ (o + 3) 7 + nI 1) (o + 3)) (num s 7 (nI 1)) := by rw [mu_i]; exact ShW_num hS (by omega) (by omega)
        obtain ⟨σ1, e1, r1, s1⟩ := X9_goesThrough_60 (g := g) (o := o) g ((plen x + 3) / 4) _ _ (by omega) (by omega) (by rw [num_len]; exact hlen) S7
        simp (disch := omega) only [chk_T, okI_t, okI_f, okI_nN, b2i_t, b2i_f, ifTT, ifFT, ite_true, ite_false, nI_c, bnd_s, bnd2_s, stp_s, ifLE_t, ifLE_f, ifLT_t, ifLT_f, ifE_t, ifE_f, if0_t, if0_f, ifn0, ifp0, ifl0_t, ifl0_f, ifg0_t, ifg0_f, ifnE, ifnE2, ifNE_t, ifNE_f, ifN0, ifNl, ifNp, ifB, nI_A, nI_S, nI_M, mu_s, mu_k, mu_n, mcp_n, X9_ofP hR hx, pcc, X9_framesIn' hR7 hx v1, nI_D, e1]
        refine ⟨σ1, rfl, ?_, ?_, fun j a b => (s1 j b).trans (mu_n b), fun j _ => by rw [s1 _ (by omega), mu_n (by omega)]⟩
        · rw [s1 _ (by omega), mu_n (by omega)]; exact hW
        · rw [if_neg hc0]
          rw [darkS_num] at r1
          exact r1
    | succ k =>
      obtain ⟨σ1, e1, r1, r2, c1⟩ := X9_counts (g := g) (o := o) (a := x.1) (b := f) (c := c) hg hc hW hS (by omega) hT (fun q => by rw [if_pos q] at hlen; omega)
      have hgd : gd w.1 (40 * x.1 + f) = gd t (40 * x.1 + f) := by unfold gd; rw [hun _ (by omega) (by omega)]
      rw [hgd] at r2
      simp (disch := omega) only [chk_T, okI_t, okI_f, okI_nN, b2i_t, b2i_f, ifTT, ifFT, ite_true, ite_false, nI_c, bnd_s, bnd2_s, stp_s, ifLE_t, ifLE_f, ifLT_t, ifLT_f, ifE_t, ifE_f, if0_t, if0_f, ifn0, ifp0, ifl0_t, ifl0_f, ifg0_t, ifg0_f, ifnE, ifnE2, ifNE_t, ifNE_f, ifN0, ifNl, ifNp, ifB, nI_A, nI_S, nI_M, mu_s, mu_k, mu_n, mcp_n, X9_ofP hR hx, pcc, e1]
      by_cases hc0 : c = 0
      · rw [if_pos hc0] at hlen r2 ⊢
        obtain ⟨σ2, e2, q1, q2, c2⟩ := ih k (f + 1) _ _ σ1 (by omega) (by omega) (wear1_TV hT) (c1.row hR) r1 r2 (fun j a b => by rw [wear1_un (by omega)]; exact hun j (by omega) b) (by rw [if_pos hc0, playF_len]; omega)
        rw [if_pos hc0] at q2
        exact ⟨σ2, e2, q1, q2, c1.tr c2⟩
      · rw [if_neg hc0] at hlen r2 ⊢
        obtain ⟨σ2, e2, q1, q2, c2⟩ := ih k (f + 1) _ _ σ1 (by omega) (by omega) (wear1_TV hT) (c1.row hR) r1 r2 (fun j a b => by rw [wear1_un (by omega)]; exact hun j (by omega) b) (by rw [if_neg hc0, windF_len]; exact hlen)
        rw [if_neg hc0] at q2
        exact ⟨σ2, e2, q1, q2, c1.tr c2⟩
theorem X9_goesThrough (hg : 1000 ≤ g) {i c : Nat} {x : Pc} {t : Nat → Nat} {w : Wr} {s : Sw} (hc : c ≤ 1) (hx : L[i]? = some x) (v0 : x.1 < 12) (v1 : x.2.1 ≤ x.2.2.1) (v2 : x.2.2.1 < 40) (hT : TV w) (hR : RowM σ o L) (hW : WrW (σ (o + 1)) w) (hS : ShW (σ (o + 3)) s) (hun : ∀ j, 40 * x.1 + x.2.1 ≤ j → j ≤ 40 * x.1 + x.2.2.1 → w.1 j = t j) (hlen : s.1.length + plen x ≤ 480) : ∃ σ', fX9_goesThrough g σ o (nI i) (nI c) = some σ' ∧ WrW (σ' (o + 1)) (wearP x w) ∧ ShW (σ' (o + 3)) (if c = 0 then playP t x s else windP t x s) ∧ chW σ σ' o := by
  have hpl : 1 ≤ plen x ∧ plen x ≤ 40 ∧ x.2.1 + plen x = x.2.2.1 + 1 := by unfold plen; omega
  unfold fX9_goesThrough
  simp (disch := omega) only [chk_T, okI_t, okI_f, okI_nN, b2i_t, b2i_f, ifTT, ifFT, ite_true, ite_false, nI_c, bnd_s, bnd2_s, stp_s, ifLE_t, ifLE_f, ifLT_t, ifLT_f, ifE_t, ifE_f, if0_t, if0_f, ifn0, ifp0, ifl0_t, ifl0_f, ifg0_t, ifg0_f, ifnE, ifnE2, ifNE_t, ifNE_f, ifN0, ifNl, ifNp, ifB, nI_A, nI_S, nI_M, mu_s, mu_k, mu_n, mcp_n, X9_ofP hR hx, pcc]
  exact X9_goesThrough_7 hg hc hx v0 v1 v2 g (plen x) x.2.1 w s σ (by omega) (by omega) hT hR hW hS hun (by split <;> omega)
/-- in a show only the row's pieces on the reel, its wear, and what is told change -/
def chS (σ σ' : Mem) (o : Nat) : Prop := (∀ i, i ≠ o + 1 → i ≠ o + 3 → σ' i = σ i) ∧ ∀ j, (j = 0 ∨ 2 ≤ j ∧ j < 32 ∨ 1072 ≤ j) → σ' (o + 1) j = σ (o + 1) j
theorem chS.rf : chS σ σ o := ⟨fun _ _ _ => rfl, fun _ _ => rfl⟩
theorem chS.tr {σ1 σ2 : Mem} (h : chS σ σ1 o) (h2 : chS σ1 σ2 o) : chS σ σ2 o := ⟨fun i a b => (h2.1 i a b).trans (h.1 i a b), fun j a => (h2.2 j a).trans (h.2 j a)⟩
theorem chW.S {σ1 : Mem} (h : chW σ σ1 o) : chS σ σ1 o := ⟨h.1, fun j q => h.2 j (by omega)⟩
theorem bit_if {dis k : Nat} (hd : dis < 64) (hk : k < 32) : (if ((nI dis >>> (nI k &&& 31)) &&& nI 1) = nI 1 then nI 1 else nI 0) = b2i (isDis dis k) := by
  rw [bit_at (by omega) hk]
  unfold isDis
  have : dis / 2 ^ k % 2 < 2 := Nat.mod_lt _ (by omega)
  by_cases c : dis / 2 ^ k % 2 = 1
  · rw [decide_eq_true c, c, if_pos rfl]; rfl
  · rw [if_neg (fun q => c ((nI_E (by omega) (by omega)).1 q)), decide_eq_false c]; rfl
theorem num_7 {s : Sw} {k : Nat} {d : Int32} (h : k ≠ 7) : (num s k d).2 7 = s.2 7 := pk_un (by omega)
theorem playN_7 {t : Nat → Nat} {sc : Nat} : ∀ n f s, (playN t sc f n s).2 7 = s.2 7 := by
  intro n
  induction n with
  | zero => intro f s; rfl
  | succ n ih =>
    intro f s
    rw [playN, ih]
    unfold playF
    split
    · simp [unitS, num, upd]
    · simp [unitS, num, upd]
theorem windN_7 {t : Nat → Nat} {sc : Nat} : ∀ n f s, (windN t sc f n s).2 7 = s.2 7 := by
  intro n
  induction n with
  | zero => intro f s; rfl
  | succ n ih =>
    intro f s
    rw [windN, ih]
    unfold windF
    rw [num_7 (by omega), num_7 (by omega), num_7 (by omega)]
theorem windP_7 {t : Nat → Nat} {x : Pc} {s : Sw} : (windP t x s).2 7 = s.2 7 + nI 1 := by
  unfold windP
  have e : ∀ s : Sw, (num s 7 (nI 1)).2 7 = s.2 7 + nI 1 := fun s => by
    show upd s.2 7 (s.2 7 + nI 1) 7 = s.2 7 + nI 1
    exact pk_us
  rw [e, darkS_2, windN_7]
theorem windP_6 {t : Nat → Nat} {x : Pc} {s : Sw} : (windP t x s).2 6 = s.2 6 := by unfold windP; rw [num_6 (by omega), darkS_2, windN_6]
theorem playP_6 {t : Nat → Nat} {x : Pc} {s : Sw} : (playP t x s).2 6 = s.2 6 := playN_6 _ _ _
theorem playP_7 {t : Nat → Nat} {x : Pc} {s : Sw} : (playP t x s).2 7 = s.2 7 := playN_7 _ _ _
theorem X9_shows_33 (hg : 1000 ≤ g) {t : Nat → Nat} {sc : List (Nat × Nat)} {dis en lim : Nat} (hV : RowV L) (hD : Dj L) (hSc : InSc sc L) (hU : tot L ≤ 480) (h64 : dis < 64) (hen : en < 1000) (hlim : lim < 1000) (h20 : L.length ≤ 20) : ∀ n i left w s σ, i ≤ L.length → L.length - i < n → left ≤ en → TV w → RowM σ o (bumpK L L.length i) → WrW (σ (o + 1)) w → ShW (σ (o + 3)) s → ScW (σ (o + 1)) sc → σ (o + 1) 5 = nI dis → σ (o + 1) 6 = nI en → σ (o + 1) 7 = nI lim → s.2 6 = nN 5 → s.2 7 = nI (en - left) → (∀ j y, i ≤ j → L[j]? = some y → ∀ f, 40 * y.1 + y.2.1 ≤ f → f ≤ 40 * y.1 + y.2.2.1 → w.1 f = t f) → s.1.length ≤ posOf L i → ∃ σ' T, fX9_shows_33 g o n σ (nI i) = some σ' ∧ T = (thrF lim i (L.drop i)).getD L.length ∧ RowM σ' o (bump L T) ∧ WrW (σ' (o + 1)) (wearL ((L.take T).drop i) w) ∧ ShW (σ' (o + 3)) (projL t sc dis lim i left (L.drop i) s) ∧ chS σ σ' o := by
  intro n
  induction n with
  | zero => intro i left w s σ _ q; omega
  | succ n ih =>
    intro i left w s σ h1 h2 hleft hT hR hW hS hSW h5 h6 h7 s6 s7 hun hlen
    have hR1 : σ (o + 1) 1 = nI L.length := by have := hR.1; rw [bumpK_len] at this; exact this
    have t6 : σ (o + 3) 6 = nN 5 := by rw [hS.2.2.1 6 (by omega) (by omega)]; exact s6
    rw [fX9_shows_33]
    by_cases hi : i = L.length
    · subst hi
      simp (disch := omega) only [chk_T, okI_t, okI_f, okI_nN, b2i_t, b2i_f, ifTT, ifFT, ite_true, ite_false, nI_c, bnd_s, bnd2_s, stp_s, ifLE_t, ifLE_f, ifLT_t, ifLT_f, ifE_t, ifE_f, if0_t, if0_f, ifn0, ifp0, ifl0_t, ifl0_f, ifg0_t, ifg0_f, ifnE, ifnE2, ifNE_t, ifNE_f, ifN0, ifNl, ifNp, ifB, nI_A, nI_S, nI_M, mu_s, mu_k, mu_n, mcp_n, hR1]
      refine ⟨σ, _, rfl, rfl, ?_, ?_, ?_, chS.rf⟩
      · rw [List.drop_length]
        show RowM σ o (bump L L.length)
        have : bump L L.length = bumpK L L.length L.length := by
          apply List.ext_getElem?
          intro j
          unfold bump
          rw [bumpK_get, bumpK_get]
          cases hj : L[j]? with
          | none => rfl
          | some y =>
            have := lt_of_get hj
            simp only [Option.map_some]
            by_cases c : j ≠ 0 ∧ j ≤ L.length ∧ j < L.length
            · rw [if_pos c, if_pos (by omega)]
            · rw [if_neg c, if_neg (by omega)]
        rw [this]; exact hR
      · rw [List.drop_length]
        show WrW _ (wearL ((L.take L.length).drop L.length) w)
        rw [List.take_length, List.drop_length]
        exact hW
      · rw [List.drop_length]; exact hS
    · obtain ⟨x, hx⟩ := get_of (L := L) (i := i) (by omega)
      have hv := hV i x hx
      have hp := posOf_s hx
      have hpm : posOf L (i + 1) ≤ tot L := posOf_mono (by omega) (Nat.le_refl _)
      have hpl := plen_b hv
      obtain ⟨v0, v1, v2, v3⟩ := hv
      obtain ⟨y, hy, y1, y2, y3⟩ := hSc i x hx
      have hy12 := lt_of_get hy
      have hsc12 := hSW.2.1
      have hkind : kindOf sc x.1 = y.1 := by unfold kindOf; rw [hy]; rfl
      -- the rest of the step, the splice once behind
      have core : ∀ (σ1 : Mem), chS σ σ1 o → (∀ j, j < 32 ∨ 32 ≤ j ∧ j < 992 → σ1 (o + 1) j = σ (o + 1) j) → RowM σ1 o (bumpK L L.length (i + 1)) → ShW (σ1 (o + 3)) s → ¬ (i ≠ 0 ∧ lim ≤ x.2.2.2) → ∃ σ' T, (chk (okI (nI 6) 488) (if σ1 (o + 3) (nI 6).toNatClampNeg = nN 5 then (chk (okI (nI 5) 6036) (bnd (fX9_ofP g σ1 o (nI i) (nI 0)) fun r18 => chk (okI ((nI 8) + ((nI 2) * r18)) 6036) (if (if (((σ1 (o + 1) (nI 5).toNatClampNeg) >>> ((σ1 (o + 1) ((nI 8) + ((nI 2) * r18)).toNatClampNeg) &&& 31)) &&& (nI 1)) = (nI 1) then (nI 1) else (nI 0)) = 0 then (bnd (fX9_goesThrough g σ1 o (nI i) (nI 0)) fun σ20 => fX9_shows_33 g o n σ20 ((nI i) + (nI 1))) else (chk (okI (nI 7) 488) (chk (okI (nI 6) 6036) (if (σ1 (o + 1) (nI 6).toNatClampNeg) ≤ (σ1 (o + 3) (nI 7).toNatClampNeg) then (bnd (fX9_goesThrough g σ1 o (nI i) (nI 0)) fun σ22 => fX9_shows_33 g o n σ22 ((nI i) + (nI 1))) else (bnd (fX9_goesThrough g σ1 o (nI i) (nI 1)) fun σ24 => fX9_shows_33 g o n σ24 ((nI i) + (nI 1))))))))) else (fX9_shows_33 g o n σ1 ((nI i) + (nI 1))))) = some σ' ∧ T = (thrF lim i (L.drop i)).getD L.length ∧ RowM σ' o (bump L T) ∧ WrW (σ' (o + 1)) (wearL ((L.take T).drop i) w) ∧ ShW (σ' (o + 3)) (projL t sc dis lim i left (L.drop i) s) ∧ chS σ σ' o := by
        intro σ1 c1 c1r hR' hS1 hno
        have hW1 : WrW (σ1 (o + 1)) w := hW.same (fun j a b => c1r j (by omega))
        have hSW1 : ScW (σ1 (o + 1)) sc := hSW.same (fun j q => c1r j (by omega))
        obtain ⟨z, hz, z0, z1, z2⟩ : ∃ z : Pc, (bumpK L L.length (i + 1))[i]? = some z ∧ z.1 = x.1 ∧ z.2.1 = x.2.1 ∧ z.2.2.1 = x.2.2.1 := by
          rw [bumpK_get, hx, Option.map_some]
          refine ⟨_, rfl, ?_⟩
          split
          · exact ⟨rfl, rfl, rfl⟩
          · exact ⟨rfl, rfl, rfl⟩
        have zlen : plen z = plen x := by unfold plen; rw [z1, z2]
        have zwear : wearP z w = wearP x w := by unfold wearP; rw [zlen, z0, z1]
        have zplay : playP t z s = playP t x s := by unfold playP; rw [zlen, z0, z1]
        have zwind : windP t z s = windP t x s := by unfold windP; rw [zlen, z0, z1]
        have hunz : ∀ j, 40 * z.1 + z.2.1 ≤ j → j ≤ 40 * z.1 + z.2.2.1 → w.1 j = t j := by rw [z0, z1, z2]; exact hun i x (Nat.le_refl _) hx
        have k6 : σ1 (o + 3) 6 = nN 5 := by rw [hS1.2.2.1 6 (by omega) (by omega)]; exact s6
        have k7 : σ1 (o + 3) 7 = nI (en - left) := by rw [hS1.2.2.1 7 (by omega) (by omega)]; exact s7
        have m5 : σ1 (o + 1) 5 = nI dis := by rw [c1r 5 (by omega)]; exact h5
        have m6 : σ1 (o + 1) 6 = nI en := by rw [c1r 6 (by omega)]; exact h6
        have m7 : σ1 (o + 1) 7 = nI lim := by rw [c1r 7 (by omega)]; exact h7
        have mk : σ1 (o + 1) (8 + 2 * x.1) = nI y.1 := (hSW1.2.2 x.1 y hy).1
        have hthr : thrF lim i (L.drop i) = thrF lim (i + 1) (L.drop (i + 1)) := by rw [drop_get hx, thrF, if_neg hno]
        have hTlt : i < (thrF lim i (L.drop i)).getD L.length := by
          rw [hthr]
          cases hq : thrF lim (i + 1) (L.drop (i + 1)) with
          | none => show i < L.length; omega
          | some k => have := thrF_lt _ _ _ _ hq; show i < k; omega
        -- one way through the piece, then on
        have go : ∀ (c left' : Nat) (s' : Sw), c ≤ 1 → left' ≤ en → s' = (if c = 0 then playP t x s else windP t x s) → s'.2 6 = nN 5 → s'.2 7 = nI (en - left') → s'.1.length ≤ posOf L (i + 1) → projL t sc dis lim i left (L.drop i) s = projL t sc dis lim (i + 1) left' (L.drop (i + 1)) s' → ∃ σ' T, bnd (fX9_goesThrough g σ1 o (nI i) (nI c)) (fun σ20 => fX9_shows_33 g o n σ20 (nI (i + 1))) = some σ' ∧ T = (thrF lim i (L.drop i)).getD L.length ∧ RowM σ' o (bump L T) ∧ WrW (σ' (o + 1)) (wearL ((L.take T).drop i) w) ∧ ShW (σ' (o + 3)) (projL t sc dis lim i left (L.drop i) s) ∧ chS σ σ' o := by
          intro c left' s' hc hl' hs' q6 q7 ql hproj
          obtain ⟨σ2, e2, r1, r2, c2⟩ := X9_goesThrough (g := g) (t := t) (c := c) hg hc hz (by rw [z0]; exact v0) (by rw [z1, z2]; exact v1) (by rw [z2]; exact v2) hT hR' hW1 hS1 hunz (by rw [zlen]; omega)
          rw [zwear] at r1
          rw [zplay, zwind, ← hs'] at r2
          have hk : ∀ j, j < 32 → σ2 (o + 1) j = σ (o + 1) j := fun j hj => by rw [c2.2 j (by omega), c1r j (by omega)]
          obtain ⟨σ3, T, e3, hTe, d1, d2, d3, d4⟩ := ih (i + 1) left' _ s' σ2 (by omega) (by omega) hl' (wearN_TV _ _ _ hT) (c2.row hR') r1 r2 (hSW.same (fun j q => hk j (by omega))) (by rw [hk 5 (by omega)]; exact h5) (by rw [hk 6 (by omega)]; exact h6) (by rw [hk 7 (by omega)]; exact h7) q6 q7 (fun j u hj hu f a b => by
            have hap := hD i j x u (by omega) hx hu
            have hlp : plen x = x.2.2.1 - x.2.1 + 1 := rfl
            unfold apart at hap
            show (wearN x.1 x.2.1 (plen x) w).1 f = t f
            rw [wearN_un _ _ _ _ (by omega)]
            exact hun j u (by omega) hu f a b) ql
          refine ⟨σ3, T, by rw [e2, bnd_s]; exact e3, by rw [hthr]; exact hTe, d1, ?_, by rw [hproj]; exact d3, c1.tr (c2.S.tr d4)⟩
          rw [← hthr] at hTe
          rw [drop_get (L := L.take T) (i := i) (x := x) (by rw [List.getElem?_take, if_pos (by omega)]; exact hx), wearL]
          exact d2
        have hproj0 : projL t sc dis lim i left (L.drop i) s = if left ≠ 0 ∧ isDis dis y.1 = true then projL t sc dis lim (i + 1) (left - 1) (L.drop (i + 1)) (windP t x s) else projL t sc dis lim (i + 1) left (L.drop (i + 1)) (playP t x s) := by
          rw [drop_get hx, projL, if_neg hno, hkind]
        have goP := fun hp => go 0 left (playP t x s) (by omega) hleft (by rw [if_pos rfl]) (by rw [playP_6]; exact s6) (by rw [playP_7]; exact s7) (by unfold playP; rw [playN_len]; omega) hp
        simp (disch := omega) only [chk_T, okI_t, okI_f, okI_nN, b2i_t, b2i_f, ifTT, ifFT, ite_true, ite_false, nI_c, bnd_s, bnd2_s, stp_s, ifLE_t, ifLE_f, ifLT_t, ifLT_f, ifE_t, ifE_f, if0_t, if0_f, ifn0, ifp0, ifl0_t, ifl0_f, ifg0_t, ifg0_f, ifnE, ifnE2, ifNE_t, ifNE_f, ifN0, ifNl, ifNp, ifB, nI_A, nI_S, nI_M, mu_s, mu_k, mu_n, mcp_n, k6, m5, X9_ofP hR' hz, pcc, z0, mk]
        rw [bit_if h64 (by omega)]
        cases hb : isDis dis y.1 with
        | false =>
          simp (disch := omega) only [chk_T, okI_t, okI_f, okI_nN, b2i_t, b2i_f, ifTT, ifFT, ite_true, ite_false, nI_c, bnd_s, bnd2_s, stp_s, ifLE_t, ifLE_f, ifLT_t, ifLT_f, ifE_t, ifE_f, if0_t, if0_f, ifn0, ifp0, ifl0_t, ifl0_f, ifg0_t, ifg0_f, ifnE, ifnE2, ifNE_t, ifNE_f, ifN0, ifNl, ifNp, ifB, nI_A, nI_S, nI_M, mu_s, mu_k, mu_n, mcp_n]
          exact goP (by rw [hproj0, hb, if_neg (fun q => Bool.noConfusion q.2)])
        | true =>
          simp (disch := omega) only [chk_T, okI_t, okI_f, okI_nN, b2i_t, b2i_f, ifTT, ifFT, ite_true, ite_false, nI_c, bnd_s, bnd2_s, stp_s, ifLE_t, ifLE_f, ifLT_t, ifLT_f, ifE_t, ifE_f, if0_t, if0_f, ifn0, ifp0, ifl0_t, ifl0_f, ifg0_t, ifg0_f, ifnE, ifnE2, ifNE_t, ifNE_f, ifN0, ifNl, ifNp, ifB, nI_A, nI_S, nI_M, mu_s, mu_k, mu_n, mcp_n, m6, k7]
          by_cases cl : left = 0
          · rw [if_pos ((nI_LE (by omega) (by omega)).2 (by omega))]
            exact goP (by rw [hproj0, hb, if_neg (fun q => q.1 cl)])
          · rw [if_neg (fun q => by have := (nI_LE (by omega) (by omega)).1 q; omega)]
            exact go 1 (left - 1) (windP t x s) (by omega) (by omega) (by rw [if_neg (by omega)]) (by rw [windP_6]; exact s6) (by rw [windP_7, s7, nI_A, show en - left + 1 = en - (left - 1) by omega]) (by rw [windP_len]; omega) (by rw [hproj0, hb, if_pos ⟨cl, rfl⟩])
      by_cases c0 : i = 0
      · have hb : bumpK L L.length (i + 1) = bumpK L L.length i := by
          apply List.ext_getElem?
          intro j
          rw [bumpK_get, bumpK_get]
          cases hj : L[j]? with
          | none => rfl
          | some y =>
            simp only [Option.map_some]
            rw [if_neg (by omega), if_neg (by omega)]
        have := core σ chS.rf (fun _ _ => rfl) (by rw [hb]; exact hR) hS (fun q => q.1 c0)
        simp (disch := omega) only [chk_T, okI_t, okI_f, okI_nN, b2i_t, b2i_f, ifTT, ifFT, ite_true, ite_false, nI_c, bnd_s, bnd2_s, stp_s, ifLE_t, ifLE_f, ifLT_t, ifLT_f, ifE_t, ifE_f, if0_t, if0_f, ifn0, ifp0, ifl0_t, ifl0_f, ifg0_t, ifg0_f, ifnE, ifnE2, ifNE_t, ifNE_f, ifN0, ifNl, ifNp, ifB, nI_A, nI_S, nI_M, mu_s, mu_k, mu_n, mcp_n, hR1, t6]
        simp (disch := omega) only [chk_T, okI_t, nI_c, t6, if_true] at this
        first | exact this | (simp (disch := omega) only [nI_A] at this; exact this)
      · have hb : (bumpK L L.length i)[i]? = some x := by rw [bumpK_get, hx, Option.map_some, if_neg (by omega)]
        have hR' : RowM (mu σ (o + 1) (992 + 4 * i + 3) (nI (x.2.2.2 + 1))) o (bumpK L L.length (i + 1)) := by
          have q := RowM_set (i := i) (c := 3) (v := nI (x.2.2.2 + 1)) (y := (x.1, x.2.1, x.2.2.1, x.2.2.2 + 1)) hR hb (by omega) (fun d hd => by
            rcases (by omega : d = 0 ∨ d = 1 ∨ d = 2 ∨ d = 3) with rfl | rfl | rfl | rfl <;> rfl)
          have e : (bumpK L L.length i).set i (x.1, x.2.1, x.2.2.1, x.2.2.2 + 1) = bumpK L L.length (i + 1) := by
            apply List.ext_getElem?
            intro j
            rw [List.getElem?_set, bumpK_len, bumpK_get, bumpK_get]
            by_cases ej : i = j
            · subst ej
              rw [if_pos rfl, if_pos (by omega), hx, Option.map_some, if_pos (by omega)]
            · rw [if_neg ej]
              cases hj : L[j]? with
              | none => rfl
              | some y =>
                simp only [Option.map_some]
                by_cases c : j ≠ 0 ∧ j ≤ L.length ∧ j < i
                · rw [if_pos c, if_pos (by omega)]
                · rw [if_neg c, if_neg (by omega)]
          rw [e] at q
          exact q
        have hz : (bumpK L L.length (i + 1))[i]? = some (x.1, x.2.1, x.2.2.1, x.2.2.2 + 1) := by rw [bumpK_get, hx, Option.map_some, if_pos (by omega)]
        have m7 : mu σ (o + 1) (992 + 4 * i + 3) (nI (x.2.2.2 + 1)) (o + 1) 7 = nI lim := by rw [mu_k (by omega)]; exact h7
        have ofz := X9_ofP (g := g) hR' hz (c := 3) (by omega)
        have ofz : fX9_ofP g (mu σ (o + 1) (992 + 4 * i + 3) (nI (x.2.2.2 + 1))) o (nI i) (nI 3) = some (nI (x.2.2.2 + 1)) := ofz
        simp (disch := omega) only [chk_T, okI_t, okI_f, okI_nN, b2i_t, b2i_f, ifTT, ifFT, ite_true, ite_false, nI_c, bnd_s, bnd2_s, stp_s, ifLE_t, ifLE_f, ifLT_t, ifLT_f, ifE_t, ifE_f, if0_t, if0_f, ifn0, ifp0, ifl0_t, ifl0_f, ifg0_t, ifg0_f, ifnE, ifnE2, ifNE_t, ifNE_f, ifN0, ifNl, ifNp, ifB, nI_A, nI_S, nI_M, mu_s, mu_k, mu_n, mcp_n, hR1, t6, X9_ofP hR hb, pcc, X9_setsP, ofz, h7]
        have chR : ∀ v, chS σ (mu (mu σ (o + 1) (992 + 4 * i + 3) (nI (x.2.2.2 + 1))) (o + 3) 6 v) o := fun v => ⟨fun j a b => by rw [mu_n b, mu_n a], fun j q => by rw [mu_n (by omega), mu_k (by omega)]⟩
        by_cases c1 : lim ≤ x.2.2.2
        · -- it tears here
          rw [if_neg (show ¬ nI (x.2.2.2 + 1) ≤ nI lim from fun q => by have := (nI_LE (by omega) (by omega)).1 q; omega)]
          rw [if_neg (show ¬ nI i = nN 5 from fun q => (nN_n (by omega) (by omega) (by omega)).1 q)]
          have hlast : ∀ n, 0 < n → fX9_shows_33 g o n (mu (mu σ (o + 1) (992 + 4 * i + 3) (nI (x.2.2.2 + 1))) (o + 3) 6 (nI i)) (nI (i + 1)) = some (mu (mu σ (o + 1) (992 + 4 * i + 3) (nI (x.2.2.2 + 1))) (o + 3) 6 (nI i)) := by
            intro n hn
            obtain ⟨m, rfl⟩ : ∃ m, n = m + 1 := ⟨n - 1, by omega⟩
            rw [fX9_shows_33]
            simp (disch := omega) only [chk_T, okI_t, okI_f, okI_nN, b2i_t, b2i_f, ifTT, ifFT, ite_true, ite_false, nI_c, bnd_s, bnd2_s, stp_s, ifLE_t, ifLE_f, ifLT_t, ifLT_f, ifE_t, ifE_f, if0_t, if0_f, ifn0, ifp0, ifl0_t, ifl0_f, ifg0_t, ifg0_f, ifnE, ifnE2, ifNE_t, ifNE_f, ifN0, ifNl, ifNp, ifB, nI_A, nI_S, nI_M, mu_s, mu_k, mu_n, mcp_n, hR1]
            split <;> rfl
          rw [hlast n (by omega)]
          have hTe : (thrF lim i (L.drop i)).getD L.length = i := by rw [drop_get hx, thrF, if_pos ⟨c0, c1⟩]; rfl
          refine ⟨_, i, rfl, hTe.symm, ?_, ?_, ?_, chR _⟩
          · have e : bump L i = bumpK L L.length (i + 1) := by
              apply List.ext_getElem?
              intro j
              unfold bump
              rw [bumpK_get, bumpK_get]
              cases hj : L[j]? with
              | none => rfl
              | some y =>
                have := lt_of_get hj
                simp only [Option.map_some]
                by_cases c : j ≠ 0 ∧ j ≤ i ∧ j < i + 1
                · rw [if_pos c, if_pos (by omega)]
                · rw [if_neg c, if_neg (by omega)]
            rw [e]
            exact RowW.same (w := (mu σ (o + 1) (992 + 4 * i + 3) (nI (x.2.2.2 + 1))) (o + 1)) hR' (fun j q => by rw [mu_n (by omega)])
          · rw [List.drop_eq_nil_of_le (by rw [List.length_take]; omega), wearL]
            exact hW.same (fun j a b => by rw [mu_n (by omega), mu_k (by omega)])
          · rw [drop_get hx, projL, if_pos ⟨c0, c1⟩, mu_i, mu_n (by omega)]
            refine ⟨by rw [pk_un (by omega)]; exact hS.1, hS.2.1, fun j j1 j2 => ?_, fun u c hc => by rw [pk_un (by omega)]; exact hS.2.2.2 u c hc⟩
            show upd _ 6 _ j = upd s.2 6 (nI i) j
            unfold upd
            by_cases e : j = 6
            · rw [if_pos e, if_pos e]
            · rw [if_neg e, if_neg e]; exact hS.2.2.1 j j1 j2
        · rw [if_pos (show nI (x.2.2.2 + 1) ≤ nI lim from (nI_LE (by omega) (by omega)).2 (by omega))]
          have := core (mu (mu σ (o + 1) (992 + 4 * i + 3) (nI (x.2.2.2 + 1))) (o + 3) 6 (nN 5)) (chR _) (fun j hj => by rw [mu_n (by omega), mu_k (by omega)]) (RowW.same (w := (mu σ (o + 1) (992 + 4 * i + 3) (nI (x.2.2.2 + 1))) (o + 1)) hR' (fun j q => by rw [mu_n (by omega)])) (hS.same (fun j hj => by
            rw [mu_i, mu_n (by omega)]
            unfold upd
            by_cases e : j = 6
            · rw [if_pos e, e, t6]
            · rw [if_neg e])) (fun q => c1 q.2)
          simp (disch := omega) only [chk_T, okI_t, nI_c, mu_s, mu_k, mu_n, if_true, nI_A] at this
          first | exact this | (simp only [if_true]; exact this)
def ShowOK (A : Fa) : Prop := TV A.2.1 ∧ RowV A.2.2.1.1 ∧ Dj A.2.2.1.1 ∧ InSc A.1 A.2.2.1.1 ∧ tot A.2.2.1.1 ≤ 480 ∧ A.2.2.2.2.2.1 < 64 ∧ A.2.2.2.2.2.2.1 < 1000 ∧ A.2.2.2.2.2.2.2 < 1000
theorem bumpK_0 {t : Nat} : bumpK L t 0 = L := by
  apply List.ext_getElem?
  intro j
  rw [bumpK_get]
  cases L[j]? with
  | none => rfl
  | some y => simp only [Option.map_some]; rw [if_neg (by omega)]
theorem X9_shows (hg : 1000 ≤ g) {A : Fa} (h : FilmW (σ (o + 1)) A) (hok : ShowOK A) : ∃ σ', fX9_shows g σ o = some σ' ∧ RowM σ' o (aRun A).2.2.1.1 ∧ WrW (σ' (o + 1)) (aRun A).2.1 ∧ ShW (σ' (o + 3)) (aShow A) ∧ chS σ σ' o := by
  obtain ⟨f1, f2, f3, f4, f5, f6, f7, f8, f9⟩ := h
  obtain ⟨k1, k2, k3, k4, k5, k6, k7, k8⟩ := hok
  have key : ∀ n k σ1, k ≤ 488 → 488 - k < n → (∀ i, i ≠ o + 3 → σ1 i = σ i) → (∀ j, j < k → σ1 (o + 3) j = nI 0) → ∃ σ', fX9_shows_2 g o n σ1 (nI k) = some σ' ∧ RowM σ' o (aRun A).2.2.1.1 ∧ WrW (σ' (o + 1)) (aRun A).2.1 ∧ ShW (σ' (o + 3)) (aShow A) ∧ chS σ σ' o := by
    intro n
    induction n with
    | zero => intro k σ1 _ q; omega
    | succ n ih =>
      intro k σ1 h1 h2 hs hz
      rw [fX9_shows_2]
      by_cases c : k = 488
      · subst c
        have e1 : mu σ1 (o + 3) 6 (nN 5) (o + 1) = σ (o + 1) := by rw [mu_n (by omega)]; exact hs _ (by omega)
        have hS0 : ShW (mu σ1 (o + 3) 6 (nN 5) (o + 3)) show0 := by
          refine ⟨by rw [mu_k (by omega)]; exact hz 0 (by omega), by show (0 : Nat) ≤ 480; omega, fun j j1 j2 => ?_, fun u c hc => by simp [show0] at hc⟩
          rw [mu_ij]
          show _ = if j = 6 then nN 5 else nI 0
          by_cases e : j = 6
          · rw [if_pos e, if_pos e]
          · rw [if_neg e, if_neg e]; exact hz j (by omega)
        obtain ⟨σ', T, e2, hT, r1, r2, r3, c3⟩ := X9_shows_33 (g := g) (o := o) (L := A.2.2.1.1) (t := A.2.1.1) (sc := A.1) (dis := A.2.2.2.2.2.1) (en := A.2.2.2.2.2.2.1) (lim := A.2.2.2.2.2.2.2) hg k2 k3 k4 k5 k6 k7 k8 f3.2.1 g 0 A.2.2.2.2.2.2.1 A.2.1 show0 (mu σ1 (o + 3) 6 (nN 5)) (by omega) (by have := f3.2.1; omega) (Nat.le_refl _) k1 (by rw [RowM_W, e1, bumpK_0]; exact f3) (by rw [e1]; exact f2) hS0 (by rw [e1]; exact f1) (by rw [e1]; exact f7) (by rw [e1]; exact f8) (by rw [e1]; exact f9) rfl (by rw [Nat.sub_self]; rfl) (fun _ _ _ _ _ _ _ => rfl) (by rw [posOf_0]; exact Nat.le_refl _)
        rw [List.drop_zero] at r3 r2 hT
        have hT : T = thr A.2.2.2.2.2.2.2 A.2.2.1.1 := hT
        subst hT
        simp (disch := omega) only [chk_T, okI_t, okI_f, okI_nN, b2i_t, b2i_f, ifTT, ifFT, ite_true, ite_false, nI_c, bnd_s, bnd2_s, stp_s, ifLE_t, ifLE_f, ifLT_t, ifLT_f, ifE_t, ifE_f, if0_t, if0_f, ifn0, ifp0, ifl0_t, ifl0_f, ifg0_t, ifg0_f, ifnE, ifnE2, ifNE_t, ifNE_f, ifN0, ifNl, ifNp, ifB, nI_A, nI_S, nI_M, mu_s, mu_k, mu_n, mcp_n, e2]
        exact ⟨σ', rfl, r1, r2, r3, fun i a b => by rw [c3.1 i a b, mu_n b]; exact hs i b, fun j q => by rw [c3.2 j q, e1]⟩
      · simp (disch := omega) only [chk_T, okI_t, okI_f, okI_nN, b2i_t, b2i_f, ifTT, ifFT, ite_true, ite_false, nI_c, bnd_s, bnd2_s, stp_s, ifLE_t, ifLE_f, ifLT_t, ifLT_f, ifE_t, ifE_f, if0_t, if0_f, ifn0, ifp0, ifl0_t, ifl0_f, ifg0_t, ifg0_f, ifnE, ifnE2, ifNE_t, ifNE_f, ifN0, ifNl, ifNp, ifB, nI_A, nI_S, nI_M, mu_s, mu_k, mu_n, mcp_n]
        exact ih (k + 1) (mu σ1 (o + 3) k (nI 0)) (by omega) (by omega) (fun i hi => by rw [mu_n hi]; exact hs i hi) (fun j hj => by
          rw [mu_ij]
          by_cases e : j = k
          · rw [if_pos e]
          · rw [if_neg e]; exact hz j (by omega))
  exact key g 0 σ (by omega) (by omega) (fun _ _ => rfl) (fun j hj => by omega)
/-- the film's row once a show has been gone through, the show not kept yet -/
theorem FilmW_run {A : Fa} {w w' : Nat → Int32} (h : FilmW w A) (hr : RowW w' (aRun A).2.2.1.1) (hw : WrW w' (aRun A).2.1) (hc : ∀ j, (j = 0 ∨ 2 ≤ j ∧ j < 32 ∨ 1072 ≤ j) → w' j = w j) : FilmW w' (A.1, (aRun A).2.1, ((aRun A).2.2.1.1, A.2.2.1.2), A.2.2.2) := by
  obtain ⟨f1, f2, f3, f4, f5, f6, f7, f8, f9⟩ := h
  exact ⟨f1.same (fun j q => hc j (by omega)), hw, hr, f4.same (fun j q => hc j (by omega)), f5.same (fun j q => hc j (by omega)), f6.same (fun j q => hc j (by omega)), by rw [hc 5 (by omega)]; exact f7, by rw [hc 6 (by omega)]; exact f8, by rw [hc 7 (by omega)]; exact f9⟩
theorem X9_run_37 {B : Fa} {s : Sw} (hl : B.2.2.2.1.length < 10) : ∀ n k σ, k ≤ 488 → 488 - k < n → FilmW (σ (o + 1)) B → ShW (σ (o + 3)) s → (∀ j, j < k → σ (o + 1) (1132 + 488 * B.2.2.2.1.length + j) = σ (o + 3) j) → ∃ σ', fX9_run_37 g o n σ (nI k) = some (nI B.2.2.2.1.length, σ') ∧ FilmW (σ' (o + 1)) (B.1, B.2.1, B.2.2.1, B.2.2.2.1 ++ [s], B.2.2.2.2) ∧ ∀ i, i ≠ o + 1 → σ' i = σ i := by
  intro n
  induction n with
  | zero => intro k σ _ q; omega
  | succ n ih =>
    intro k σ h1 h2 hB hS hcp
    have h3 : σ (o + 1) 3 = nI B.2.2.2.1.length := hB.2.2.2.2.1.1
    rw [fX9_run_37]
    by_cases c : k = 488
    · subst c
      simp (disch := omega) only [chk_T, okI_t, okI_f, okI_nN, b2i_t, b2i_f, ifTT, ifFT, ite_true, ite_false, nI_c, bnd_s, bnd2_s, stp_s, ifLE_t, ifLE_f, ifLT_t, ifLT_f, ifE_t, ifE_f, if0_t, if0_f, ifn0, ifp0, ifl0_t, ifl0_f, ifg0_t, ifg0_f, ifnE, ifnE2, ifNE_t, ifNE_f, ifN0, ifNl, ifNp, ifB, nI_A, nI_S, nI_M, mu_s, mu_k, mu_n, mcp_n, h3, Nat.add_sub_cancel]
      obtain ⟨f1, f2, f3, f4, f5, f6, f7, f8, f9⟩ := hB
      refine ⟨_, rfl, ⟨f1.same (fun j q => mu_k (by omega)), f2.same (fun j a b => mu_k (by omega)), f3.same (fun j q => mu_k (by omega)), f4.same (fun j q => mu_k (by omega)), ⟨?_, ?_, fun i u hu => ?_⟩, f6.same (fun j q => mu_k (by omega)), by rw [mu_k (by omega)]; exact f7, by rw [mu_k (by omega)]; exact f8, by rw [mu_k (by omega)]; exact f9⟩, fun i hi => mu_n hi⟩
      · rw [mu_s]
        show nI _ = nI (B.2.2.2.1 ++ [s]).length
        rw [List.length_append, List.length_singleton]
      · show (B.2.2.2.1 ++ [s]).length ≤ 10
        rw [List.length_append, List.length_singleton]; omega
      · have hu : (B.2.2.2.1 ++ [s])[i]? = some u := hu
        have hlt := lt_of_get hu
        rw [List.length_append, List.length_singleton] at hlt
        by_cases q : i < B.2.2.2.1.length
        · rw [List.getElem?_append_left q] at hu
          exact (f5.2.2 i u hu).same (fun j _ => mu_k (by omega))
        · rw [List.getElem?_append_right (by omega), show i - B.2.2.2.1.length = 0 by omega] at hu
          cases hu
          have hi : i = B.2.2.2.1.length := by omega
          subst hi
          exact hS.same (fun j hj => by
            show mu σ (o + 1) 3 _ (o + 1) _ = _
            rw [mu_k (by omega)]
            exact hcp j hj)
    · simp (disch := omega) only [chk_T, okI_t, okI_f, okI_nN, b2i_t, b2i_f, ifTT, ifFT, ite_true, ite_false, nI_c, bnd_s, bnd2_s, stp_s, ifLE_t, ifLE_f, ifLT_t, ifLT_f, ifE_t, ifE_f, if0_t, if0_f, ifn0, ifp0, ifl0_t, ifl0_f, ifg0_t, ifg0_f, ifnE, ifnE2, ifNE_t, ifNE_f, ifN0, ifNl, ifNp, ifB, nI_A, nI_S, nI_M, mu_s, mu_k, mu_n, mcp_n, h3]
      obtain ⟨σ1, e1, r1, s1⟩ := ih (k + 1) (mu σ (o + 1) (1132 + 488 * B.2.2.2.1.length + k) (σ (o + 3) k)) (by omega) (by omega) (by
        obtain ⟨f1, f2, f3, f4, f5, f6, f7, f8, f9⟩ := hB
        refine ⟨f1.same (fun j q => mu_k (by omega)), f2.same (fun j a b => mu_k (by omega)), f3.same (fun j q => mu_k (by omega)), f4.same (fun j q => mu_k (by omega)), ⟨?_, f5.2.1, fun i u hu => ?_⟩, f6.same (fun j q => mu_k (by omega)), by rw [mu_k (by omega)]; exact f7, by rw [mu_k (by omega)]; exact f8, by rw [mu_k (by omega)]; exact f9⟩
        · rw [mu_k (by omega)]; exact h3
        · have := lt_of_get hu
          exact (f5.2.2 i u hu).same (fun j hj => mu_k (by omega))) (by rw [mu_n (by omega)]; exact hS) (fun j hj => by
        rw [mu_n (show o + 3 ≠ o + 1 by omega), mu_ij]
        by_cases q : j = k
        · rw [if_pos (by omega), q]
        · rw [if_neg (by omega)]; exact hcp j (by omega))
      exact ⟨σ1, e1, r1, fun i hi => by rw [s1 i hi, mu_n hi]⟩
/-- what keeps the states changes -/
theorem X9_run (hg : 40000 ≤ g) {A : Fa} {hs : List Fa} (h : FilmW (σ (o + 1)) A) (hh : HistM σ o hs) (hok : ShowOK A) : ∃ σ', fX9_run g σ o = some ((if A.2.2.1.1.length = 0 then nN 4 else if A.2.2.2.1.length = 10 then nN 3 else nI A.2.2.2.1.length), σ') ∧ FilmW (σ' (o + 1)) (if A.2.2.1.1.length = 0 ∨ A.2.2.2.1.length = 10 then A else aRun A) ∧ HistM σ' o (if A.2.2.1.1.length = 0 ∨ A.2.2.2.1.length = 10 then hs else recd A hs) ∧ (∀ i, i ≠ o → i ≠ o + 1 → i ≠ o + 2 → i ≠ o + 3 → σ' i = σ i) ∧ (∀ j, j ≠ 2 → σ' o j = σ o j) ∧ (∀ j, 24144 ≤ j → σ' (o + 2) j = σ (o + 2) j) := by
  have e1 : σ (o + 1) 1 = nI A.2.2.1.1.length := h.2.2.1.1
  have e3 : σ (o + 1) 3 = nI A.2.2.2.1.length := h.2.2.2.2.1.1
  have l1 : A.2.2.1.1.length ≤ 20 := h.2.2.1.2.1
  have l3 : A.2.2.2.1.length ≤ 10 := h.2.2.2.2.1.2.1
  unfold fX9_run
  by_cases c1 : A.2.2.1.1.length = 0
  · simp (disch := omega) only [chk_T, okI_t, okI_f, okI_nN, b2i_t, b2i_f, ifTT, ifFT, ite_true, ite_false, nI_c, bnd_s, bnd2_s, stp_s, ifLE_t, ifLE_f, ifLT_t, ifLT_f, ifE_t, ifE_f, if0_t, if0_f, ifn0, ifp0, ifl0_t, ifl0_f, ifg0_t, ifg0_f, ifnE, ifnE2, ifNE_t, ifNE_f, ifN0, ifNl, ifNp, ifB, nI_A, nI_S, nI_M, mu_s, mu_k, mu_n, mcp_n, e1, if_pos c1, if_pos (Or.inl (b := A.2.2.2.1.length = 10) c1)]
    exact ⟨σ, rfl, h, hh, fun _ _ _ _ _ => rfl, fun _ _ => rfl, fun _ _ => rfl⟩
  · by_cases c2 : A.2.2.2.1.length = 10
    · simp (disch := omega) only [chk_T, okI_t, okI_f, okI_nN, b2i_t, b2i_f, ifTT, ifFT, ite_true, ite_false, nI_c, bnd_s, bnd2_s, stp_s, ifLE_t, ifLE_f, ifLT_t, ifLT_f, ifE_t, ifE_f, if0_t, if0_f, ifn0, ifp0, ifl0_t, ifl0_f, ifg0_t, ifg0_f, ifnE, ifnE2, ifNE_t, ifNE_f, ifN0, ifNl, ifNp, ifB, nI_A, nI_S, nI_M, mu_s, mu_k, mu_n, mcp_n, e1, e3, if_neg c1, if_pos c2, if_pos (Or.inr (a := A.2.2.1.1.length = 0) c2)]
      exact ⟨σ, rfl, h, hh, fun _ _ _ _ _ => rfl, fun _ _ => rfl, fun _ _ => rfl⟩
    · obtain ⟨σ1, p1, r1, h1⟩ := X9_records (g := g) (o := o) (b := 0) (by omega) hg hh (A := A) (by simp only [if_true]; exact h)
      have h1f : FilmW (σ1 (o + 1)) A := by rw [h1.1 _ (by omega) (by omega)]; exact h
      obtain ⟨σ2, p2, q1, q2, q3, h2⟩ := X9_shows (g := g) (o := o) (by omega) h1f hok
      have h2f := FilmW_run h1f q1 q2 h2.2
      obtain ⟨σ3, p3, f3, h3⟩ := X9_run_37 (g := g) (o := o) (s := aShow A) (by show A.2.2.2.1.length < 10; omega) g 0 σ2 (by omega) (by omega) h2f q3 (fun j hj => by omega)
      have p3 : fX9_run_37 g o g σ2 (nI 0) = some (nI A.2.2.2.1.length, σ3) := p3
      simp (disch := omega) only [chk_T, okI_t, okI_f, okI_nN, b2i_t, b2i_f, ifTT, ifFT, ite_true, ite_false, nI_c, bnd_s, bnd2_s, stp_s, ifLE_t, ifLE_f, ifLT_t, ifLT_f, ifE_t, ifE_f, if0_t, if0_f, ifn0, ifp0, ifl0_t, ifl0_f, ifg0_t, ifg0_f, ifnE, ifnE2, ifNE_t, ifNE_f, ifN0, ifNl, ifNp, ifB, nI_A, nI_S, nI_M, mu_s, mu_k, mu_n, mcp_n, e1, e3, if_neg c1, if_neg c2, p1, p2, p3, if_neg (show ¬ (A.2.2.1.1.length = 0 ∨ A.2.2.2.1.length = 10) by omega)]
      have t2 : σ3 (o + 2) = σ1 (o + 2) := by rw [h3 _ (by omega), h2.1 _ (by omega) (by omega)]
      have t0 : σ3 o = σ1 o := by rw [h3 _ (by omega), h2.1 _ (by omega) (by omega)]
      refine ⟨σ3, rfl, f3, ?_, fun i a b c d => ?_, fun j hj => ?_, fun j hj => ?_⟩
      · unfold HistM
        rw [t0, t2]
        exact r1
      · rw [h3 i b, h2.1 i b d, h1.1 i a c]
      · rw [t0]; exact h1.2.1 j hj
      · rw [t2]; exact h1.2.2 j hj
/-- a show tried: the state is as it was -/
theorem X9_tries (hg : 40000 ≤ g) {A : Fa} {f : Nat} (h : FilmW (σ (o + 1)) A) (hok : ShowOK A) (hf : f < 8) : ∃ σ', fX9_tries g σ o (nI f) = some ((if f = 0 then nI (aShow A).1.length else (aShow A).2 f), σ') ∧ FilmW (σ' (o + 1)) A ∧ (∀ i, i ≠ o + 1 → i ≠ o + 2 → i ≠ o + 3 → σ' i = σ i) ∧ (∀ j, j < 30180 → σ' (o + 2) j = σ (o + 2) j) := by
  obtain ⟨σ1, p1, s1, r1⟩ := X9_keeps (g := g) (σ := σ) (o := o) (c := 5) hg (by omega)
  have h1f : FilmW (σ1 (o + 1)) A := by rw [s1 _ (by omega)]; exact h
  obtain ⟨σ2, p2, q1, q2, q3, h2⟩ := X9_shows (g := g) (o := o) (by omega) h1f hok
  obtain ⟨σ3, p3, s3, r3⟩ := X9_brings (g := g) (σ := σ2) (o := o) (c := 5) hg (by omega)
  have t3 : σ3 (o + 3) = σ2 (o + 3) := s3 _ (by omega)
  have hv : σ3 (o + 3) f = if f = 0 then nI (aShow A).1.length else (aShow A).2 f := by
    rw [t3]
    by_cases c : f = 0
    · rw [if_pos c, c]; exact q3.1
    · rw [if_neg c]; exact q3.2.2.1 f (by omega) hf
  unfold fX9_tries
  simp (disch := omega) only [chk_T, okI_t, okI_f, okI_nN, b2i_t, b2i_f, ifTT, ifFT, ite_true, ite_false, nI_c, bnd_s, bnd2_s, stp_s, ifLE_t, ifLE_f, ifLT_t, ifLT_f, ifE_t, ifE_f, if0_t, if0_f, ifn0, ifp0, ifl0_t, ifl0_f, ifg0_t, ifg0_f, ifnE, ifnE2, ifNE_t, ifNE_f, ifN0, ifNl, ifNp, ifB, nI_A, nI_S, nI_M, mu_s, mu_k, mu_n, mcp_n, p1, p2, p3, hv]
  refine ⟨σ3, rfl, h.same (fun j hj => ?_), fun i a b c => ?_, fun j hj => ?_⟩
  · rw [r3, if_pos (by omega), h2.1 _ (by omega) (by omega), r1, if_pos (by omega), Nat.add_sub_cancel_left]
  · rw [s3 i a, h2.1 i a c, s1 i b]
  · rw [s3 _ (by omega), h2.1 _ (by omega) (by omega), r1, if_neg (by omega)]
end
