/-! PURE ROWS, 24: where a frame is on the reel; whether a scene's frames are in order -/
def plF (L : List Pc) (s f : Nat) : Nat → List Pc → Option Nat
  | _, [] => none
  | k, x :: M => if x.1 = s ∧ x.2.1 ≤ f ∧ f ≤ x.2.2.1 then some (posOf L k + f - x.2.1) else plF L s f (k + 1) M
def plc (L : List Pc) (s f : Nat) : Option Nat := plF L s f 0 L
def plI (v : Option Nat) : Int32 := match v with
  | some p => nI p
  | none => nN 5
theorem plF_some {L : List Pc} {s f : Nat} : ∀ (M : List Pc) (k v : Nat), L.drop k = M → plF L s f k M = some v → ∃ i x, k ≤ i ∧ L[i]? = some x ∧ x.1 = s ∧ x.2.1 ≤ f ∧ f ≤ x.2.2.1 ∧ v = posOf L i + f - x.2.1 := by
  intro M
  induction M with
  | nil => intro k v _ h; cases h
  | cons y M ih =>
    intro k v hM h
    have hy : L[k]? = some y := by
      have := congrArg (fun l => l[0]?) hM
      simp at this
      exact this
    have hM' : L.drop (k + 1) = M := by
      rw [drop_get hy] at hM
      exact (List.cons.inj hM).2
    rw [plF] at h
    by_cases c : y.1 = s ∧ y.2.1 ≤ f ∧ f ≤ y.2.2.1
    · rw [if_pos c] at h
      exact ⟨k, y, Nat.le_refl _, hy, c.1, c.2.1, c.2.2, (Option.some.inj h).symm⟩
    · rw [if_neg c] at h
      obtain ⟨i, x, h1, h2⟩ := ih (k + 1) v hM' h
      exact ⟨i, x, by omega, h2⟩
theorem plF_of {L : List Pc} (hD : Dj L) {s f i : Nat} {x : Pc} (hx : L[i]? = some x) (h1 : x.1 = s) (h2 : x.2.1 ≤ f) (h3 : f ≤ x.2.2.1) : ∀ (d k : Nat), k + d = i → plF L s f k (L.drop k) = some (posOf L i + f - x.2.1) := by
  intro d
  induction d with
  | zero =>
    intro k hk
    have hk : k = i := by omega
    subst hk
    rw [drop_get hx, plF, if_pos ⟨h1, h2, h3⟩]
  | succ d ih =>
    intro k hk
    have hi := lt_of_get hx
    obtain ⟨y, hy⟩ := get_of (L := L) (i := k) (by omega)
    have ha := hD k i y x (by omega) hy hx
    rw [drop_get hy, plF, if_neg (fun c => by unfold apart at ha; omega)]
    exact ih (k + 1) (by omega)
theorem plc_some {L : List Pc} {s f v : Nat} (h : plc L s f = some v) : ∃ i x, L[i]? = some x ∧ x.1 = s ∧ x.2.1 ≤ f ∧ f ≤ x.2.2.1 ∧ v = posOf L i + f - x.2.1 := by
  obtain ⟨i, x, -, h2⟩ := plF_some L 0 v rfl h
  exact ⟨i, x, h2⟩
theorem plc_of {L : List Pc} (hD : Dj L) {s f i : Nat} {x : Pc} (hx : L[i]? = some x) (h1 : x.1 = s) (h2 : x.2.1 ≤ f) (h3 : f ≤ x.2.2.1) : plc L s f = some (posOf L i + f - x.2.1) := plF_of hD hx h1 h2 h3 i 0 (by omega)
theorem within_n {a b c : Nat} (ha : a < 2147483648) (hb : b < 2147483648) (hc : c < 2147483648) : (decide (nI a ≤ nI b) && decide (nI b ≤ nI c)) = decide (a ≤ b ∧ b ≤ c) := by
  rw [Bool.eq_iff_iff]
  simp only [Bool.and_eq_true, decide_eq_true_eq, nI_LE ha hb, nI_LE hb hc]
/-- pieces of a scene follow each other as its frames do -/
def ordQ (L : List Pc) (s : Nat) : Prop := ∀ (i j : Nat) (x y : Pc), i < j → L[i]? = some x → L[j]? = some y → x.1 = s → y.1 = s → x.2.2.1 < y.2.1
def ordP (L : List Pc) (s F : Nat) : Prop := ∀ (a b pa pb : Nat), a < b → b < F → plc L s a = some pa → plc L s b = some pb → pa < pb
theorem ord_eq {L : List Pc} {s F : Nat} (hV : RowV L) (hD : Dj L) (hF : ∀ (i : Nat) (x : Pc), L[i]? = some x → x.1 = s → x.2.2.1 < F) : ordP L s F ↔ ordQ L s := by
  constructor
  · intro hP i j x y hij hx hy hxs hys
    have ha := hD i j x y hij hx hy
    have vx := hV i x hx
    have vy := hV j y hy
    by_cases c : x.2.2.1 < y.2.1
    · exact c
    · have hlt : y.2.2.1 < x.2.1 := by unfold apart at ha; omega
      obtain ⟨-, vx1, -, -⟩ := vx
      obtain ⟨-, vy1, -, -⟩ := vy
      have h1 := plc_of hD (f := y.2.1) hy hys (Nat.le_refl _) vy1
      have h2 := plc_of hD (f := x.2.2.1) hx hxs vx1 (Nat.le_refl _)
      have := hP y.2.1 x.2.2.1 _ _ (by omega) (hF i x hx hxs) h1 h2
      have hs := posOf_s hx
      have hpl : plen x = x.2.2.1 - x.2.1 + 1 := rfl
      have hm : posOf L (i + 1) ≤ posOf L j := posOf_mono (by omega) (Nat.le_of_lt (lt_of_get hy))
      omega
  · intro hQ a b pa pb hab hb h1 h2
    obtain ⟨i, x, hx, x1, x2, x3, rfl⟩ := plc_some h1
    obtain ⟨j, y, hy, y1, y2, y3, rfl⟩ := plc_some h2
    rcases Nat.lt_trichotomy i j with c | c | c
    · have hs := posOf_s hx
      have hpl : plen x = x.2.2.1 - x.2.1 + 1 := rfl
      have hm : posOf L (i + 1) ≤ posOf L j := posOf_mono (by omega) (Nat.le_of_lt (lt_of_get hy))
      omega
    · subst c
      rw [hx] at hy
      cases hy
      omega
    · have := hQ j i y x c hy hx y1 x1
      omega
section
variable {g o : Nat} {σ : Mem} {L : List Pc}
theorem X4_positionOf_5 (h : RowC σ o L) (hV : RowV L) {s f : Nat} (hs : s < 12) (hf : f < 40) : ∀ n k, k ≤ L.length → L.length - k < n → fX4_positionOf_5 g o n σ (nI s) (nI f) (nI (posOf L k)) (nI k) = some (plI (plF L s f k (L.drop k))) := by
  intro n
  induction n with
  | zero => intro k _ q; omega
  | succ n ih =>
    intro k h1 h2
    have hl := h.2.1
    rw [fX4_positionOf_5, h.1]
    by_cases c : k = L.length
    · subst c
      rw [ifLE_t (Nat.le_refl _) (by omega), List.drop_length]; rfl
    · obtain ⟨x, hx⟩ := get_of (L := L) (i := k) (by omega)
      have hv := hV k x hx
      obtain ⟨e1, e2, e3, -⟩ := h.2.2 k x hx
      have step := ih (k + 1) (by omega) (by omega)
      have hp := posOf_s hx
      rw [drop_get hx, plF]
      rw [ifLE_f (by omega) (by omega)]
      simp (disch := omega) only [chk_T, okI_t, okI_f, okI_nN, b2i_t, b2i_f, ifTT, ifFT, ite_true, ite_false, nI_c, bnd_s, bnd2_s, stp_s, ifLE_t, ifLE_f, ifLT_t, ifLT_f, ifE_t, ifE_f, if0_t, if0_f, ifn0, ifp0, ifl0_t, ifl0_f, ifg0_t, ifg0_f, ifnE, ifnE2, ifNE_t, ifNE_f, ifN0, ifNl, ifNp, ifB, nI_A, nI_S, nI_M, mu_s, mu_k, mu_n, mcp_n, e1, e2, e3, X4_lengthOf h hV hx, X8_isWithin]
      rw [← hp]
      obtain ⟨v0, v1, v2, v3⟩ := hv
      by_cases c1 : x.1 = s
      · rw [if_pos (by rw [c1]), within_n (by omega) (by omega) (by omega)]
        by_cases c2 : x.2.1 ≤ f ∧ f ≤ x.2.2.1
        · rw [decide_eq_true c2, ifTT, if_pos (show x.1 = s ∧ x.2.1 ≤ f ∧ f ≤ x.2.2.1 from ⟨c1, c2⟩), nI_S (by omega)]
          rfl
        · rw [decide_eq_false c2, ifFT, if_neg (show ¬ (x.1 = s ∧ x.2.1 ≤ f ∧ f ≤ x.2.2.1) from fun z => c2 z.2)]
          exact step
      · rw [if_neg (fun z => c1 ((nI_E (by omega) (by omega)).1 z)), if_neg (fun z => c1 z.1)]
        exact step
theorem X4_positionOf (hg : 1000 ≤ g) (h : RowC σ o L) (hV : RowV L) {s f : Nat} (hs : s < 12) (hf : f < 40) : fX4_positionOf g σ o (nI s) (nI f) = some (plI (plc L s f)) := by
  have hl := h.2.1
  have := X4_positionOf_5 (g := g) h hV hs hf g 0 (by omega) (by omega)
  rw [posOf_0] at this
  exact this
theorem X9_placeOf_2 (hg : 1000 ≤ g) (h : RowM σ o L) (hV : RowV L) {s f : Nat} (hs : s < 12) (hf : f < 40) : ∀ n k, k ≤ L.length → L.length - k < n → fX9_placeOf_2 g o n σ (nI s) (nI f) (nI k) = some (plI (plF L s f k (L.drop k))) := by
  intro n
  induction n with
  | zero => intro k _ q; omega
  | succ n ih =>
    intro k h1 h2
    have hl := h.2.1
    have h0 : σ (o + 1) 1 = nI L.length := h.1
    rw [fX9_placeOf_2]
    by_cases c : k = L.length
    · subst c
      simp (disch := omega) only [chk_T, okI_t, okI_f, okI_nN, b2i_t, b2i_f, ifTT, ifFT, ite_true, ite_false, nI_c, bnd_s, bnd2_s, stp_s, ifLE_t, ifLE_f, ifLT_t, ifLT_f, ifE_t, ifE_f, if0_t, if0_f, ifn0, ifp0, ifl0_t, ifl0_f, ifg0_t, ifg0_f, ifnE, ifnE2, ifNE_t, ifNE_f, ifN0, ifNl, ifNp, ifB, nI_A, nI_S, nI_M, mu_s, mu_k, mu_n, mcp_n, h0]
      rw [List.drop_length]; rfl
    · obtain ⟨x, hx⟩ := get_of (L := L) (i := k) (by omega)
      have hv := hV k x hx
      have step := ih (k + 1) (by omega) (by omega)
      rw [drop_get hx, plF]
      simp (disch := omega) only [chk_T, okI_t, okI_f, okI_nN, b2i_t, b2i_f, ifTT, ifFT, ite_true, ite_false, nI_c, bnd_s, bnd2_s, stp_s, ifLE_t, ifLE_f, ifLT_t, ifLT_f, ifE_t, ifE_f, if0_t, if0_f, ifn0, ifp0, ifl0_t, ifl0_f, ifg0_t, ifg0_f, ifnE, ifnE2, ifNE_t, ifNE_f, ifN0, ifNl, ifNp, ifB, nI_A, nI_S, nI_M, mu_s, mu_k, mu_n, mcp_n, h0, X9_ofP h hx, pcc, X9_isIn, X9_positionOf hg h hV (show k ≤ L.length by omega)]
      obtain ⟨v0, v1, v2, v3⟩ := hv
      by_cases c1 : x.1 = s
      · rw [if_pos (by rw [c1]), within_n (by omega) (by omega) (by omega)]
        by_cases c2 : x.2.1 ≤ f ∧ f ≤ x.2.2.1
        · rw [decide_eq_true c2, ifTT, if_pos (show x.1 = s ∧ x.2.1 ≤ f ∧ f ≤ x.2.2.1 from ⟨c1, c2⟩), nI_S (by omega)]
          rfl
        · rw [decide_eq_false c2, ifFT, if_neg (show ¬ (x.1 = s ∧ x.2.1 ≤ f ∧ f ≤ x.2.2.1) from fun z => c2 z.2)]
          exact step
      · rw [if_neg (fun z => c1 ((nI_E (by omega) (by omega)).1 z)), if_neg (fun z => c1 z.1)]
        exact step
theorem X9_placeOf (hg : 1000 ≤ g) (h : RowM σ o L) (hV : RowV L) {s f : Nat} (hs : s < 12) (hf : f < 40) : fX9_placeOf g σ o (nI s) (nI f) = some (plI (plc L s f)) := by
  have hl := h.2.1
  exact X9_placeOf_2 (g := g) hg h hV hs hf g 0 (by omega) (by omega)
/-- the class goes along the pieces: x2 is the last frame of the last piece of the scene, or -1 -/
theorem X4_inOrder_t (h : RowC σ o L) (hV : RowV L) {s : Nat} (hs : s < 12) (hQ : ordQ L s) : ∀ n k (x2 : Int32), k ≤ L.length → L.length - k < n → (x2 = nN 1 ∨ ∃ i x, i < k ∧ L[i]? = some x ∧ x.1 = s ∧ x2 = nI x.2.2.1) → fX4_isInOrder_4 g o n σ (nI s) x2 (nI k) = some (nI 1) := by
  intro n
  induction n with
  | zero => intro k x2 _ q; omega
  | succ n ih =>
    intro k x2 h1 h2 hx2
    have hl := h.2.1
    rw [fX4_isInOrder_4, h.1]
    by_cases c : k = L.length
    · subst c
      rw [ifLE_t (Nat.le_refl _) (by omega)]
    · obtain ⟨y, hy⟩ := get_of (L := L) (i := k) (by omega)
      obtain ⟨v0, v1, v2, v3⟩ := hV k y hy
      obtain ⟨e1, e2, e3, -⟩ := h.2.2 k y hy
      rw [ifLE_f (by omega) (by omega)]
      simp (disch := omega) only [chk_T, okI_t, okI_f, okI_nN, b2i_t, b2i_f, ifTT, ifFT, ite_true, ite_false, nI_c, bnd_s, bnd2_s, stp_s, ifLE_t, ifLE_f, ifLT_t, ifLT_f, ifE_t, ifE_f, if0_t, if0_f, ifn0, ifp0, ifl0_t, ifl0_f, ifg0_t, ifg0_f, ifnE, ifnE2, ifNE_t, ifNE_f, ifN0, ifNl, ifNp, ifB, nI_A, nI_S, nI_M, mu_s, mu_k, mu_n, mcp_n, e1, e2, e3]
      by_cases c1 : y.1 = s
      · rw [if_pos (by rw [c1])]
        have hle : x2 ≤ nI y.2.1 := by
          rcases hx2 with rfl | ⟨i, x, hi, hx, x1, rfl⟩
          · rw [Int32.le_iff_toInt_le, nN_toInt (by omega), nI_toInt (by omega)]; omega
          · have := hQ i k x y hi hx hy x1 c1
            exact (nI_LE (by have := (hV i x hx).2.2.1; omega) (by omega)).2 (by omega)
        rw [if_pos hle]
        exact ih (k + 1) _ (by omega) (by omega) (Or.inr ⟨k, y, by omega, hy, c1, rfl⟩)
      · rw [if_neg (fun z => c1 ((nI_E (by omega) (by omega)).1 z))]
        exact ih (k + 1) _ (by omega) (by omega) (by
          rcases hx2 with rfl | ⟨i, x, hi, hx, x1, rfl⟩
          · exact Or.inl rfl
          · exact Or.inr ⟨i, x, by omega, hx, x1, rfl⟩)
theorem X4_inOrder_f (h : RowC σ o L) (hV : RowV L) (hD : Dj L) {s i j : Nat} (hs : s < 12) {x y : Pc} (hij : i < j) (hx : L[i]? = some x) (hy : L[j]? = some y) (x1 : x.1 = s) (y1 : y.1 = s) (hn : ¬ x.2.2.1 < y.2.1) : ∀ n k (x2 : Int32), k ≤ j → L.length - k < n → (i < k → ∃ z, z < 40 ∧ x2 = nI z ∧ x.2.2.1 ≤ z) → fX4_isInOrder_4 g o n σ (nI s) x2 (nI k) = some (nI 0) := by
  have hj := lt_of_get hy
  have ha := hD i j x y hij hx hy
  have hlt : y.2.2.1 < x.2.1 := by unfold apart at ha; omega
  intro n
  induction n with
  | zero => intro k x2 _ q; omega
  | succ n ih =>
    intro k x2 h1 h2 hx2
    have hl := h.2.1
    rw [fX4_isInOrder_4, h.1]
    obtain ⟨z, hz⟩ := get_of (L := L) (i := k) (by omega)
    obtain ⟨v0, v1, v2, v3⟩ := hV k z hz
    obtain ⟨w0, w1, w2, w3⟩ := hV i x hx
    obtain ⟨u0, u1, u2, u3⟩ := hV j y hy
    obtain ⟨e1, e2, e3, -⟩ := h.2.2 k z hz
    rw [ifLE_f (by omega) (by omega)]
    simp (disch := omega) only [chk_T, okI_t, okI_f, okI_nN, b2i_t, b2i_f, ifTT, ifFT, ite_true, ite_false, nI_c, bnd_s, bnd2_s, stp_s, ifLE_t, ifLE_f, ifLT_t, ifLT_f, ifE_t, ifE_f, if0_t, if0_f, ifn0, ifp0, ifl0_t, ifl0_f, ifg0_t, ifg0_f, ifnE, ifnE2, ifNE_t, ifNE_f, ifN0, ifNl, ifNp, ifB, nI_A, nI_S, nI_M, mu_s, mu_k, mu_n, mcp_n, e1, e2, e3]
    by_cases c : k = j
    · subst c
      rw [hy] at hz
      cases hz
      obtain ⟨q, q1, rfl, q2⟩ := hx2 hij
      rw [if_pos (by rw [y1]), ifLE_f (by omega) (by omega)]
    · by_cases c1 : z.1 = s
      · rw [if_pos (by rw [c1])]
        by_cases c2 : x2 ≤ nI z.2.1
        · rw [if_pos c2]
          refine ih (k + 1) _ (by omega) (by omega) (fun hik => ⟨z.2.2.1, v2, rfl, ?_⟩)
          by_cases c3 : i = k
          · subst c3
            rw [hx] at hz
            cases hz
            exact Nat.le_refl _
          · obtain ⟨q, q1, rfl, q2⟩ := hx2 (by omega)
            have := (nI_LE (by omega) (by omega)).1 c2
            omega
        · rw [if_neg c2]
      · rw [if_neg (fun q => c1 ((nI_E (by omega) (by omega)).1 q))]
        have k1 : k + 1 ≤ j := Nat.lt_of_le_of_ne h1 c
        have k2 : L.length - (k + 1) < n := by clear c1 c hx2 ha hlt hn ih v0 v1 v2 v3 w0 w1 w2 w3 u0 u1 u2 u3; omega
        refine ih (k + 1) x2 k1 k2 (fun hik => ?_)
        by_cases c3 : i = k
        · exfalso
          rw [← c3, hx] at hz
          exact c1 (by rw [← Option.some.inj hz]; exact x1)
        · exact hx2 (by omega)
theorem X4_isInOrder_t (hg : 1000 ≤ g) (h : RowC σ o L) (hV : RowV L) {s : Nat} (hs : s < 12) (hQ : ordQ L s) : fX4_isInOrder g σ o (nI s) = some (nI 1) := by
  have hl := h.2.1
  exact X4_inOrder_t h hV hs hQ g 0 _ (by omega) (by omega) (Or.inl rfl)
theorem X4_isInOrder_f (hg : 1000 ≤ g) (h : RowC σ o L) (hV : RowV L) (hD : Dj L) {s : Nat} (hs : s < 12) (hQ : ¬ ordQ L s) : fX4_isInOrder g σ o (nI s) = some (nI 0) := by
  have hl := h.2.1
  unfold ordQ at hQ
  simp only [Classical.not_forall] at hQ
  obtain ⟨i, j, x, y, hij, hx, hy, x1, y1, hn⟩ := hQ
  exact X4_inOrder_f h hV hD hs hij hx hy x1 y1 hn g 0 _ (by omega) (by omega) (fun q => by omega)
/-- the reference goes along the scene's frames: x2 is the place of the last frame that is on the reel, or -5 -/
theorem X9_inOrder_t (hg : 1000 ≤ g) (h : RowM σ o L) (hV : RowV L) {sc : List (Nat × Nat)} (hsc : ScW (σ (o + 1)) sc) {s : Nat} {y : Nat × Nat} (hy : sc[s]? = some y) (h40 : y.2 ≤ 40) (hs : s < 12) (hP : ordP L s y.2) (hb : tot L < 1000) : ∀ n f (x2 : Int32), f ≤ y.2 → y.2 - f < n → (x2 = nN 5 ∨ ∃ a z, a < f ∧ plc L s a = some z ∧ x2 = nI z) → fX9_isInOrder_8 g o n σ (nI s) x2 (nI 1) (nI f) = some (nI 1) := by
  intro n
  induction n with
  | zero => intro f x2 _ q; omega
  | succ n ih =>
    intro f x2 h1 h2 hx2
    rw [fX9_isInOrder_8, X9_framesOf hsc hy, bnd_s]
    by_cases c : f = y.2
    · subst c
      rw [ifLE_t (Nat.le_refl _) (by omega), chk_t (show isZ (nI 1) = true by decide)]
    · rw [ifLE_f (by omega) (by omega), X9_placeOf hg h hV hs (by omega), bnd_s, if_neg (show ¬ nI 1 = 0 by decide)]
      cases hp : plc L s f with
      | none =>
        rw [show plI none = nN 5 from rfl, if_pos rfl, if_pos rfl]
        rw [nI_A]
        exact ih (f + 1) x2 (by omega) (by omega) (by
          rcases hx2 with rfl | ⟨a, z, ha, hz, rfl⟩
          · exact Or.inl rfl
          · exact Or.inr ⟨a, z, by omega, hz, rfl⟩)
      | some p =>
        have hpb : p < 1000 := by
          obtain ⟨i, x, hx, x1, x2, x3, rfl⟩ := plc_some hp
          have hs := posOf_s hx
          have hpl : plen x = x.2.2.1 - x.2.1 + 1 := rfl
          have hm : posOf L (i + 1) ≤ tot L := posOf_mono (by have := lt_of_get hx; omega) (Nat.le_refl _)
          omega
        rw [show plI (some p) = nI p from rfl, if_neg (fun z => (nN_n (by omega) (by omega) (by omega)).1 z), if_neg (fun z => (nN_n (by omega) (by omega) (by omega)).1 z)]
        have hnot : ¬ nI p ≤ x2 := by
          rcases hx2 with rfl | ⟨a, z, ha, hz, rfl⟩
          · intro q
            rw [Int32.le_iff_toInt_le, nN_toInt (by omega), nI_toInt (by omega)] at q
            omega
          · have := hP a f z p ha (by omega) hz hp
            intro q
            have := (nI_LE (by omega) (by omega)).1 q
            omega
        rw [if_neg hnot, nI_A]
        exact ih (f + 1) _ (by omega) (by omega) (Or.inr ⟨f, p, by omega, hp, rfl⟩)
theorem X9_inOrder_0 (hg : 1000 ≤ g) (h : RowM σ o L) (hV : RowV L) {sc : List (Nat × Nat)} (hsc : ScW (σ (o + 1)) sc) {s : Nat} {y : Nat × Nat} (hy : sc[s]? = some y) (h40 : y.2 ≤ 40) (hs : s < 12) : ∀ n f (x2 : Int32), f ≤ y.2 → y.2 - f < n → fX9_isInOrder_8 g o n σ (nI s) x2 (nI 0) (nI f) = some (nI 0) := by
  intro n
  induction n with
  | zero => intro f x2 _ q; omega
  | succ n ih =>
    intro f x2 h1 h2
    rw [fX9_isInOrder_8, X9_framesOf hsc hy, bnd_s]
    by_cases c : f = y.2
    · subst c
      rw [ifLE_t (Nat.le_refl _) (by omega), chk_t (show isZ (nI 0) = true by decide)]
    · rw [ifLE_f (by omega) (by omega), X9_placeOf hg h hV hs (by omega), bnd_s, if_pos (show nI 0 = 0 from rfl), nI_A]
      exact ih (f + 1) _ (by omega) (by omega)
theorem X9_inOrder_f (hg : 1000 ≤ g) (h : RowM σ o L) (hV : RowV L) {sc : List (Nat × Nat)} (hsc : ScW (σ (o + 1)) sc) {s : Nat} {y : Nat × Nat} (hy : sc[s]? = some y) (h40 : y.2 ≤ 40) (hs : s < 12) (hb : tot L < 1000) {a b pa pb : Nat} (hab : a < b) (hbF : b < y.2) (ha : plc L s a = some pa) (hbp : plc L s b = some pb) (hn : ¬ pa < pb) : ∀ n f (x2 : Int32), f ≤ b → y.2 - f < n → (a < f → ∃ z, z < 1000 ∧ x2 = nI z ∧ pa ≤ z) → fX9_isInOrder_8 g o n σ (nI s) x2 (nI 1) (nI f) = some (nI 0) := by
  have bound : ∀ f p, plc L s f = some p → p < 1000 := by
    intro f p hp
    obtain ⟨i, x, hx, x1, x2, x3, rfl⟩ := plc_some hp
    have hs := posOf_s hx
    have hpl : plen x = x.2.2.1 - x.2.1 + 1 := rfl
    have hm : posOf L (i + 1) ≤ tot L := posOf_mono (by have := lt_of_get hx; omega) (Nat.le_refl _)
    omega
  intro n
  induction n with
  | zero => intro f x2 _ q; omega
  | succ n ih =>
    intro f x2 h1 h2 hx2
    rw [fX9_isInOrder_8, X9_framesOf hsc hy, bnd_s, ifLE_f (by omega) (by omega), X9_placeOf hg h hV hs (by omega), bnd_s, if_neg (show ¬ nI 1 = 0 by decide)]
    by_cases c : f = b
    · subst c
      obtain ⟨z, z1, rfl, z2⟩ := hx2 hab
      have := bound _ _ hbp
      rw [hbp, show plI (some pb) = nI pb from rfl, if_neg (fun z => (nN_n (by omega) (by omega) (by omega)).1 z), ifLE_t (by omega) (by omega), nI_A]
      exact X9_inOrder_0 hg h hV hsc hy h40 hs n (f + 1) _ (by omega) (by omega)
    · cases hp : plc L s f with
      | none =>
        rw [show plI none = nN 5 from rfl, if_pos rfl, if_pos rfl, nI_A]
        refine ih (f + 1) x2 (by omega) (by omega) (fun haf => ?_)
        by_cases c3 : a = f
        · subst c3
          rw [ha] at hp
          cases hp
        · exact hx2 (by omega)
      | some p =>
        have hpb := bound _ _ hp
        rw [show plI (some p) = nI p from rfl, if_neg (fun z => (nN_n (by omega) (by omega) (by omega)).1 z), if_neg (fun z => (nN_n (by omega) (by omega) (by omega)).1 z), nI_A]
        by_cases c2 : nI p ≤ x2
        · rw [if_pos c2]
          exact X9_inOrder_0 hg h hV hsc hy h40 hs n (f + 1) _ (by omega) (by omega)
        · rw [if_neg c2]
          refine ih (f + 1) _ (by omega) (by omega) (fun haf => ⟨p, hpb, rfl, ?_⟩)
          by_cases c3 : a = f
          · subst c3
            rw [ha] at hp
            cases hp
            exact Nat.le_refl _
          · obtain ⟨z, z1, rfl, z2⟩ := hx2 (by omega)
            have : ¬ p ≤ z := fun q => c2 ((nI_LE (by omega) (by omega)).2 q)
            omega
theorem X9_isInOrder_t (hg : 1000 ≤ g) (h : RowM σ o L) (hV : RowV L) {sc : List (Nat × Nat)} (hsc : ScW (σ (o + 1)) sc) {s : Nat} {y : Nat × Nat} (hy : sc[s]? = some y) (h40 : y.2 ≤ 40) (hs : s < 12) (hP : ordP L s y.2) (hb : tot L < 1000) : fX9_isInOrder g σ o (nI s) = some (nI 1) := X9_inOrder_t hg h hV hsc hy h40 hs hP hb g 0 _ (by omega) (by omega) (Or.inl rfl)
theorem X9_isInOrder_f (hg : 1000 ≤ g) (h : RowM σ o L) (hV : RowV L) {sc : List (Nat × Nat)} (hsc : ScW (σ (o + 1)) sc) {s : Nat} {y : Nat × Nat} (hy : sc[s]? = some y) (h40 : y.2 ≤ 40) (hs : s < 12) (hP : ¬ ordP L s y.2) (hb : tot L < 1000) : fX9_isInOrder g σ o (nI s) = some (nI 0) := by
  unfold ordP at hP
  simp only [Classical.not_forall] at hP
  obtain ⟨a, b, pa, pb, hab, hbF, ha, hbp, hn⟩ := hP
  exact X9_inOrder_f hg h hV hsc hy h40 hs hb hab hbF ha hbp hn g 0 _ (by omega) (by omega) (fun q => by omega)
end
