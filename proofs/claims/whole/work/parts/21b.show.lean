/-! PURE ROWS, 9: bits; what a show is; the class's way of telling it -/
def popN (v : Nat) : Nat → Nat
  | 0 => 0
  | k + 1 => popN v k + v / 2 ^ k % 2
def pop (v : Nat) : Nat := popN v 12
def low (t : Nat) : Nat := if t % 2 = 0 then t + 1 else if t / 2 % 2 = 0 then t + 2 else if t / 4 % 2 = 0 then t + 4 else t + 8
theorem sh_l : ∀ n, n < 32 → ((nI n &&& 31).toBitVec.smod 32).toNat = n := by decide +kernel
theorem bit_at {v k : Nat} (hv : v < 2147483648) (hk : k < 32) : (nI v >>> (nI k &&& 31)) &&& nI 1 = nI (v / 2 ^ k % 2) := by
  rw [pk_shrN (by omega) _ k (sh_l k hk)]
  exact pk_andN (Nat.lt_of_le_of_lt (Nat.div_le_self _ _) (by omega)) 1 (by decide)
theorem pop_16 : ∀ t, t < 16 → pop t ≤ 4 := by decide +kernel
theorem pop_0 : ∀ t, t < 16 → (pop t = 0 ↔ t = 0) := by decide +kernel
theorem pop_le (t : Nat) : ∀ k, popN t k ≤ k := by
  intro k
  induction k with
  | zero => exact Nat.le_refl _
  | succ k ih =>
    have : t / 2 ^ k % 2 < 2 := Nat.mod_lt _ (by omega)
    rw [popN]
    omega
theorem bitCount_s {g : Nat} {σ : Mem} : ∀ v, v < 64 → fJ6_bitCount_0f7a4 g σ (nI v) = some (nI (pop v)) := by
  unfold fJ6_bitCount_0f7a4
  decide +kernel
theorem low_16 : ∀ t, t < 16 → low t < 16 ∨ t = 15 := by decide +kernel
theorem low_s : ∀ t, t < 15 → nI t ||| ((nI t ^^^ nN 1) &&& -(nI t ^^^ nN 1)) = nI (low t) := by decide +kernel
def gd (t : Nat → Nat) (slot : Nat) : Nat := 4 - pop (t slot)
def num (s : Sw) (k : Nat) (d : Int32) : Sw := (s.1, upd s.2 k (s.2 k + d))
def unitS (s : Sw) (c : Int32) : Sw := (s.1 ++ [c], s.2)
def playF (good : Nat) (code : Int32) (s : Sw) : Sw := if good < 2 then unitS (num (num (num s 4 (nI good)) 5 (nI (good - good))) 2 (nI 1)) (nN 5) else unitS (num (num (num s 4 (nI good)) 5 (nI (good - good))) 1 (nI 1)) code
def windF (good : Nat) (s : Sw) : Sw := num (num (num s 4 (nI (good / 2))) 5 (nI (good - good / 2))) 3 (nI 1)
def playN (t : Nat → Nat) (sc : Nat) : Nat → Nat → Sw → Sw
  | _, 0, s => s
  | f, n + 1, s => playN t sc (f + 1) n (playF (gd t (40 * sc + f)) (nI (100 * sc + f)) s)
def windN (t : Nat → Nat) (sc : Nat) : Nat → Nat → Sw → Sw
  | _, 0, s => s
  | f, n + 1, s => windN t sc (f + 1) n (windF (gd t (40 * sc + f)) s)
def darkS : Nat → Sw → Sw
  | 0, s => s
  | n + 1, s => darkS n (unitS s (nN 5))
def playP (t : Nat → Nat) (x : Pc) (s : Sw) : Sw := playN t x.1 x.2.1 (plen x) s
def windP (t : Nat → Nat) (x : Pc) (s : Sw) : Sw := num (darkS ((plen x + 3) / 4) (windN t x.1 x.2.1 (plen x) s)) 7 (nI 1)
def kindOf (sc : List (Nat × Nat)) (i : Nat) : Nat := ((sc[i]?).map Prod.fst).getD 0
def isDis (dis k : Nat) : Bool := decide (dis / 2 ^ k % 2 = 1)
def projL (t : Nat → Nat) (sc : List (Nat × Nat)) (dis lim : Nat) : Nat → Nat → List Pc → Sw → Sw
  | _, _, [], s => s
  | i, left, x :: L, s => if i ≠ 0 ∧ lim ≤ x.2.2.2 then (s.1, upd s.2 6 (nI i)) else if left ≠ 0 ∧ isDis dis (kindOf sc x.1) = true then projL t sc dis lim (i + 1) (left - 1) L (windP t x s) else projL t sc dis lim (i + 1) left L (playP t x s)
def show0 : Sw := ([], fun k => if k = 6 then nN 5 else nI 0)
theorem drop_get {α : Type} {L : List α} {i : Nat} {x : α} (h : L[i]? = some x) : L.drop i = x :: L.drop (i + 1) := by
  obtain ⟨h1, rfl⟩ := List.getElem?_eq_some_iff.mp h
  exact List.drop_eq_getElem_cons h1
theorem num_len {s : Sw} {k : Nat} {d : Int32} : (num s k d).1 = s.1 := rfl
theorem playF_len {g : Nat} {c : Int32} {s : Sw} : (playF g c s).1.length = s.1.length + 1 := by
  unfold playF
  split <;> simp [unitS, num]
theorem windF_len {g : Nat} {s : Sw} : (windF g s).1 = s.1 := rfl
theorem playN_len {t : Nat → Nat} {sc : Nat} : ∀ n f s, (playN t sc f n s).1.length = s.1.length + n := by
  intro n
  induction n with
  | zero => intro f s; rfl
  | succ n ih => intro f s; rw [playN, ih, playF_len]; omega
theorem windN_len {t : Nat → Nat} {sc : Nat} : ∀ n f s, (windN t sc f n s).1 = s.1 := by
  intro n
  induction n with
  | zero => intro f s; rfl
  | succ n ih => intro f s; rw [windN, ih, windF_len]
theorem darkS_len : ∀ n s, (darkS n s).1.length = s.1.length + n := by
  intro n
  induction n with
  | zero => intro s; rfl
  | succ n ih => intro s; rw [darkS, ih]; simp [unitS]; omega
theorem windP_len {t : Nat → Nat} {x : Pc} {s : Sw} : (windP t x s).1.length = s.1.length + (plen x + 3) / 4 := by
  unfold windP
  rw [num_len, darkS_len, windN_len]
theorem nI_m1 {k : Nat} (h : 0 < k) : nI k + nN 1 = nI (k - 1) := by
  obtain ⟨j, rfl⟩ : ∃ j, k = j + 1 := ⟨k - 1, by omega⟩
  exact pk_m1 j
section
variable {g : Nat} {σ : Mem} {q : Nat} {s : Sw}
theorem ShowC_num {k : Nat} {d : Int32} (h : ShowC σ q s) (h1 : 1 ≤ k) (h2 : k < 8) : ShowC (mu σ (q + 1) k (σ (q + 1) k + d)) q (num s k d) := by
  obtain ⟨a1, a2, a3, a4⟩ := h
  refine ⟨by rw [mu_k (by omega)]; exact a1, a2, fun j j1 j2 => ?_, fun i c hc => by rw [mu_n (by omega)]; exact a4 i c hc⟩
  rw [mu_ij]
  show _ = upd s.2 k _ j
  unfold upd
  by_cases e : j = k
  · rw [if_pos e, if_pos e, a3 k h1 h2]
  · rw [if_neg e, if_neg e]; exact a3 j j1 j2
theorem X5_countHoles {a b : Nat} (h : ShowC σ q s) (hb : b ≤ a) : ∃ σ', fX5_countHoles g σ q (nI a) (nI b) = some σ' ∧ ShowC σ' q (num (num s 4 (nI b)) 5 (nI (a - b))) ∧ same σ σ' q (q + 3) := by
  unfold fX5_countHoles
  simp (disch := omega) only [chk_T, okI_t, stp_s, nI_c, nI_S]
  exact ⟨_, rfl, ShowC_num (ShowC_num h (by omega) (by omega)) (by omega) (by omega), (same_mu (by omega) (by omega)).tr (same_mu (by omega) (by omega))⟩
theorem X5_addUnit {c : Int32} (h : ShowC σ q s) (hl : s.1.length < 480) : ∃ σ', fX5_addUnit g σ q c = some σ' ∧ ShowC σ' q (unitS s c) ∧ same σ σ' q (q + 3) := by
  obtain ⟨a1, a2, a3, a4⟩ := h
  unfold fX5_addUnit
  simp (disch := omega) only [chk_T, okI_t, okI_f, okI_nN, b2i_t, b2i_f, ifTT, ifFT, ite_true, ite_false, nI_c, bnd_s, bnd2_s, stp_s, ifLE_t, ifLE_f, ifLT_t, ifLT_f, ifE_t, ifE_f, if0_t, if0_f, ifn0, ifp0, ifl0_t, ifl0_f, ifg0_t, ifg0_f, ifnE, ifnE2, ifNE_t, ifNE_f, ifN0, ifNl, ifNp, ifB, nI_A, nI_S, nI_M, mu_s, mu_k, mu_n, mcp_n, a1]
  refine ⟨_, rfl, ⟨?_, ?_, fun j j1 j2 => ?_, fun i d hd => ?_⟩, (same_mu (by omega) (by omega)).tr (same_mu (by omega) (by omega))⟩
  · rw [mu_s]; simp [unitS]
  · simp [unitS]; omega
  · simp (disch := omega) only [chk_T, okI_t, okI_f, okI_nN, b2i_t, b2i_f, ifTT, ifFT, ite_true, ite_false, nI_c, bnd_s, bnd2_s, stp_s, ifLE_t, ifLE_f, ifLT_t, ifLT_f, ifE_t, ifE_f, if0_t, if0_f, ifn0, ifp0, ifl0_t, ifl0_f, ifg0_t, ifg0_f, ifnE, ifnE2, ifNE_t, ifNE_f, ifN0, ifNl, ifNp, ifB, nI_A, nI_S, nI_M, mu_s, mu_k, mu_n, mcp_n]
    exact a3 j j1 j2
  · rw [mu_n (by omega), mu_ij]
    have hd : (s.1 ++ [c])[i]? = some d := hd
    by_cases e : i = s.1.length
    · rw [if_pos e]
      rw [e, List.getElem?_append_right (Nat.le_refl _), Nat.sub_self] at hd
      exact Option.some.inj hd
    · rw [if_neg e]
      have := lt_of_get hd
      rw [List.length_append, List.length_singleton] at this
      rw [List.getElem?_append_left (by omega)] at hd
      exact a4 i d hd
theorem X6_goodHoles {o slot : Nat} {sc : List (Nat × Nat)} {wr : Wr} (h : StockC σ o sc wr) (hs : slot < 480) (ht : ∀ j, wr.1 j < 16) : fX6_goodHoles g σ o (nI slot) = some (nI (gd wr.1 slot)) := by
  have := ht slot
  have h4 := pop_16 _ this
  unfold fX6_goodHoles
  simp (disch := omega) only [chk_T, okI_t, okI_f, okI_nN, b2i_t, b2i_f, ifTT, ifFT, ite_true, ite_false, nI_c, bnd_s, bnd2_s, stp_s, ifLE_t, ifLE_f, ifLT_t, ifLT_f, ifE_t, ifE_f, if0_t, if0_f, ifn0, ifp0, ifl0_t, ifl0_f, ifg0_t, ifg0_f, ifnE, ifnE2, ifNE_t, ifNE_f, ifN0, ifNl, ifNp, ifB, nI_A, nI_S, nI_M, mu_s, mu_k, mu_n, mcp_n, (h.2.2.2 slot hs).1, bitCount_s _ (show wr.1 slot < 64 by omega)]
  rfl
theorem X8_slotOf {a b : Nat} : fX8_slotOf g σ (nI a) (nI b) = some (nI (40 * a + b)) := by
  unfold fX8_slotOf
  simp (disch := omega) only [chk_T, okI_t, okI_f, okI_nN, b2i_t, b2i_f, ifTT, ifFT, ite_true, ite_false, nI_c, bnd_s, bnd2_s, stp_s, ifLE_t, ifLE_f, ifLT_t, ifLT_f, ifE_t, ifE_f, if0_t, if0_f, ifn0, ifp0, ifl0_t, ifl0_f, ifg0_t, ifg0_f, ifnE, ifnE2, ifNE_t, ifNE_f, ifN0, ifNl, ifNp, ifB, nI_A, nI_S, nI_M, mu_s, mu_k, mu_n, mcp_n]
  rw [Nat.mul_comm]
theorem X8_codeOf {a b : Nat} : fX8_codeOf g σ (nI a) (nI b) = some (nI (100 * a + b)) := by
  unfold fX8_codeOf
  simp (disch := omega) only [chk_T, okI_t, okI_f, okI_nN, b2i_t, b2i_f, ifTT, ifFT, ite_true, ite_false, nI_c, bnd_s, bnd2_s, stp_s, ifLE_t, ifLE_f, ifLT_t, ifLT_f, ifE_t, ifE_f, if0_t, if0_f, ifn0, ifp0, ifl0_t, ifl0_f, ifg0_t, ifg0_f, ifnE, ifnE2, ifNE_t, ifNE_f, ifN0, ifNl, ifNp, ifB, nI_A, nI_S, nI_M, mu_s, mu_k, mu_n, mcp_n]
theorem gd_le {t : Nat → Nat} {k : Nat} : gd t k ≤ 4 := by unfold gd; omega
theorem X2_play_24 {o o1 i : Nat} {sc : List (Nat × Nat)} {wr : Wr} {L : List Pc} {x : Pc} (ht : ∀ j, wr.1 j < 16) (hx : L[i]? = some x) (hv : PV x) (hd : o + 22 ≤ o1 ∨ o1 + 3 ≤ o) : ∀ n k f s σ, f + k = x.2.2.1 + 1 → k < n → s.1.length + k ≤ 480 → ShowC σ o1 s → StockC σ (o + 1) sc wr → RowC σ (o + 7) L → ∃ σ', fX2_play_24 g o o1 n σ (nI i) (nI x.1) (nI f) = some σ' ∧ ShowC σ' o1 (playN wr.1 x.1 f k s) ∧ same σ σ' o1 (o1 + 3) := by
  obtain ⟨v0, v1, v2, v3⟩ := hv
  intro n
  induction n with
  | zero => intro k f s σ _ q; omega
  | succ n ih =>
    intro k f s σ h1 h2 h3 hS hT hR
    have hi := lt_of_get hx
    have hl := hR.2.1
    have e3 : σ (o + 10) i = nI x.2.2.1 := (hR.2.2 i x hx).2.2.1
    rw [fX2_play_24]
    cases k with
    | zero =>
      simp (disch := omega) only [chk_T, okI_t, okI_f, okI_nN, b2i_t, b2i_f, ifTT, ifFT, ite_true, ite_false, nI_c, bnd_s, bnd2_s, stp_s, ifLE_t, ifLE_f, ifLT_t, ifLT_f, ifE_t, ifE_f, if0_t, if0_f, ifn0, ifp0, ifl0_t, ifl0_f, ifg0_t, ifg0_f, ifnE, ifnE2, ifNE_t, ifNE_f, ifN0, ifNl, ifNp, ifB, nI_A, nI_S, nI_M, mu_s, mu_k, mu_n, mcp_n, e3]
      exact ⟨σ, rfl, hS, same.rf⟩
    | succ k =>
      have hg4 := gd_le (t := wr.1) (k := 40 * x.1 + f)
      obtain ⟨σ1, e1, r1, s1⟩ := X5_countHoles (g := g) (a := gd wr.1 (40 * x.1 + f)) (b := gd wr.1 (40 * x.1 + f)) hS (Nat.le_refl _)
      simp (disch := omega) only [chk_T, okI_t, okI_f, okI_nN, b2i_t, b2i_f, ifTT, ifFT, ite_true, ite_false, nI_c, bnd_s, bnd2_s, stp_s, ifLE_t, ifLE_f, ifLT_t, ifLT_f, ifE_t, ifE_f, if0_t, if0_f, ifn0, ifp0, ifl0_t, ifl0_f, ifg0_t, ifg0_f, ifnE, ifnE2, ifNE_t, ifNE_f, ifN0, ifNl, ifNp, ifB, nI_A, nI_S, nI_M, mu_s, mu_k, mu_n, mcp_n, e3, X8_slotOf, X6_goodHoles hT (show 40 * x.1 + f < 480 by omega) ht, e1]
      rw [playN]
      unfold playF
      by_cases c : gd wr.1 (40 * x.1 + f) < 2
      · have r2 := ShowC_num (d := nI 1) (k := 2) r1 (by omega) (by omega)
        obtain ⟨σ3, e3, r3, s3⟩ := X5_addUnit (g := g) (c := nN 5) r2 (by rw [num_len, num_len, num_len]; omega)
        simp (disch := omega) only [chk_T, okI_t, okI_f, okI_nN, b2i_t, b2i_f, ifTT, ifFT, ite_true, ite_false, nI_c, bnd_s, bnd2_s, stp_s, ifLE_t, ifLE_f, ifLT_t, ifLT_f, ifE_t, ifE_f, if0_t, if0_f, ifn0, ifp0, ifl0_t, ifl0_f, ifg0_t, ifg0_f, ifnE, ifnE2, ifNE_t, ifNE_f, ifN0, ifNl, ifNp, ifB, nI_A, nI_S, nI_M, mu_s, mu_k, mu_n, mcp_n, if_pos c, e3]
        have st : same σ σ3 o1 (o1 + 3) := s1.tr ((same_mu (by omega) (by omega)).tr s3)
        obtain ⟨σ4, e4, r4, s4⟩ := ih k (f + 1) _ σ3 (by omega) (by omega) (by simp [unitS, num]; omega) r3 (hT.same (fun j a b => st j (by omega))) (hR.same (fun j a b => st j (by omega)))
        exact ⟨σ4, e4, r4, st.tr s4⟩
      · have r2 := ShowC_num (d := nI 1) (k := 1) r1 (by omega) (by omega)
        obtain ⟨σ3, e3, r3, s3⟩ := X5_addUnit (g := g) (c := nI (100 * x.1 + f)) r2 (by rw [num_len, num_len, num_len]; omega)
        simp (disch := omega) only [chk_T, okI_t, okI_f, okI_nN, b2i_t, b2i_f, ifTT, ifFT, ite_true, ite_false, nI_c, bnd_s, bnd2_s, stp_s, ifLE_t, ifLE_f, ifLT_t, ifLT_f, ifE_t, ifE_f, if0_t, if0_f, ifn0, ifp0, ifl0_t, ifl0_f, ifg0_t, ifg0_f, ifnE, ifnE2, ifNE_t, ifNE_f, ifN0, ifNl, ifNp, ifB, nI_A, nI_S, nI_M, mu_s, mu_k, mu_n, mcp_n, if_neg c, X8_codeOf, e3]
        have st : same σ σ3 o1 (o1 + 3) := s1.tr ((same_mu (by omega) (by omega)).tr s3)
        obtain ⟨σ4, e4, r4, s4⟩ := ih k (f + 1) _ σ3 (by omega) (by omega) (by simp [unitS, num]; omega) r3 (hT.same (fun j a b => st j (by omega))) (hR.same (fun j a b => st j (by omega)))
        exact ⟨σ4, e4, r4, st.tr s4⟩
theorem X2_play (hg : 1000 ≤ g) {o o1 i : Nat} {sc : List (Nat × Nat)} {wr : Wr} {L : List Pc} {x : Pc} (ht : ∀ j, wr.1 j < 16) (hx : L[i]? = some x) (hv : PV x) (hd : o + 22 ≤ o1 ∨ o1 + 3 ≤ o) (h3 : s.1.length + plen x ≤ 480) (hS : ShowC σ o1 s) (hT : StockC σ (o + 1) sc wr) (hR : RowC σ (o + 7) L) : ∃ σ', fX2_play g σ o o1 (nI i) = some σ' ∧ ShowC σ' o1 (playP wr.1 x s) ∧ same σ σ' o1 (o1 + 3) := by
  have hi := lt_of_get hx
  have hl := hR.2.1
  obtain ⟨e1, e2, -, -⟩ := hR.2.2 i x hx
  have e1 : σ (o + 8) i = nI x.1 := e1
  have e2 : σ (o + 9) i = nI x.2.1 := e2
  have := plen_b hv
  unfold fX2_play
  simp (disch := omega) only [chk_T, okI_t, okI_f, okI_nN, b2i_t, b2i_f, ifTT, ifFT, ite_true, ite_false, nI_c, bnd_s, bnd2_s, stp_s, ifLE_t, ifLE_f, ifLT_t, ifLT_f, ifE_t, ifE_f, if0_t, if0_f, ifn0, ifp0, ifl0_t, ifl0_f, ifg0_t, ifg0_f, ifnE, ifnE2, ifNE_t, ifNE_f, ifN0, ifNl, ifNp, ifB, nI_A, nI_S, nI_M, mu_s, mu_k, mu_n, mcp_n, e1, e2]
  exact X2_play_24 ht hx hv hd g (plen x) x.2.1 s σ (by omega) (by omega) h3 hS hT hR
theorem X2_wind_87 {o o1 D : Nat} (hD : D < 1000) : ∀ n k s σ, k ≤ D → D - k < n → s.1.length + (D - k) ≤ 480 → ShowC σ o1 s → ∃ σ', fX2_wind_87 g o o1 n σ (nI D) (nI k) = some σ' ∧ ShowC σ' o1 (num (darkS (D - k) s) 7 (nI 1)) ∧ same σ σ' o1 (o1 + 3) := by
  intro n
  induction n with
  | zero => intro k s σ _ q; omega
  | succ n ih =>
    intro k s σ h1 h2 h3 hS
    rw [fX2_wind_87]
    by_cases c : k = D
    · subst c
      simp (disch := omega) only [chk_T, okI_t, okI_f, okI_nN, b2i_t, b2i_f, ifTT, ifFT, ite_true, ite_false, nI_c, bnd_s, bnd2_s, stp_s, ifLE_t, ifLE_f, ifLT_t, ifLT_f, ifE_t, ifE_f, if0_t, if0_f, ifn0, ifp0, ifl0_t, ifl0_f, ifg0_t, ifg0_f, ifnE, ifnE2, ifNE_t, ifNE_f, ifN0, ifNl, ifNp, ifB, nI_A, nI_S, nI_M, mu_s, mu_k, mu_n, mcp_n, Nat.sub_self]
      exact ⟨_, rfl, ShowC_num hS (by omega) (by omega), same_mu (by omega) (by omega)⟩
    · obtain ⟨σ1, e1, r1, s1⟩ := X5_addUnit (g := g) (c := nN 5) hS (by omega)
      simp (disch := omega) only [chk_T, okI_t, okI_f, okI_nN, b2i_t, b2i_f, ifTT, ifFT, ite_true, ite_false, nI_c, bnd_s, bnd2_s, stp_s, ifLE_t, ifLE_f, ifLT_t, ifLT_f, ifE_t, ifE_f, if0_t, if0_f, ifn0, ifp0, ifl0_t, ifl0_f, ifg0_t, ifg0_f, ifnE, ifnE2, ifNE_t, ifNE_f, ifN0, ifNl, ifNp, ifB, nI_A, nI_S, nI_M, mu_s, mu_k, mu_n, mcp_n, e1]
      obtain ⟨σ2, e2, r2, s2⟩ := ih (k + 1) _ σ1 (by omega) (by omega) (by simp [unitS]; omega) r1
      rw [show D - k = (D - (k + 1)) + 1 by omega, darkS]
      exact ⟨σ2, e2, r2, s1.tr s2⟩
theorem X2_wind_16 (hg : 1000 ≤ g) {o o1 i : Nat} {sc : List (Nat × Nat)} {wr : Wr} {L : List Pc} {x : Pc} (ht : ∀ j, wr.1 j < 16) (hx : L[i]? = some x) (hV : RowV L) (hd : o + 22 ≤ o1 ∨ o1 + 3 ≤ o) : ∀ n k f s σ, f + k = x.2.2.1 + 1 → k < n → s.1.length + plen x ≤ 480 → ShowC σ o1 s → StockC σ (o + 1) sc wr → RowC σ (o + 7) L → ∃ σ', fX2_wind_16 g o o1 n σ (nI i) (nI f) = some σ' ∧ ShowC σ' o1 (num (darkS ((plen x + 3) / 4) (windN wr.1 x.1 f k s)) 7 (nI 1)) ∧ same σ σ' o1 (o1 + 3) := by
  have hv := hV i x hx
  have hpl := plen_b hv
  obtain ⟨v0, v1, v2, v3⟩ := hv
  intro n
  induction n with
  | zero => intro k f s σ _ q; omega
  | succ n ih =>
    intro k f s σ h1 h2 h3 hS hT hR
    have hi := lt_of_get hx
    have hl := hR.2.1
    have e3 : σ (o + 10) i = nI x.2.2.1 := (hR.2.2 i x hx).2.2.1
    have e0 : σ (o + 8) i = nI x.1 := (hR.2.2 i x hx).1
    rw [fX2_wind_16]
    cases k with
    | zero =>
      simp (disch := omega) only [chk_T, okI_t, okI_f, okI_nN, b2i_t, b2i_f, ifTT, ifFT, ite_true, ite_false, nI_c, bnd_s, bnd2_s, stp_s, ifLE_t, ifLE_f, ifLT_t, ifLT_f, ifE_t, ifE_f, if0_t, if0_f, ifn0, ifp0, ifl0_t, ifl0_f, ifg0_t, ifg0_f, ifnE, ifnE2, ifNE_t, ifNE_f, ifN0, ifNl, ifNp, ifB, nI_A, nI_S, nI_M, mu_s, mu_k, mu_n, mcp_n, e3, X4_lengthOf hR hV hx, nI_D]
      exact X2_wind_87 (by omega) g 0 s σ (by omega) (by omega) (by omega) hS
    | succ k =>
      have hg4 := gd_le (t := wr.1) (k := 40 * x.1 + f)
      obtain ⟨σ1, e1, r1, s1⟩ := X5_countHoles (g := g) (a := gd wr.1 (40 * x.1 + f)) (b := gd wr.1 (40 * x.1 + f) / 2) hS (by omega)
      simp (disch := omega) only [chk_T, okI_t, okI_f, okI_nN, b2i_t, b2i_f, ifTT, ifFT, ite_true, ite_false, nI_c, bnd_s, bnd2_s, stp_s, ifLE_t, ifLE_f, ifLT_t, ifLT_f, ifE_t, ifE_f, if0_t, if0_f, ifn0, ifp0, ifl0_t, ifl0_f, ifg0_t, ifg0_f, ifnE, ifnE2, ifNE_t, ifNE_f, ifN0, ifNl, ifNp, ifB, nI_A, nI_S, nI_M, mu_s, mu_k, mu_n, mcp_n, e3, e0, X8_slotOf, X6_goodHoles hT (show 40 * x.1 + f < 480 by omega) ht, nI_D, e1]
      have r2 := ShowC_num (d := nI 1) (k := 3) r1 (by omega) (by omega)
      have st : same σ (mu σ1 (o1 + 1) 3 (σ1 (o1 + 1) 3 + nI 1)) o1 (o1 + 3) := s1.tr (same_mu (by omega) (by omega))
      obtain ⟨σ4, e4, r4, s4⟩ := ih k (f + 1) _ _ (by omega) (by omega) (by rw [num_len, num_len, num_len]; exact h3) r2 (hT.same (fun j a b => st j (by omega))) (hR.same (fun j a b => st j (by omega)))
      exact ⟨σ4, e4, r4, st.tr s4⟩
theorem X2_wind (hg : 1000 ≤ g) {o o1 i : Nat} {sc : List (Nat × Nat)} {wr : Wr} {L : List Pc} {x : Pc} (ht : ∀ j, wr.1 j < 16) (hx : L[i]? = some x) (hV : RowV L) (hd : o + 22 ≤ o1 ∨ o1 + 3 ≤ o) (h3 : s.1.length + plen x ≤ 480) (hS : ShowC σ o1 s) (hT : StockC σ (o + 1) sc wr) (hR : RowC σ (o + 7) L) : ∃ σ', fX2_wind g σ o o1 (nI i) = some σ' ∧ ShowC σ' o1 (windP wr.1 x s) ∧ same σ σ' o1 (o1 + 3) := by
  have hi := lt_of_get hx
  have hl := hR.2.1
  have e2 : σ (o + 9) i = nI x.2.1 := (hR.2.2 i x hx).2.1
  have := plen_b (hV i x hx)
  unfold fX2_wind
  simp (disch := omega) only [chk_T, okI_t, okI_f, okI_nN, b2i_t, b2i_f, ifTT, ifFT, ite_true, ite_false, nI_c, bnd_s, bnd2_s, stp_s, ifLE_t, ifLE_f, ifLT_t, ifLT_f, ifE_t, ifE_f, if0_t, if0_f, ifn0, ifp0, ifl0_t, ifl0_f, ifg0_t, ifg0_f, ifnE, ifnE2, ifNE_t, ifNE_f, ifN0, ifNl, ifNp, ifB, nI_A, nI_S, nI_M, mu_s, mu_k, mu_n, mcp_n, e2]
  exact X2_wind_16 hg ht hx hV hd g (plen x) x.2.1 s σ (by omega) (by omega) h3 hS hT hR
theorem X2_dislikes {o dis k : Nat} (h : σ o 5 = nI dis) (hd : dis < 64) (hk : k < 32) : fX2_dislikes g σ o (nI k) = some (b2i (isDis dis k)) := by
  unfold fX2_dislikes isDis
  rw [h, bit_at (by omega) hk]
  have : dis / 2 ^ k % 2 < 2 := Nat.mod_lt _ (by omega)
  by_cases c : dis / 2 ^ k % 2 = 1
  · simp (disch := omega) only [chk_T, okI_t, okI_f, okI_nN, b2i_t, b2i_f, ifTT, ifFT, ite_true, ite_false, nI_c, bnd_s, bnd2_s, stp_s, ifLE_t, ifLE_f, ifLT_t, ifLT_f, ifE_t, ifE_f, if0_t, if0_f, ifn0, ifp0, ifl0_t, ifl0_f, ifg0_t, ifg0_f, ifnE, ifnE2, ifNE_t, ifNE_f, ifN0, ifNl, ifNp, ifB, nI_A, nI_S, nI_M, mu_s, mu_k, mu_n, mcp_n, decide_eq_true c]
  · simp (disch := omega) only [chk_T, okI_t, okI_f, okI_nN, b2i_t, b2i_f, ifTT, ifFT, ite_true, ite_false, nI_c, bnd_s, bnd2_s, stp_s, ifLE_t, ifLE_f, ifLT_t, ifLT_f, ifE_t, ifE_f, if0_t, if0_f, ifn0, ifp0, ifl0_t, ifl0_f, ifg0_t, ifg0_f, ifnE, ifnE2, ifNE_t, ifNE_f, ifN0, ifNl, ifNp, ifB, nI_A, nI_S, nI_M, mu_s, mu_k, mu_n, mcp_n, decide_eq_false c]
theorem X5_begin (hg : 1000 ≤ g) : ∃ σ', fX5_begin g σ q = some σ' ∧ ShowC σ' q show0 ∧ same σ σ' q (q + 3) := by
  have key : ∀ n k σ, k ≤ 8 → 8 - k < n → (∀ j, j < k → σ (q + 1) j = nI 0) → ∃ σ', fX5_begin_2 g q n σ (nI k) = some σ' ∧ ShowC σ' q show0 ∧ same σ σ' q (q + 3) := by
    intro n
    induction n with
    | zero => intro k σ _ q; omega
    | succ n ih =>
      intro k σ h1 h2 h3
      rw [fX5_begin_2]
      by_cases c : k = 8
      · subst c
        simp (disch := omega) only [chk_T, okI_t, okI_f, okI_nN, b2i_t, b2i_f, ifTT, ifFT, ite_true, ite_false, nI_c, bnd_s, bnd2_s, stp_s, ifLE_t, ifLE_f, ifLT_t, ifLT_f, ifE_t, ifE_f, if0_t, if0_f, ifn0, ifp0, ifl0_t, ifl0_f, ifg0_t, ifg0_f, ifnE, ifnE2, ifNE_t, ifNE_f, ifN0, ifNl, ifNp, ifB, nI_A, nI_S, nI_M, mu_s, mu_k, mu_n, mcp_n]
        refine ⟨_, rfl, ⟨?_, by show (0 : Nat) ≤ 480; omega, fun j j1 j2 => ?_, fun i c hc => by simp [show0] at hc⟩, same_mu (by omega) (by omega)⟩
        · rw [mu_k (by omega)]; exact h3 0 (by omega)
        · rw [mu_ij]
          show _ = if j = 6 then nN 5 else nI 0
          by_cases e : j = 6
          · rw [if_pos e, if_pos e]
          · rw [if_neg e, if_neg e]; exact h3 j j2
      · simp (disch := omega) only [chk_T, okI_t, okI_f, okI_nN, b2i_t, b2i_f, ifTT, ifFT, ite_true, ite_false, nI_c, bnd_s, bnd2_s, stp_s, ifLE_t, ifLE_f, ifLT_t, ifLT_f, ifE_t, ifE_f, if0_t, if0_f, ifn0, ifp0, ifl0_t, ifl0_f, ifg0_t, ifg0_f, ifnE, ifnE2, ifNE_t, ifNE_f, ifN0, ifNl, ifNp, ifB, nI_A, nI_S, nI_M, mu_s, mu_k, mu_n, mcp_n]
        obtain ⟨σ1, e1, r1, s1⟩ := ih (k + 1) (mu σ (q + 1) k (nI 0)) (by omega) (by omega) (fun j hj => by
          rw [mu_ij]
          by_cases e : j = k
          · rw [if_pos e]
          · rw [if_neg e]; exact h3 j (by omega))
        exact ⟨σ1, e1, r1, (same_mu (by omega) (by omega)).tr s1⟩
  exact key g 0 σ (by omega) (by omega) (fun j hj => by omega)
/-- the pieces are of scenes that are there -/
def InSc (sc : List (Nat × Nat)) (L : List Pc) : Prop := ∀ (i : Nat) (x : Pc), L[i]? = some x → ∃ y : Nat × Nat, sc[x.1]? = some y ∧ y.1 < 6 ∧ y.2 ≤ 40 ∧ x.2.2.1 < y.2
theorem X2_project_11 (hg : 1000 ≤ g) {o o1 : Nat} {sc : List (Nat × Nat)} {wr : Wr} {L : List Pc} {dis lim : Nat} (ht : ∀ j, wr.1 j < 16) (hV : RowV L) (hSc : InSc sc L) (hd : o + 22 ≤ o1 ∨ o1 + 3 ≤ o) (hU : tot L ≤ 480) (h64 : dis < 64) (hlim : lim < 1000) : ∀ n i left s σ, i ≤ L.length → L.length - i < n → left < 1000 → s.1.length ≤ posOf L i → ShowC σ o1 s → StockC σ (o + 1) sc wr → RowC σ (o + 7) L → σ o 5 = nI dis → σ o 7 = nI lim → ∃ σ', fX2_project_11 g o o1 n σ (nI left) (nI i) = some σ' ∧ ShowC σ' o1 (projL wr.1 sc dis lim i left (L.drop i) s) ∧ same σ σ' o1 (o1 + 3) := by
  intro n
  induction n with
  | zero => intro i left s σ _ q; omega
  | succ n ih =>
    intro i left s σ h1 h2 hleft hlen hS hT hR h5 h7
    have hl := hR.2.1
    have h0 : σ (o + 7) 0 = nI L.length := hR.1
    rw [fX2_project_11]
    by_cases hi : i = L.length
    · subst hi
      simp (disch := omega) only [chk_T, okI_t, okI_f, okI_nN, b2i_t, b2i_f, ifTT, ifFT, ite_true, ite_false, nI_c, bnd_s, bnd2_s, stp_s, ifLE_t, ifLE_f, ifLT_t, ifLT_f, ifE_t, ifE_f, if0_t, if0_f, ifn0, ifp0, ifl0_t, ifl0_f, ifg0_t, ifg0_f, ifnE, ifnE2, ifNE_t, ifNE_f, ifN0, ifNl, ifNp, ifB, nI_A, nI_S, nI_M, mu_s, mu_k, mu_n, mcp_n, h0]
      rw [List.drop_length]
      exact ⟨σ, rfl, hS, same.rf⟩
    · obtain ⟨x, hx⟩ := get_of (L := L) (i := i) (by omega)
      have hv := hV i x hx
      have hp := posOf_s hx
      have hpm : posOf L (i + 1) ≤ tot L := posOf_mono (by omega) (Nat.le_refl _)
      have hpl := plen_b hv
      obtain ⟨v0, v1, v2, v3⟩ := hv
      obtain ⟨y, hy, y1, y2, y3⟩ := hSc i x hx
      have hy12 := lt_of_get hy
      have hsc12 := hT.2.1
      have e0 : σ (o + 8) i = nI x.1 := (hR.2.2 i x hx).1
      have e4 : σ (o + 11) i = nI x.2.2.2 := (hR.2.2 i x hx).2.2.2
      have ek : σ (o + 2) x.1 = nI y.1 := (hT.2.2.1 x.1 y hy).1
      have hkind : kindOf sc x.1 = y.1 := by unfold kindOf; rw [hy]; rfl
      obtain ⟨σ1, p1, r1, s1⟩ := X2_play (g := g) hg ht hx (hV i x hx) hd (by omega) hS hT hR
      obtain ⟨σ2, p2, r2, s2⟩ := X2_wind (g := g) hg ht hx hV hd (by omega) hS hT hR
      have goP := ih (i + 1) left _ σ1 (by omega) (by omega) hleft (by unfold playP; rw [playN_len]; omega) r1 (hT.same (fun j a b => s1 j (by omega))) (hR.same (fun j a b => s1 j (by omega))) (by rw [s1 o (by omega)]; exact h5) (by rw [s1 o (by omega)]; exact h7)
      have goW := ih (i + 1) (left - 1) _ σ2 (by omega) (by omega) (by omega) (by rw [windP_len]; omega) r2 (hT.same (fun j a b => s2 j (by omega))) (hR.same (fun j a b => s2 j (by omega))) (by rw [s2 o (by omega)]; exact h5) (by rw [s2 o (by omega)]; exact h7)
      rw [drop_get hx, projL, hkind]
      have hdd := X2_dislikes (g := g) (o := o) (k := y.1) h5 h64 (by omega)
      have fin : (if left ≠ 0 ∧ isDis dis y.1 = true then projL wr.1 sc dis lim (i + 1) (left - 1) (L.drop (i + 1)) (windP wr.1 x s) else projL wr.1 sc dis lim (i + 1) left (L.drop (i + 1)) (playP wr.1 x s)) = projL wr.1 sc dis lim i left (x :: L.drop (i + 1)) s ∨ (i ≠ 0 ∧ lim ≤ x.2.2.2) := by
        by_cases c : i ≠ 0 ∧ lim ≤ x.2.2.2
        · exact Or.inr c
        · rw [projL, hkind, if_neg c]; exact Or.inl rfl
      have core : ∃ σ', (if nI left ≤ 0 then (bnd (fX2_play g σ o o1 (nI i)) fun σ4 => fX2_project_11 g o o1 n σ4 (nI left) (nI i + nI 1)) else (chk (okI (nI i) 20) (chk (okI (σ (o + 8) (nI i).toNatClampNeg) 12) (bnd (fX2_dislikes g σ o (σ (o + 2) (σ (o + 8) (nI i).toNatClampNeg).toNatClampNeg)) fun r6 => if r6 = 0 then (bnd (fX2_play g σ o o1 (nI i)) fun σ8 => fX2_project_11 g o o1 n σ8 (nI left) (nI i + nI 1)) else (bnd (fX2_wind g σ o o1 (nI i)) fun σ10 => fX2_project_11 g o o1 n σ10 (nI left + nN 1) (nI i + nI 1)))))) = some σ' ∧ ShowC σ' o1 (if left ≠ 0 ∧ isDis dis y.1 = true then projL wr.1 sc dis lim (i + 1) (left - 1) (L.drop (i + 1)) (windP wr.1 x s) else projL wr.1 sc dis lim (i + 1) left (L.drop (i + 1)) (playP wr.1 x s)) ∧ same σ σ' o1 (o1 + 3) := by
        by_cases c : left = 0
        · rw [if_neg (show ¬ (left ≠ 0 ∧ isDis dis y.1 = true) from fun q => q.1 c)]
          simp (disch := omega) only [chk_T, okI_t, okI_f, okI_nN, b2i_t, b2i_f, ifTT, ifFT, ite_true, ite_false, nI_c, bnd_s, bnd2_s, stp_s, ifLE_t, ifLE_f, ifLT_t, ifLT_f, ifE_t, ifE_f, if0_t, if0_f, ifn0, ifp0, ifl0_t, ifl0_f, ifg0_t, ifg0_f, ifnE, ifnE2, ifNE_t, ifNE_f, ifN0, ifNl, ifNp, ifB, nI_A, nI_S, nI_M, mu_s, mu_k, mu_n, mcp_n, p1]
          obtain ⟨σ4, e5, r5, s5⟩ := goP
          exact ⟨σ4, e5, r5, s1.tr s5⟩
        · simp (disch := omega) only [chk_T, okI_t, okI_f, okI_nN, b2i_t, b2i_f, ifTT, ifFT, ite_true, ite_false, nI_c, bnd_s, bnd2_s, stp_s, ifLE_t, ifLE_f, ifLT_t, ifLT_f, ifE_t, ifE_f, if0_t, if0_f, ifn0, ifp0, ifl0_t, ifl0_f, ifg0_t, ifg0_f, ifnE, ifnE2, ifNE_t, ifNE_f, ifN0, ifNl, ifNp, ifB, nI_A, nI_S, nI_M, mu_s, mu_k, mu_n, mcp_n, e0, ek, hdd]
          cases hb : isDis dis y.1 with
          | false =>
            rw [if_neg (show ¬ (left ≠ 0 ∧ false = true) from fun q => Bool.noConfusion q.2)]
            simp (disch := omega) only [chk_T, okI_t, okI_f, okI_nN, b2i_t, b2i_f, ifTT, ifFT, ite_true, ite_false, nI_c, bnd_s, bnd2_s, stp_s, ifLE_t, ifLE_f, ifLT_t, ifLT_f, ifE_t, ifE_f, if0_t, if0_f, ifn0, ifp0, ifl0_t, ifl0_f, ifg0_t, ifg0_f, ifnE, ifnE2, ifNE_t, ifNE_f, ifN0, ifNl, ifNp, ifB, nI_A, nI_S, nI_M, mu_s, mu_k, mu_n, mcp_n, p1]
            obtain ⟨σ4, e5, r5, s5⟩ := goP
            exact ⟨σ4, e5, r5, s1.tr s5⟩
          | true =>
            rw [if_pos (show left ≠ 0 ∧ true = true from ⟨c, rfl⟩)]
            simp (disch := omega) only [chk_T, okI_t, okI_f, okI_nN, b2i_t, b2i_f, ifTT, ifFT, ite_true, ite_false, nI_c, bnd_s, bnd2_s, stp_s, ifLE_t, ifLE_f, ifLT_t, ifLT_f, ifE_t, ifE_f, if0_t, if0_f, ifn0, ifp0, ifl0_t, ifl0_f, ifg0_t, ifg0_f, ifnE, ifnE2, ifNE_t, ifNE_f, ifN0, ifNl, ifNp, ifB, nI_A, nI_S, nI_M, mu_s, mu_k, mu_n, mcp_n, p2, nI_m1]
            obtain ⟨σ4, e5, r5, s5⟩ := goW
            exact ⟨σ4, e5, r5, s2.tr s5⟩
      by_cases c0 : i = 0
      · rw [if_neg (show ¬ (i ≠ 0 ∧ lim ≤ x.2.2.2) from fun q => q.1 c0), h0, ifLE_f (by omega) (by omega), ifl0_t c0]
        exact core
      · rw [h0, ifLE_f (by omega) (by omega), ifl0_f (by omega) (by omega), chk_n (by omega) (by omega), nI_c (by omega), e4, h7]
        by_cases c1 : x.2.2.2 < lim
        · rw [if_neg (show ¬ (i ≠ 0 ∧ lim ≤ x.2.2.2) from fun q => by omega), ifLT_t c1 (by omega)]
          rw [nI_c (show i < 2147483648 by omega)] at core
          exact core
        · rw [if_pos (show i ≠ 0 ∧ lim ≤ x.2.2.2 from ⟨c0, by omega⟩), ifLT_f (by omega) (by omega)]
          simp (disch := omega) only [chk_T, okI_t, okI_f, okI_nN, b2i_t, b2i_f, ifTT, ifFT, ite_true, ite_false, nI_c, bnd_s, bnd2_s, stp_s, ifLE_t, ifLE_f, ifLT_t, ifLT_f, ifE_t, ifE_f, if0_t, if0_f, ifn0, ifp0, ifl0_t, ifl0_f, ifg0_t, ifg0_f, ifnE, ifnE2, ifNE_t, ifNE_f, ifN0, ifNl, ifNp, ifB, nI_A, nI_S, nI_M, mu_s, mu_k, mu_n, mcp_n]
          refine ⟨_, rfl, ⟨by rw [mu_k (by omega)]; exact hS.1, hS.2.1, fun j j1 j2 => ?_, fun k c hc => by rw [mu_n (by omega)]; exact hS.2.2.2 k c hc⟩, same_mu (by omega) (by omega)⟩
          rw [mu_ij]
          show _ = upd s.2 6 (nI i) j
          unfold upd
          by_cases e : j = 6
          · rw [if_pos e, if_pos e]
          · rw [if_neg e, if_neg e]; exact hS.2.2.1 j j1 j2
def aShow (A : Fa) : Sw := projL A.2.1.1 A.1 A.2.2.2.2.2.1 A.2.2.2.2.2.2.2 0 A.2.2.2.2.2.2.1 A.2.2.1.1 show0
theorem X2_project (hg : 1000 ≤ g) {o o1 : Nat} {A : Fa} (h : FilmC σ o A) (ht : ∀ j, A.2.1.1 j < 16) (hV : RowV A.2.2.1.1) (hSc : InSc A.1 A.2.2.1.1) (hd : o + 22 ≤ o1 ∨ o1 + 3 ≤ o) (hU : tot A.2.2.1.1 ≤ 480) (h64 : A.2.2.2.2.2.1 < 64) (hen : A.2.2.2.2.2.2.1 < 1000) (hlim : A.2.2.2.2.2.2.2 < 1000) : ∃ σ', fX2_project g σ o o1 = some σ' ∧ ShowC σ' o1 (aShow A) ∧ same σ σ' o1 (o1 + 3) := by
  obtain ⟨h1, h2, h3, h4, h5, h6, h7, h8⟩ := h
  unfold fX2_project
  obtain ⟨σ1, e1, r1, s1⟩ := X5_begin (g := g) (σ := σ) (q := o1) hg
  simp (disch := omega) only [chk_T, okI_t, okI_f, okI_nN, b2i_t, b2i_f, ifTT, ifFT, ite_true, ite_false, nI_c, bnd_s, bnd2_s, stp_s, ifLE_t, ifLE_f, ifLT_t, ifLT_f, ifE_t, ifE_f, if0_t, if0_f, ifn0, ifp0, ifl0_t, ifl0_f, ifg0_t, ifg0_f, ifnE, ifnE2, ifNE_t, ifNE_f, ifN0, ifNl, ifNp, ifB, nI_A, nI_S, nI_M, mu_s, mu_k, mu_n, mcp_n, e1]
  have so : σ1 o = σ o := s1 o (by omega)
  rw [so, h7]
  obtain ⟨σ2, e2, r2, s2⟩ := X2_project_11 (g := g) hg ht hV hSc hd hU h64 hlim g 0 A.2.2.2.2.2.2.1 show0 σ1 (by omega) (by have := h2.1.2.1; omega) hen (by show (0 : Nat) ≤ _; omega) r1 (h1.same (fun j a b => s1 j (by omega))) (h2.1.same (fun j a b => s1 j (by omega))) (by rw [so]; exact h6) (by rw [so]; exact h8)
  rw [List.drop_zero] at r2
  exact ⟨σ2, e2, r2, s1.tr s2⟩
end
