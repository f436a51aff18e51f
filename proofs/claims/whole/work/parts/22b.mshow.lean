/-! PURE ROWS, 12: the reference's way of giving a show, frame by frame -/
theorem ShW_num {t : Nat → Int32} {s : Sw} {k : Nat} {d : Int32} (h : ShW t s) (h1 : 1 ≤ k) (h2 : k < 8) : ShW (upd t k (t k + d)) (num s k d) := by
  obtain ⟨a1, a2, a3, a4⟩ := h
  refine ⟨by rw [pk_un (by omega)]; exact a1, a2, fun j j1 j2 => ?_, fun u c hc => by rw [pk_un (by omega)]; exact a4 u c hc⟩
  show upd t k _ j = upd s.2 k _ j
  unfold upd
  by_cases e : j = k
  · rw [if_pos e, if_pos e, a3 k h1 h2]
  · rw [if_neg e, if_neg e]; exact a3 j j1 j2
theorem ShW_unit {t : Nat → Int32} {s : Sw} {c : Int32} (h : ShW t s) (hl : s.1.length < 480) : ShW (upd (upd t (8 + s.1.length) c) 0 (nI (s.1.length + 1))) (unitS s c) := by
  obtain ⟨a1, a2, a3, a4⟩ := h
  refine ⟨by rw [pk_us]; simp [unitS], by simp [unitS]; omega, fun j j1 j2 => ?_, fun u d hd => ?_⟩
  · rw [pk_un (by omega), pk_un (by omega)]
    exact a3 j j1 j2
  · rw [pk_un (by omega)]
    have hd : (s.1 ++ [c])[u]? = some d := hd
    by_cases e : u = s.1.length
    · rw [e, pk_us]
      rw [e, List.getElem?_append_right (Nat.le_refl _), Nat.sub_self] at hd
      exact Option.some.inj hd
    · have := lt_of_get hd
      rw [List.length_append, List.length_singleton] at this
      rw [List.getElem?_append_left (by omega)] at hd
      rw [pk_un (by omega)]
      exact a4 u d hd
theorem ShW_0 {t : Nat → Int32} {s : Sw} {k : Nat} (h : ShW t s) : ShW (upd t k (t k + nI 0)) s := h.same (fun j _ => by
  unfold upd
  by_cases e : j = k
  · rw [if_pos e, e, show nI 0 = 0 from rfl, Int32.add_zero]
  · rw [if_neg e])
theorem darkS_num : ∀ (n : Nat) (s : Sw) (k : Nat) (d : Int32), darkS n (num s k d) = num (darkS n s) k d := by
  intro n
  induction n with
  | zero => intro s k d; rfl
  | succ n ih => intro s k d; rw [darkS, darkS, ← ih]; rfl
theorem gd_4 : ∀ t, t < 16 → (4 ≤ 4 - pop t ↔ t = 0) ∧ (4 - pop t = 0 ↔ t = 15) := by decide +kernel
theorem or_bit : ∀ t, t < 16 → ∀ k, k < 4 → t / 2 ^ k % 2 = 0 → nI t ||| (nI 1 <<< (nI k &&& 31)) = nI (t + 2 ^ k) := by decide +kernel
section
variable {g o : Nat} {σ : Mem}
theorem X9_ones_4 {v : Nat} (hv : v < 2147483648) : ∀ n k, k ≤ 12 → 12 - k < n → fX9_ones_4 g n σ (nI v) (nI (popN v k)) (nI k) = some (nI (pop v)) := by
  intro n
  induction n with
  | zero => intro k _ q; omega
  | succ n ih =>
    intro k h1 h2
    rw [fX9_ones_4]
    by_cases q : k = 12
    · subst q
      simp (disch := omega) only [chk_T, okI_t, okI_f, okI_nN, b2i_t, b2i_f, ifTT, ifFT, ite_true, ite_false, nI_c, bnd_s, bnd2_s, stp_s, ifLE_t, ifLE_f, ifLT_t, ifLT_f, ifE_t, ifE_f, if0_t, if0_f, ifn0, ifp0, ifl0_t, ifl0_f, ifg0_t, ifg0_f, ifnE, ifnE2, ifNE_t, ifNE_f, ifN0, ifNl, ifNp, ifB, nI_A, nI_S, nI_M, mu_s, mu_k, mu_n, mcp_n]
      rfl
    · simp (disch := omega) only [chk_T, okI_t, okI_f, okI_nN, b2i_t, b2i_f, ifTT, ifFT, ite_true, ite_false, nI_c, bnd_s, bnd2_s, stp_s, ifLE_t, ifLE_f, ifLT_t, ifLT_f, ifE_t, ifE_f, if0_t, if0_f, ifn0, ifp0, ifl0_t, ifl0_f, ifg0_t, ifg0_f, ifnE, ifnE2, ifNE_t, ifNE_f, ifN0, ifNl, ifNp, ifB, nI_A, nI_S, nI_M, mu_s, mu_k, mu_n, mcp_n, bit_at hv (show k < 32 by omega)]
      exact ih (k + 1) (by omega) (by omega)
theorem X9_ones (hg : 1000 ≤ g) {v : Nat} (hv : v < 2147483648) : fX9_ones g σ (nI v) = some (nI (pop v)) := X9_ones_4 hv g 0 (by omega) (by omega)
theorem X9_torn {a b : Nat} {w : Wr} (h : WrW (σ (o + 1)) w) (hs : 40 * a + b < 480) : fX9_torn g σ o (nI a) (nI b) = some (nI (w.1 (40 * a + b))) := by
  unfold fX9_torn
  simp (disch := omega) only [chk_T, okI_t, okI_f, okI_nN, b2i_t, b2i_f, ifTT, ifFT, ite_true, ite_false, nI_c, bnd_s, bnd2_s, stp_s, ifLE_t, ifLE_f, ifLT_t, ifLT_f, ifE_t, ifE_f, if0_t, if0_f, ifn0, ifp0, ifl0_t, ifl0_f, ifg0_t, ifg0_f, ifnE, ifnE2, ifNE_t, ifNE_f, ifN0, ifNl, ifNp, ifB, nI_A, nI_S, nI_M, mu_s, mu_k, mu_n, mcp_n, (h _ hs).1]
theorem X9_passes {a b : Nat} {w : Wr} (h : WrW (σ (o + 1)) w) (hs : 40 * a + b < 480) : fX9_passes g σ o (nI a) (nI b) = some (w.2 (40 * a + b)) := by
  unfold fX9_passes
  simp (disch := omega) only [chk_T, okI_t, okI_f, okI_nN, b2i_t, b2i_f, ifTT, ifFT, ite_true, ite_false, nI_c, bnd_s, bnd2_s, stp_s, ifLE_t, ifLE_f, ifLT_t, ifLT_f, ifE_t, ifE_f, if0_t, if0_f, ifn0, ifp0, ifl0_t, ifl0_f, ifg0_t, ifg0_f, ifnE, ifnE2, ifNE_t, ifNE_f, ifN0, ifNl, ifNp, ifB, nI_A, nI_S, nI_M, mu_s, mu_k, mu_n, mcp_n]
  rw [show 32 + 2 * (40 * a + b) + 1 = 33 + 2 * (40 * a + b) by omega, (h _ hs).2]
theorem X9_good (hg : 1000 ≤ g) {a b : Nat} {w : Wr} (h : WrW (σ (o + 1)) w) (hs : 40 * a + b < 480) (hT : TV w) : fX9_good g σ o (nI a) (nI b) = some (nI (gd w.1 (40 * a + b))) := by
  have := hT (40 * a + b)
  have h4 := pop_16 _ this
  unfold fX9_good
  simp (disch := omega) only [chk_T, okI_t, okI_f, okI_nN, b2i_t, b2i_f, ifTT, ifFT, ite_true, ite_false, nI_c, bnd_s, bnd2_s, stp_s, ifLE_t, ifLE_f, ifLT_t, ifLT_f, ifE_t, ifE_f, if0_t, if0_f, ifn0, ifp0, ifl0_t, ifl0_f, ifg0_t, ifg0_f, ifnE, ifnE2, ifNE_t, ifNE_f, ifN0, ifNl, ifNp, ifB, nI_A, nI_S, nI_M, mu_s, mu_k, mu_n, mcp_n, X9_torn h hs, X9_ones hg (show w.1 (40 * a + b) < 2147483648 by omega)]
  rfl
theorem X9_setsTorn {a b : Nat} {v : Int32} (hs : 40 * a + b < 480) : fX9_setsTorn g σ o (nI a) (nI b) v = some (mu σ (o + 1) (32 + 2 * (40 * a + b)) v) := by
  unfold fX9_setsTorn
  simp (disch := omega) only [chk_T, okI_t, okI_f, okI_nN, b2i_t, b2i_f, ifTT, ifFT, ite_true, ite_false, nI_c, bnd_s, bnd2_s, stp_s, ifLE_t, ifLE_f, ifLT_t, ifLT_f, ifE_t, ifE_f, if0_t, if0_f, ifn0, ifp0, ifl0_t, ifl0_f, ifg0_t, ifg0_f, ifnE, ifnE2, ifNE_t, ifNE_f, ifN0, ifNl, ifNp, ifB, nI_A, nI_S, nI_M, mu_s, mu_k, mu_n, mcp_n]
/-- only the wear has changed in the row, and what is told -/
def chW (σ σ' : Mem) (o : Nat) : Prop := (∀ i, i ≠ o + 1 → i ≠ o + 3 → σ' i = σ i) ∧ ∀ j, (j < 32 ∨ 992 ≤ j) → σ' (o + 1) j = σ (o + 1) j
theorem chW.rf : chW σ σ o := ⟨fun _ _ _ => rfl, fun _ _ => rfl⟩
theorem chW.tr {σ1 σ2 : Mem} (h : chW σ σ1 o) (h2 : chW σ1 σ2 o) : chW σ σ2 o := ⟨fun i a b => (h2.1 i a b).trans (h.1 i a b), fun j a => (h2.2 j a).trans (h.2 j a)⟩
theorem chW_told {k : Nat} {x : Int32} : chW σ (mu σ (o + 3) k x) o := ⟨fun i _ b => mu_n b, fun j _ => by rw [mu_n (by omega)]⟩
theorem chW_row {k : Nat} {x : Int32} (h : 32 ≤ k ∧ k < 992) : chW σ (mu σ (o + 1) k x) o := ⟨fun i a _ => mu_n a, fun j a => mu_k (by omega)⟩
theorem X9_counts_211 (hg : 1000 ≤ g) {a b t : Nat} (ht : t < 15) (hs : 40 * a + b < 480) : fX9_counts_211 g o g σ (nI a) (nI b) (nI t) (nI 0) = some (mu σ (o + 1) (32 + 2 * (40 * a + b)) (nI (low t))) := by
  obtain ⟨n, hn⟩ : ∃ n, g = n + 4 := ⟨g - 4, by omega⟩
  have done : ∀ n k, k < 4 → t / 2 ^ k % 2 = 0 → low t = t + 2 ^ k → fX9_counts_211 g o (n + 1) σ (nI a) (nI b) (nI t) (nI k) = some (mu σ (o + 1) (32 + 2 * (40 * a + b)) (nI (low t))) := by
    intro n k hk hb hl
    rw [fX9_counts_211, bit_at (by omega) (by omega), hb, or_bit t (by omega) k hk hb, hl]
    simp (disch := omega) only [chk_T, okI_t, okI_f, okI_nN, b2i_t, b2i_f, ifTT, ifFT, ite_true, ite_false, nI_c, bnd_s, bnd2_s, stp_s, ifLE_t, ifLE_f, ifLT_t, ifLT_f, ifE_t, ifE_f, if0_t, if0_f, ifn0, ifp0, ifl0_t, ifl0_f, ifg0_t, ifg0_f, ifnE, ifnE2, ifNE_t, ifNE_f, ifN0, ifNl, ifNp, ifB, nI_A, nI_S, nI_M, mu_s, mu_k, mu_n, mcp_n, X9_setsTorn hs]
  have more : ∀ n k, k < 4 → t / 2 ^ k % 2 = 1 → fX9_counts_211 g o (n + 1) σ (nI a) (nI b) (nI t) (nI k) = fX9_counts_211 g o n σ (nI a) (nI b) (nI t) (nI (k + 1)) := by
    intro n k hk hb
    rw [fX9_counts_211, bit_at (by omega) (by omega), hb]
    simp (disch := omega) only [chk_T, okI_t, okI_f, okI_nN, b2i_t, b2i_f, ifTT, ifFT, ite_true, ite_false, nI_c, bnd_s, bnd2_s, stp_s, ifLE_t, ifLE_f, ifLT_t, ifLT_f, ifE_t, ifE_f, if0_t, if0_f, ifn0, ifp0, ifl0_t, ifl0_f, ifg0_t, ifg0_f, ifnE, ifnE2, ifNE_t, ifNE_f, ifN0, ifNl, ifNp, ifB, nI_A, nI_S, nI_M, mu_s, mu_k, mu_n, mcp_n]
  have e : fX9_counts_211 g o g σ (nI a) (nI b) (nI t) (nI 0) = fX9_counts_211 g o (n + 4) σ (nI a) (nI b) (nI t) (nI 0) := by rw [← hn]
  rw [e]
  by_cases c0 : t % 2 = 0
  · exact done (n + 3) 0 (by omega) (by rw [Nat.pow_zero, Nat.div_one]; exact c0) (by unfold low; rw [if_pos c0])
  · rw [more (n + 3) 0 (by omega) (by rw [Nat.pow_zero, Nat.div_one]; omega)]
    by_cases c1 : t / 2 % 2 = 0
    · exact done (n + 2) 1 (by omega) (by rw [Nat.pow_one]; exact c1) (by unfold low; rw [if_neg c0, if_pos c1])
    · rw [more (n + 2) 1 (by omega) (by rw [Nat.pow_one]; omega)]
      by_cases c2 : t / 4 % 2 = 0
      · exact done (n + 1) 2 (by omega) c2 (by unfold low; rw [if_neg c0, if_neg c1, if_pos c2])
      · rw [more (n + 1) 2 (by omega) (by show t / 4 % 2 = 1; omega)]
        exact done n 3 (by omega) (by show t / 8 % 2 = 0; omega) (by unfold low; rw [if_neg c0, if_neg c1, if_neg c2])
theorem X9_counts_156 (hg : 1000 ≤ g) {a b : Nat} {w : Wr} (h : WrW (σ (o + 1)) w) (hs : 40 * a + b < 480) (hT : TV w) : ∃ σ', fX9_counts_156 g o σ (nI a) (nI b) (nI (gd w.1 (40 * a + b))) = some σ' ∧ WrW (σ' (o + 1)) (wear1 w (40 * a + b)) ∧ σ' (o + 3) = σ (o + 3) ∧ chW σ σ' o := by
  have ht := hT (40 * a + b)
  have h4 := pop_16 _ ht
  have g4 : (4 ≤ gd w.1 (40 * a + b) ↔ w.1 (40 * a + b) = 0) ∧ (gd w.1 (40 * a + b) = 0 ↔ w.1 (40 * a + b) = 15) := gd_4 _ ht
  have e2 : σ (o + 1) (32 + 2 * (40 * a + b) + 1) = w.2 (40 * a + b) := by
    rw [show 32 + 2 * (40 * a + b) + 1 = 33 + 2 * (40 * a + b) by omega, (h _ hs).2]
  have st1 : WrW (mu σ (o + 1) (32 + 2 * (40 * a + b) + 1) (w.2 (40 * a + b) + nI 1) (o + 1)) (w.1, upd w.2 (40 * a + b) (w.2 (40 * a + b) + nI 1)) := by
    intro j hj
    simp only [mu_ij]
    rw [if_neg (show ¬ 32 + 2 * j = 32 + 2 * (40 * a + b) + 1 by omega)]
    refine ⟨(h j hj).1, ?_⟩
    show _ = upd w.2 _ _ j
    unfold upd
    by_cases e : j = 40 * a + b
    · rw [if_pos (by omega), if_pos e]
    · rw [if_neg (by omega), if_neg e]; exact (h j hj).2
  have k1 := X9_torn (g := g) (a := a) (b := b) st1 hs
  have k2 : fX9_passes g (mu σ (o + 1) (32 + 2 * (40 * a + b) + 1) (w.2 (40 * a + b) + nI 1)) o (nI a) (nI b) = some (w.2 (40 * a + b) + nI 1) := by
    rw [X9_passes st1 hs]
    exact congrArg some pk_us
  unfold fX9_counts_156 wear1
  simp (disch := omega) only [chk_T, okI_t, okI_f, okI_nN, b2i_t, b2i_f, ifTT, ifFT, ite_true, ite_false, nI_c, bnd_s, bnd2_s, stp_s, ifLE_t, ifLE_f, ifLT_t, ifLT_f, ifE_t, ifE_f, if0_t, if0_f, ifn0, ifp0, ifl0_t, ifl0_f, ifg0_t, ifg0_f, ifnE, ifnE2, ifNE_t, ifNE_f, ifN0, ifNl, ifNp, ifB, nI_A, nI_S, nI_M, mu_s, mu_k, mu_n, mcp_n, e2, k1]
  by_cases c1 : w.1 (40 * a + b) = 0
  · rw [if_neg (show ¬ (w.1 (40 * a + b) ≠ 0 ∧ w.1 (40 * a + b) ≠ 15 ∧ (w.2 (40 * a + b) + nI 1) - (w.2 (40 * a + b) + nI 1) / nI 3 * nI 3 = 0) from fun q => q.1 c1), ifLE_t (g4.1.2 c1) (by have := gd_le (t := w.1) (k := 40 * a + b); omega)]
    exact ⟨_, rfl, st1, mu_n (by omega), chW_row (by omega)⟩
  · have n1 : gd w.1 (40 * a + b) < 4 := by
      have := g4.1
      omega
    rw [ifLE_f n1 (by omega)]
    by_cases c2 : w.1 (40 * a + b) = 15
    · rw [if_neg (show ¬ (w.1 (40 * a + b) ≠ 0 ∧ w.1 (40 * a + b) ≠ 15 ∧ (w.2 (40 * a + b) + nI 1) - (w.2 (40 * a + b) + nI 1) / nI 3 * nI 3 = 0) from fun q => q.2.1 c2), ifl0_t (g4.2.2 c2)]
      exact ⟨_, rfl, st1, mu_n (by omega), chW_row (by omega)⟩
    · have n2 : 0 < gd w.1 (40 * a + b) := by
        have := g4.2
        omega
      rw [ifl0_f n2 (by omega), k2, bnd_s]
      by_cases c3 : (w.2 (40 * a + b) + nI 1) - (w.2 (40 * a + b) + nI 1) / nI 3 * nI 3 = 0
      · rw [if_pos c3, if_pos (show w.1 (40 * a + b) ≠ 0 ∧ w.1 (40 * a + b) ≠ 15 ∧ (w.2 (40 * a + b) + nI 1) - (w.2 (40 * a + b) + nI 1) / nI 3 * nI 3 = 0 from ⟨c1, c2, c3⟩), X9_counts_211 hg (by omega) hs]
        refine ⟨_, rfl, fun j hj => ?_, ?_, (chW_row (by omega)).tr (chW_row (by omega))⟩
        · have := st1 j hj
          rw [mu_i, upd, upd, if_neg (show ¬ 33 + 2 * j = 32 + 2 * (40 * a + b) by omega)]
          refine ⟨?_, this.2⟩
          show _ = nI (if j = 40 * a + b then low (w.1 (40 * a + b)) else w.1 j)
          by_cases e : j = 40 * a + b
          · rw [if_pos (by omega), if_pos e]
          · rw [if_neg (by omega), if_neg e]; exact this.1
        · rw [mu_n (by omega), mu_n (by omega)]
      · rw [if_neg c3, if_neg (show ¬ (w.1 (40 * a + b) ≠ 0 ∧ w.1 (40 * a + b) ≠ 15 ∧ (w.2 (40 * a + b) + nI 1) - (w.2 (40 * a + b) + nI 1) / nI 3 * nI 3 = 0) from fun q => c3 q.2.2)]
        exact ⟨_, rfl, st1, mu_n (by omega), chW_row (by omega)⟩
theorem X9_counts (hg : 1000 ≤ g) {a b c : Nat} {w : Wr} {s : Sw} (hc : c ≤ 1) (h : WrW (σ (o + 1)) w) (hS : ShW (σ (o + 3)) s) (hs : 40 * a + b < 480) (hT : TV w) (hl : c = 0 → s.1.length < 480) : ∃ σ', fX9_counts g σ o (nI a) (nI b) (nI c) = some σ' ∧ WrW (σ' (o + 1)) (wear1 w (40 * a + b)) ∧ ShW (σ' (o + 3)) (if c = 0 then playF (gd w.1 (40 * a + b)) (nI (100 * a + b)) s else windF (gd w.1 (40 * a + b)) s) ∧ chW σ σ' o := by
  have hg4 := gd_le (t := w.1) (k := 40 * a + b)
  unfold fX9_counts
  by_cases hc0 : c = 0
  · subst hc0
    have hl := hl rfl
    simp (disch := omega) only [X9_good hg h hs hT, bnd_s, chk_T, okI_t, stp_s, nI_c, if0_t, nI_S]
    have S1 := ShW_num (k := 4) (d := nI (gd w.1 (40 * a + b))) hS (by omega) (by omega)
    have S1' : ShW (mu σ (o + 3) 4 (σ (o + 3) 4 + nI (gd w.1 (40 * a + b))) (o + 3)) (num s 4 (nI (gd w.1 (40 * a + b)))) := by rw [mu_i]; exact S1
    have e0 : (mu (mu σ (o + 3) 4 (σ (o + 3) 4 + nI (gd w.1 (40 * a + b)))) (o + 3) 5 ((mu σ (o + 3) 4 (σ (o + 3) 4 + nI (gd w.1 (40 * a + b)))) (o + 3) 5 + nI (gd w.1 (40 * a + b) - gd w.1 (40 * a + b)))) (o + 3) 0 = nI s.1.length := by
      rw [mu_k (by omega), mu_k (by omega)]; exact hS.1
    have S2' : ShW ((mu (mu σ (o + 3) 4 (σ (o + 3) 4 + nI (gd w.1 (40 * a + b)))) (o + 3) 5 ((mu σ (o + 3) 4 (σ (o + 3) 4 + nI (gd w.1 (40 * a + b)))) (o + 3) 5 + nI (gd w.1 (40 * a + b) - gd w.1 (40 * a + b)))) (o + 3)) (num (num s 4 (nI (gd w.1 (40 * a + b)))) 5 (nI (gd w.1 (40 * a + b) - gd w.1 (40 * a + b)))) := by
      rw [mu_i]
      exact ShW_num S1' (by omega) (by omega)
    have W2 : WrW ((mu (mu σ (o + 3) 4 (σ (o + 3) 4 + nI (gd w.1 (40 * a + b)))) (o + 3) 5 ((mu σ (o + 3) 4 (σ (o + 3) 4 + nI (gd w.1 (40 * a + b)))) (o + 3) 5 + nI (gd w.1 (40 * a + b) - gd w.1 (40 * a + b)))) (o + 1)) w := by
      rw [mu_n (by omega), mu_n (by omega)]; exact h
    have ch2 : chW σ (mu (mu σ (o + 3) 4 (σ (o + 3) 4 + nI (gd w.1 (40 * a + b)))) (o + 3) 5 ((mu σ (o + 3) 4 (σ (o + 3) 4 + nI (gd w.1 (40 * a + b)))) (o + 3) 5 + nI (gd w.1 (40 * a + b) - gd w.1 (40 * a + b)))) o := chW_told.tr chW_told
    generalize (mu (mu σ (o + 3) 4 (σ (o + 3) 4 + nI (gd w.1 (40 * a + b)))) (o + 3) 5 ((mu σ (o + 3) 4 (σ (o + 3) 4 + nI (gd w.1 (40 * a + b)))) (o + 3) 5 + nI (gd w.1 (40 * a + b) - gd w.1 (40 * a + b)))) = τ at e0 S2' W2 ch2 ⊢
    simp (disch := omega) only [e0, nI_A, nI_M, chk_T, okI_t, nI_c, stp_s, mu_k]
    rw [if_pos trivial]
    unfold playF
    generalize hu : num (num s 4 (nI (gd w.1 (40 * a + b)))) 5 (nI (gd w.1 (40 * a + b) - gd w.1 (40 * a + b))) = u at S2' ⊢
    have hul : u.1.length = s.1.length := by rw [← hu]; rfl
    by_cases cg : gd w.1 (40 * a + b) < 2
    · simp (disch := omega) only [ifLT_t, if0_t, if_pos cg]
      have U : ShW (mu (mu τ (o + 3) (8 + s.1.length) (nN 5)) (o + 3) 0 (nI (s.1.length + 1)) (o + 3)) (unitS u (nN 5)) := by rw [mu_i, mu_i]; have := ShW_unit (c := nN 5) S2' (by rw [hul]; exact hl); rw [hul] at this; exact this
      have V1 : ShW (mu (mu (mu τ (o + 3) (8 + s.1.length) (nN 5)) (o + 3) 0 (nI (s.1.length + 1))) (o + 3) 1 ((mu (mu τ (o + 3) (8 + s.1.length) (nN 5)) (o + 3) 0 (nI (s.1.length + 1))) (o + 3) 1 + nI 0) (o + 3)) (unitS u (nN 5)) := by rw [mu_i]; exact ShW_0 U
      have V2 := ShW_num (k := 2) (d := nI 1) V1 (by omega) (by omega)
      rw [← mu_i] at V2
      have Wt : WrW ((mu (mu (mu (mu τ (o + 3) (8 + s.1.length) (nN 5)) (o + 3) 0 (nI (s.1.length + 1))) (o + 3) 1 ((mu (mu τ (o + 3) (8 + s.1.length) (nN 5)) (o + 3) 0 (nI (s.1.length + 1))) (o + 3) 1 + nI 0)) (o + 3) 2 ((mu (mu (mu τ (o + 3) (8 + s.1.length) (nN 5)) (o + 3) 0 (nI (s.1.length + 1))) (o + 3) 1 ((mu (mu τ (o + 3) (8 + s.1.length) (nN 5)) (o + 3) 0 (nI (s.1.length + 1))) (o + 3) 1 + nI 0)) (o + 3) 2 + nI 1)) (o + 1)) w := by
        rw [mu_n (by omega), mu_n (by omega), mu_n (by omega), mu_n (by omega)]; exact W2
      obtain ⟨σ1, e1, r1, r2, c1⟩ := X9_counts_156 (g := g) hg Wt hs hT
      have e1' := e1
      simp (disch := omega) only [mu_k] at e1'
      refine ⟨σ1, e1', r1, ?_, ch2.tr (chW_told.tr (chW_told.tr (chW_told.tr (chW_told.tr c1))))⟩
      rw [r2]
      exact V2
    · simp (disch := omega) only [ifLT_f, if0_f, if_neg cg]
      have U : ShW (mu (mu τ (o + 3) (8 + s.1.length) (nI (100 * a + b))) (o + 3) 0 (nI (s.1.length + 1)) (o + 3)) (unitS u (nI (100 * a + b))) := by rw [mu_i, mu_i]; have := ShW_unit (c := nI (100 * a + b)) S2' (by rw [hul]; exact hl); rw [hul] at this; exact this
      have V1 : ShW (mu (mu (mu τ (o + 3) (8 + s.1.length) (nI (100 * a + b))) (o + 3) 0 (nI (s.1.length + 1))) (o + 3) 1 ((mu (mu τ (o + 3) (8 + s.1.length) (nI (100 * a + b))) (o + 3) 0 (nI (s.1.length + 1))) (o + 3) 1 + nI 1) (o + 3)) (num (unitS u (nI (100 * a + b))) 1 (nI 1)) := by rw [mu_i]; exact ShW_num U (by omega) (by omega)
      have V2 := ShW_0 (k := 2) V1
      rw [← mu_i] at V2
      have Wt : WrW ((mu (mu (mu (mu τ (o + 3) (8 + s.1.length) (nI (100 * a + b))) (o + 3) 0 (nI (s.1.length + 1))) (o + 3) 1 ((mu (mu τ (o + 3) (8 + s.1.length) (nI (100 * a + b))) (o + 3) 0 (nI (s.1.length + 1))) (o + 3) 1 + nI 1)) (o + 3) 2 ((mu (mu (mu τ (o + 3) (8 + s.1.length) (nI (100 * a + b))) (o + 3) 0 (nI (s.1.length + 1))) (o + 3) 1 ((mu (mu τ (o + 3) (8 + s.1.length) (nI (100 * a + b))) (o + 3) 0 (nI (s.1.length + 1))) (o + 3) 1 + nI 1)) (o + 3) 2 + nI 0)) (o + 1)) w := by
        rw [mu_n (by omega), mu_n (by omega), mu_n (by omega), mu_n (by omega)]; exact W2
      obtain ⟨σ1, e1, r1, r2, c1⟩ := X9_counts_156 (g := g) hg Wt hs hT
      have e1' := e1
      simp (disch := omega) only [mu_k] at e1'
      refine ⟨σ1, e1', r1, ?_, ch2.tr (chW_told.tr (chW_told.tr (chW_told.tr (chW_told.tr c1))))⟩
      rw [r2]
      exact V2
  · simp (disch := omega) only [X9_good hg h hs hT, bnd_s, chk_T, okI_t, stp_s, nI_c, if0_f, nI_S, nI_D]
    rw [if_neg hc0]
    have S1 : ShW (mu σ (o + 3) 4 (σ (o + 3) 4 + nI (gd w.1 (40 * a + b) / 2)) (o + 3)) (num s 4 (nI (gd w.1 (40 * a + b) / 2))) := by rw [mu_i]; exact ShW_num (k := 4) (d := nI (gd w.1 (40 * a + b) / 2)) hS (by omega) (by omega)
    have S2 := ShW_num (k := 5) (d := nI (gd w.1 (40 * a + b) - gd w.1 (40 * a + b) / 2)) S1 (by omega) (by omega)
    rw [← mu_i] at S2
    have S3 := ShW_num (k := 3) (d := nI 1) S2 (by omega) (by omega)
    rw [← mu_i] at S3
    have W3 : WrW ((mu (mu (mu σ (o + 3) 4 (σ (o + 3) 4 + nI (gd w.1 (40 * a + b) / 2))) (o + 3) 5 (mu σ (o + 3) 4 (σ (o + 3) 4 + nI (gd w.1 (40 * a + b) / 2)) (o + 3) 5 + nI (gd w.1 (40 * a + b) - gd w.1 (40 * a + b) / 2))) (o + 3) 3 (mu (mu σ (o + 3) 4 (σ (o + 3) 4 + nI (gd w.1 (40 * a + b) / 2))) (o + 3) 5 (mu σ (o + 3) 4 (σ (o + 3) 4 + nI (gd w.1 (40 * a + b) / 2)) (o + 3) 5 + nI (gd w.1 (40 * a + b) - gd w.1 (40 * a + b) / 2)) (o + 3) 3 + nI 1)) (o + 1)) w := by
      rw [mu_n (by omega), mu_n (by omega), mu_n (by omega)]; exact h
    obtain ⟨σ1, e1, r1, r2, c1⟩ := X9_counts_156 (g := g) hg W3 hs hT
    refine ⟨σ1, e1, r1, ?_, chW_told.tr (chW_told.tr (chW_told.tr c1))⟩
    rw [r2]
    exact S3
end
