/-! PURE ROWS, 16: splices, what is disliked, settings, runs, witnesses, text, history, snapshot, trial run: both sides -/
def setW (A : Fa) (w : Nat × Nat × Nat) : Fa := (A.1, A.2.1, A.2.2.1, A.2.2.2.1, A.2.2.2.2.1 ++ [w], A.2.2.2.2.2)
def spRun (S : SS) : Int32 × SS := if S.1.2.2.1.1.length = 0 then (nN 4, S) else if S.1.2.2.2.1.length = 10 then (nN 3, S) else (nI S.1.2.2.2.1.length, put S (aRun S.1))
def spWit (p q r : Int32) (S : SS) : Int32 × SS := match S.1.2.2.2.1[p.toNatClampNeg]? with
  | some s => if p < 0 then (nN 1, S) else if q < 0 then (nN 2, S) else if r ≤ q then (nN 2, S) else if r ≤ nI s.1.length then (if 8 ≤ S.1.2.2.2.2.1.length then (nN 3, S) else (nI S.1.2.2.2.2.1.length, put S (setW S.1 (p.toNatClampNeg, q.toNatClampNeg, r.toNatClampNeg)))) else (nN 2, S)
  | none => (nN 1, S)
def spType (c : Int32) (S : SS) : Int32 × SS := if S.2.2.2.length = 60 then (nN 3, S) else (nI (S.2.2.2.length + 1), (S.1, S.2.1, S.2.2.1, S.2.2.2 ++ [c]))
def spClear (S : SS) : Int32 × SS := (nI S.2.2.2.length, (S.1, S.2.1, S.2.2.1, []))
def spUndo (S : SS) : Int32 × SS := match S.2.1.getLast? with
  | some A => (nI (S.2.1.length - 1), (A, S.2.1.dropLast, S.2.2))
  | none => (nN 5, S)
def spKeep (S : SS) : Int32 × SS := (nI S.1.2.2.1.1.length, (S.1, S.2.1, some S.1, S.2.2.2))
def spRestore (S : SS) : Int32 × SS := match S.2.2.1 with
  | some A => (nI A.2.2.1.1.length, put S A)
  | none => (nN 5, S)
def vNext (p : Int32) (S : SS) : Int32 := if okI p 8 = true then (if S.1.2.2.1.1.length = 0 then nN 4 else if p.toNatClampNeg = 0 then nI (aShow S.1).1.length else (aShow S.1).2 p.toNatClampNeg) else nN 2
theorem FilmW.cells {A : Fa} {w w' : Nat → Int32} {d e l : Nat} (h : FilmW w A) (e5 : w' 5 = nI d) (e6 : w' 6 = nI e) (e7 : w' 7 = nI l) (hc : ∀ j, j < 5 ∨ 8 ≤ j → w' j = w j) : FilmW w' (A.1, A.2.1, A.2.2.1, A.2.2.2.1, A.2.2.2.2.1, d, e, l) := by
  obtain ⟨f1, f2, f3, f4, f5, f6, f7, f8, f9⟩ := h
  exact ⟨f1.same (fun j q => hc j (by omega)), f2.same (fun j a b => hc j (by omega)), f3.same (fun j q => hc j (by omega)), f4.same (fun j q => hc j (by omega)), f5.same (fun j q => hc j (by omega)), f6.same (fun j q => hc j (by omega)), e5, e6, e7⟩
section
variable {g o : Nat} {σ : Mem} {S : SS}
theorem FilmC.cells {A : Fa} {f k d e l : Nat} {v : Int32} (h : FilmC σ f A) (hk : 5 ≤ k) (e5 : upd (σ f) k v 5 = nI d) (e6 : upd (σ f) k v 6 = nI e) (e7 : upd (σ f) k v 7 = nI l) : FilmC (mu σ f k v) f (A.1, A.2.1, A.2.2.1, A.2.2.2.1, A.2.2.2.2.1, d, e, l) := by
  obtain ⟨h1, h2, h3, h4, h5, h6, h7, h8⟩ := h
  refine ⟨h1.same (fun i a b => mu_n (by omega)), h2.same (fun i a b => mu_n (by omega)), h3.same (fun i a b => mu_n (by omega)), h4.same (fun i a b => mu_n (by omega)), ?_, ?_, ?_, ?_⟩
  · rw [mu_k (by omega)]; exact h5
  · rw [mu_i]; exact e5
  · rw [mu_i]; exact e6
  · rw [mu_i]; exact e7
theorem RowC_set4 {L : List Pc} {i : Nat} {x : Pc} (h : RowC σ o L) (hx : L[i]? = some x) : RowC (mu σ (o + 4) i (nI 0)) o (L.set i (zp x)) := by
  have hi := lt_of_get hx
  refine ⟨by rw [mu_n (by omega), List.length_set]; exact h.1, by rw [List.length_set]; exact h.2.1, fun j z hz => ?_⟩
  rw [List.getElem?_set] at hz
  rw [mu_n (by omega), mu_n (by omega), mu_n (by omega), mu_ij]
  by_cases q : i = j
  · subst q
    rw [if_pos rfl, if_pos hi] at hz
    cases hz
    rw [if_pos rfl]
    obtain ⟨a1, a2, a3, -⟩ := h.2.2 i x hx
    exact ⟨a1, a2, a3, rfl⟩
  · rw [if_neg q] at hz
    rw [if_neg (by omega)]
    exact h.2.2 j z hz
theorem X8_splice (hg : 1000 ≤ g) (h : SysC σ o S) (hV : BnV S.1.2.2.1) (p : Int32) : ∃ σ', fX8_splice g σ o p = some ((spSplice p S).1, σ') ∧ SysC σ' o (spSplice p S).2 ∧ same σ σ' o (o + 334) := by
  have hR : RowC σ (o + 8) S.1.2.2.1.1 := h.1.2.1.1
  have hl := hR.2.1
  unfold fX8_splice spSplice
  rw [X4_has hR, bnd_s]
  rcases okI_get (p := p) (L := S.1.2.2.1.1) (by omega) with ⟨x, j, rfl, c1, c2, cn, c3, c4⟩ | ⟨c1, c2⟩
  · have hv := hV.1 j x c3
    have e4 : σ (o + 12) j = nI x.2.2.2 := (hR.2.2 j x c3).2.2.2
    obtain ⟨v0, v1, v2, v3⟩ := hv
    rw [c4, if_neg (show ¬ b2i true = 0 by decide), c1, c3]
    dsimp only
    rw [if_neg cn]
    simp (disch := omega) only [chk_T, okI_t, okI_f, okI_nN, b2i_t, b2i_f, ifTT, ifFT, ite_true, ite_false, nI_c, bnd_s, bnd2_s, stp_s, ifLE_t, ifLE_f, ifLT_t, ifLT_f, ifE_t, ifE_f, if0_t, if0_f, ifn0, ifp0, ifl0_t, ifl0_f, ifg0_t, ifg0_f, ifnE, ifnE2, ifNE_t, ifNE_f, ifN0, ifNl, ifNp, ifB, nI_A, nI_S, nI_M, mu_s, mu_k, mu_n, mcp_n, e4]
    by_cases c5 : x.2.2.2 = 0
    · rw [if0_t c5, if_pos c5]
      exact ⟨σ, rfl, h, same.rf⟩
    · rw [if0_f (by omega) (by omega), if_neg c5]
      obtain ⟨σ1, p1, r1, s1⟩ := h.rec hg
      rw [p1]
      simp (disch := omega) only [chk_T, okI_t, okI_f, okI_nN, b2i_t, b2i_f, ifTT, ifFT, ite_true, ite_false, nI_c, bnd_s, bnd2_s, stp_s, ifLE_t, ifLE_f, ifLT_t, ifLT_f, ifE_t, ifE_f, if0_t, if0_f, ifn0, ifp0, ifl0_t, ifl0_f, ifg0_t, ifg0_f, ifnE, ifnE2, ifNE_t, ifNE_f, ifN0, ifNl, ifNp, ifB, nI_A, nI_S, nI_M, mu_s, mu_k, mu_n, mcp_n]
      have hB : BnC (mu σ1 (o + 12) j (nI 0)) (o + 1 + 6) (S.1.2.2.1.1.set j (zp x), S.1.2.2.1.2) := ⟨RowC_set4 (o := o + 8) r1.1.2.1.1 c3, RowC.same (σ := σ1) r1.1.2.1.2 (fun i a b => mu_n (by omega))⟩
      exact ⟨_, rfl, r1.film (r1.1.bench hB (fun i a b c => mu_n (by omega))) (fun i a b => mu_n (by omega)), fun i hi => by rw [mu_n (by omega), s1 i (by omega)]⟩
  · rw [c1, if_pos (show b2i false = 0 from rfl)]
    refine ⟨σ, ?_, ?_, same.rf⟩
    · cases hq : S.1.2.2.1.1[p.toNatClampNeg]? with
      | none => rfl
      | some x =>
        have : p < 0 := by rcases c2 with c2 | c2; exact c2; rw [hq] at c2; cases c2
        dsimp only
        rw [if_pos this]
    · cases hq : S.1.2.2.1.1[p.toNatClampNeg]? with
      | none => exact h
      | some x =>
        have : p < 0 := by rcases c2 with c2 | c2; exact c2; rw [hq] at c2; cases c2
        dsimp only
        rw [if_pos this]
        exact h
theorem X9_splice (hg : 40000 ≤ g) (h : SysM σ o S) (hV : BnV S.1.2.2.1) (p : Int32) : ∃ σ', fX9_splice g σ o p = some ((spSplice p S).1, σ') ∧ SysM σ' o (spSplice p S).2 ∧ chM σ σ' o := by
  have hR : RowM σ o S.1.2.2.1.1 := h.1.2.2.1
  have hl := hR.2.1
  unfold fX9_splice spSplice
  rw [X9_isPiece hR, bnd_s]
  rcases okI_get (p := p) (L := S.1.2.2.1.1) (by omega) with ⟨x, j, rfl, c1, c2, cn, c3, c4⟩ | ⟨c1, c2⟩
  · have hv := hV.1 j x c3
    obtain ⟨v0, v1, v2, v3⟩ := hv
    rw [c4, if_neg (show ¬ b2i true = 0 by decide), c1, c3, X9_ofP hR c3 (by omega), bnd_s, show pcc x (3 + 1) = x.2.2.2 from rfl]
    dsimp only
    rw [if_neg cn]
    by_cases c5 : x.2.2.2 = 0
    · rw [if0_t c5, if_pos c5]
      exact ⟨σ, rfl, h, fun _ _ => rfl⟩
    · rw [if0_f (by omega) (by omega), if_neg c5]
      obtain ⟨σ1, p1, r1, s1⟩ := h.rec hg
      have hR1 : RowM σ1 o S.1.2.2.1.1 := r1.1.2.2.1
      have hs := RowM_set (i := j) (c := 3) (v := nI 0) (y := zp x) hR1 c3 (by omega) (fun d hd => by
        rcases (by omega : d = 0 ∨ d = 1 ∨ d = 2 ∨ d = 3) with rfl | rfl | rfl | rfl <;> rfl)
      rw [p1, bnd_s, X9_setsP (by omega) (by omega), bnd_s]
      exact ⟨_, rfl, r1.ofB (b := (S.1.2.2.1.1.set j (zp x), S.1.2.2.1.2)) ⟨hs, CanW.same (w := σ1 (o + 1)) r1.1.2.2.2.1 (fun j q => mu_k (by omega))⟩ ⟨fun i a => mu_n a, fun j a b c => mu_k (by omega)⟩, fun i hi => by rw [mu_n (by omega), s1 i (by omega) (by omega)]⟩
  · rw [c1, if_pos (show b2i false = 0 from rfl)]
    refine ⟨σ, ?_, ?_, fun _ _ => rfl⟩
    · cases hq : S.1.2.2.1.1[p.toNatClampNeg]? with
      | none => rfl
      | some x =>
        have : p < 0 := by rcases c2 with c2 | c2; exact c2; rw [hq] at c2; cases c2
        dsimp only
        rw [if_pos this]
    · cases hq : S.1.2.2.1.1[p.toNatClampNeg]? with
      | none => exact h
      | some x =>
        have : p < 0 := by rcases c2 with c2 | c2; exact c2; rw [hq] at c2; cases c2
        dsimp only
        rw [if_pos this]
        exact h
theorem X8_dislike (hg : 1000 ≤ g) (h : SysC σ o S) (h64 : S.1.2.2.2.2.2.1 < 64) (p : Int32) (b : Bool) : ∃ σ', fX8_dislike g σ o p (b2i b) = some ((spDis p b S).1, σ') ∧ SysC σ' o (spDis p b S).2 ∧ same σ σ' o (o + 334) := by
  have e5 : σ (o + 1) 5 = nI S.1.2.2.2.2.2.1 := h.1.2.2.2.2.2.1
  unfold fX8_dislike spDis
  rw [X8_isWithin, within_0 (by omega), bnd_s]
  cases c1 : okI p 6 with
  | false =>
    rw [if_pos (show b2i false = 0 from rfl), if_neg (fun q => Bool.noConfusion q)]
    exact ⟨σ, rfl, h, same.rf⟩
  | true =>
    obtain ⟨k, k1, k2, rfl, k4⟩ := okI_of c1
    rw [if_neg (show ¬ b2i true = 0 by decide), if_pos (show true = true from rfl), k4, X2_dislikes e5 h64 (by omega), bnd_s]
    have hbe : (b2i (isDis S.1.2.2.2.2.2.1 k) = b2i b) ↔ isDis S.1.2.2.2.2.2.1 k = b := by cases isDis S.1.2.2.2.2.2.1 k <;> cases b <;> decide
    have hb := dis_bits _ h64 k k1
    have hm : S.1.2.2.2.2.2.1 / 2 ^ k % 2 < 2 := Nat.mod_lt _ (by omega)
    by_cases c2 : isDis S.1.2.2.2.2.2.1 k = b
    · rw [if_pos (hbe.2 c2), if_pos c2]
      exact ⟨σ, rfl, h, same.rf⟩
    · rw [if_neg (fun z => c2 (hbe.1 z)), if_neg c2]
      obtain ⟨σ1, p1, r1, s1⟩ := h.rec hg
      have e6 : σ1 (o + 1) 5 = nI S.1.2.2.2.2.2.1 := r1.1.2.2.2.2.2.1
      have hx : nI S.1.2.2.2.2.2.1 ^^^ (nI 1 <<< (nI k &&& 31)) = nI (dis1 b S.1.2.2.2.2.2.1 k) ∧ dis1 b S.1.2.2.2.2.2.1 k < 64 := by
        unfold isDis at c2
        unfold dis1
        cases b with
        | true =>
          have c2 : ¬ S.1.2.2.2.2.2.1 / 2 ^ k % 2 = 1 := fun z => c2 (decide_eq_true z)
          have := hb.1 (by omega)
          exact ⟨this.1, this.2.2⟩
        | false =>
          have c2 : S.1.2.2.2.2.2.1 / 2 ^ k % 2 = 1 := by
            by_cases z : S.1.2.2.2.2.2.1 / 2 ^ k % 2 = 1
            · exact z
            · exact absurd (decide_eq_false z) c2
          have := hb.2 c2
          exact ⟨this.1, Nat.lt_of_le_of_lt (Nat.sub_le _ _) h64⟩
      rw [p1, bnd_s, stp_s, e6, hx.1, mu_s, bitCount_s _ hx.2, bnd_s]
      refine ⟨_, rfl, r1.film (r1.1.cells (k := 5) (by omega) pk_us ?_ ?_) (fun i a b => mu_n (by omega)), fun i hi => by rw [mu_n (by omega), s1 i (by omega)]⟩
      · rw [pk_un (by omega)]; exact r1.1.2.2.2.2.2.2.1
      · rw [pk_un (by omega)]; exact r1.1.2.2.2.2.2.2.2
theorem X9_dislike (hg : 40000 ≤ g) (h : SysM σ o S) (h64 : S.1.2.2.2.2.2.1 < 64) (p : Int32) (b : Bool) : ∃ σ', fX9_dislike g σ o p (b2i b) = some ((spDis p b S).1, σ') ∧ SysM σ' o (spDis p b S).2 ∧ chM σ σ' o := by
  have e5 : σ (o + 1) 5 = nI S.1.2.2.2.2.2.1 := h.1.2.2.2.2.2.2.1
  unfold fX9_dislike spDis
  rw [X9_isIn, within_0 (by omega), bnd_s]
  cases c1 : okI p 6 with
  | false =>
    rw [if_pos (show b2i false = 0 from rfl), if_neg (fun q => Bool.noConfusion q)]
    exact ⟨σ, rfl, h, fun _ _ => rfl⟩
  | true =>
    obtain ⟨k, k1, k2, rfl, k4⟩ := okI_of c1
    rw [if_neg (show ¬ b2i true = 0 by decide), if_pos (show true = true from rfl), k4]
    have hb := dis_bits _ h64 k k1
    have hm : S.1.2.2.2.2.2.1 / 2 ^ k % 2 < 2 := Nat.mod_lt _ (by omega)
    simp (disch := omega) only [chk_T, okI_t, okI_f, okI_nN, b2i_t, b2i_f, ifTT, ifFT, ite_true, ite_false, nI_c, bnd_s, bnd2_s, stp_s, ifLE_t, ifLE_f, ifLT_t, ifLT_f, ifE_t, ifE_f, if0_t, if0_f, ifn0, ifp0, ifl0_t, ifl0_f, ifg0_t, ifg0_f, ifnE, ifnE2, ifNE_t, ifNE_f, ifN0, ifNl, ifNp, ifB, nI_A, nI_S, nI_M, mu_s, mu_k, mu_n, mcp_n, e5]
    rw [bit_at (by omega) (by omega)]
    have hbe : (nI (S.1.2.2.2.2.2.1 / 2 ^ k % 2) = if b = true then nI 1 else nI 0) ↔ isDis S.1.2.2.2.2.2.1 k = b := by
      unfold isDis
      rcases (by omega : S.1.2.2.2.2.2.1 / 2 ^ k % 2 = 0 ∨ S.1.2.2.2.2.2.1 / 2 ^ k % 2 = 1) with e | e <;> rw [e] <;> cases b <;> decide
    by_cases c2 : isDis S.1.2.2.2.2.2.1 k = b
    · rw [if_pos (hbe.2 c2), if_pos c2]
      exact ⟨σ, rfl, h, fun _ _ => rfl⟩
    · rw [if_neg (fun z => c2 (hbe.1 z)), if_neg c2]
      obtain ⟨σ1, p1, r1, s1⟩ := h.rec hg
      have e6 : σ1 (o + 1) 5 = nI S.1.2.2.2.2.2.1 := r1.1.2.2.2.2.2.2.1
      have hx : nI S.1.2.2.2.2.2.1 + (if b = true then nI 1 <<< (nI k &&& 31) else -(nI 1 <<< (nI k &&& 31))) = nI (dis1 b S.1.2.2.2.2.2.1 k) ∧ dis1 b S.1.2.2.2.2.2.1 k < 64 := by
        unfold isDis at c2
        unfold dis1
        cases b with
        | true =>
          have c2 : ¬ S.1.2.2.2.2.2.1 / 2 ^ k % 2 = 1 := fun z => c2 (decide_eq_true z)
          have := hb.1 (by omega)
          exact ⟨this.2.1, this.2.2⟩
        | false =>
          have c2 : S.1.2.2.2.2.2.1 / 2 ^ k % 2 = 1 := by
            by_cases z : S.1.2.2.2.2.2.1 / 2 ^ k % 2 = 1
            · exact z
            · exact absurd (decide_eq_false z) c2
          have := hb.2 c2
          exact ⟨this.2, Nat.lt_of_le_of_lt (Nat.sub_le _ _) h64⟩
      rw [p1]
      simp (disch := omega) only [chk_T, okI_t, okI_f, okI_nN, b2i_t, b2i_f, ifTT, ifFT, ite_true, ite_false, nI_c, bnd_s, bnd2_s, stp_s, ifLE_t, ifLE_f, ifLT_t, ifLT_f, ifE_t, ifE_f, if0_t, if0_f, ifn0, ifp0, ifl0_t, ifl0_f, ifg0_t, ifg0_f, ifnE, ifnE2, ifNE_t, ifNE_f, ifN0, ifNl, ifNp, ifB, nI_A, nI_S, nI_M, mu_s, mu_k, mu_n, mcp_n, e6]
      rw [hx.1, X9_ones (by omega) (by omega), bnd_s]
      refine ⟨_, rfl, r1.film (r1.1.cells (mu_s) ?_ ?_ (fun j hj => mu_k (by omega))) (fun i a b => mu_n (by omega)), fun i hi => by rw [mu_n (by omega), s1 i (by omega) (by omega)]⟩
      · rw [mu_k (by omega)]; exact r1.1.2.2.2.2.2.2.2.1
      · rw [mu_k (by omega)]; exact r1.1.2.2.2.2.2.2.2.2
end
