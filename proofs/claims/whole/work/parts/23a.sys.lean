/-! PURE ROWS, 14: the whole state as lists; class and reference stand for it; edits and added scenes -/
abbrev SS : Type := Fa × List Fa × Option Fa × List Int32
def TextC (σ : Mem) (o : Nat) (tx : List Int32) : Prop := σ o 0 = nI tx.length ∧ tx.length ≤ 60 ∧ ∀ (i : Nat) (c : Int32), tx[i]? = some c → σ (o + 4) i = c
def TextM (σ : Mem) (m : Nat) (tx : List Int32) : Prop := σ m 6 = nI tx.length ∧ tx.length ≤ 60 ∧ ∀ (i : Nat) (c : Int32), tx[i]? = some c → σ (m + 4) i = c
def SysC (σ : Mem) (o : Nat) (S : SS) : Prop := FilmC σ (o + 1) S.1 ∧ HistC σ (o + 105) S.2.1 ∧ σ o 6 = b2i S.2.2.1.isSome ∧ (∀ A, S.2.2.1 = some A → FilmC σ (o + 53) A) ∧ TextC σ (o + 315) S.2.2.2
def SysM (σ : Mem) (m : Nat) (S : SS) : Prop := FilmW (σ (m + 1)) S.1 ∧ HistM σ m S.2.1 ∧ σ m 3 = b2i S.2.2.1.isSome ∧ (∀ A, S.2.2.1 = some A → FilmW (fun k => σ (m + 2) (24144 + k)) A) ∧ TextM σ m S.2.2.2
def put (S : SS) (A : Fa) : SS := (A, recd S.1 S.2.1, S.2.2)
theorem HistC.same {σ σ' : Mem} {h : Nat} {hs : List Fa} (a : HistC σ h hs) (e : ∀ i, h ≤ i → i < h + 210 → σ' i = σ i) : HistC σ' h hs := by
  obtain ⟨h0, hl, top, ht, h1, hf⟩ := a
  refine ⟨by rw [e h (by omega) (by omega)]; exact h0, hl, top, ht, by rw [e h (by omega) (by omega)]; exact h1, fun i A hA => (hf i A hA).same (fun j a b => e j (by omega) (by omega))⟩
theorem TextC.same {σ σ' : Mem} {o : Nat} {tx : List Int32} (a : TextC σ o tx) (e : ∀ i, o ≤ i → i < o + 5 → σ' i = σ i) : TextC σ' o tx := by
  obtain ⟨h0, hl, h1⟩ := a
  exact ⟨by rw [e o (by omega) (by omega)]; exact h0, hl, fun i c hc => by rw [e (o + 4) (by omega) (by omega)]; exact h1 i c hc⟩
theorem SysC.film {σ σ' : Mem} {o : Nat} {S : SS} {A : Fa} (h : SysC σ o S) (hA : FilmC σ' (o + 1) A) (e : ∀ i, (i < o + 1 ∨ o + 53 ≤ i) → (i < o + 320 ∨ o + 334 ≤ i) → σ' i = σ i) : SysC σ' o (A, S.2) := by
  obtain ⟨h1, h2, h3, h4, h5⟩ := h
  exact ⟨hA, h2.same (fun i a b => e i (by omega) (by omega)), by rw [e o (by omega) (by omega)]; exact h3, fun B hB => (h4 B hB).same (fun i a b => e i (by omega) (by omega)), h5.same (fun i a b => e i (by omega) (by omega))⟩
theorem SysC.rec {g o : Nat} {σ : Mem} {S : SS} (hg : 1000 ≤ g) (h : SysC σ o S) : ∃ σ', fX3_record g σ (o + 105) (o + 1) = some σ' ∧ SysC σ' o (put S S.1) ∧ same σ σ' (o + 105) (o + 315) := by
  obtain ⟨h1, h2, h3, h4, h5⟩ := h
  obtain ⟨σ1, e1, r1, s1⟩ := X3_record (g := g) (o := o + 105) (o1 := o + 1) hg h2 h1 (by omega)
  exact ⟨σ1, e1, ⟨h1.same (fun i a b => s1 i (by omega)), r1, by rw [s1 o (by omega)]; exact h3, fun B hB => (h4 B hB).same (fun i a b => s1 i (by omega)), h5.same (fun i a b => s1 i (by omega))⟩, s1⟩
theorem SysM.film {σ σ' : Mem} {m : Nat} {S : SS} {A : Fa} (h : SysM σ m S) (hA : FilmW (σ' (m + 1)) A) (e : ∀ i, i ≠ m + 1 → i ≠ m + 3 → σ' i = σ i) : SysM σ' m (A, S.2) := by
  obtain ⟨h1, h2, h3, h4, h5⟩ := h
  unfold SysM HistM TextM
  rw [e m (by omega) (by omega), e (m + 2) (by omega) (by omega), e (m + 4) (by omega) (by omega)]
  exact ⟨hA, h2, h3, h4, h5⟩
theorem SysM.rec {g m : Nat} {σ : Mem} {S : SS} (hg : 40000 ≤ g) (h : SysM σ m S) : ∃ σ', fX9_records g σ m (nI 0) = some σ' ∧ SysM σ' m (put S S.1) ∧ ∀ i, i ≠ m → i ≠ m + 2 → σ' i = σ i := by
  obtain ⟨h1, h2, h3, h4, h5⟩ := h
  obtain ⟨σ1, e1, r1, c1, c2, c3⟩ := X9_records (g := g) (o := m) (b := 0) (by omega) hg h2 (A := S.1) (by simp only [if_true]; exact h1)
  exact ⟨σ1, e1, ⟨by rw [c1 _ (by omega) (by omega)]; exact h1, r1, by rw [c2 3 (by omega)]; exact h3, fun B hB => (h4 B hB).same (fun j _ => c3 _ (by omega)), by
    unfold TextM
    rw [c2 6 (by omega), c1 (m + 4) (by omega) (by omega)]
    exact h5⟩, c1⟩
theorem SysC.hist {σ : Mem} {o : Nat} {S : SS} (h : SysC σ o S) : S.2.1.length ≤ 4 := h.2.1.2.1
-- what a film's parts keep when one of them is given anew
theorem FilmC.stock {σ σ' : Mem} {f : Nat} {A : Fa} {sc : List (Nat × Nat)} {wr : Wr} (h : FilmC σ f A) (hs : StockC σ' (f + 1) sc wr) (e : ∀ i, f ≤ i → i < f + 52 → (i < f + 1 ∨ f + 6 ≤ i) → σ' i = σ i) : FilmC σ' f (sc, wr, A.2.2) := by
  obtain ⟨h1, h2, h3, h4, h5⟩ := h
  refine ⟨hs, h2.same (fun i a b => e i (by omega) (by omega) (by omega)), h3.same (fun i a b => e i (by omega) (by omega) (by omega)), h4.same (fun i a b => e i (by omega) (by omega) (by omega)), ?_⟩
  rw [e f (by omega) (by omega) (by omega)]
  exact h5
theorem FilmC.bench {σ σ' : Mem} {f : Nat} {A : Fa} {b : Bn} (h : FilmC σ f A) (hs : BnC σ' (f + 6) b) (e : ∀ i, f ≤ i → i < f + 52 → (i < f + 6 ∨ f + 17 ≤ i) → σ' i = σ i) : FilmC σ' f (A.1, A.2.1, b, A.2.2.2) := by
  obtain ⟨h1, h2, h3, h4, h5⟩ := h
  refine ⟨h1.same (fun i a b => e i (by omega) (by omega) (by omega)), hs, h3.same (fun i a b => e i (by omega) (by omega) (by omega)), h4.same (fun i a b => e i (by omega) (by omega) (by omega)), ?_⟩
  rw [e f (by omega) (by omega) (by omega)]
  exact h5
theorem FilmW.bench {w w' : Nat → Int32} {A : Fa} {b : Bn} (h : FilmW w A) (h1 : RowW w' b.1) (h2 : CanW w' b.2) (e : ∀ j, j ≠ 1 → j ≠ 2 → (j < 992 ∨ 1132 ≤ j) → w' j = w j) : FilmW w' (A.1, A.2.1, b, A.2.2.2) := by
  obtain ⟨f1, f2, f3, f4, f5, f6, f7, f8, f9⟩ := h
  exact ⟨f1.same (fun j q => e j (by omega) (by omega) (by omega)), f2.same (fun j a b => e j (by omega) (by omega) (by omega)), h1, h2, f5.same (fun j q => e j (by omega) (by omega) (by omega)), f6.same (fun j q => e j (by omega) (by omega) (by omega)), by rw [e 5 (by omega) (by omega) (by omega)]; exact f7, by rw [e 6 (by omega) (by omega) (by omega)]; exact f8, by rw [e 7 (by omega) (by omega) (by omega)]; exact f9⟩
theorem tgt_neg {r : Int32} : (r < 0) ∨ ¬ (r < 0) := Classical.em _
def setB (A : Fa) (b : Bn) : Fa := (A.1, A.2.1, b, A.2.2.2)
def spE (v p q : Int32) (S : SS) : Int32 × SS := if (bOp v p q S.1.2.2.1).1 < 0 then ((bOp v p q S.1.2.2.1).1, S) else ((bOp v p q S.1.2.2.1).1, put S (setB S.1 (bOp v p q S.1.2.2.1).2))
theorem errOf_ge {r : Int32} (h : ¬ r < 0) : errOf r = nI 0 := by unfold errOf; rw [if_neg h]
section
variable {g o : Nat} {σ : Mem} {S : SS}
theorem X8_editOnce (hg : 1000 ≤ g) (h : SysC σ o S) (hV : BnV S.1.2.2.1) (v p q : Int32) : ∃ σ', fX8_editOnce g σ o v p q = some ((spE v p q S).1, σ') ∧ SysC σ' o (spE v p q S).2 ∧ same σ σ' o (o + 334) := by
  have hF := h.1
  obtain ⟨σ1, e1, r1, s1⟩ := X0_copyFrom (g := g) (σ := σ) (o := o + 320) (o1 := o + 1 + 6) hF.2.1 (by omega)
  obtain ⟨σ2, e2, r2, s2⟩ := X0_perform (g := g) (σ := σ1) (o := o + 320) hg r1 hV v p q
  have t2 : ∀ i, (i < o + 320 ∨ o + 331 ≤ i) → σ2 i = σ i := fun i hi => by rw [s2 i (by omega), s1 i (by omega)]
  have h2 : SysC σ2 o S := h.film (hF.same (fun i a b => t2 i (by omega))) (fun i a b => t2 i (by omega))
  unfold fX8_editOnce spE
  have e1 : fX0_copyFrom g σ (o + 320) (o + 7) = some σ1 := e1
  rw [e1, bnd_s, e2, bnd2_s]
  by_cases c : (bOp v p q S.1.2.2.1).1 < 0
  · rw [if_pos c, if_pos c]
    exact ⟨σ2, rfl, h2, fun i hi => t2 i (by omega)⟩
  · rw [if_neg c, if_neg c]
    obtain ⟨σ3, e3, r3, s3⟩ := h2.rec hg
    obtain ⟨σ4, e4, r4, s4⟩ := X0_copyFrom (g := g) (σ := σ3) (o := o + 1 + 6) (o1 := o + 320) (r2.same (fun i a b => s3 i (by omega))) (by omega)
    have e4 : fX0_copyFrom g σ3 (o + 7) (o + 320) = some σ4 := e4
    unfold fX8_takeOverTrial
    rw [e3, bnd_s, e4]
    refine ⟨σ4, rfl, ?_, fun i hi => by rw [s4 i (by omega), s3 i (by omega), t2 i (by omega)]⟩
    exact r3.film (r3.1.bench r4 (fun i a b c => s4 i (by omega))) (fun i a b => s4 i (by omega))
theorem X8_cut (hg : 1000 ≤ g) (h : SysC σ o S) (hV : BnV S.1.2.2.1) (p : Int32) : ∃ σ', fX8_cut g σ o p = some ((spE (nI 99) p (nI 0) S).1, σ') ∧ SysC σ' o (spE (nI 99) p (nI 0) S).2 ∧ same σ σ' o (o + 334) := by
  obtain ⟨σ1, e1, r⟩ := X8_editOnce hg h hV (nI 99) p (nI 0)
  unfold fX8_cut
  rw [e1]
  exact ⟨σ1, rfl, r⟩
theorem X8_join (hg : 1000 ≤ g) (h : SysC σ o S) (hV : BnV S.1.2.2.1) (p : Int32) : ∃ σ', fX8_join g σ o p = some ((spE (nI 106) p (nI 0) S).1, σ') ∧ SysC σ' o (spE (nI 106) p (nI 0) S).2 ∧ same σ σ' o (o + 334) := by
  obtain ⟨σ1, e1, r⟩ := X8_editOnce hg h hV (nI 106) p (nI 0)
  unfold fX8_join
  rw [e1]
  exact ⟨σ1, rfl, r⟩
theorem X8_takeOut (hg : 1000 ≤ g) (h : SysC σ o S) (hV : BnV S.1.2.2.1) (p : Int32) : ∃ σ', fX8_takeOut g σ o p = some ((spE (nI 111) p (nI 0) S).1, σ') ∧ SysC σ' o (spE (nI 111) p (nI 0) S).2 ∧ same σ σ' o (o + 334) := by
  obtain ⟨σ1, e1, r⟩ := X8_editOnce hg h hV (nI 111) p (nI 0)
  unfold fX8_takeOut
  rw [e1]
  exact ⟨σ1, rfl, r⟩
theorem X8_putIn (hg : 1000 ≤ g) (h : SysC σ o S) (hV : BnV S.1.2.2.1) (p q : Int32) : ∃ σ', fX8_putIn g σ o p q = some ((spE (nI 105) p q S).1, σ') ∧ SysC σ' o (spE (nI 105) p q S).2 ∧ same σ σ' o (o + 334) := by
  obtain ⟨σ1, e1, r⟩ := X8_editOnce hg h hV (nI 105) p q
  unfold fX8_putIn
  rw [e1]
  exact ⟨σ1, rfl, r⟩
theorem X8_move (hg : 1000 ≤ g) (h : SysC σ o S) (hV : BnV S.1.2.2.1) (p q : Int32) : ∃ σ', fX8_move g σ o p q = some ((spE (nI 109) p q S).1, σ') ∧ SysC σ' o (spE (nI 109) p q S).2 ∧ same σ σ' o (o + 334) := by
  obtain ⟨σ1, e1, r⟩ := X8_editOnce hg h hV (nI 109) p q
  unfold fX8_move
  rw [e1]
  exact ⟨σ1, rfl, r⟩
/-- only the reference's own cells change -/
def chM (σ σ' : Mem) (m : Nat) : Prop := ∀ i, i < m → σ' i = σ i
theorem SysM.bm {m : Nat} (h : SysM σ m S) : BnM σ m S.1.2.2.1 := ⟨h.1.2.2.1, h.1.2.2.2.1⟩
theorem SysM.ofB {σ' : Mem} {m : Nat} {b : Bn} (h : SysM σ m S) (hb : BnM σ' m b) (c : chB σ σ' m) : SysM σ' m (setB S.1 b, S.2) := h.film (h.1.bench hb.1 hb.2 (fun j a b d => c.2 j a b d)) (fun i a _ => c.1 i a)
theorem chP.B {σ' : Mem} {m : Nat} (c : chP σ σ' m) : chB σ σ' m := ⟨c.1, fun j a _ d => c.2 j a (by omega)⟩
theorem bOp_c {p q : Int32} {b : Bn} : bOp (nI 99) p q b = bCut p b := by unfold bOp; rw [if_pos rfl]
theorem bOp_j {p q : Int32} {b : Bn} : bOp (nI 106) p q b = bJoin p b := by unfold bOp; rw [if_neg (by decide), if_neg (by decide), if_pos rfl]
theorem bOp_o {p q : Int32} {b : Bn} : bOp (nI 111) p q b = bTake p b := by unfold bOp; rw [if_neg (by decide), if_neg (by decide), if_neg (by decide), if_pos rfl]
theorem bOp_i {p q : Int32} {b : Bn} : bOp (nI 105) p q b = bPut p q b := by unfold bOp; rw [if_neg (by decide), if_pos rfl]
theorem bOp_m {p q : Int32} {b : Bn} : bOp (nI 109) p q b = bMove p q b := by unfold bOp; rw [if_neg (by decide), if_neg (by decide), if_neg (by decide), if_neg (by decide)]
theorem mEdit (hg : 40000 ≤ g) {m : Nat} (h : SysM σ m S) {r : Int32 × Bn} {K : Mem → Option (Int32 × Mem)} (hK : ∀ σ1, SysM σ1 m (put S S.1) → ¬ r.1 < 0 → ∃ σ', K σ1 = some (r.1, σ') ∧ BnM σ' m r.2 ∧ chB σ1 σ' m) : ∃ σ', (if errOf r.1 = 0 then bnd (fX9_records g σ m (nI 0)) (fun σ4 => bnd2 (K σ4) fun r6 σ7 => some (r6, σ7)) else some (errOf r.1, σ)) = some (r.1, σ') ∧ SysM σ' m (if r.1 < 0 then S else put S (setB S.1 r.2)) ∧ chM σ σ' m := by
  by_cases c : r.1 < 0
  · have ne : ¬ r.1 = 0 := fun q => by rw [q] at c; exact absurd c (by decide)
    rw [errOf_lt c, if_neg ne, if_pos c]
    exact ⟨σ, rfl, h, fun _ _ => rfl⟩
  · rw [errOf_ge c, if_pos (show nI 0 = 0 from rfl), if_neg c]
    obtain ⟨σ1, e1, r1, s1⟩ := h.rec hg
    obtain ⟨σ2, e2, r2, c2⟩ := hK σ1 r1 c
    rw [e1, bnd_s, e2]
    exact ⟨σ2, rfl, r1.ofB r2 c2, fun i hi => by rw [c2.1 i (by omega), s1 i (by omega) (by omega)]⟩
theorem spE_1 {v p q : Int32} : (spE v p q S).1 = (bOp v p q S.1.2.2.1).1 := by unfold spE; split <;> rfl
theorem spE_2 {v p q : Int32} : (spE v p q S).2 = if (bOp v p q S.1.2.2.1).1 < 0 then S else put S (setB S.1 (bOp v p q S.1.2.2.1).2) := by unfold spE; split <;> rfl
theorem X9_cut (hg : 40000 ≤ g) (h : SysM σ o S) (hV : BnV S.1.2.2.1) (p : Int32) : ∃ σ', fX9_cut g σ o p = some ((spE (nI 99) p (nI 0) S).1, σ') ∧ SysM σ' o (spE (nI 99) p (nI 0) S).2 ∧ chM σ σ' o := by
  rw [spE_1, spE_2, bOp_c]
  unfold fX9_cut
  rw [X9_cutError (by omega) h.bm.1 hV.1, bnd_s]
  exact mEdit hg h (r := bCut p S.1.2.2.1) (K := fun σ4 => fX9_cuts g σ4 o p) (fun σ1 r1 c => by
    obtain ⟨σ2, e2, r2, c2⟩ := X9_cuts (g := g) (by omega) r1.bm hV p c
    exact ⟨σ2, e2, r2, c2.B⟩)
theorem X9_join (hg : 40000 ≤ g) (h : SysM σ o S) (hV : BnV S.1.2.2.1) (p : Int32) : ∃ σ', fX9_join g σ o p = some ((spE (nI 106) p (nI 0) S).1, σ') ∧ SysM σ' o (spE (nI 106) p (nI 0) S).2 ∧ chM σ σ' o := by
  rw [spE_1, spE_2, bOp_j]
  unfold fX9_join
  rw [X9_joinError h.bm.1 hV.1, bnd_s]
  exact mEdit hg h (r := bJoin p S.1.2.2.1) (K := fun σ4 => fX9_joins g σ4 o p) (fun σ1 r1 c => by
    obtain ⟨σ2, e2, r2, c2⟩ := X9_joins (g := g) (by omega) r1.bm hV p c
    exact ⟨σ2, e2, r2, c2.B⟩)
theorem X9_takeOut (hg : 40000 ≤ g) (h : SysM σ o S) (hV : BnV S.1.2.2.1) (p : Int32) : ∃ σ', fX9_takeOut g σ o p = some ((spE (nI 111) p (nI 0) S).1, σ') ∧ SysM σ' o (spE (nI 111) p (nI 0) S).2 ∧ chM σ σ' o := by
  rw [spE_1, spE_2, bOp_o]
  unfold fX9_takeOut
  rw [X9_takeError h.bm, bnd_s]
  exact mEdit hg h (r := bTake p S.1.2.2.1) (K := fun σ4 => fX9_takes g σ4 o p) (fun σ1 r1 c => X9_takes (g := g) (by omega) r1.bm p c)
theorem X9_putIn (hg : 40000 ≤ g) (h : SysM σ o S) (hV : BnV S.1.2.2.1) (p q : Int32) : ∃ σ', fX9_putIn g σ o p q = some ((spE (nI 105) p q S).1, σ') ∧ SysM σ' o (spE (nI 105) p q S).2 ∧ chM σ σ' o := by
  rw [spE_1, spE_2, bOp_i]
  unfold fX9_putIn
  rw [X9_putError h.bm, bnd_s]
  exact mEdit hg h (r := bPut p q S.1.2.2.1) (K := fun σ4 => fX9_puts g σ4 o p q) (fun σ1 r1 c => X9_puts (g := g) (by omega) r1.bm p q c)
theorem X9_move (hg : 40000 ≤ g) (h : SysM σ o S) (hV : BnV S.1.2.2.1) (p q : Int32) : ∃ σ', fX9_move g σ o p q = some ((spE (nI 109) p q S).1, σ') ∧ SysM σ' o (spE (nI 109) p q S).2 ∧ chM σ σ' o := by
  rw [spE_1, spE_2, bOp_m]
  unfold fX9_move
  rw [X9_moveError h.bm.1 p q (by have := tot_le hV.1 h.bm.1.2.1; omega) hV.1, bnd_s]
  exact mEdit hg h (r := bMove p q S.1.2.2.1) (K := fun σ4 => fX9_moves g σ4 o p q) (fun σ1 r1 c => by
    obtain ⟨σ2, e2, r2, c2⟩ := X9_moves (g := g) (by omega) r1.bm hV p q c
    exact ⟨σ2, e2, r2, c2.B⟩)
end
