/-! PURE ROWS, 28: the two sides together -/
def Both (n : Nat) (σ : Mem) (S : SS) : Prop := SysC σ 0 S ∧ SysM σ 334 S ∧ SysV n S
theorem SysM.up {σ σ' : Mem} {S : SS} (h : SysM σ 334 S) (e : same σ σ' 0 (0 + 334)) : SysM σ' 334 S := by
  unfold SysM HistM TextM
  rw [e 334 (by omega), e (334 + 1) (by omega), e (334 + 2) (by omega), e (334 + 4) (by omega)]
  exact h
theorem SysC.down {σ σ' : Mem} {S : SS} (h : SysC σ 0 S) (e : chM σ σ' 334) : SysC σ' 0 S := by
  obtain ⟨h1, h2, h3, h4, h5⟩ := h
  exact ⟨h1.same (fun i a b => e i (by omega)), h2.same (fun i a b => e i (by omega)), by rw [e 0 (by omega)]; exact h3, fun A hA => (h4 A hA).same (fun i a b => e i (by omega)), h5.same (fun i a b => e i (by omega))⟩
section
variable {g n : Nat} {σ : Mem} {S : SS}
/-- what one call comes to: one answer, one state -/
def Alike (n : Nat) (X : Option (Int32 × Mem)) (Y : Mem → Option (Int32 × Mem)) : Prop := ∃ r σ1 σ2 S', X = some (r, σ1) ∧ Y σ1 = some (r, σ2) ∧ Both (n + 1) σ2 S'
theorem both_of {r : Int32} {S' : SS} {X : Option (Int32 × Mem)} {Y : Mem → Option (Int32 × Mem)} (h : Both n σ S) (hC : ∃ σ1, X = some (r, σ1) ∧ SysC σ1 0 S' ∧ same σ σ1 0 (0 + 334)) (hM : ∀ σ1, SysM σ1 334 S → ∃ σ2, Y σ1 = some (r, σ2) ∧ SysM σ2 334 S' ∧ chM σ1 σ2 334) (hV : SysV (n + 1) S') : Alike n X Y := by
  obtain ⟨σ1, e1, r1, s1⟩ := hC
  obtain ⟨σ2, e2, r2, s2⟩ := hM σ1 (h.2.1.up s1)
  exact ⟨r, σ1, σ2, S', e1, e2, r1.down s2, r2, hV⟩
theorem both_addScene (hg : 40000 ≤ g) (h : Both n σ S) (hn : n < 1000000) (p q : Int32) : Alike n (fX8_addScene g σ 0 p q) (fun τ => fX9_addScene g τ 334 p q) := by
  have hV := h.2.2.1
  have hB := hV.2.2.1.V hV.1 h.1.1.1.2.1 hn
  exact both_of (S' := (spAdd p q S).2) h (X8_addScene (by omega) h.1 p q) (fun τ hM => X9_addScene hg hM p q) ((keep_add h.2.2 h.1.1.1.2.1 p q : SysV n (spAdd p q S).2).mono (Nat.le_succ n))
theorem both_cut (hg : 40000 ≤ g) (h : Both n σ S) (hn : n < 1000000) (p : Int32) : Alike n (fX8_cut g σ 0 p) (fun τ => fX9_cut g τ 334 p) := by
  have hV := h.2.2.1
  have hB := hV.2.2.1.V hV.1 h.1.1.1.2.1 hn
  exact both_of (S' := (spE (nI 99) p (nI 0) S).2) h (X8_cut (by omega) h.1 hB p) (fun τ hM => X9_cut hg hM hB p) ((keep_E h.2.2 _ _ _ : SysV n (spE (nI 99) p (nI 0) S).2).mono (Nat.le_succ n))
theorem both_join (hg : 40000 ≤ g) (h : Both n σ S) (hn : n < 1000000) (p : Int32) : Alike n (fX8_join g σ 0 p) (fun τ => fX9_join g τ 334 p) := by
  have hV := h.2.2.1
  have hB := hV.2.2.1.V hV.1 h.1.1.1.2.1 hn
  exact both_of (S' := (spE (nI 106) p (nI 0) S).2) h (X8_join (by omega) h.1 hB p) (fun τ hM => X9_join hg hM hB p) ((keep_E h.2.2 _ _ _ : SysV n (spE (nI 106) p (nI 0) S).2).mono (Nat.le_succ n))
theorem both_takeOut (hg : 40000 ≤ g) (h : Both n σ S) (hn : n < 1000000) (p : Int32) : Alike n (fX8_takeOut g σ 0 p) (fun τ => fX9_takeOut g τ 334 p) := by
  have hV := h.2.2.1
  have hB := hV.2.2.1.V hV.1 h.1.1.1.2.1 hn
  exact both_of (S' := (spE (nI 111) p (nI 0) S).2) h (X8_takeOut (by omega) h.1 hB p) (fun τ hM => X9_takeOut hg hM hB p) ((keep_E h.2.2 _ _ _ : SysV n (spE (nI 111) p (nI 0) S).2).mono (Nat.le_succ n))
theorem both_putIn (hg : 40000 ≤ g) (h : Both n σ S) (hn : n < 1000000) (p q : Int32) : Alike n (fX8_putIn g σ 0 p q) (fun τ => fX9_putIn g τ 334 p q) := by
  have hV := h.2.2.1
  have hB := hV.2.2.1.V hV.1 h.1.1.1.2.1 hn
  exact both_of (S' := (spE (nI 105) p q S).2) h (X8_putIn (by omega) h.1 hB p q) (fun τ hM => X9_putIn hg hM hB p q) ((keep_E h.2.2 _ _ _ : SysV n (spE (nI 105) p q S).2).mono (Nat.le_succ n))
theorem both_move (hg : 40000 ≤ g) (h : Both n σ S) (hn : n < 1000000) (p q : Int32) : Alike n (fX8_move g σ 0 p q) (fun τ => fX9_move g τ 334 p q) := by
  have hV := h.2.2.1
  have hB := hV.2.2.1.V hV.1 h.1.1.1.2.1 hn
  exact both_of (S' := (spE (nI 109) p q S).2) h (X8_move (by omega) h.1 hB p q) (fun τ hM => X9_move hg hM hB p q) ((keep_E h.2.2 _ _ _ : SysV n (spE (nI 109) p q S).2).mono (Nat.le_succ n))
theorem both_tear (hg : 40000 ≤ g) (h : Both n σ S) (hn : n < 1000000) (p q r : Int32) : Alike n (fX8_tear g σ 0 p q r) (fun τ => fX9_tear g τ 334 p q r) := by
  have hV := h.2.2.1
  have hB := hV.2.2.1.V hV.1 h.1.1.1.2.1 hn
  exact both_of (S' := (spTear p q r S).2) h (X8_tear (by omega) h.1 hV.1 hV.2.1 p q r) (fun τ hM => X9_tear hg hM hV.1 hV.2.1 p q r) ((keep_tear h.2.2 p q r : SysV n (spTear p q r S).2).mono (Nat.le_succ n))
theorem both_patch (hg : 40000 ≤ g) (h : Both n σ S) (hn : n < 1000000) (p q : Int32) : Alike n (fX8_patch g σ 0 p q) (fun τ => fX9_patch g τ 334 p q) := by
  have hV := h.2.2.1
  have hB := hV.2.2.1.V hV.1 h.1.1.1.2.1 hn
  exact both_of (S' := (spPatch p q S).2) h (X8_patch (by omega) h.1 hV.1 hV.2.1 p q) (fun τ hM => X9_patch hg hM hV.1 hV.2.1 p q) ((keep_patch h.2.2 p q : SysV n (spPatch p q S).2).mono (Nat.le_succ n))
theorem both_splice (hg : 40000 ≤ g) (h : Both n σ S) (hn : n < 1000000) (p : Int32) : Alike n (fX8_splice g σ 0 p) (fun τ => fX9_splice g τ 334 p) := by
  have hV := h.2.2.1
  have hB := hV.2.2.1.V hV.1 h.1.1.1.2.1 hn
  exact both_of (S' := (spSplice p S).2) h (X8_splice (by omega) h.1 hB p) (fun τ hM => X9_splice hg hM hB p) ((keep_splice h.2.2 p : SysV n (spSplice p S).2).mono (Nat.le_succ n))
theorem both_dislike (hg : 40000 ≤ g) (h : Both n σ S) (hn : n < 1000000) (p : Int32) (b : Bool) : Alike n (fX8_dislike g σ 0 p (b2i b)) (fun τ => fX9_dislike g τ 334 p (b2i b)) := by
  have hV := h.2.2.1
  have hB := hV.2.2.1.V hV.1 h.1.1.1.2.1 hn
  exact both_of (S' := (spDis p b S).2) h (X8_dislike (by omega) h.1 hV.2.2.2.2.2.1 p b) (fun τ hM => X9_dislike hg hM hV.2.2.2.2.2.1 p b) ((keep_dis h.2.2 p b : SysV n (spDis p b S).2).mono (Nat.le_succ n))
theorem both_set (hg : 40000 ≤ g) (h : Both n σ S) (hn : n < 1000000) (p q : Int32) : Alike n (fX8_set g σ 0 p q) (fun τ => fX9_set g τ 334 p q) := by
  have hV := h.2.2.1
  have hB := hV.2.2.1.V hV.1 h.1.1.1.2.1 hn
  exact both_of (S' := (spSet p q S).2) h (X8_set (by omega) h.1 (by have := hV.2.2.2.2.2.2.1; omega) (by have := hV.2.2.2.2.2.2.2; omega) p q) (fun τ hM => X9_set hg hM (by have := hV.2.2.2.2.2.2.1; omega) (by have := hV.2.2.2.2.2.2.2; omega) p q) ((keep_set h.2.2 p q : SysV n (spSet p q S).2).mono (Nat.le_succ n))
theorem both_addWitness (hg : 40000 ≤ g) (h : Both n σ S) (hn : n < 1000000) (p q r : Int32) : Alike n (fX8_addWitness g σ 0 p q r) (fun τ => fX9_addWitness g τ 334 p q r) := by
  have hV := h.2.2.1
  have hB := hV.2.2.1.V hV.1 h.1.1.1.2.1 hn
  exact both_of (S' := (spWit p q r S).2) h (X8_addWitness (by omega) h.1 p q r) (fun τ hM => X9_addWitness hg hM p q r) ((keep_wit h.2.2 p q r (fun i s hs => (h.1.1.2.2.1.2 i s hs).2.1) : SysV n (spWit p q r S).2).mono (Nat.le_succ n))
theorem both_clearText (hg : 40000 ≤ g) (h : Both n σ S) (hn : n < 1000000)  : Alike n (fX8_clearText g σ 0 ) (fun τ => fX9_clearText g τ 334 ) := by
  have hV := h.2.2.1
  have hB := hV.2.2.1.V hV.1 h.1.1.1.2.1 hn
  exact both_of (S' := (spClear S).2) h (X8_clearText h.1) (fun τ hM => X9_clearText hM) ((h.2.2 : SysV n (spClear S).2).mono (Nat.le_succ n))
theorem both_edit (hg : 40000 ≤ g) (h : Both n σ S) (hn : n < 1000000)  : Alike n (fX8_edit g σ 0 ) (fun τ => fX9_edit g τ 334 ) := by
  have hV := h.2.2.1
  have hB := hV.2.2.1.V hV.1 h.1.1.1.2.1 hn
  exact both_of (S' := (spEdit S).2) h (X8_edit (by omega) h.1 hV.1 hV.2.2.1 hn) (fun τ hM => X9_edit hg hM hV.1 hV.2.2.1 hn) ((keep_edit h.2.2 : SysV n (spEdit S).2).mono (Nat.le_succ n))
theorem both_undo (hg : 40000 ≤ g) (h : Both n σ S) (hn : n < 1000000)  : Alike n (fX8_undo g σ 0 ) (fun τ => fX9_undo g τ 334 ) := by
  have hV := h.2.2.1
  have hB := hV.2.2.1.V hV.1 h.1.1.1.2.1 hn
  exact both_of (S' := (spUndo S).2) h (X8_undo (by omega) h.1) (fun τ hM => X9_undo hg hM) ((keep_undo h.2.2 : SysV n (spUndo S).2).mono (Nat.le_succ n))
theorem both_keep (hg : 40000 ≤ g) (h : Both n σ S) (hn : n < 1000000)  : Alike n (fX8_keep g σ 0 ) (fun τ => fX9_keep g τ 334 ) := by
  have hV := h.2.2.1
  have hB := hV.2.2.1.V hV.1 h.1.1.1.2.1 hn
  exact both_of (S' := (spKeep S).2) h (X8_keep (by omega) h.1) (fun τ hM => X9_keep hg hM) ((keep_keep h.2.2 : SysV n (spKeep S).2).mono (Nat.le_succ n))
theorem both_restore (hg : 40000 ≤ g) (h : Both n σ S) (hn : n < 1000000)  : Alike n (fX8_restore g σ 0 ) (fun τ => fX9_restore g τ 334 ) := by
  have hV := h.2.2.1
  have hB := hV.2.2.1.V hV.1 h.1.1.1.2.1 hn
  exact both_of (S' := (spRestore S).2) h (X8_restore (by omega) h.1) (fun τ hM => X9_restore hg hM) ((keep_restore h.2.2 : SysV n (spRestore S).2).mono (Nat.le_succ n))
theorem both_run (hg : 40000 ≤ g) (h : Both n σ S) (hn : n < 1000000) : Alike n (fX8_run g σ 0) (fun τ => fX9_run g τ 334) := by
  have hok := h.2.2.1.show h.1.1.1.2.1 hn
  exact both_of (S' := (spRun S).2) h (X8_run (by omega) h.1 hok) (fun τ hM => X9_run_S hg hM hok) (keep_run h.2.2 h.1.1.1.2.1 hn)
theorem both_type (h : Both n σ S) (c : Int32) (hc : vp_nar .char c = c) : Alike n (fX8_type g σ 0 c) (fun τ => fX9_type g τ 334 c) := both_of (S' := (spType c S).2) h (X8_type h.1 c hc) (fun τ hM => X9_type hM c) ((keep_type h.2.2 c).mono (Nat.le_succ n))
theorem both_next (hg : 40000 ≤ g) (h : Both n σ S) (hn : n < 1000000) (p : Int32) : Alike n (fX8_next g σ 0 p) (fun τ => fX9_next g τ 334 p) := by
  have hok := h.2.2.1.show h.1.1.1.2.1 hn
  exact both_of (S' := S) h (X8_next (by omega) h.1 hok p) (fun τ hM => X9_next hg hM hok p) (h.2.2.mono (Nat.le_succ n))
/-- what one question comes to: one answer -/
def Same (X Y : Option Int32) : Prop := ∃ r, X = some r ∧ Y = some r
theorem both_scene (hg : 40000 ≤ g) (h : Both n σ S) (hn : n < 1000000) (p q : Int32) : Same (fX8_scene g σ 0 p q) (fX9_scene g σ 334 p q) := q_scene (by omega) h.1.1 h.2.1.1 h.2.2.1 hn p q
theorem both_piece (hg : 40000 ≤ g) (h : Both n σ S) (hn : n < 1000000) (p q : Int32) : Same (fX8_piece g σ 0 p q) (fX9_piece g σ 334 p q) := q_piece (by omega) h.1.1 h.2.1.1 h.2.2.1 hn p q
theorem both_canned (hg : 40000 ≤ g) (h : Both n σ S) (hn : n < 1000000) (p q : Int32) : Same (fX8_canned g σ 0 p q) (fX9_canned g σ 334 p q) := q_canned h.1.1 h.2.1.1 p q
theorem both_frameAt (hg : 40000 ≤ g) (h : Both n σ S) (hn : n < 1000000) (p : Int32) : Same (fX8_frameAt g σ 0 p) (fX9_frameAt g σ 334 p) := q_frameAt (by omega) h.1.1 h.2.1.1 h.2.2.1 hn p
theorem both_frame (hg : 40000 ≤ g) (h : Both n σ S) (hn : n < 1000000) (p q r : Int32) : Same (fX8_frame g σ 0 p q r) (fX9_frame g σ 334 p q r) := q_frame (by omega) h.1.1 h.2.1.1 h.2.2.1 hn p q r
theorem both_show (hg : 40000 ≤ g) (h : Both n σ S) (hn : n < 1000000) (p q : Int32) : Same (fX8_show g σ 0 p q) (fX9_show g σ 334 p q) := q_show h.1.1 h.2.1.1 p q
theorem both_seen (hg : 40000 ≤ g) (h : Both n σ S) (hn : n < 1000000) (p q : Int32) : Same (fX8_seen g σ 0 p q) (fX9_seen g σ 334 p q) := q_seen h.1.1 h.2.1.1 p q
theorem both_witness (hg : 40000 ≤ g) (h : Both n σ S) (hn : n < 1000000) (p q : Int32) : Same (fX8_witness g σ 0 p q) (fX9_witness g σ 334 p q) := q_witness (by omega) h.1.1 h.2.1.1 h.2.2.1 p q
theorem both_saw (hg : 40000 ≤ g) (h : Both n σ S) (hn : n < 1000000) (p q : Int32) : Same (fX8_saw g σ 0 p q) (fX9_saw g σ 334 p q) := q_saw (by omega) h.1.1 h.2.1.1 h.2.2.1 p q
theorem both_differ (hg : 40000 ≤ g) (h : Both n σ S) (hn : n < 1000000) (p q : Int32) : Same (fX8_differ g σ 0 p q) (fX9_differ g σ 334 p q) := q_differ (by omega) h.1.1 h.2.1.1 h.2.2.1 p q
theorem both_count (hg : 40000 ≤ g) (h : Both n σ S) (hn : n < 1000000) (p : Int32) : Same (fX8_count g σ 0 p) (fX9_count g σ 334 p) := q_count (by omega) h.1 h.2.1 h.2.2.1 hn p
end
