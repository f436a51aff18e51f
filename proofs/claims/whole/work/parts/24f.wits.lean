/-! PURE ROWS, 25: what a witness saw: both sides -/
theorem nI_or {a b : Nat} (ha : a < 4294967296) (hb : b < 4294967296) : nI a ||| nI b = nI (a ||| b) := by
  apply Int32.toBitVec_inj.mp
  apply BitVec.eq_of_toNat_eq
  have hab : a ||| b < 2 ^ 32 := Nat.or_lt_two_pow ha hb
  rw [Int32.toBitVec_or, BitVec.toNat_or, pk_tn (by omega), pk_tn (by omega), pk_tn hab]
theorem nI_xor {a b : Nat} (ha : a < 4294967296) (hb : b < 4294967296) : nI a ^^^ nI b = nI (a ^^^ b) := by
  apply Int32.toBitVec_inj.mp
  apply BitVec.eq_of_toNat_eq
  have hab : a ^^^ b < 2 ^ 32 := Nat.xor_lt_two_pow ha hb
  rw [Int32.toBitVec_xor, BitVec.toNat_xor, pk_tn (by omega), pk_tn (by omega), pk_tn hab]
theorem bitCount_12 {g : Nat} {σ : Mem} : ∀ v, v < 4096 → fJ6_bitCount_0f7a4 g σ (nI v) = some (nI (pop v)) := by
  have key : ∀ a, a < 64 → ∀ b, b < 64 → fJ6_bitCount_0f7a4 g σ (nI (64 * a + b)) = some (nI (pop (64 * a + b))) := by
    unfold fJ6_bitCount_0f7a4
    decide +kernel
  intro v hv
  have := key (v / 64) (by omega) (v % 64) (by omega)
  rw [show 64 * (v / 64) + v % 64 = v by omega] at this
  exact this
/-- every unit is dark or of a scene's frame -/
def UV (s : Sw) : Prop := ∀ (u : Nat) (c : Int32), s.1[u]? = some c → c = nN 5 ∨ ∃ a b : Nat, a < 12 ∧ b < 40 ∧ c = nI (100 * a + b)
def un (s : Sw) (u : Nat) : Nat := match s.1[u]? with
  | some c => if c = nN 5 then 12 else c.toNatClampNeg / 100
  | none => 12
theorem un_of {s : Sw} (h : UV s) {u : Nat} {c : Int32} (hc : s.1[u]? = some c) : (c = nN 5 ∧ un s u = 12) ∨ (¬ c = nN 5 ∧ un s u < 12 ∧ c / nI 100 = nI (un s u)) := by
  unfold un
  rw [hc]
  dsimp only
  rcases h u c hc with rfl | ⟨a, b, ha, hb, rfl⟩
  · exact Or.inl ⟨rfl, if_pos rfl⟩
  · have hne : ¬ nI (100 * a + b) = nN 5 := fun z => (nN_n (by omega) (by omega) (by omega)).1 z
    rw [if_neg hne, nI_c (by omega), show (100 * a + b) / 100 = a by omega]
    exact Or.inr ⟨hne, ha, by rw [nI_D (by omega) (by omega) (by omega), show (100 * a + b) / 100 = a by omega]⟩
theorem un_le {s : Sw} (h : UV s) (u : Nat) : un s u ≤ 12 := by
  cases hc : s.1[u]? with
  | none => unfold un; rw [hc]; exact Nat.le_refl _
  | some c => rcases un_of h hc with ⟨-, e⟩ | ⟨-, e, -⟩ <;> omega
def cS (s : Sw) (p a n : Nat) : Nat := sumR (fun u => if un s u = p then 1 else 0) a n
def shS (s : Sw) (a n : Nat) : Nat := sumR (fun u => if un s u = 12 then 0 else 1) a n
def bitsF (s : Sw) : Nat → Nat → Nat → Nat
  | _, 0, v => v
  | u, n + 1, v => bitsF s (u + 1) n (if un s u = 12 then v else v ||| 2 ^ un s u)
def bitsM (s : Sw) (a n : Nat) : Nat → Nat → Nat → Nat
  | _, 0, v => v
  | p, k + 1, v => bitsM s a n (p + 1) k (v ||| (if cS s p a n = 0 then 0 else 2 ^ p))
theorem sumR_add {f h : Nat → Nat} : ∀ n k, sumR (fun p => f p + h p) k n = sumR f k n + sumR h k n := by
  intro n
  induction n with
  | zero => intro k; rfl
  | succ n ih => intro k; rw [sumR, sumR, sumR, ih]; omega
theorem one_of : ∀ w, w < 13 → sumR (fun p => if w = p then 1 else 0) 0 12 = if w = 12 then 0 else 1 := by decide
theorem sh_sum {s : Sw} (h : UV s) : ∀ n a, sumR (fun p => cS s p a n) 0 12 = shS s a n := by
  intro n
  induction n with
  | zero => intro a; rfl
  | succ n ih =>
    intro a
    have e : (fun p => cS s p a (n + 1)) = fun p => (if un s a = p then 1 else 0) + cS s p (a + 1) n := by
      funext p
      unfold cS
      rw [sumR]
    rw [e, sumR_add, ih, one_of _ (by have := un_le h a; omega)]
    unfold shS
    rw [sumR]
theorem bitsF_lt {s : Sw} (h : UV s) : ∀ n u v, v < 4096 → bitsF s u n v < 4096 := by
  intro n
  induction n with
  | zero => intro u v hv; exact hv
  | succ n ih =>
    intro u v hv
    rw [bitsF]
    refine ih _ _ ?_
    by_cases c : un s u = 12
    · rw [if_pos c]; exact hv
    · rw [if_neg c]
      have : un s u < 12 := by have := un_le h u; omega
      exact Nat.or_lt_two_pow (n := 12) hv (Nat.pow_lt_pow_right (by omega) this)
theorem bitsF_t {s : Sw} (h : UV s) : ∀ n u v j, (bitsF s u n v).testBit j = (v.testBit j || decide (j < 12 ∧ ¬ cS s j u n = 0)) := by
  intro n
  induction n with
  | zero =>
    intro u v j
    have : cS s j u 0 = 0 := rfl
    rw [this]
    simp [bitsF]
  | succ n ih =>
    intro u v j
    have hle := un_le h u
    have hc : cS s j u (n + 1) = (if un s u = j then 1 else 0) + cS s j (u + 1) n := by unfold cS; rw [sumR]
    rw [bitsF, ih, hc]
    by_cases c : un s u = 12
    · rw [if_pos c]
      by_cases c2 : j < 12
      · rw [if_neg (show ¬ un s u = j by omega), Nat.zero_add]
      · rw [decide_eq_false (fun z => c2 z.1), decide_eq_false (fun z => c2 z.1)]
    · rw [if_neg c, Nat.testBit_or, Nat.testBit_two_pow]
      by_cases c2 : un s u = j
      · rw [if_pos c2, decide_eq_true c2, decide_eq_true (show j < 12 ∧ ¬ 1 + cS s j (u + 1) n = 0 from ⟨by omega, by omega⟩)]
        simp
      · rw [if_neg c2, decide_eq_false c2, Nat.zero_add, Bool.or_false]
theorem bitsM_lt {s : Sw} {a n : Nat} : ∀ k p v, p + k = 12 → v < 4096 → bitsM s a n p k v < 4096 := by
  intro k
  induction k with
  | zero => intro p v _ hv; exact hv
  | succ k ih =>
    intro p v hp hv
    rw [bitsM]
    refine ih _ _ (by omega) ?_
    by_cases c : cS s p a n = 0
    · rw [if_pos c, Nat.or_zero]; exact hv
    · rw [if_neg c]
      exact Nat.or_lt_two_pow (n := 12) hv (Nat.pow_lt_pow_right (by omega) (by omega))
theorem bitsM_t {s : Sw} {a n : Nat} : ∀ k p v j, (bitsM s a n p k v).testBit j = (v.testBit j || decide (p ≤ j ∧ j < p + k ∧ ¬ cS s j a n = 0)) := by
  intro k
  induction k with
  | zero => intro p v j; rw [decide_eq_false (by omega)]; simp [bitsM]
  | succ k ih =>
    intro p v j
    rw [bitsM, ih, Nat.testBit_or]
    by_cases c2 : p = j
    · subst c2
      rw [decide_eq_false (show ¬ (p + 1 ≤ p ∧ p < p + 1 + k ∧ ¬ cS s p a n = 0) by omega), Bool.or_false]
      by_cases c : cS s p a n = 0
      · rw [if_pos c, decide_eq_false (fun z => z.2.2 c)]; simp
      · rw [if_neg c, decide_eq_true (show p ≤ p ∧ p < p + (k + 1) ∧ ¬ cS s p a n = 0 from ⟨Nat.le_refl _, by omega, c⟩)]
        simp
    · have e1 : (if cS s p a n = 0 then 0 else 2 ^ p).testBit j = false := by
        split
        · simp
        · rw [Nat.testBit_two_pow]; exact decide_eq_false c2
      rw [e1, Bool.or_false]
      congr 1
      rw [decide_eq_decide]
      constructor
      · intro z; exact ⟨by omega, by omega, z.2.2⟩
      · intro z; exact ⟨by omega, by omega, z.2.2⟩
theorem bits_eq {s : Sw} (h : UV s) (a n : Nat) : bitsM s a n 0 12 0 = bitsF s a n 0 := by
  apply Nat.eq_of_testBit_eq
  intro j
  rw [bitsM_t, bitsF_t h]
  congr 1
  rw [decide_eq_decide]
  constructor
  · intro z; exact ⟨by omega, z.2.2⟩
  · intro z; exact ⟨by omega, by omega, z.2⟩
theorem pow12 {p : Nat} (h : p < 12) : 2 ^ p < 4096 := by
  have : 2 ^ p < 2 ^ 12 := Nat.pow_lt_pow_right (by omega) h
  have : (2 : Nat) ^ 12 = 4096 := by decide
  omega
theorem shl_n : ∀ k, k < 12 → nI 1 <<< (nI k &&& 31) = nI (2 ^ k) := by decide +kernel
section
variable {g q o : Nat} {σ : Mem} {s : Sw}
theorem X5_hasUnit (h : ShowC σ q s) {u : Nat} (hu : u < s.1.length) : fX5_hasUnit g σ q (nI u) = some (nI 1) := by
  have hl := h.2.1
  unfold fX5_hasUnit
  simp (disch := omega) only [chk_T, okI_t, okI_f, okI_nN, b2i_t, b2i_f, ifTT, ifFT, ite_true, ite_false, nI_c, bnd_s, bnd2_s, stp_s, ifLE_t, ifLE_f, ifLT_t, ifLT_f, ifE_t, ifE_f, if0_t, if0_f, ifn0, ifp0, ifl0_t, ifl0_f, ifg0_t, ifg0_f, ifnE, ifnE2, ifNE_t, ifNE_f, ifN0, ifNl, ifNp, ifB, nI_A, nI_S, nI_M, mu_s, mu_k, mu_n, mcp_n, h.1]
theorem X5_shownWithin_5 (h : ShowC σ q s) (hU : UV s) {b : Nat} (hb : b ≤ s.1.length) : ∀ n u a, u ≤ b → b - u < n → fX5_shownWithin_5 g q n σ (nI b) (nI a) (nI u) = some (nI (a + shS s u (b - u))) := by
  have hl := h.2.1
  intro n
  induction n with
  | zero => intro u a _ q; omega
  | succ n ih =>
    intro u a h1 h2
    rw [fX5_shownWithin_5]
    by_cases c : u = b
    · subst c
      rw [ifLE_t (Nat.le_refl _) (by omega), Nat.sub_self]; rfl
    · obtain ⟨c1, hc1⟩ := get_of (L := s.1) (i := u) (by omega)
      have e := h.2.2.2 u c1 hc1
      obtain ⟨d, hd⟩ : ∃ d, b - u = d + 1 := ⟨b - u - 1, by omega⟩
      have hs : shS s u (d + 1) = (if un s u = 12 then 0 else 1) + shS s (u + 1) d := by unfold shS; rw [sumR]
      rw [ifLE_f (by omega) (by omega), X5_hasUnit h (by omega), bnd_s, if_neg (show ¬ nI 1 = 0 by decide), okI_t (by omega) (by omega), chk_T, nI_c (by omega), e, hd, hs]
      rcases un_of hU hc1 with ⟨z1, z2⟩ | ⟨z1, z2, z3⟩
      · rw [if_pos z1, if_pos z2, nI_A, nI_A, ih (u + 1) _ (by omega) (by omega), show b - (u + 1) = d by omega, Nat.zero_add]; rfl
      · rw [if_neg z1, if_neg (by omega), nI_A, nI_A, ih (u + 1) _ (by omega) (by omega), show b - (u + 1) = d by omega, Nat.add_assoc]
theorem X5_shownWithin (hg : 1000 ≤ g) (h : ShowC σ q s) (hU : UV s) {a b : Nat} (hab : a ≤ b) (hb : b ≤ s.1.length) : fX5_shownWithin g σ q (nI a) (nI b) = some (nI (shS s a (b - a))) := by
  have hl := h.2.1
  unfold fX5_shownWithin
  rw [X5_shownWithin_5 h hU hb g a 0 hab (by omega), Nat.zero_add]
theorem X5_framesWithin_6 (h : ShowC σ q s) (hU : UV s) {b p : Nat} (hb : b ≤ s.1.length) (hp : p < 12) : ∀ n u a, u ≤ b → b - u < n → fX5_framesWithin_6 g q n σ (nI p) (nI b) (nI a) (nI u) = some (nI (a + cS s p u (b - u))) := by
  have hl := h.2.1
  intro n
  induction n with
  | zero => intro u a _ q; omega
  | succ n ih =>
    intro u a h1 h2
    rw [fX5_framesWithin_6]
    by_cases c : u = b
    · subst c
      rw [ifLE_t (Nat.le_refl _) (by omega), Nat.sub_self]; rfl
    · obtain ⟨c1, hc1⟩ := get_of (L := s.1) (i := u) (by omega)
      have e := h.2.2.2 u c1 hc1
      obtain ⟨d, hd⟩ : ∃ d, b - u = d + 1 := ⟨b - u - 1, by omega⟩
      have hs : cS s p u (d + 1) = (if un s u = p then 1 else 0) + cS s p (u + 1) d := by unfold cS; rw [sumR]
      rw [ifLE_f (by omega) (by omega), X5_hasUnit h (by omega), bnd_s, if_neg (show ¬ nI 1 = 0 by decide), okI_t (by omega) (by omega), chk_T, nI_c (by omega), e, hd, hs]
      rcases un_of hU hc1 with ⟨z1, z2⟩ | ⟨z1, z2, z3⟩
      · rw [if_pos z1, if_neg (by omega), nI_A, nI_A, ih (u + 1) _ (by omega) (by omega), show b - (u + 1) = d by omega, Nat.zero_add]; rfl
      · rw [if_neg z1, chk_T, z3]
        by_cases c2 : un s u = p
        · rw [if_pos (by rw [c2]), if_pos c2, nI_A, nI_A, ih (u + 1) _ (by omega) (by omega), show b - (u + 1) = d by omega, Nat.add_assoc]
        · rw [if_neg (fun z => c2 ((nI_E (by omega) (by omega)).1 z)), if_neg c2, nI_A, nI_A, ih (u + 1) _ (by omega) (by omega), show b - (u + 1) = d by omega, Nat.zero_add]; rfl
theorem X5_framesWithin (hg : 1000 ≤ g) (h : ShowC σ q s) (hU : UV s) {a b p : Nat} (hab : a ≤ b) (hb : b ≤ s.1.length) (hp : p < 12) : fX5_framesWithin g σ q (nI p) (nI a) (nI b) = some (nI (cS s p a (b - a))) := by
  have hl := h.2.1
  unfold fX5_framesWithin
  rw [X5_framesWithin_6 h hU hb hp g a 0 hab (by omega), Nat.zero_add]
theorem X5_scenesWithin_5 (h : ShowC σ q s) (hU : UV s) {b : Nat} (hb : b ≤ s.1.length) : ∀ n u v, u ≤ b → b - u < n → v < 4096 → fX5_scenesWithin_5 g q n σ (nI b) (nI v) (nI u) = some (nI (bitsF s u (b - u) v)) := by
  have hl := h.2.1
  intro n
  induction n with
  | zero => intro u a _ q; omega
  | succ n ih =>
    intro u v h1 h2 hv
    rw [fX5_scenesWithin_5]
    by_cases c : u = b
    · subst c
      rw [ifLE_t (Nat.le_refl _) (by omega), Nat.sub_self]; rfl
    · obtain ⟨c1, hc1⟩ := get_of (L := s.1) (i := u) (by omega)
      have e := h.2.2.2 u c1 hc1
      obtain ⟨d, hd⟩ : ∃ d, b - u = d + 1 := ⟨b - u - 1, by omega⟩
      rw [ifLE_f (by omega) (by omega), X5_hasUnit h (by omega), bnd_s, if_neg (show ¬ nI 1 = 0 by decide), okI_t (by omega) (by omega), chk_T, nI_c (by omega), e, hd, bitsF]
      rcases un_of hU hc1 with ⟨z1, z2⟩ | ⟨z1, z2, z3⟩
      · rw [if_pos z1, if_pos z2, nI_A, ih (u + 1) _ (by omega) (by omega) hv, show b - (u + 1) = d by omega]
      · have h12 : 2 ^ un s u < 4096 := pow12 z2
        rw [if_neg z1, if_neg (by omega), chk_T, z3, shl_n _ z2, nI_or (by omega) (by omega), nI_A, ih (u + 1) _ (by omega) (by omega) (Nat.or_lt_two_pow (n := 12) hv h12), show b - (u + 1) = d by omega]
theorem X5_scenesWithin (hg : 1000 ≤ g) (h : ShowC σ q s) (hU : UV s) {a b : Nat} (hab : a ≤ b) (hb : b ≤ s.1.length) : fX5_scenesWithin g σ q (nI a) (nI b) = some (nI (bitsF s a (b - a) 0)) := by
  have hl := h.2.1
  unfold fX5_scenesWithin
  rw [X5_scenesWithin_5 h hU hb g a 0 hab (by omega) (by omega)]
theorem X9_ofW {A : Fa} (h : FilmW (σ (o + 1)) A) {i : Nat} {x : Nat × Nat × Nat} (hx : A.2.2.2.2.1[i]? = some x) : fX9_ofW g σ o (nI i) (nI 0) = some (nI x.1) ∧ fX9_ofW g σ o (nI i) (nI 1) = some (nI x.2.1) ∧ fX9_ofW g σ o (nI i) (nI 2) = some (nI x.2.2) := by
  have hl := h.2.2.2.2.2.1.2.1
  have hi := lt_of_get hx
  obtain ⟨e1, e2, e3⟩ := h.2.2.2.2.2.1.2.2 i x hx
  refine ⟨?_, ?_, ?_⟩
  · unfold fX9_ofW
    simp (disch := omega) only [chk_T, okI_t, okI_f, okI_nN, b2i_t, b2i_f, ifTT, ifFT, ite_true, ite_false, nI_c, bnd_s, bnd2_s, stp_s, ifLE_t, ifLE_f, ifLT_t, ifLT_f, ifE_t, ifE_f, if0_t, if0_f, ifn0, ifp0, ifl0_t, ifl0_f, ifg0_t, ifg0_f, ifnE, ifnE2, ifNE_t, ifNE_f, ifN0, ifNl, ifNp, ifB, nI_A, nI_S, nI_M, mu_s, mu_k, mu_n, mcp_n]
    exact congrArg some e1
  · unfold fX9_ofW
    simp (disch := omega) only [chk_T, okI_t, okI_f, okI_nN, b2i_t, b2i_f, ifTT, ifFT, ite_true, ite_false, nI_c, bnd_s, bnd2_s, stp_s, ifLE_t, ifLE_f, ifLT_t, ifLT_f, ifE_t, ifE_f, if0_t, if0_f, ifn0, ifp0, ifl0_t, ifl0_f, ifg0_t, ifg0_f, ifnE, ifnE2, ifNE_t, ifNE_f, ifN0, ifNl, ifNp, ifB, nI_A, nI_S, nI_M, mu_s, mu_k, mu_n, mcp_n]
    rw [show 6012 + 3 * i + 1 = 6013 + 3 * i by omega, e2]
  · unfold fX9_ofW
    simp (disch := omega) only [chk_T, okI_t, okI_f, okI_nN, b2i_t, b2i_f, ifTT, ifFT, ite_true, ite_false, nI_c, bnd_s, bnd2_s, stp_s, ifLE_t, ifLE_f, ifLT_t, ifLT_f, ifE_t, ifE_f, if0_t, if0_f, ifn0, ifp0, ifl0_t, ifl0_f, ifg0_t, ifg0_f, ifnE, ifnE2, ifNE_t, ifNE_f, ifN0, ifNl, ifNp, ifB, nI_A, nI_S, nI_M, mu_s, mu_k, mu_n, mcp_n]
    rw [show 6012 + 3 * i + 2 = 6014 + 3 * i by omega, e3]
theorem X9_unit {A : Fa} (h : FilmW (σ (o + 1)) A) {i u : Nat} (hs : A.2.2.2.1[i]? = some s) {c : Int32} (hc : s.1[u]? = some c) : fX9_ofS g σ o (nI i) (nI (8 + u)) = some c := by
  have hS := h.2.2.2.2.1.2.2 i s hs
  have hu := lt_of_get hc
  have hl := hS.2.1
  have e : σ (o + 1) (1132 + 488 * i + (8 + u)) = c := hS.2.2.2 u c hc
  rw [X9_ofS h hs (by omega), e]
theorem X9_sees_10 {A : Fa} (h : FilmW (σ (o + 1)) A) {i : Nat} {x : Nat × Nat × Nat} (hx : A.2.2.2.2.1[i]? = some x) (hs : A.2.2.2.1[x.1]? = some s) (hU : UV s) (hb : x.2.2 ≤ s.1.length) {p : Nat} (hp : p < 12) : ∀ n u a, u ≤ x.2.2 → x.2.2 - u < n → fX9_sees_10 g o n σ (nI i) (nI p) (nI a) (nI u) = some (nI (a + cS s p u (x.2.2 - u))) := by
  obtain ⟨w0, w1, w2⟩ := X9_ofW (g := g) h hx
  have hl := (h.2.2.2.2.1.2.2 x.1 s hs).2.1
  intro n
  induction n with
  | zero => intro u a _ q; omega
  | succ n ih =>
    intro u a h1 h2
    rw [fX9_sees_10, w2, bnd_s]
    by_cases c : u = x.2.2
    · rw [c, ifLE_t (Nat.le_refl _) (by omega), Nat.sub_self]; rfl
    · obtain ⟨c1, hc1⟩ := get_of (L := s.1) (i := u) (by omega)
      obtain ⟨d, hd⟩ : ∃ d, x.2.2 - u = d + 1 := ⟨x.2.2 - u - 1, by omega⟩
      have hss : cS s p u (d + 1) = (if un s u = p then 1 else 0) + cS s p (u + 1) d := by unfold cS; rw [sumR]
      rw [ifLE_f (by omega) (by omega), w0, bnd_s, nI_A, X9_unit h hs hc1, bnd_s, hd, hss]
      rcases un_of hU hc1 with ⟨z1, z2⟩ | ⟨z1, z2, z3⟩
      · rw [if_pos z1, if_neg (by omega), nI_A, nI_A, ih (u + 1) _ (by omega) (by omega), show x.2.2 - (u + 1) = d by omega, Nat.zero_add]; rfl
      · rw [if_neg z1, z3]
        by_cases c2 : un s u = p
        · rw [if_pos (by rw [c2]), if_pos c2, nI_A, nI_A, ih (u + 1) _ (by omega) (by omega), show x.2.2 - (u + 1) = d by omega, Nat.add_assoc]
        · rw [if_neg (fun z => c2 ((nI_E (by omega) (by omega)).1 z)), if_neg c2, nI_A, nI_A, ih (u + 1) _ (by omega) (by omega), show x.2.2 - (u + 1) = d by omega, Nat.zero_add]; rfl
theorem X9_sees (hg : 1000 ≤ g) {A : Fa} (h : FilmW (σ (o + 1)) A) {i : Nat} {x : Nat × Nat × Nat} (hx : A.2.2.2.2.1[i]? = some x) (hs : A.2.2.2.1[x.1]? = some s) (hU : UV s) (hab : x.2.1 ≤ x.2.2) (hb : x.2.2 ≤ s.1.length) {p : Nat} (hp : p < 12) : fX9_sees g σ o (nI i) (nI p) = some (nI (cS s p x.2.1 (x.2.2 - x.2.1))) := by
  obtain ⟨w0, w1, w2⟩ := X9_ofW (g := g) h hx
  have hl := (h.2.2.2.2.1.2.2 x.1 s hs).2.1
  unfold fX9_sees
  rw [w1, bnd_s, X9_sees_10 h hx hs hU hb hp g _ 0 hab (by omega), Nat.zero_add]
theorem X9_framesBy_4 (hg : 1000 ≤ g) {A : Fa} (h : FilmW (σ (o + 1)) A) {i : Nat} {x : Nat × Nat × Nat} (hx : A.2.2.2.2.1[i]? = some x) (hs : A.2.2.2.1[x.1]? = some s) (hU : UV s) (hab : x.2.1 ≤ x.2.2) (hb : x.2.2 ≤ s.1.length) : ∀ n p a, p ≤ 12 → 12 - p < n → fX9_framesBy_4 g o n σ (nI i) (nI a) (nI p) = some (nI (a + sumR (fun p => cS s p x.2.1 (x.2.2 - x.2.1)) p (12 - p))) := by
  intro n
  induction n with
  | zero => intro p a _ q; omega
  | succ n ih =>
    intro p a h1 h2
    rw [fX9_framesBy_4]
    by_cases c : p = 12
    · subst c
      rw [ifLE_t (Nat.le_refl _) (by omega)]; rfl
    · obtain ⟨d, hd⟩ : ∃ d, 12 - p = d + 1 := ⟨12 - p - 1, by omega⟩
      rw [ifLE_f (by omega) (by omega), X9_sees hg h hx hs hU hab hb (by omega), bnd_s, nI_A, nI_A, ih (p + 1) _ (by omega) (by omega), hd, sumR, show 12 - (p + 1) = d by omega, Nat.add_assoc]
theorem X9_framesBy (hg : 1000 ≤ g) {A : Fa} (h : FilmW (σ (o + 1)) A) {i : Nat} {x : Nat × Nat × Nat} (hx : A.2.2.2.2.1[i]? = some x) (hs : A.2.2.2.1[x.1]? = some s) (hU : UV s) (hab : x.2.1 ≤ x.2.2) (hb : x.2.2 ≤ s.1.length) : fX9_framesBy g σ o (nI i) = some (nI (shS s x.2.1 (x.2.2 - x.2.1))) := by
  unfold fX9_framesBy
  rw [X9_framesBy_4 hg h hx hs hU hab hb g 0 0 (by omega) (by omega), Nat.zero_add, Nat.sub_zero, sh_sum hU]
theorem X9_scenesBy_4 (hg : 1000 ≤ g) {A : Fa} (h : FilmW (σ (o + 1)) A) {i : Nat} {x : Nat × Nat × Nat} (hx : A.2.2.2.2.1[i]? = some x) (hs : A.2.2.2.1[x.1]? = some s) (hU : UV s) (hab : x.2.1 ≤ x.2.2) (hb : x.2.2 ≤ s.1.length) (hsm : ∀ p, cS s p x.2.1 (x.2.2 - x.2.1) < 1000) : ∀ n p v, p ≤ 12 → 12 - p < n → v < 4096 → fX9_scenesBy_4 g o n σ (nI i) (nI v) (nI p) = some (nI (bitsM s x.2.1 (x.2.2 - x.2.1) p (12 - p) v)) := by
  intro n
  induction n with
  | zero => intro p a _ q; omega
  | succ n ih =>
    intro p v h1 h2 hv
    rw [fX9_scenesBy_4]
    by_cases c : p = 12
    · subst c
      rw [ifLE_t (Nat.le_refl _) (by omega)]; rfl
    · obtain ⟨d, hd⟩ : ∃ d, 12 - p = d + 1 := ⟨12 - p - 1, by omega⟩
      have h12 : 2 ^ p < 4096 := pow12 (by omega)
      have := hsm p
      have e : (if nI (cS s p x.2.1 (x.2.2 - x.2.1)) ≤ 0 then nI 0 else nI 1 <<< (nI p &&& 31)) = nI (if cS s p x.2.1 (x.2.2 - x.2.1) = 0 then 0 else 2 ^ p) := by
        by_cases z : cS s p x.2.1 (x.2.2 - x.2.1) = 0
        · rw [ifl0_t z, if_pos z]
        · rw [ifl0_f (by omega) (by omega), if_neg z, shl_n _ (by omega)]
      have hlt : (if cS s p x.2.1 (x.2.2 - x.2.1) = 0 then 0 else 2 ^ p) < 4096 := by split <;> omega
      rw [ifLE_f (by omega) (by omega), X9_sees hg h hx hs hU hab hb (by omega), bnd_s, e, nI_or (by omega) (by omega), nI_A, ih (p + 1) _ (by omega) (by omega) (Nat.or_lt_two_pow (n := 12) hv hlt), hd, bitsM, show 12 - (p + 1) = d by omega]
theorem cS_le {p : Nat} : ∀ n a, cS s p a n ≤ n := by
  intro n
  induction n with
  | zero => intro a; exact Nat.le_refl _
  | succ n ih =>
    intro a
    have hc : cS s p a (n + 1) = (if un s a = p then 1 else 0) + cS s p (a + 1) n := by unfold cS; rw [sumR]
    have := ih (a + 1)
    rw [hc]
    split <;> omega
theorem X9_scenesBy (hg : 1000 ≤ g) {A : Fa} (h : FilmW (σ (o + 1)) A) {i : Nat} {x : Nat × Nat × Nat} (hx : A.2.2.2.2.1[i]? = some x) (hs : A.2.2.2.1[x.1]? = some s) (hU : UV s) (hab : x.2.1 ≤ x.2.2) (hb : x.2.2 ≤ s.1.length) : fX9_scenesBy g σ o (nI i) = some (nI (bitsF s x.2.1 (x.2.2 - x.2.1) 0)) := by
  have hl := (h.2.2.2.2.1.2.2 x.1 s hs).2.1
  unfold fX9_scenesBy
  rw [X9_scenesBy_4 hg h hx hs hU hab hb (fun p => by have := cS_le (s := s) (p := p) (x.2.2 - x.2.1) x.2.1; omega) g 0 0 (by omega) (by omega) (by omega), Nat.sub_zero, bits_eq hU]
end
