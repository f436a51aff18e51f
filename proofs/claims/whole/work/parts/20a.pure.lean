/-! PURE ROWS, 1: how the functions' words read over small naturals -/
theorem nI_c {n : Nat} (h : n < 2147483648) : (nI n).toNatClampNeg = n := nI_clamp (by omega)
theorem chk_n {α : Type} {n N : Nat} {k : Option α} (h : n < N) (h2 : N < 2147483648) : chk (okI (nI n) N) k = k := by
  have : okI (nI n) N = true := by
    unfold okI
    rw [nI_c (by omega)]
    simp only [Bool.and_eq_true, Bool.not_eq_true', decide_eq_false_iff_not, decide_eq_true_eq]
    exact ⟨nI_pos (by omega), h⟩
  rw [this]
  rfl
theorem okI_nI {n N : Nat} (h : n < 2147483648) : okI (nI n) N = decide (n < N) := by
  unfold okI
  rw [nI_c h, show decide (nI n < 0) = false from decide_eq_false (nI_pos (by omega))]
  rfl
theorem okI_of {p : Int32} {N : Nat} (h : okI p N = true) : ∃ j, j < N ∧ j < 2147483648 ∧ p = nI j ∧ p.toNatClampNeg = j := by
  unfold okI at h
  simp only [Bool.and_eq_true, Bool.not_eq_true', decide_eq_false_iff_not, decide_eq_true_eq] at h
  obtain ⟨j, hj, e⟩ := nI_of h.1
  have hc : p.toNatClampNeg = j := by rw [e]; exact nI_c (by omega)
  exact ⟨j, by rw [← hc]; exact h.2, by omega, e, hc⟩
theorem okI_t {n N : Nat} (h : n < N) (hN : N < 2147483648) : okI (nI n) N = true := by rw [okI_nI (by omega)]; exact decide_eq_true h
theorem okI_f {n N : Nat} (h : N ≤ n) (hn : n < 2147483648) : okI (nI n) N = false := by rw [okI_nI (by omega)]; exact decide_eq_false (by omega)
theorem chk_T {α : Type} {k : Option α} : chk true k = k := rfl
theorem ifTT {α : Type} {A B : α} : (if true = true then A else B) = A := rfl
theorem ifFT {α : Type} {A B : α} : (if false = true then A else B) = B := rfl
theorem chk_t {α : Type} {b : Bool} {k : Option α} (h : b = true) : chk b k = k := by rw [h]; rfl
theorem bnd_s {α β : Type} {x : α} {f : α → Option β} : bnd (some x) f = f x := rfl
theorem bnd2_s {α β γ : Type} {x : α} {y : β} {f : α → β → Option γ} : bnd2 (some (x, y)) f = f x y := rfl
theorem stp_s {α β : Type} {a : α} {f : α → Option β} : stp a f = f a := rfl
-- comparisons with 0 and among naturals
theorem nI_z {n : Nat} (h : n < 2147483648) : (nI n = 0) ↔ n = 0 := by rw [← nI_0]; exact nI_eq (by omega) (by omega)
theorem nI_n0 {n : Nat} (h : n < 2147483648) : (nI n < 0) ↔ False := ⟨fun q => nI_pos (by omega) q, False.elim⟩
theorem nI_p0 {n : Nat} (h : n < 2147483648) : (0 ≤ nI n) ↔ True := ⟨fun _ => trivial, fun _ => nI_pos' (by omega)⟩
theorem nI_l0 {n : Nat} (h : n < 2147483648) : (nI n ≤ 0) ↔ n = 0 := by rw [← nI_0, nI_leI (by omega) (by omega)]; omega
theorem nI_g0 {n : Nat} (h : n < 2147483648) : (0 < nI n) ↔ 0 < n := by rw [← nI_0]; exact nI_ltI (by omega) (by omega)
theorem nI_E {a b : Nat} (ha : a < 2147483648) (hb : b < 2147483648) : nI a = nI b ↔ a = b := nI_eq (by omega) (by omega)
theorem nI_LE {a b : Nat} (ha : a < 2147483648) (hb : b < 2147483648) : nI a ≤ nI b ↔ a ≤ b := nI_leI (by omega) (by omega)
theorem nI_LT {a b : Nat} (ha : a < 2147483648) (hb : b < 2147483648) : nI a < nI b ↔ a < b := nI_ltI (by omega) (by omega)
theorem nI_A {a b : Nat} : nI a + nI b = nI (a + b) := nI_add a b
theorem nI_S {a b : Nat} (h : b ≤ a) : nI a - nI b = nI (a - b) := pk_sub h
theorem nI_M {a b : Nat} : nI a * nI b = nI (a * b) := pk_mul a b
theorem nI_D {a b : Nat} (ha : a < 2147483648) (h0 : 0 < b) (hb : b < 2147483648) : nI a / nI b = nI (a / b) := pk_div (by omega) h0 (by omega)
theorem nI_R {a b : Nat} (ha : a < 2147483648) (h0 : 0 < b) (hb : b < 2147483648) : nI a - nI a / nI b * nI b = nI (a % b) := pk_rem (by omega) h0 (by omega)
theorem nN_toInt {k : Nat} (h : k < 2147483648) : (nN k).toInt = -(k : Int) := by
  unfold nN
  rw [Int32.toInt_neg, nI_toInt (by omega)]
  exact Int.bmod_eq_of_le (by omega) (by omega)
theorem nN_n {n k : Nat} (hn : n < 2147483648) (h0 : 0 < k) (hk : k < 2147483648) : (nI n = nN k) ↔ False := by
  refine ⟨fun q => ?_, False.elim⟩
  have := congrArg Int32.toInt q
  rw [nN_toInt hk, nI_toInt (by omega)] at this
  omega
theorem nN_n' {n k : Nat} (hn : n < 2147483648) (h0 : 0 < k) (hk : k < 2147483648) : (nN k = nI n) ↔ False := by
  rw [eq_comm]
  exact nN_n hn h0 hk
theorem nN_E {a b : Nat} (ha : a < 2147483648) (hb : b < 2147483648) : nN a = nN b ↔ a = b := by
  refine ⟨fun q => ?_, fun q => by rw [q]⟩
  have := congrArg Int32.toInt q
  rw [nN_toInt ha, nN_toInt hb] at this
  omega
theorem nN_z {k : Nat} (h0 : 0 < k) (hk : k < 2147483648) : (nN k = 0) ↔ False := by
  rw [← nI_0]
  exact nN_n' (by omega) h0 hk
theorem nN_lt0 {k : Nat} (h0 : 0 < k) (hk : k < 2147483648) : (nN k < 0) ↔ True := by
  refine ⟨fun _ => trivial, fun _ => ?_⟩
  rw [Int32.lt_iff_toInt_lt, nN_toInt hk, show (0 : Int32).toInt = 0 from by decide]
  omega
theorem nN_ge0 {k : Nat} (h0 : 0 < k) (hk : k < 2147483648) : (0 ≤ nN k) ↔ False := by
  refine ⟨fun q => ?_, False.elim⟩
  rw [Int32.le_iff_toInt_le, nN_toInt hk, show (0 : Int32).toInt = 0 from by decide] at q
  omega
theorem nI_lt_nN {n k : Nat} (hn : n < 2147483648) (hk : k < 2147483648) (h0 : 0 < k) : (nI n < nN k) ↔ False := by
  refine ⟨fun q => ?_, False.elim⟩
  rw [Int32.lt_iff_toInt_lt, nN_toInt hk, nI_toInt (by omega)] at q
  omega
theorem okI_nN {k N : Nat} (h0 : 0 < k) (hk : k < 2147483648) : okI (nN k) N = false := by
  unfold okI
  rw [decide_eq_true ((nN_lt0 h0 hk).2 trivial)]
  rfl
-- a boolean as the machine has it
def b2i (b : Bool) : Int32 := if b then nI 1 else nI 0
theorem b2i_t : b2i true = nI 1 := rfl
theorem b2i_f : b2i false = nI 0 := rfl
theorem b2i_0 {b : Bool} : (b2i b = 0) ↔ b = false := by cases b <;> simp [b2i, nI_z]
theorem isZ_b {b : Bool} : isZ (b2i b) = true := by cases b <;> decide
theorem b2i_nI {b : Bool} : ∃ n, n ≤ 1 ∧ b2i b = nI n := by cases b <;> exact ⟨_, by decide, rfl⟩
-- memory
theorem ms_at {σ : Mem} {i a : Nat} {f : Nat → Int32} : ms σ i f a = if a = i then f else σ a := rfl
theorem mu_s {σ : Mem} {i k : Nat} {x : Int32} : mu σ i k x i k = x := by unfold mu; rw [ms_s, pk_us]
theorem mu_k {σ : Mem} {i k j : Nat} {x : Int32} (h : j ≠ k) : mu σ i k x i j = σ i j := by unfold mu; rw [ms_s, pk_un h]
theorem mu_i {σ : Mem} {i k : Nat} {x : Int32} : mu σ i k x i = upd (σ i) k x := by unfold mu; rw [ms_s]
theorem mu_n {σ : Mem} {i k a : Nat} {x : Int32} (h : a ≠ i) : mu σ i k x a = σ a := by unfold mu; rw [ms_n h]
theorem mu_ij {σ : Mem} {i k j : Nat} {x : Int32} : mu σ i k x i j = if j = k then x else σ i j := by unfold mu; rw [ms_s]; rfl
theorem mcp_n {σ : Mem} {a b n i : Nat} (h : i ≠ b) : mcp σ a b n i = σ i := by unfold mcp; rw [ms_n h]
theorem mcp_s {σ : Mem} {a b n j : Nat} : mcp σ a b n b j = if j < n then σ a j else σ b j := by
  unfold mcp
  rw [ms_s]
  unfold va_cpy
  simp
-- two memories alike outside of a stretch of cells
def same (σ σ' : Mem) (a b : Nat) : Prop := ∀ i, (i < a ∨ b ≤ i) → σ' i = σ i
theorem same.rf {σ : Mem} {a b : Nat} : same σ σ a b := fun _ _ => rfl
theorem same.tr {σ σ1 σ2 : Mem} {a b : Nat} (h1 : same σ σ1 a b) (h2 : same σ1 σ2 a b) : same σ σ2 a b := fun i h => (h2 i h).trans (h1 i h)
theorem same.wd {σ σ' : Mem} {a b a' b' : Nat} (h : same σ σ' a b) (h1 : a' ≤ a) (h2 : b ≤ b') : same σ σ' a' b' := fun i q => h i (by omega)
theorem same_mu {σ : Mem} {i k a b : Nat} {x : Int32} (h1 : a ≤ i) (h2 : i < b) : same σ (mu σ i k x) a b := fun j q => mu_n (by omega)
theorem same_mcp {σ : Mem} {i k a b n : Nat} (h1 : a ≤ i) (h2 : i < b) : same σ (mcp σ k i n) a b := fun j q => mcp_n (by omega)
-- branches, evaluated
section
variable {α : Type} {A B : α} {a b n k : Nat}
theorem ifLE_t {i : Decidable (nI a ≤ nI b)} (h : a ≤ b) (hb : b < 2147483648) : @ite α (nI a ≤ nI b) i A B = A := if_pos ((nI_LE (by omega) hb).2 h)
theorem ifLE_f {i : Decidable (nI a ≤ nI b)} (h : b < a) (ha : a < 2147483648) : @ite α (nI a ≤ nI b) i A B = B := if_neg (fun q => by have := (nI_LE ha (by omega)).1 q; omega)
theorem ifLT_t {i : Decidable (nI a < nI b)} (h : a < b) (hb : b < 2147483648) : @ite α (nI a < nI b) i A B = A := if_pos ((nI_LT (by omega) hb).2 h)
theorem ifLT_f {i : Decidable (nI a < nI b)} (h : b ≤ a) (ha : a < 2147483648) : @ite α (nI a < nI b) i A B = B := if_neg (fun q => by have := (nI_LT ha (by omega)).1 q; omega)
theorem ifE_t {i : Decidable (nI a = nI b)} (h : a = b) : @ite α (nI a = nI b) i A B = A := if_pos (by rw [h])
theorem ifE_f {i : Decidable (nI a = nI b)} (h : a ≠ b) (ha : a < 2147483648) (hb : b < 2147483648) : @ite α (nI a = nI b) i A B = B := if_neg (fun q => h ((nI_E ha hb).1 q))
theorem if0_t {i : Decidable (nI n = 0)} (h : n = 0) : @ite α (nI n = 0) i A B = A := if_pos (by rw [h]; rfl)
theorem if0_f {i : Decidable (nI n = 0)} (h : 0 < n) (hn : n < 2147483648) : @ite α (nI n = 0) i A B = B := if_neg (fun q => by have := (nI_z hn).1 q; omega)
theorem ifn0 {i : Decidable (nI n < 0)} (hn : n < 2147483648) : @ite α (nI n < 0) i A B = B := if_neg (nI_pos (by omega))
theorem ifp0 {i : Decidable (0 ≤ nI n)} (hn : n < 2147483648) : @ite α (0 ≤ nI n) i A B = A := if_pos (nI_pos' (by omega))
theorem ifl0_t {i : Decidable (nI n ≤ 0)} (h : n = 0) : @ite α (nI n ≤ 0) i A B = A := if_pos (by rw [nI_l0 (by omega)]; exact h)
theorem ifl0_f {i : Decidable (nI n ≤ 0)} (h : 0 < n) (hn : n < 2147483648) : @ite α (nI n ≤ 0) i A B = B := if_neg (fun q => by have := (nI_l0 hn).1 q; omega)
theorem ifg0_t {i : Decidable (0 < nI n)} (h : 0 < n) (hn : n < 2147483648) : @ite α (0 < nI n) i A B = A := if_pos ((nI_g0 hn).2 h)
theorem ifg0_f {i : Decidable (0 < nI n)} (h : n = 0) : @ite α (0 < nI n) i A B = B := if_neg (fun q => by have := (nI_g0 (n := n) (by omega)).1 q; omega)
theorem ifnE {i : Decidable (nI n = nN k)} (hn : n < 2147483648) (h0 : 0 < k) (hk : k < 2147483648) : @ite α (nI n = nN k) i A B = B := if_neg (fun q => (nN_n hn h0 hk).1 q)
theorem ifnE2 {i : Decidable (nN k = nI n)} (hn : n < 2147483648) (h0 : 0 < k) (hk : k < 2147483648) : @ite α (nN k = nI n) i A B = B := if_neg (fun q => (nN_n' hn h0 hk).1 q)
theorem ifNE_t {i : Decidable (nN a = nN b)} (h : a = b) : @ite α (nN a = nN b) i A B = A := if_pos (by rw [h])
theorem ifNE_f {i : Decidable (nN a = nN b)} (h : a ≠ b) (ha : a < 2147483648) (hb : b < 2147483648) : @ite α (nN a = nN b) i A B = B := if_neg (fun q => h ((nN_E ha hb).1 q))
theorem ifN0 {i : Decidable (nN k = 0)} (h0 : 0 < k) (hk : k < 2147483648) : @ite α (nN k = 0) i A B = B := if_neg (fun q => (nN_z h0 hk).1 q)
theorem ifNl {i : Decidable (nN k < 0)} (h0 : 0 < k) (hk : k < 2147483648) : @ite α (nN k < 0) i A B = A := if_pos ((nN_lt0 h0 hk).2 trivial)
theorem ifNp {i : Decidable (0 ≤ nN k)} (h0 : 0 < k) (hk : k < 2147483648) : @ite α (0 ≤ nN k) i A B = B := if_neg (fun q => (nN_ge0 h0 hk).1 q)
theorem ifB {b : Bool} {i : Decidable (b2i b = 0)} : @ite α (b2i b = 0) i A B = (if b then B else A) := by
  cases b with
  | true => rw [if_neg (fun q => absurd (b2i_0.1 q) (by simp))]; rfl
  | false => rw [if_pos (b2i_0.2 rfl)]; rfl
end
