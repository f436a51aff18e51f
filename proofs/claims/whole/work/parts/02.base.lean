/-! THE BASE: one memory of ints for class and reference, the world that it stands for, and a judgement WG over (pc, memory, locals, stack). -/
abbrev Mem : Type := Nat → Nat → Int32
abbrev XT : Type := va_G × (Nat → Nat) × (ClassId × ClassId × ClassId × ClassId)
abbrev MT : Type := Room × List Cond × ByteArray × Nat × String × Option FieldType
def xad (X : XT) (i : Nat) : Nat := X.2.1 i
abbrev xtys (X : XT) : List (ClassId × FieldType) := [(X.2.2.1, .char), (X.2.2.2.1, .int), (X.2.2.2.2.1, .object "HoleReel$Film"), (X.2.2.2.2.2, .object "HoleReel$Show")]
def layBench : List (Nat × Nat) := [(0, 0), (4, 0), (11, 20), (11, 20), (11, 20), (11, 20), (4, 0), (11, 20), (11, 20), (11, 20), (11, 20)]
def layShow : List (Nat × Nat) := [(5, 0), (11, 8), (11, 480)]
def layFilm : List (Nat × Nat) := [(2, 0), (6, 0), (11, 12), (11, 12), (11, 480), (11, 480)] ++ layBench ++ [(13, 10), (7, 0), (11, 8), (11, 8), (11, 8)] ++ (layShow ++ layShow ++ layShow ++ layShow ++ layShow ++ layShow ++ layShow ++ layShow ++ layShow ++ layShow)
def layT : List (Nat × Nat) := [(8, 0)] ++ layFilm ++ layFilm ++ [(3, 0), (12, 4)] ++ (layFilm ++ layFilm ++ layFilm ++ layFilm) ++ [(1, 0), (11, 20), (11, 20), (11, 20), (10, 60)] ++ layBench ++ layShow ++ [(9, 0), (11, 6036), (11, 36216), (11, 488), (11, 60)]
def lay (i : Nat) : Nat × Nat := layT.getD i (99, 0)
theorem layT_len : layT.length = 339 := by decide +kernel
theorem lay_lt {i k n : Nat} (h : lay i = (k, n)) (hk : k ≠ 99) : i < 339 := by
  rcases Nat.lt_or_ge i 339 with q | q
  · exact q
  · exfalso
    unfold lay at h
    rw [List.getD_eq_getElem?_getD, List.getElem?_eq_none (by rw [layT_len]; exact q)] at h
    simp at h
    exact hk h.1.symm
def ceK (X : XT) (i : Nat) (f : Nat → Int32) (n : Nat) : Nat → va_E := fun k => match k with
  | 0 => .inr (0, [.ref (xad X (i + 1)), .ref (xad X (i + 6))])
  | 1 => .inr (1, [.int (f 0), .int (f 1), .ref (xad X (i + 1)), .ref (xad X (i + 2)), .ref (xad X (i + 3)), .ref (xad X (i + 4)), .int (f 6), .int (f 7)])
  | 2 => .inr (2, [.ref (xad X (i + 1)), .ref (xad X (i + 6)), .ref (xad X (i + 17)), .ref (xad X (i + 18)), .int (f 4), .int (f 5), .int (f 6), .int (f 7)])
  | 3 => .inr (3, [.int (f 0), .int (f 1), .ref (xad X (i + 1))])
  | 4 => .inr (4, [.int (f 0), .ref (xad X (i + 1)), .ref (xad X (i + 2)), .ref (xad X (i + 3)), .ref (xad X (i + 4))])
  | 5 => .inr (5, [.ref (xad X (i + 1)), .ref (xad X (i + 2))])
  | 6 => .inr (6, [.int (f 0), .ref (xad X (i + 1)), .ref (xad X (i + 2)), .ref (xad X (i + 3)), .ref (xad X (i + 4))])
  | 7 => .inr (7, [.int (f 0), .ref (xad X (i + 1)), .ref (xad X (i + 2)), .ref (xad X (i + 3))])
  | 8 => .inr (8, [.ref (xad X (i + 1)), .ref (xad X (i + 53)), .ref (xad X (i + 105)), .ref (xad X (i + 315)), .ref (xad X (i + 320)), .ref (xad X (i + 331)), .int (f 6)])
  | 9 => .inr (9, [.ref (xad X (i + 1)), .ref (xad X (i + 2)), .int (f 2), .int (f 3), .ref (xad X (i + 3)), .ref (xad X (i + 4)), .int (f 6), .int (f 7), .int (f 8), .int (f 9), .int (f 10), .int (f 11)])
  | 10 => .inl (X.2.2.1, n, .inl f)
  | 11 => .inl (X.2.2.2.1, n, .inl f)
  | 12 => .inl (X.2.2.2.2.1, n, .inr (.inr (.inr (.inr (fun j => some (xad X (i + 1 + 52 * j)))))))
  | _ => .inl (X.2.2.2.2.2, n, .inr (.inr (.inr (.inr (fun j => some (xad X (i + 5 + 3 * j)))))))
def ce (X : XT) (i : Nat) (f : Nat → Int32) : va_E := ceK X i f (lay i).2 (lay i).1
theorem ce_of {X : XT} {i k n : Nat} {f : Nat → Int32} (h : lay i = (k, n)) : ce X i f = ceK X i f n k := by unfold ce; rw [h]
def wd (X : XT) (σ : Mem) : va_W := (List.range 339).map (fun i => (xad X i, ce X i (σ i)))
def ms (σ : Mem) (i : Nat) (f : Nat → Int32) : Mem := fun a => if a = i then f else σ a
def mu (σ : Mem) (i k : Nat) (x : Int32) : Mem := ms σ i (upd (σ i) k x)
theorem wd_at {X : XT} {σ : Mem} {i : Nat} (h : i < 339) : (wd X σ)[i]? = some (xad X i, ce X i (σ i)) := by
  unfold wd
  rw [List.getElem?_map, List.getElem?_range h]
  rfl
theorem wd_len {X : XT} {σ : Mem} : (wd X σ).length = 339 := by unfold wd; rw [List.length_map, List.length_range]
theorem wd_get {X : XT} {σ : Mem} {i : Nat} {q : Nat × va_E} (h : (wd X σ)[i]? = some q) : i < 339 ∧ q = (xad X i, ce X i (σ i)) := by
  have h1 : i < 339 := by
    have := (List.getElem?_eq_some_iff.mp h).1
    rw [wd_len] at this
    exact this
  rw [wd_at h1] at h
  exact ⟨h1, (Option.some.inj h).symm⟩
theorem ms_s {σ : Mem} {i : Nat} {f : Nat → Int32} : ms σ i f i = f := by unfold ms; rw [if_pos rfl]
theorem ms_n {σ : Mem} {i j : Nat} {f : Nat → Int32} (h : j ≠ i) : ms σ i f j = σ j := by unfold ms; rw [if_neg h]
theorem wd_set {X : XT} {σ : Mem} {i : Nat} {f : Nat → Int32} {e : va_E} (he : e = ce X i f) (h : i < 339) : (wd X σ).set i (xad X i, e) = wd X (ms σ i f) := by
  subst he
  apply List.ext_getElem?
  intro j
  by_cases hj : j = i
  · subst hj
    rw [List.getElem?_set_self (by rw [wd_len]; exact h), wd_at h, ms_s]
  · rw [List.getElem?_set_ne (Ne.symm hj)]
    rcases Nat.lt_or_ge j 339 with q | q
    · rw [wd_at q, wd_at q, ms_n hj]
    · rw [List.getElem?_eq_none (by rw [wd_len]; exact q), List.getElem?_eq_none (by rw [wd_len]; exact q)]
def XA (X : XT) : Nat → Prop := fun q => ∃ i, i < 339 ∧ q = xad X i
def XD (X : XT) : Prop := ∀ i j, i < 339 → j < 339 → xad X i = xad X j → i = j
theorem XD.d {X : XT} (h : XD X) (σ : Mem) : va_D (XA X) (wd X σ) := by
  refine ⟨fun i j p q hi hj hpq => ?_, fun k q hk => ?_⟩
  · obtain ⟨h1, rfl⟩ := wd_get hi
    obtain ⟨h2, rfl⟩ := wd_get hj
    exact h i j h1 h2 hpq
  · obtain ⟨h1, rfl⟩ := wd_get hk
    exact ⟨k, h1, rfl⟩
def NW (U : State) : Prop := va_Nw (.methodLinkNest RX0 87 yX8_isWithin "HoleReel") U ∧ va_Nw (.methodLinkNest RX1 60 yX8_isWithin "HoleReel") U ∧ va_Nw (.methodLinkNest RX2 117 yX8_slotOf "HoleReel") U ∧ va_Nw (.methodLinkNest RX2 135 yX8_codeOf "HoleReel") U ∧ va_Nw (.methodLinkNest RX4 41 yX8_isWithin "HoleReel") U ∧ va_Nw (.methodLinkNest RX6 44 yX8_slotOf "HoleReel") U
theorem NW.warm {s U : State} (hW : s.WarmedH U.vm) (h : NW s) : NW U := ⟨va_Nw.warmM hW h.1, va_Nw.warmM hW h.2.1, va_Nw.warmM hW h.2.2.1, va_Nw.warmM hW h.2.2.2.1, va_Nw.warmM hW h.2.2.2.2.1, va_Nw.warmM hW h.2.2.2.2.2⟩
theorem NW.same {u U : State} (e : u.vm = U.vm) (h : NW u) : NW U := ⟨va_Nw.same rfl e h.1, va_Nw.same rfl e h.2.1, va_Nw.same rfl e h.2.2.1, va_Nw.same rfl e h.2.2.2.1, va_Nw.same rfl e h.2.2.2.2.1, va_Nw.same rfl e h.2.2.2.2.2⟩
def WW (X : XT) (σ : Mem) (U : State) : Prop := va_P X.1 vwCl (wd X σ) U.heap ∧ va_K X.1 vwCl (xtys X) U ∧ NW U
def Cx (X : XT) (M : MT) (p : Program) (s : State) (m : MethodId) (args : Array Value) (c : Code) : Prop := CallFix p m c M.2.2.1 M.2.2.2.1 s args M.2.1 M.2.2.2.2.1 ∧ va_K X.1 vwCl (xtys X) s ∧ NW s ∧ XD X
/-- from any state of the machine that stands at pc with this memory, these locals, this stack: it comes to Q -/
def WG (X : XT) (l : Launch) (M : MT) (E : State → Array Value → Prop) (kc ks : Nat) (Q : List Frame → Array Value → State → State → Prop) (pc : Nat) (σ : Mem) (lv : List (Nat × Value)) (st : List Value) : Prop :=
  ∀ (p : Program) (e : Env) (s : State) (m : MethodId) (args : Array Value) (below : List Frame) (meth : Method) (c : Code) (H : Heap) (locs : List Loc) (ls : Array Slot), Cx X M p s m args c → meth.sig.returnType = M.2.2.2.2.2 → meth.locks = false → E s args → va_P X.1 vwCl (wd X σ) H → va_S (XA X) s.heap H locs → lv_has ls M.2.2.2.1 lv → W p l e M.1 s m args below meth c H locs kc ks (Q below args s) (F0 m pc ls st)
def QM (X : XT) (Qc : Array Value → State → Outcome → State → Prop) : List Frame → Array Value → State → State → Prop := fun below args s => MQ below Qc args s 0 0 (XA X)
abbrev QI (X : XT) (r : Int32) (σ' : Mem) : Array Value → State → Outcome → State → Prop := va_Qi (fun r' (_ : Unit) => r' = r) (fun _ t => WW X σ' t) (XA X)
abbrev QV (X : XT) (σ' : Mem) : Array Value → State → Outcome → State → Prop := va_Qv (fun (_ : Unit) => True) (fun _ t => WW X σ' t) (XA X)
-- the words of the functions that the methods are read as
def chk {α : Type} (b : Bool) (k : Option α) : Option α := match b with
  | true => k
  | false => none
def bnd {α β : Type} (a : Option α) (f : α → Option β) : Option β := match a with
  | some x => f x
  | none => none
def bnd2 {α β γ : Type} (a : Option (α × β)) (f : α → β → Option γ) : Option γ := match a with
  | some x => f x.1 x.2
  | none => none
def stp {α β : Type} (a : α) (f : α → Option β) : Option β := f a
def okI (i : Int32) (n : Nat) : Bool := !(decide (i < 0)) && decide (i.toNatClampNeg < n)
theorem chk_e {α : Type} {b : Bool} {k : Option α} {z : α} (h : chk b k = some z) : b = true ∧ k = some z := by
  cases b with
  | true => exact ⟨rfl, h⟩
  | false => cases h
theorem bnd_e {α β : Type} {a : Option α} {f : α → Option β} {z : β} (h : bnd a f = some z) : ∃ x, a = some x ∧ f x = some z := by
  cases a with
  | some x => exact ⟨x, rfl, h⟩
  | none => cases h
theorem bnd2_e {α β γ : Type} {a : Option (α × β)} {f : α → β → Option γ} {z : γ} (h : bnd2 a f = some z) : ∃ x y, a = some (x, y) ∧ f x y = some z := by
  cases a with
  | some x => exact ⟨x.1, x.2, rfl, h⟩
  | none => cases h
theorem okI_in {i : Int32} {n : Nat} (h : okI i n = true) : vp_in i n := by
  unfold okI at h
  simp only [Bool.and_eq_true, Bool.not_eq_true', decide_eq_false_iff_not, decide_eq_true_eq] at h
  exact fun q => q.elim h.1 (fun q2 => by omega)
section
variable {X : XT} {l : Launch} {M : MT} {E : State → Array Value → Prop} {kc ks : Nat} {Q : List Frame → Array Value → State → State → Prop} {pc : Nat} {σ : Mem} {lv lv' : List (Nat × Value)} {st : List Value}
-- straight instructions
theorem k_iconst {n : Int} {v : Int32} (d : decode M.2.2.1 pc = .ok (.iconst n, 1)) (hv : Int32.ofInt n = v) (k : WG X l M E kc ks Q (pc + 1) σ lv (.int v :: st)) : WG X l M E kc ks Q pc σ lv st := fun p e s m args below meth c H locs ls C a1 a2 a3 hP hS hl => lv_iconst C.1.1 C.1.2.1 d hv (k p e s m args below meth c H locs ls C a1 a2 a3 hP hS hl)
theorem k_bipush {n : Int} {v : Int32} (d : decode M.2.2.1 pc = .ok (.bipush n, 2)) (hv : (Int8.ofInt n).toInt32 = v) (k : WG X l M E kc ks Q (pc + 2) σ lv (.int v :: st)) : WG X l M E kc ks Q pc σ lv st := fun p e s m args below meth c H locs ls C a1 a2 a3 hP hS hl => lv_bipush C.1.1 C.1.2.1 d hv (k p e s m args below meth c H locs ls C a1 a2 a3 hP hS hl)
theorem k_sipush {n : Int} {v : Int32} (d : decode M.2.2.1 pc = .ok (.sipush n, 3)) (hv : (Int16.ofInt n).toInt32 = v) (k : WG X l M E kc ks Q (pc + 3) σ lv (.int v :: st)) : WG X l M E kc ks Q pc σ lv st := fun p e s m args below meth c H locs ls C a1 a2 a3 hP hS hl => lv_sipush C.1.1 C.1.2.1 d hv (k p e s m args below meth c H locs ls C a1 a2 a3 hP hS hl)
theorem k_ldcw {i : Nat} {v : Int32} (hw : Cond.constant M.2.2.2.2.1 i v ∈ M.2.1) (d : decode M.2.2.1 pc = .ok (.ldc_w i, 3)) (k : WG X l M E kc ks Q (pc + 3) σ lv (.int v :: st)) : WG X l M E kc ks Q pc σ lv st := fun p e s m args below meth c H locs ls C a1 a2 a3 hP hS hl => lv_ldcw C.1.1 C.1.2.1 C.1.2.2.2.1 (C.1.2.2.2.2 _ hw) d (k p e s m args below meth c H locs ls C a1 a2 a3 hP hS hl)
theorem k_iload_n {j : Fin 4} {i q : Nat} {x : Int32} (d : decode M.2.2.1 pc = .ok (.iload_n j, 1)) (hi : (j : Nat) = i) (hk : lv[q]? = some (i, .int x)) (k : WG X l M E kc ks Q (pc + 1) σ lv (.int x :: st)) : WG X l M E kc ks Q pc σ lv st := fun p e s m args below meth c H locs ls C a1 a2 a3 hP hS hl => lv_iload_n C.1.1 C.1.2.1 d hi (lv_at hl q hk) (k p e s m args below meth c H locs ls C a1 a2 a3 hP hS hl)
theorem k_iload {i q : Nat} {x : Int32} (d : decode M.2.2.1 pc = .ok (.iload i, 2)) (hk : lv[q]? = some (i, .int x)) (k : WG X l M E kc ks Q (pc + 2) σ lv (.int x :: st)) : WG X l M E kc ks Q pc σ lv st := fun p e s m args below meth c H locs ls C a1 a2 a3 hP hS hl => lv_iload C.1.1 C.1.2.1 d (lv_at hl q hk) (k p e s m args below meth c H locs ls C a1 a2 a3 hP hS hl)
theorem k_aload_n {j : Fin 4} {i q : Nat} {x : Nat} (d : decode M.2.2.1 pc = .ok (.aload_n j, 1)) (hi : (j : Nat) = i) (hk : lv[q]? = some (i, .ref x)) (k : WG X l M E kc ks Q (pc + 1) σ lv (.ref x :: st)) : WG X l M E kc ks Q pc σ lv st := fun p e s m args below meth c H locs ls C a1 a2 a3 hP hS hl => lv_aload_n C.1.1 C.1.2.1 d hi (lv_at hl q hk) (k p e s m args below meth c H locs ls C a1 a2 a3 hP hS hl)
theorem k_aload {i q : Nat} {x : Nat} (d : decode M.2.2.1 pc = .ok (.aload i, 2)) (hk : lv[q]? = some (i, .ref x)) (k : WG X l M E kc ks Q (pc + 2) σ lv (.ref x :: st)) : WG X l M E kc ks Q pc σ lv st := fun p e s m args below meth c H locs ls C a1 a2 a3 hP hS hl => lv_aload C.1.1 C.1.2.1 d (lv_at hl q hk) (k p e s m args below meth c H locs ls C a1 a2 a3 hP hS hl)
theorem k_istore_n {j : Fin 4} {i : Nat} {x : Int32} (d : decode M.2.2.1 pc = .ok (.istore_n j, 1)) (hi : (j : Nat) = i) (hn : i < M.2.2.2.1) (hl' : (i, Value.int x) :: lv.filter (fun q => !(q.1 == i) && !(q.1 + 1 == i && q.2.category == 2)) = lv') (k : WG X l M E kc ks Q (pc + 1) σ lv' st) : WG X l M E kc ks Q pc σ lv (.int x :: st) := fun p e s m args below meth c H locs ls C a1 a2 a3 hP hS hl => lv_istore_n C.1.1 C.1.2.1 d hi hl hn hl' (fun ls2 hl2 => k p e s m args below meth c H locs ls2 C a1 a2 a3 hP hS hl2)
theorem k_istore {i : Nat} {x : Int32} (d : decode M.2.2.1 pc = .ok (.istore i, 2)) (hn : i < M.2.2.2.1) (hl' : (i, Value.int x) :: lv.filter (fun q => !(q.1 == i) && !(q.1 + 1 == i && q.2.category == 2)) = lv') (k : WG X l M E kc ks Q (pc + 2) σ lv' st) : WG X l M E kc ks Q pc σ lv (.int x :: st) := fun p e s m args below meth c H locs ls C a1 a2 a3 hP hS hl => lv_istore C.1.1 C.1.2.1 d hl hn hl' (fun ls2 hl2 => k p e s m args below meth c H locs ls2 C a1 a2 a3 hP hS hl2)
theorem k_astore_n {j : Fin 4} {i : Nat} {x : Nat} (d : decode M.2.2.1 pc = .ok (.astore_n j, 1)) (hi : (j : Nat) = i) (hn : i < M.2.2.2.1) (hl' : (i, Value.ref x) :: lv.filter (fun q => !(q.1 == i) && !(q.1 + 1 == i && q.2.category == 2)) = lv') (k : WG X l M E kc ks Q (pc + 1) σ lv' st) : WG X l M E kc ks Q pc σ lv (.ref x :: st) := fun p e s m args below meth c H locs ls C a1 a2 a3 hP hS hl => lv_astore_n C.1.1 C.1.2.1 d hi hl hn hl' (fun ls2 hl2 => k p e s m args below meth c H locs ls2 C a1 a2 a3 hP hS hl2)
theorem k_astore {i : Nat} {x : Nat} (d : decode M.2.2.1 pc = .ok (.astore i, 2)) (hn : i < M.2.2.2.1) (hl' : (i, Value.ref x) :: lv.filter (fun q => !(q.1 == i) && !(q.1 + 1 == i && q.2.category == 2)) = lv') (k : WG X l M E kc ks Q (pc + 2) σ lv' st) : WG X l M E kc ks Q pc σ lv (.ref x :: st) := fun p e s m args below meth c H locs ls C a1 a2 a3 hP hS hl => lv_astore C.1.1 C.1.2.1 d hl hn hl' (fun ls2 hl2 => k p e s m args below meth c H locs ls2 C a1 a2 a3 hP hS hl2)
theorem k_iinc {i q : Nat} {n : Int} {x v : Int32} (d : decode M.2.2.1 pc = .ok (.iinc i n, 3)) (hk : lv[q]? = some (i, .int x)) (hv : x + Int32.ofInt n = v) (hn : i < M.2.2.2.1) (hl' : (i, Value.int v) :: lv.filter (fun q => !(q.1 == i) && !(q.1 + 1 == i && q.2.category == 2)) = lv') (k : WG X l M E kc ks Q (pc + 3) σ lv' st) : WG X l M E kc ks Q pc σ lv st := fun p e s m args below meth c H locs ls C a1 a2 a3 hP hS hl => lv_iinc C.1.1 C.1.2.1 d hl hk hv hn hl' (fun ls2 hl2 => k p e s m args below meth c H locs ls2 C a1 a2 a3 hP hS hl2)
theorem k_sub {ks' : List Nat} (h : lv_pick lv ks' = lv') (k : WG X l M E kc ks Q pc σ lv' st) : WG X l M E kc ks Q pc σ lv st := fun p e s m args below meth c H locs ls C a1 a2 a3 hP hS hl => k p e s m args below meth c H locs ls C a1 a2 a3 hP hS (lv_sub hl ks' h)
theorem k_iadd {x y : Int32} (d : decode M.2.2.1 pc = .ok (.iadd, 1)) (k : WG X l M E kc ks Q (pc + 1) σ lv (.int (x + y) :: st)) : WG X l M E kc ks Q pc σ lv (.int y :: .int x :: st) := fun p e s m args below meth c H locs ls C a1 a2 a3 hP hS hl => lv_iadd C.1.1 C.1.2.1 d (k p e s m args below meth c H locs ls C a1 a2 a3 hP hS hl)
theorem k_isub {x y : Int32} (d : decode M.2.2.1 pc = .ok (.isub, 1)) (k : WG X l M E kc ks Q (pc + 1) σ lv (.int (x - y) :: st)) : WG X l M E kc ks Q pc σ lv (.int y :: .int x :: st) := fun p e s m args below meth c H locs ls C a1 a2 a3 hP hS hl => lv_isub C.1.1 C.1.2.1 d (k p e s m args below meth c H locs ls C a1 a2 a3 hP hS hl)
theorem k_imul {x y : Int32} (d : decode M.2.2.1 pc = .ok (.imul, 1)) (k : WG X l M E kc ks Q (pc + 1) σ lv (.int (x * y) :: st)) : WG X l M E kc ks Q pc σ lv (.int y :: .int x :: st) := fun p e s m args below meth c H locs ls C a1 a2 a3 hP hS hl => lv_imul C.1.1 C.1.2.1 d (k p e s m args below meth c H locs ls C a1 a2 a3 hP hS hl)
theorem k_iand {x y : Int32} (d : decode M.2.2.1 pc = .ok (.iand, 1)) (k : WG X l M E kc ks Q (pc + 1) σ lv (.int (x &&& y) :: st)) : WG X l M E kc ks Q pc σ lv (.int y :: .int x :: st) := fun p e s m args below meth c H locs ls C a1 a2 a3 hP hS hl => lv_iand C.1.1 C.1.2.1 d (k p e s m args below meth c H locs ls C a1 a2 a3 hP hS hl)
theorem k_ior {x y : Int32} (d : decode M.2.2.1 pc = .ok (.ior, 1)) (k : WG X l M E kc ks Q (pc + 1) σ lv (.int (x ||| y) :: st)) : WG X l M E kc ks Q pc σ lv (.int y :: .int x :: st) := fun p e s m args below meth c H locs ls C a1 a2 a3 hP hS hl => lv_ior C.1.1 C.1.2.1 d (k p e s m args below meth c H locs ls C a1 a2 a3 hP hS hl)
theorem k_ixor {x y : Int32} (d : decode M.2.2.1 pc = .ok (.ixor, 1)) (k : WG X l M E kc ks Q (pc + 1) σ lv (.int (x ^^^ y) :: st)) : WG X l M E kc ks Q pc σ lv (.int y :: .int x :: st) := fun p e s m args below meth c H locs ls C a1 a2 a3 hP hS hl => lv_ixor C.1.1 C.1.2.1 d (k p e s m args below meth c H locs ls C a1 a2 a3 hP hS hl)
theorem k_ishl {x y : Int32} (d : decode M.2.2.1 pc = .ok (.ishl, 1)) (k : WG X l M E kc ks Q (pc + 1) σ lv (.int (x <<< (y &&& 31)) :: st)) : WG X l M E kc ks Q pc σ lv (.int y :: .int x :: st) := fun p e s m args below meth c H locs ls C a1 a2 a3 hP hS hl => lv_ishl C.1.1 C.1.2.1 d (k p e s m args below meth c H locs ls C a1 a2 a3 hP hS hl)
theorem k_ishr {x y : Int32} (d : decode M.2.2.1 pc = .ok (.ishr, 1)) (k : WG X l M E kc ks Q (pc + 1) σ lv (.int (x >>> (y &&& 31)) :: st)) : WG X l M E kc ks Q pc σ lv (.int y :: .int x :: st) := fun p e s m args below meth c H locs ls C a1 a2 a3 hP hS hl => lv_ishr C.1.1 C.1.2.1 d (k p e s m args below meth c H locs ls C a1 a2 a3 hP hS hl)
theorem k_iushr {x y : Int32} (d : decode M.2.2.1 pc = .ok (.iushr, 1)) (k : WG X l M E kc ks Q (pc + 1) σ lv (.int (x.toUInt32 >>> (y.toUInt32 &&& Int32.toUInt32 31)).toInt32 :: st)) : WG X l M E kc ks Q pc σ lv (.int y :: .int x :: st) := fun p e s m args below meth c H locs ls C a1 a2 a3 hP hS hl => lv_iushr C.1.1 C.1.2.1 d rfl (k p e s m args below meth c H locs ls C a1 a2 a3 hP hS hl)
theorem k_ineg {x : Int32} (d : decode M.2.2.1 pc = .ok (.ineg, 1)) (k : WG X l M E kc ks Q (pc + 1) σ lv (.int (-x) :: st)) : WG X l M E kc ks Q pc σ lv (.int x :: st) := fun p e s m args below meth c H locs ls C a1 a2 a3 hP hS hl => lv_ineg C.1.1 C.1.2.1 d (k p e s m args below meth c H locs ls C a1 a2 a3 hP hS hl)
theorem k_i2c {x : Int32} (d : decode M.2.2.1 pc = .ok (.i2c, 1)) (k : WG X l M E kc ks Q (pc + 1) σ lv (.int (x.toUInt32 % 65536).toInt32 :: st)) : WG X l M E kc ks Q pc σ lv (.int x :: st) := fun p e s m args below meth c H locs ls C a1 a2 a3 hP hS hl => lv_i2c C.1.1 C.1.2.1 d rfl (k p e s m args below meth c H locs ls C a1 a2 a3 hP hS hl)
theorem k_idiv {x y : Int32} (d : decode M.2.2.1 pc = .ok (.idiv, 1)) (hne : ¬ y = 0) (k : WG X l M E kc ks Q (pc + 1) σ lv (.int (x / y) :: st)) : WG X l M E kc ks Q pc σ lv (.int y :: .int x :: st) := fun p e s m args below meth c H locs ls C a1 a2 a3 hP hS hl => lv_idiv C.1.1 C.1.2.1 d hne (k p e s m args below meth c H locs ls C a1 a2 a3 hP hS hl)
theorem k_irem {x y : Int32} (d : decode M.2.2.1 pc = .ok (.irem, 1)) (hne : ¬ y = 0) (k : WG X l M E kc ks Q (pc + 1) σ lv (.int (x - x / y * y) :: st)) : WG X l M E kc ks Q pc σ lv (.int y :: .int x :: st) := fun p e s m args below meth c H locs ls C a1 a2 a3 hP hS hl => lv_irem C.1.1 C.1.2.1 d hne (k p e s m args below meth c H locs ls C a1 a2 a3 hP hS hl)
theorem k_dup {v : Value} (d : decode M.2.2.1 pc = .ok (.dup, 1)) (hv : v.category = 1) (k : WG X l M E kc ks Q (pc + 1) σ lv (v :: v :: st)) : WG X l M E kc ks Q pc σ lv (v :: st) := fun p e s m args below meth c H locs ls C a1 a2 a3 hP hS hl => lv_dup C.1.1 C.1.2.1 d hv (k p e s m args below meth c H locs ls C a1 a2 a3 hP hS hl)
theorem k_dup2 {v w : Value} (d : decode M.2.2.1 pc = .ok (.dup2, 1)) (hv : v.category = 1) (hw : w.category = 1) (k : WG X l M E kc ks Q (pc + 1) σ lv (v :: w :: v :: w :: st)) : WG X l M E kc ks Q pc σ lv (v :: w :: st) := fun p e s m args below meth c H locs ls C a1 a2 a3 hP hS hl => lv_dup2_11 C.1.1 C.1.2.1 d hv hw (k p e s m args below meth c H locs ls C a1 a2 a3 hP hS hl)
theorem k_pop {v : Value} (d : decode M.2.2.1 pc = .ok (.pop, 1)) (hv : v.category = 1) (k : WG X l M E kc ks Q (pc + 1) σ lv st) : WG X l M E kc ks Q pc σ lv (v :: st) := fun p e s m args below meth c H locs ls C a1 a2 a3 hP hS hl => lv_pop C.1.1 C.1.2.1 d hv (k p e s m args below meth c H locs ls C a1 a2 a3 hP hS hl)
theorem k_goto {off : Int} {tgt : Nat} (d : decode M.2.2.1 pc = .ok (.goto off, 3)) (ht : (pc : Int) + off = (tgt : Int)) (k : WG X l M E kc ks Q tgt σ lv st) : WG X l M E kc ks Q pc σ lv st := fun p e s m args below meth c H locs ls C a1 a2 a3 hP hS hl => lv_goto C.1.1 C.1.2.1 d ht (k p e s m args below meth c H locs ls C a1 a2 a3 hP hS hl)
end
