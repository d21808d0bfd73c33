/-! THE ABSTRACT HEAP. A state of the system as numbers: how many cells there are, what each cell is (0: an int array, 1, 2: an array of references, 3 + t: an object of class t), what its places hold. Cell k stands at the address z + (k - 1); cell 0 is the script. -/
abbrev AH : Type := Nat × (Nat → Nat × Nat) × (Nat → Nat → Int32) × (Nat → Nat → Nat) × (Nat → Int64)
def tyT (t : Nat) : Nat → FieldType := match t with
  | 0 => tyX0
  | 1 => tyX1
  | 2 => tyX2
  | 3 => tyX3
  | 4 => tyX4
  | 5 => tyX5
  | 6 => tyX6
  | _ => tyX7
def nFt (t : Nat) : Nat := match t with
  | 0 => 3
  | 1 => 6
  | 2 => 6
  | 3 => 10
  | 4 => 9
  | 5 => 8
  | 6 => 9
  | _ => 36
abbrev clsL : List vw_C := [(RX0, TX0, 3), (RX1, TX1, 6), (RX2, TX2, 6), (RX3, TX3, 10), (RX4, TX4, 9), (RX5, TX5, 8), (RX6, TX6, 9), (RX7, TX7, 36)]
def fkd (ty : FieldType) : Nat := match ty with
  | .int => 0
  | .boolean => 0
  | .long => 2
  | _ => 1
/-- the words that keep (all that a caller hands on) -/
def am_T : List Cond := lw_tbl.filter goodWord
theorem am_in {w : Cond} (h : w ∈ lw_tbl) (hg : goodWord w = true) : w ∈ am_T := List.mem_filter.mpr ⟨h, hg⟩
/-- the words that keep by rows of their own: links to a nest mate's constructor, arrays over a class -/
def am_N (U : State) : Prop := (∀ (own : String) (i : Nat) (y : MethodName) (host : String), Cond.methodLinkNest own i y host ∈ lw_tbl → va_Nw (.methodLinkNest own i y host) U) ∧ ∀ C : String, Cond.arrayOver (.object C) ∈ lw_tbl → va_AO C U
abbrev am_E : Type := va_G × (Nat → ClassId) × Nat × Nat × Nat × (Nat → Int32) × Launch
abbrev am_M : Type := ByteArray × MethodName × Nat × Option FieldType
def am_ad (E : am_E) (k : Nat) : Nat := if k = 0 then E.2.2.1 else E.2.2.2.1 + (k - 1)
def am_cv (E : am_E) (v : Value) : Value := match v with
  | .ref k => .ref (am_ad E k)
  | w => w
def am_op (E : am_E) (r : Nat) : Option Nat := if r = 0 then none else some (am_ad E r)
def am_fv (E : am_E) (σ : AH) (k t j : Nat) : Value := match fkd (tyT t j) with
  | 0 => .int (σ.2.2.1 k j)
  | 2 => .long (σ.2.2.2.2 k)
  | _ => va_rf (am_op E (σ.2.2.2.1 k j))
def am_cell (E : am_E) (σ : AH) (k : Nat) : va_E := match σ.2.1 k with
  | (0, n) => .inl (E.2.1 0, n, .inl (σ.2.2.1 k))
  | (1, n) => .inl (E.2.1 1, n, .inr (.inr (.inr (.inr (fun j => am_op E (σ.2.2.2.1 k j))))))
  | (2, n) => .inl (E.2.1 2, n, .inr (.inr (.inr (.inr (fun j => am_op E (σ.2.2.2.1 k j))))))
  | (t + 3, _) => .inr (t, (List.range (nFt t)).map (am_fv E σ k t))
def am_lay (E : am_E) (σ : AH) : va_W := (List.range (σ.1 - 1)).map (fun i => (E.2.2.2.1 + i, am_cell E σ (i + 1)))
abbrev am_tys (E : am_E) : List (ClassId × FieldType) := [(E.2.1 0, .int), (E.2.1 1, .object RX2), (E.2.1 2, .object RX1)]
abbrev am_A (E : am_E) : Nat → Prop := fun q => E.2.2.2.1 ≤ q
/-- the heap holds the abstract one; the script is where it was -/
def am_W (E : am_E) (σ : AH) (U : State) (H : Heap) : Prop :=
  va_P E.1 clsL (am_lay E σ) H ∧ va_K E.1 clsL (am_tys E) U ∧ H.size = E.2.2.2.1 + (σ.1 - 1) ∧ 1 ≤ σ.1 ∧ va_X E.2.2.1 E.2.2.2.2.1 E.2.2.2.2.2.1 U H ∧ E.2.2.1 < E.2.2.2.1
def am_sI (σ : AH) (k j : Nat) (v : Int32) : AH := (σ.1, σ.2.1, fun a i => if a = k ∧ i = j then v else σ.2.2.1 a i, σ.2.2.2)
def am_sR (σ : AH) (k j : Nat) (v : Nat) : AH := (σ.1, σ.2.1, σ.2.2.1, fun a i => if a = k ∧ i = j then v else σ.2.2.2.1 a i, σ.2.2.2.2)
def am_sJ (σ : AH) (k : Nat) (v : Int64) : AH := (σ.1, σ.2.1, σ.2.2.1, σ.2.2.2.1, fun a => if a = k then v else σ.2.2.2.2 a)
/-- a new cell, its places 0 -/
def am_nw (σ : AH) (q : Nat × Nat) : AH := (σ.1 + 1, fun a => if a = σ.1 then q else σ.2.1 a, fun a i => if a = σ.1 then 0 else σ.2.2.1 a i, fun a i => if a = σ.1 then 0 else σ.2.2.2.1 a i, fun a => if a = σ.1 then 0 else σ.2.2.2.2 a)
def isO (σ : AH) (k t : Nat) : Prop := 1 ≤ k ∧ k < σ.1 ∧ (σ.2.1 k).1 = t + 3
def isA (σ : AH) (k n : Nat) : Prop := 1 ≤ k ∧ k < σ.1 ∧ σ.2.1 k = (0, n)
def isQ (σ : AH) (k t n : Nat) : Prop := 1 ≤ k ∧ k < σ.1 ∧ σ.2.1 k = (t + 1, n)
theorem am_at {E : am_E} {σ : AH} {k : Nat} (h1 : 1 ≤ k) (h2 : k < σ.1) : (am_lay E σ)[k - 1]? = some (am_ad E k, am_cell E σ k) := by
  unfold am_lay am_ad
  rw [List.getElem?_map, List.getElem?_range (by omega)]
  simp only [Option.map_some]
  rw [if_neg (by omega), show k - 1 + 1 = k by omega]
theorem am_cellO {E : am_E} {σ : AH} {k t : Nat} (h : (σ.2.1 k).1 = t + 3) : am_cell E σ k = .inr (t, (List.range (nFt t)).map (am_fv E σ k t)) := by
  unfold am_cell
  rw [show σ.2.1 k = (t + 3, (σ.2.1 k).2) from by rw [← h]]
theorem am_cellA {E : am_E} {σ : AH} {k n : Nat} (h : σ.2.1 k = (0, n)) : am_cell E σ k = .inl (E.2.1 0, n, .inl (σ.2.2.1 k)) := by
  unfold am_cell
  rw [h]
theorem am_cellQ {E : am_E} {σ : AH} {k t n : Nat} (ht : t < 2) (h : σ.2.1 k = (t + 1, n)) : am_cell E σ k = .inl (E.2.1 (t + 1), n, .inr (.inr (.inr (.inr (fun j => am_op E (σ.2.2.2.1 k j)))))) := by
  unfold am_cell
  rw [h]
  rcases (show t = 0 ∨ t = 1 by omega) with rfl | rfl <;> rfl
theorem am_atO {E : am_E} {σ : AH} {k t : Nat} (h : isO σ k t) : (am_lay E σ)[k - 1]? = some (am_ad E k, .inr (t, (List.range (nFt t)).map (am_fv E σ k t))) := by
  rw [am_at h.1 h.2.1, am_cellO h.2.2]
theorem am_atA {E : am_E} {σ : AH} {k n : Nat} (h : isA σ k n) : (am_lay E σ)[k - 1]? = some (am_ad E k, .inl (E.2.1 0, n, .inl (σ.2.2.1 k))) := by
  rw [am_at h.1 h.2.1, am_cellA h.2.2]
theorem am_atQ {E : am_E} {σ : AH} {k t n : Nat} (ht : t < 2) (h : isQ σ k t n) : (am_lay E σ)[k - 1]? = some (am_ad E k, .inl (E.2.1 (t + 1), n, .inr (.inr (.inr (.inr (fun j => am_op E (σ.2.2.2.1 k j))))))) := by
  rw [am_at h.1 h.2.1, am_cellQ ht h.2.2]
theorem am_D (E : am_E) (σ : AH) : va_D (am_A E) (am_lay E σ) := by
  have key : ∀ (i : Nat) (p : Nat × va_E), (am_lay E σ)[i]? = some p → p.1 = E.2.2.2.1 + i := by
    intro i p h
    unfold am_lay at h
    rw [List.getElem?_map] at h
    by_cases hi : i < σ.1 - 1
    · rw [List.getElem?_range hi] at h
      simp only [Option.map_some, Option.some.injEq] at h
      rw [← h]
    · rw [List.getElem?_eq_none (by simpa using hi)] at h
      simp at h
  refine ⟨fun i j p q hp hq he => ?_, fun k q hq => ?_⟩
  · have h1 := key i p hp
    have h2 := key j q hq
    omega
  · have h1 := key k q hq
    show E.2.2.2.1 ≤ q.1
    omega
/-- one cell is another now -/
theorem am_set {E : am_E} {σ σ' : AH} {k : Nat} (h1 : 1 ≤ k) (hn : σ'.1 = σ.1) (ho : ∀ a, a ≠ k → am_cell E σ' a = am_cell E σ a) : (am_lay E σ).set (k - 1) (am_ad E k, am_cell E σ' k) = am_lay E σ' := by
  apply List.ext_getElem?
  intro i
  have hl : (am_lay E σ).length = σ.1 - 1 := by simp [am_lay]
  have hl' : (am_lay E σ').length = σ.1 - 1 := by simp [am_lay, hn]
  by_cases hi : i < σ.1 - 1
  · have e' := am_at (E := E) (σ := σ') (k := i + 1) (by omega) (by omega)
    rw [show i + 1 - 1 = i by omega] at e'
    rw [e']
    by_cases hk : i = k - 1
    · subst hk
      rw [List.getElem?_set_self (by omega), show k - 1 + 1 = k by omega]
    · have e := am_at (E := E) (σ := σ) (k := i + 1) (by omega) (by omega)
      rw [show i + 1 - 1 = i by omega] at e
      rw [List.getElem?_set_ne (Ne.symm hk), e, ho (i + 1) (by omega)]
  · rw [List.getElem?_eq_none (by rw [List.length_set]; omega), List.getElem?_eq_none (by omega)]
theorem am_map_set {n j : Nat} {f g : Nat → Value} {v : Value} (hj : g j = v) (ho : ∀ i, i < n → i ≠ j → g i = f i) : ((List.range n).map f).set j v = (List.range n).map g := by
  apply List.ext_getElem?
  intro i
  by_cases hi : i < n
  · by_cases h : i = j
    · subst h
      rw [List.getElem?_set_self (by simpa using hi), List.getElem?_map, List.getElem?_range hi]
      simp [hj]
    · rw [List.getElem?_set_ne (Ne.symm h), List.getElem?_map, List.getElem?_map, List.getElem?_range hi]
      simp [ho i hi h]
  · rw [List.getElem?_eq_none (by simpa using hi), List.getElem?_eq_none (by simpa using hi)]
theorem am_sI_o {E : am_E} {σ : AH} {k j : Nat} {v : Int32} (a : Nat) (h : a ≠ k) : am_cell E (am_sI σ k j v) a = am_cell E σ a := by
  have e1 : (am_sI σ k j v).2.2.1 a = σ.2.2.1 a := by funext i; simp [am_sI, h]
  have e2 : ∀ t, am_fv E (am_sI σ k j v) a t = am_fv E σ a t := by
    intro t; funext i
    unfold am_fv
    rw [e1]
    rfl
  unfold am_cell
  show (match σ.2.1 a with | (0, n) => _ | (1, n) => _ | (2, n) => _ | (t + 3, _) => _) = _
  split <;> (try simp only [e1, e2]) <;> rfl
theorem am_sR_o {E : am_E} {σ : AH} {k j : Nat} {v : Nat} (a : Nat) (h : a ≠ k) : am_cell E (am_sR σ k j v) a = am_cell E σ a := by
  have e1 : (am_sR σ k j v).2.2.2.1 a = σ.2.2.2.1 a := by funext i; simp [am_sR, h]
  have e2 : ∀ t, am_fv E (am_sR σ k j v) a t = am_fv E σ a t := by
    intro t; funext i
    unfold am_fv
    rw [e1]
    rfl
  unfold am_cell
  show (match σ.2.1 a with | (0, n) => _ | (1, n) => _ | (2, n) => _ | (t + 3, _) => _) = _
  split <;> (try simp only [e1, e2]) <;> rfl
theorem am_sJ_o {E : am_E} {σ : AH} {k : Nat} {v : Int64} (a : Nat) (h : a ≠ k) : am_cell E (am_sJ σ k v) a = am_cell E σ a := by
  have e1 : (am_sJ σ k v).2.2.2.2 a = σ.2.2.2.2 a := by simp [am_sJ, h]
  have e2 : ∀ t, am_fv E (am_sJ σ k v) a t = am_fv E σ a t := by
    intro t; funext i
    unfold am_fv
    rw [e1]
    rfl
  unfold am_cell
  show (match σ.2.1 a with | (0, n) => _ | (1, n) => _ | (2, n) => _ | (t + 3, _) => _) = _
  split <;> (try simp only [e2]) <;> rfl
/-! locals -/
def am_lo (E : am_E) : Nat → List (Option Value) → List (Nat × Value)
  | _, [] => []
  | i, none :: r => am_lo E (i + 1) r
  | i, some v :: r => (i, am_cv E v) :: am_lo E (i + 1) r
theorem am_lo_mem {E : am_E} : ∀ (lo : List (Option Value)) (n : Nat) (q : Nat × Value), q ∈ am_lo E n lo ↔ ∃ (j : Nat) (v : Value), lo[j]? = some (some v) ∧ q = (n + j, am_cv E v)
  | [], n, q => by simp [am_lo]
  | none :: r, n, q => by
    rw [am_lo, am_lo_mem r (n + 1) q]
    constructor
    · rintro ⟨j, v, h1, h2⟩
      exact ⟨j + 1, v, by simpa using h1, by rw [h2]; congr 1; omega⟩
    · rintro ⟨j, v, h1, h2⟩
      cases j with
      | zero => simp at h1
      | succ j => exact ⟨j, v, by simpa using h1, by rw [h2]; congr 1; omega⟩
  | some w :: r, n, q => by
    rw [am_lo, List.mem_cons, am_lo_mem r (n + 1) q]
    constructor
    · rintro (h | ⟨j, v, h1, h2⟩)
      · exact ⟨0, w, by simp, by rw [h]; rfl⟩
      · exact ⟨j + 1, v, by simpa using h1, by rw [h2]; congr 1; omega⟩
    · rintro ⟨j, v, h1, h2⟩
      cases j with
      | zero =>
        simp at h1
        subst h1
        exact Or.inl (by rw [h2]; rfl)
      | succ j => exact Or.inr ⟨j, v, by simpa using h1, by rw [h2]; congr 1; omega⟩
theorem am_lo_at {E : am_E} {ls : Array Slot} {nL : Nat} {lo : List (Option Value)} (h : lv_has ls nL (am_lo E 0 lo)) {i : Nat} {v : Value} (hi : lo[i]? = some (some v)) : ls[i]? = some (.val (am_cv E v)) := by
  have := h.2.2 (i, am_cv E v) ((am_lo_mem lo 0 _).mpr ⟨i, v, hi, by simp⟩)
  exact this
theorem am_cat (E : am_E) (v : Value) : (am_cv E v).category = v.category := by cases v <;> rfl
/-- the slot ahead holds no long -/
def am_np (lo : List (Option Value)) (i : Nat) : Bool := match i with
  | 0 => true
  | i + 1 => match lo[i]? with
    | some (some w) => decide (w.category = 1)
    | _ => true
theorem am_lo_set1 {E : am_E} {ls : Array Slot} {nL i : Nat} {lo : List (Option Value)} {v : Value} (hp : am_np lo i = true) (h : lv_has ls nL ((i, am_cv E v) :: (am_lo E 0 lo).filter (fun q => !(q.1 == i) && !(q.1 + 1 == i && q.2.category == 2)))) : lv_has ls nL (am_lo E 0 (lo.set i (some v))) := by
  refine ⟨h.1, h.2.1, fun q hq => ?_⟩
  obtain ⟨j, w, h1, h2⟩ := (am_lo_mem _ _ _).mp hq
  subst h2
  by_cases hj : j = i
  · subst hj
    have hlt : j < lo.length := by
      have := (List.getElem?_eq_some_iff.mp h1).1
      simpa using this
    rw [List.getElem?_set_self hlt] at h1
    cases h1
    simpa using h.2.2 (j, am_cv E v) List.mem_cons_self
  · rw [List.getElem?_set_ne (Ne.symm hj)] at h1
    refine h.2.2 _ (List.mem_cons_of_mem _ (List.mem_filter.mpr ⟨(am_lo_mem _ _ _).mpr ⟨j, w, h1, rfl⟩, ?_⟩))
    simp only [Nat.zero_add, am_cat, Bool.and_eq_true, Bool.not_eq_true', beq_eq_false_iff_ne, ne_eq, Bool.and_eq_false_imp, beq_iff_eq]
    refine ⟨hj, fun e => ?_⟩
    subst e
    simp only [am_np, h1, decide_eq_true_eq] at hp
    omega
theorem am_lo_set2 {E : am_E} {ls : Array Slot} {nL i : Nat} {lo : List (Option Value)} {v : Value} (hp : am_np lo i = true) (h : lv_has ls nL ((i, am_cv E v) :: (am_lo E 0 lo).filter (fun q => !(q.1 == i) && (!(q.1 == i + 1) && !(q.1 + 1 == i && q.2.category == 2))))) : lv_has ls nL (am_lo E 0 ((lo.set i (some v)).set (i + 1) none)) := by
  refine ⟨h.1, h.2.1, fun q hq => ?_⟩
  obtain ⟨j, w, h1, h2⟩ := (am_lo_mem _ _ _).mp hq
  subst h2
  by_cases hj1 : j = i + 1
  · subst hj1
    by_cases hlt : i + 1 < (lo.set i (some v)).length
    · rw [List.getElem?_set_self hlt] at h1
      simp at h1
    · rw [List.getElem?_eq_none (by simpa using hlt)] at h1
      simp at h1
  rw [List.getElem?_set_ne (Ne.symm hj1)] at h1
  by_cases hj : j = i
  · subst hj
    have hlt : j < lo.length := by
      have := (List.getElem?_eq_some_iff.mp h1).1
      simpa using this
    rw [List.getElem?_set_self hlt] at h1
    cases h1
    simpa using h.2.2 (j, am_cv E v) List.mem_cons_self
  · rw [List.getElem?_set_ne (Ne.symm hj)] at h1
    refine h.2.2 _ (List.mem_cons_of_mem _ (List.mem_filter.mpr ⟨(am_lo_mem _ _ _).mpr ⟨j, w, h1, rfl⟩, ?_⟩))
    simp only [Nat.zero_add, am_cat, Bool.and_eq_true, Bool.not_eq_true', beq_eq_false_iff_ne, ne_eq, Bool.and_eq_false_imp, beq_iff_eq]
    refine ⟨hj, hj1, fun e => ?_⟩
    subst e
    simp only [am_np, h1, decide_eq_true_eq] at hp
    omega
/-! THE JUDGEMENT. am_G: the machine, in method M, at pc, with locals lo, stack st and the heap σ, comes to the method's end with an answer and a heap of which Q holds. -/
abbrev am_rm (d : Nat) (B : Nat × Nat) : Room := { frames := d, cells := B.1, slots := B.2, locals := 38 * d }
def am_C (M : am_M) (p : Program) (s : State) (m : MethodId) (args : Array Value) (meth : Method) (c : Code) : Prop :=
  p.tables.exec = Jvm.exec ∧ c.code = M.1 ∧ c.maxLocals = M.2.2.1 ∧ s.vm.findClass M.2.1.cls = some m.cls ∧ (∀ w ∈ am_T, w.before args s = true) ∧ meth.sig.returnType = M.2.2.2 ∧ meth.locks = false ∧ meth.name = M.2.1.name ∧ am_N s
def am_R (M : am_M) (pc : Nat) (v : Option Value) : Prop :=
  (∃ x : Int32, v = some (.int x) ∧ decode M.1 pc = .ok (.ireturn, 1) ∧ (M.2.2.2 = some .int ∨ (M.2.2.2 = some .boolean ∧ (x = 0 ∨ x = 1)))) ∨ (∃ x : Int64, v = some (.long x) ∧ decode M.1 pc = .ok (.lreturn, 1) ∧ M.2.2.2 = some .long) ∨ (v = none ∧ decode M.1 pc = .ok (.return_, 1) ∧ M.2.2.2 = none)
def am_F (E : am_E) (d : Nat) (B : Nat × Nat) (M : am_M) (Q : Option Value → AH → Prop) (p : Program) (e : Env) (s : State) (m : MethodId) (args : Array Value) (below : List Frame) (meth : Method) (c : Code) (Z : State → Prop) : Prop :=
  ∀ (v : Option Value) (σ : AH) (H : Heap) (locs : List Loc) (cs ss pc : Nat) (ls : Array Slot), Q v σ → am_W E σ s H → va_S (am_A E) s.heap H locs → cs ≤ B.1 → ss ≤ B.2 → am_R M pc v → W p E.2.2.2.2.2.2 e (am_rm d B) s m args below meth c H locs cs ss Z (F0 m pc ls (v.toList.map (am_cv E)))
def am_G (E : am_E) (d : Nat) (B : Nat × Nat) (M : am_M) (cs ss pc : Nat) (lo : List (Option Value)) (st : List Value) (σ : AH) (Q : Option Value → AH → Prop) : Prop :=
  ∀ (p : Program) (e : Env) (s : State) (m : MethodId) (args : Array Value) (below : List Frame) (meth : Method) (c : Code) (H : Heap) (locs : List Loc) (ls : Array Slot) (Z : State → Prop),
    am_C M p s m args meth c → am_W E σ s H → va_S (am_A E) s.heap H locs → lv_has ls M.2.2.1 (am_lo E 0 lo) → am_F E d B M Q p e s m args below meth c Z →
    W p E.2.2.2.2.2.2 e (am_rm d B) s m args below meth c H locs cs ss Z (F0 m pc ls (st.map (am_cv E)))
def am_Q (E : am_E) (Q : Option Value → AH → Prop) : Array Value → State → Outcome → State → Prop := fun _ st o t =>
  (∃ (v : Option Value) (σ : AH), o = .returned (v.map (am_cv E)) ∧ Q v σ ∧ am_W E σ t t.heap) ∧ va_F (am_A E) st t
/-- a method's contract: called with av over the heap σ it ends, and Q holds of answer and heap -/
def am_Mt (E : am_E) (d : Nat) (B : Nat × Nat) (M : am_M) (av : List Value) (σ : AH) (Q : Option Value → AH → Prop) : Prop :=
  Met E.2.2.2.2.2.2 M.2.1 (Cond.code M.2.1 M.1 M.2.2.1 M.2.2.2 :: am_T) (am_rm d B) (va_Pc (av.map (am_cv E)) (fun U => am_W E σ U U.heap ∧ am_N U)) (am_Q E Q) B.1 B.2 (am_A E)
theorem am_W.moved {E : am_E} {σ : AH} {u U : State} {H : Heap} (hvm : u.vm.Alike U.vm) (h : am_W E σ u H) : am_W E σ U H :=
  ⟨h.1, h.2.1.moved hvm, h.2.2.1, h.2.2.2.1, h.2.2.2.2.1.moved hvm, h.2.2.2.2.2⟩
/-- a contract, out of the walk of its body -/
theorem am_ofG {E : am_E} {d : Nat} {B : Nat × Nat} {M : am_M} {av : List Value} {σ : AH} {Q : Option Value → AH → Prop} (lo : List (Option Value)) (hy : plainName M.2.1.cls = true) (he : am_lo E 0 lo = lv_args 0 (av.map (am_cv E))) (hn : (lg_sl (av.map (am_cv E))).length ≤ M.2.2.1)
    (k : am_G E d B M 0 0 0 lo [] σ Q) : am_Mt E d B M av σ Q := by
  refine Met.ofW (cc := M.1) (maxL := M.2.2.1) (ret := M.2.2.2) hy rfl ?_
  intro p e s m args below meth c s₁ Bd hml hv
  obtain ⟨rfl, hW, hN⟩ := hv
  have hts : ∀ w ∈ am_T, w.before (av.map (am_cv E)).toArray s = true := fun w hw => atoms_spec (ws := Cond.code M.2.1 M.1 M.2.2.1 M.2.2.2 :: am_T) Bd.pre w (List.mem_cons_of_mem _ hw)
  have hown : s.vm.findClass M.2.1.cls = some m.cls := findClass_of_methodNamed Bd.named
  have hl := lv_entry (av.map (am_cv E)) (n := M.2.2.1) hn
  rw [lg_entry_eq]
  rw [← he] at hl
  refine k p e s m _ below meth c s.heap [] _ _ ⟨Bd.exec, Bd.bytes, hml, hown, hts, Bd.returns, Bd.notSynchronized, (name_of_methodNamed Bd.named Bd.method).1, hN⟩ hW va_S.rf hl ?_
  intro v σ' H locs cs ss pc ls hQ hW' hS' h1 h2 hR
  refine W.widen (k := B.1) (n := B.2) h1 h2 ?_
  have hlocks := Bd.notSynchronized
  have hfin : ∀ t : State, t.heap = H → s.WarmedH t.vm → am_Q E Q (av.map (am_cv E)).toArray s (.returned (v.map (am_cv E))) t := fun t ht hWm => ⟨⟨v, σ', rfl, hQ, by rw [ht]; exact hW'.moved hWm.alike⟩, hS'.F ht⟩
  rcases hR with ⟨x, rfl, hd, hr | ⟨hr, hx⟩⟩ | ⟨x, rfl, hd, hr⟩ | ⟨rfl, hd, hr⟩
  · exact W.iret (v := x) Bd.exec Bd.bytes (Bd.returns.trans hr) hfin hS'.2.2 hd
  · exact W.zret (v := x) (ty := .boolean) Bd.exec Bd.bytes (Bd.returns.trans hr) (by rcases hx with rfl | rfl <;> rfl) hfin hS'.2.2 hd
  · exact W.lret (v := x) Bd.exec Bd.bytes (Bd.returns.trans hr) hfin hS'.2.2 hd
  · exact W.vret Bd.exec Bd.bytes (Bd.returns.trans hr) hfin hS'.2.2 hd
