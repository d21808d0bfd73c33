/-! THE CLAIM OUT OF ONE WALK OF THE LAW'S BODY. Your part is whole_start (and what it stands on); all else here is the same for every law, but numbers. -/
def R_law : String := "CountedTrialsLaw"
def lw_P (b : Addr) (xs : List Int32) (args : Array Value) (s : State) : Prop := args = #[.ref b] ∧ s.IntsAt b xs ∧ xs.length ≤ 256 ∧ (Jvm.Cond.and given_1 narrow_1).before args s = true
def lw_Q (_ : Array Value) (s : State) (o : Outcome) (t : State) : Prop := o = .returned (some (.int 1)) ∧ Framed s o t [] 600000 7302250
def lw_Z (below : List Frame) (a : Array Value) (s : State) : State → Prop := fun t => ∃ o, t.status = .running ∧ Ended t below o ∧ lw_Q a s o t
/-- the law's own end, with 1 on the stack, nothing written that was there before, its room as the claim has it -/
theorem lw_ret {p : Program} {l : Launch} {e : Env} {s : State} {m : MethodId} {below : List Frame} {meth : Method} {c : Code} {b : Nat} (hx : p.tables.exec = Jvm.exec) (hb : c.code = code) (hr : meth.sig.returnType = ret) (hlocks : meth.locks = false) {pc : Nat} {H : Heap} {ls : Array Slot} (hdg : decode code pc = .ok (.ireturn, 1)) : W p l e room_1 s m #[Value.ref b] below meth c H [] 600000 7302250 (lw_Z below #[Value.ref b] s) (F0 m pc ls [.int 1]) := by
  intro T hT X
  obtain ⟨fs, hret, hrun, hended, hW, hframe⟩ := X.leave (v := some (.int 1)) (hlocks := hlocks) (fun h => by rw [hr] at h; cases h)
  have hmeth' : T.vm.method? m = some meth := X.method'
  refine ⟨T.setFrames fs, ?_, .returned (some (.int 1)), hrun, hended, rfl, ⟨_, rfl⟩, hW, hframe⟩
  jvm_step X.here [X.here.top, hx, hb, hdg, hmeth', hr, ret, narrow_b1]
  (try refine ⟨rfl, ?_⟩); (try refine ⟨rfl, ?_⟩)
  first | (intro acts; rw [hret _ acts rfl rfl rfl]) | rw [hret _ _ rfl rfl rfl]
  exact Steps.refl _
/-- what holds at the law's entry: the machine, the code, the tables' words (any of lw_tbl by 'hts w (by decide +kernel)'), the script of L ints xs at the cell b, what the Statement gives of the start (any of its parts by flat_of_before) -/
def lw_At (p : Program) (s : State) (m : MethodId) (meth : Method) (c : Code) (b L : Nat) (xs : Nat → Int32) : Prop :=
  p.tables.exec = Jvm.exec ∧ c.code = code ∧ meth.sig.returnType = ret ∧ c.maxLocals = 4 ∧ s.vm.findClass R_law = some m.cls ∧ (∀ w ∈ lw_tbl, w.before #[Value.ref b] s = true) ∧ va_X b L xs s s.heap ∧ b < s.heap.size ∧ meth.locks = false ∧ (Jvm.Cond.and given_1 narrow_1).before #[Value.ref b] s = true
/-- the classes that the heap's objects are of -/
theorem lw_known {s : State} {args : Array Value} (hts : ∀ w ∈ am_T, w.before args s = true) : ∃ (dC : Nat → ClassId) (dI : Nat → Nat → Nat), ∀ (k : Nat) (q : vw_C), clsL[k]? = some q → u_Kn s q.1 q.2.1 q.2.2 (dC k) (dI k) := by
  have one : ∀ (own : String) (t n i : Nat), (∃ q, am_cS t q ∧ q.2.2 = n ∧ Cond.classLink own i q.1 ∈ am_T ∧ Cond.instantiable q.1 n ∈ am_T ∧ Cond.initialized q.1 ∈ am_T) → ∃ D : ClassId × (Nat → Nat), ∀ q : vw_C, clsL[t]? = some q → u_Kn s q.1 q.2.1 q.2.2 D.1 D.2 := by
    rintro own t n i ⟨q, c, rfl, -, hi, -⟩
    obtain ⟨cC, iS, h⟩ := u_known (C := q.1) (T := q.2.1) (N := q.2.2) (n := q.2.2) hts c.2.2.1 (hts _ hi)
    refine ⟨(cC, iS), fun q' hq' => ?_⟩
    rw [c.1] at hq'
    cases hq'
    exact h
  have all : ∀ k : Nat, ∃ D : ClassId × (Nat → Nat), ∀ q : vw_C, clsL[k]? = some q → u_Kn s q.1 q.2.1 q.2.2 D.1 D.2 := by
    intro k
    match k with
    | 0 => exact one _ _ _ _ nw_X6_7
    | 1 => exact one _ _ _ _ nw_X5_37
    | 2 => exact one _ _ _ _ nw_X5_31
    | 3 => exact one _ _ _ _ nw_X6_36
    | 4 => exact one _ _ _ _ nw_X6_29
    | 5 => exact one _ _ _ _ nw_X6_16
    | 6 => exact one _ _ _ _ nw_L_7
    | 7 => exact one _ _ _ _ nw_L_10
    | k + 8 =>
      obtain ⟨D, -⟩ := one _ _ _ _ nw_L_7
      exact ⟨D, fun q hq => by simp [clsL] at hq⟩
  exact ⟨fun k => (all k).choose.1, fun k => (all k).choose.2, fun k q h => (all k).choose_spec q h⟩
/-- the classes of its arrays -/
theorem lw_arrays {s : State} {args : Array Value} (hts : ∀ w ∈ lw_tbl, w.before args s = true) : ∃ ids : Nat → ClassId, ∀ (k : Nat) (q : ClassId × FieldType), ([(ids 0, .int), (ids 1, .object RX2), (ids 2, .object RX1)] : List (ClassId × FieldType))[k]? = some q → ArrOfT s q.1 q.2 ∧ va_RA s q.1 q.2 := by
  obtain ⟨c0, k0, m0, a1, a2, a3⟩ := Cond.arrayClass_spec (hts _ (List.mem_filter.mp ac_int).1)
  obtain ⟨m1, c1, k1, b1, b2, b3, b4, b5⟩ := Cond.arrayOver_spec (hts _ ov_X2)
  obtain ⟨m2, c2, k2, d1, d2, d3, d4, d5⟩ := Cond.arrayOver_spec (hts _ ov_X1)
  refine ⟨fun k => if k = 0 then c0 else if k = 1 then c1 else c2, fun k q hq => ?_⟩
  match k, hq with
  | 0, hq =>
    cases hq
    exact ⟨fun n z => ⟨fun k h => (by cases h), k0, a2, m0, a3⟩, a1⟩
  | 1, hq =>
    cases hq
    exact ⟨fun n z => ⟨fun k h => (by cases h), k1, b3, m1, b4⟩, ⟨k1, m1, b3, b4, b1, b5⟩⟩
  | 2, hq =>
    cases hq
    exact ⟨fun n z => ⟨fun k h => (by cases h), k2, d3, m2, d4⟩, ⟨k2, m2, d3, d4, d1, d5⟩⟩
  | k + 3, hq => simp at hq
/-- from the entry, for every script of at most 256 ints, the law comes to its end with true -/
theorem whole_start {p : Program} {e : Env} {s : State} {m : MethodId} {below : List Frame} {meth : Method} {c : Code} (l : Launch) {b L : Nat} {xs : Nat → Int32} (hL : L ≤ 256) (C0 : lw_At p s m meth c b L xs) : W p l e room_1 s m #[Value.ref b] below meth c s.heap [] 0 0 (lw_Z below #[Value.ref b] s) (entryFrame m ([Value.ref b] : List Value).toArray 4) := by
  obtain ⟨hx, hb, hr, hml, hown, hts, hX, hbl, hlk, hgv⟩ := C0
  have htT : ∀ w ∈ am_T, w.before #[Value.ref b] s = true := fun w hw => hts w (List.mem_filter.mp hw).1
  obtain ⟨dC, dI, hKc⟩ := lw_known htT
  obtain ⟨ids, hKt⟩ := lw_arrays hts
  have hN : am_N s := ⟨fun own i y host q => va_Nw.of rfl (hts _ q), fun C q => va_AO.of (hts _ q)⟩
  have hl := lv_entry ([.ref b]) (n := 4) (Nat.le_of_ble_eq_true rfl)
  rw [lg_entry_eq]
  have G := lw_body (E := ((dC, dI), ids, b, s.heap.size, L, xs, l)) (nm := meth.name) hL
  have hW : am_W ((dC, dI), ids, b, s.heap.size, L, xs, l) (hp 1 (fun _ _ => 0) (fun _ _ => 0)) s s.heap := ⟨fun k q h => by simp [am_lay, hp] at h, ⟨hKc, hKt⟩, rfl, by decide, hX, hbl⟩
  refine G p e s m _ below meth c s.heap [] _ _ ⟨hx, hb, hml, hown, htT, hr, hlk, rfl, hN⟩ hW va_S.rf hl ?_
  intro v σ H locs cs ss pc ls hQ hW' hS h1 h2 hR
  obtain ⟨σ1, -, x, rfl, rfl⟩ := hQ
  rcases hR with ⟨y, hy, hd, -⟩ | ⟨y, hy, -⟩ | ⟨hy, -⟩
  · refine va_forget (fun q hq => hS.2.2 q hq) ?_
    refine W.widen (k := 600000) (n := 7302250) h1 h2 ?_
    exact lw_ret hx hb hr hlk hd
  · cases hy
  · cases hy
