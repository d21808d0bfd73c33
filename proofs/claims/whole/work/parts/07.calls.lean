/-! calls -/
/-- what the tables say of a method: n arguments -/
def am_mC (M : am_M) (n : Nat) : Prop := Cond.code M.2.1 M.1 M.2.2.1 M.2.2.2 ∈ am_T ∧ Cond.initialized M.2.1.cls ∈ am_T ∧ (M.2.1.cls ≠ "java/lang/invoke/MethodHandle" ∧ M.2.1.cls ≠ "java/lang/invoke/VarHandle" ∧ (parseMethodDescriptor M.2.1.desc).map (fun d => d.parameters.length) = some n) ∧ M.2.2.1 ≤ 19
def am_mV (M : am_M) (n : Nat) : Prop := am_mC M n ∧ Cond.instanceMethod M.2.1 ∈ am_T ∧ Cond.selects M.2.1.cls M.2.1 M.2.1 ∈ am_T
def am_mS (M : am_M) (n : Nat) : Prop := am_mC M n ∧ Cond.static M.2.1 ∈ am_T
def am_mI (M : am_M) (n : Nat) : Prop := am_mC M n ∧ Cond.instanceMethod M.2.1 ∈ am_T ∧ M.2.1.name = "<init>" ∧ M.2.2.2 = none
theorem am_goodIn {M : am_M} {n : Nat} (h : am_mC M n) : GoodIn am_T (Cond.code M.2.1 M.1 M.2.2.1 M.2.2.2 :: am_T) := by
  intro w hw
  have hm : w ∈ am_T := by
    rcases List.mem_cons.mp hw with e | e
    · rw [e]; exact h.1
    · exact e
  exact ⟨hm, good_of_word (List.mem_filter.mp hm).2⟩
section AR3
variable {E : am_E} {d : Nat} {B : Nat × Nat} {M : am_M} {cs ss pc : Nat} {lo : List (Option Value)} {st : List Value} {σ : AH} {Q : Option Value → AH → Prop}
theorem am_blind {E : am_E} {σ : AH} {av : List Value} : FrameBlind (va_Pc av (fun U => am_W E σ U U.heap ∧ am_N U)) := fun _ U g mk q => ⟨q.1, am_W.moved (u := U) (U := U.calling g mk _) (Vm.Alike.refl U.vm) q.2.1, fun own i y host h => va_Nw.same (u := U) rfl rfl (q.2.2.1 own i y host h), fun C h => va_AO.moved (u := U) (Vm.Alike.refl U.vm) (q.2.2.2 C h)⟩
theorem am_N.warm {s U : State} (hW : s.WarmedH U.vm) (h : am_N s) : am_N U := ⟨fun own i y host q => va_Nw.warmM hW (h.1 own i y host q), fun C q => va_AO.moved hW.alike (h.2 C q)⟩
theorem ar_run {p : Program} {e : Env} {s : State} {m : MethodId} {args : Array Value} {below : List Frame} {meth : Method} {c : Code} {H : Heap} {locs : List Loc} {ls : Array Slot} {Z : State → Prop} {mc ms : Nat} {stk : List Value} {a : Array Value}
    (hC : am_C M p s m args meth c) (hS : va_S (am_A E) s.heap H locs) (hl : lv_has ls M.2.2.1 (am_lo E 0 lo)) (hF : am_F E d B M Q p e s m args below meth c Z)
    (hr : va_Run p E.2.2.2.2.2.2 e (am_rm d B) s m args below meth c H locs cs ss mc ms (F0 m pc ls stk) (st.map (am_cv E)) (am_Q E (fun v σ' => am_G E d B M (cs + mc) (ss + ms) (pc + 3) lo (v.toList ++ st) σ' Q) a) (am_A E)) : W p E.2.2.2.2.2.2 e (am_rm d B) s m args below meth c H locs cs ss Z (F0 m pc ls stk) := by
  intro T hT X
  obtain ⟨v, st₀, t, T', L, h0, X', hL, e1, e2, ⟨⟨v', σ', hv, hG, hW'⟩, hz, hk⟩, stp⟩ := hr T hT X
  cases hv
  rw [h0] at hz hk
  rw [← e1] at hz hk hW'
  have hal : s.vm.Alike T'.vm := X'.warmed.alike
  rw [e2] at hal
  have hw := hG p e s m args below meth c T'.heap (locs ++ L) ls Z hC (hW'.moved hal.symm) ⟨Nat.le_trans hS.1 hz, fun q h1 h2 => (hk q (Nat.lt_of_lt_of_le h1 hS.1) h2).trans (hS.2.1 q h1 h2), fun q hq => (List.mem_append.mp hq).elim (hS.2.2 q) (hL q)⟩ hl hF
  obtain ⟨t2, a1, b1⟩ := hw T' rfl X'
  refine ⟨t2, stp t2 ?_, b1⟩
  have es : (v'.map (am_cv E)).toList ++ st.map (am_cv E) = (v'.toList ++ st).map (am_cv E) := by cases v' <;> simp
  show Steps _ _ _ (T'.setTop { method := m, pc := pc + 3, locals := ls, stack := (v'.map (am_cv E)).toList ++ st.map (am_cv E), locked := none }) t2
  rw [es]
  exact a1
theorem am_sum (E : am_E) (st : List Value) : ((st.map (am_cv E)).map fun v => v.category).sum = (st.map fun v => v.category).sum := by
  rw [List.map_map]
  congr 1
  apply List.map_congr_left
  intro v _
  exact am_cat E v
theorem ar_callV {i k t n : Nat} {M' : am_M} {B' : Nat × Nat} (As : List Value) {stk : List Value} {q : vw_C} (hd : decode M.1 pc = .ok (.invokevirtual i, 3)) (hlk : Cond.methodLink M.2.1.cls i M'.2.1 ∈ am_T) (hm : am_mV M' n) (hst : stk = As.reverse ++ .ref k :: st) (hn : As.length = n) (hk : isO σ k t) (hq : clsL[t]? = some q) (hqn : q.1 = M'.2.1.cls) (hr : (st.map fun v => v.category).sum ≤ 8) (hB : cs + B'.1 ≤ B.1 ∧ ss + B'.2 ≤ B.2)
    (kk : am_Mt E d B' M' (.ref k :: As) σ (fun v σ' => am_G E (d + 1) B M (cs + B'.1) (ss + B'.2) (pc + 3) lo (v.toList ++ st) σ' Q)) : am_G E (d + 1) B M cs ss pc lo stk σ Q := by
  intro p e s m args below meth c H locs ls Z hC hW hS hl hF
  have hts := hC.2.2.2.2.1
  obtain ⟨⟨hc, hini, hd2, hnl⟩, hin, hsel⟩ := hm
  subst hst
  refine ar_run (st := st) hC hS hl hF (mc := B'.1) (ms := B'.2) (a := (Value.ref (am_ad E k) :: As.map (am_cv E)).toArray) ?_
  refine va_runV (rm := am_rm d B') (C := M'.2.1.cls) (b := am_ad E k) (As := As.map (am_cv E)) (rest := st.map (am_cv E)) ⟨hC.1, hC.2.1, hC.2.2.1, hC.2.2.2.1, hts⟩ kk ⟨callB_of n hts (am_goodIn ⟨hc, hini, hd2, hnl⟩) rfl rfl rfl (hts _ hini) (hts _ hlk) hd2 ⟨Nat.le_refl _, by show 8 + (M'.2.2.1 + 11) + 38 * d ≤ 38 * (d + 1); omega⟩, hts _ hin, hts _ hsel⟩ ⟨am_blind, ?_, fun U hU hWm => ⟨rfl, by rw [hU]; exact hW.moved hWm.alike, am_N.warm hWm hC.2.2.2.2.2.2.2.2⟩⟩ rfl (by rw [List.length_map]; exact hn) hl.1 ?_ (lv_room (by rw [am_sum]; exact hr)) hd hB
  · rw [← hqn]
    exact va_recv hW.2.1 hW.1 (ci := t) (q0 := k - 1) hq (am_atO hk)
  · show List.map (am_cv E) (As.reverse ++ Value.ref k :: st) = _
    rw [List.map_append, List.map_reverse]
    rfl
theorem ar_callS {i n : Nat} {M' : am_M} {B' : Nat × Nat} (As : List Value) {stk : List Value} (hd : decode M.1 pc = .ok (.invokestatic i, 3)) (hlk : Cond.methodLink M.2.1.cls i M'.2.1 ∈ am_T) (hm : am_mS M' n) (hst : stk = As.reverse ++ st) (hn : As.length = n) (hr : (st.map fun v => v.category).sum ≤ 8) (hB : cs + B'.1 ≤ B.1 ∧ ss + B'.2 ≤ B.2)
    (kk : am_Mt E d B' M' As σ (fun v σ' => am_G E (d + 1) B M (cs + B'.1) (ss + B'.2) (pc + 3) lo (v.toList ++ st) σ' Q)) : am_G E (d + 1) B M cs ss pc lo stk σ Q := by
  intro p e s m args below meth c H locs ls Z hC hW hS hl hF
  have hts := hC.2.2.2.2.1
  obtain ⟨⟨hc, hini, hd2, hnl⟩, hstt⟩ := hm
  subst hst
  refine ar_run (st := st) hC hS hl hF (mc := B'.1) (ms := B'.2) (a := (As.map (am_cv E)).toArray) ?_
  refine va_runS (rm := am_rm d B') (As := As.map (am_cv E)) (rest := st.map (am_cv E)) ⟨hC.1, hC.2.1, hC.2.2.1, hC.2.2.2.1, hts⟩ kk ⟨callB_of n hts (am_goodIn ⟨hc, hini, hd2, hnl⟩) rfl rfl rfl (hts _ hini) (hts _ hlk) hd2 ⟨Nat.le_refl _, by show 8 + (M'.2.2.1 + 11) + 38 * d ≤ 38 * (d + 1); omega⟩, hts _ hstt⟩ ⟨am_blind, fun U hU hWm => ⟨rfl, by rw [hU]; exact hW.moved hWm.alike, am_N.warm hWm hC.2.2.2.2.2.2.2.2⟩⟩ rfl (by rw [List.length_map]; exact hn) hl.1 ?_ (lv_room (by rw [am_sum]; exact hr)) hd hB
  show List.map (am_cv E) (As.reverse ++ st) = _
  rw [List.map_append, List.map_reverse]
theorem ar_callI {i k n : Nat} {M' : am_M} {B' : Nat × Nat} (As : List Value) {stk : List Value} (hd : decode M.1 pc = .ok (.invokespecial i, 3)) (hlk : Cond.methodLink M.2.1.cls i M'.2.1 ∈ am_T ∨ ∃ host, Cond.methodLinkNest M.2.1.cls i M'.2.1 host ∈ lw_tbl) (hm : am_mI M' n) (hst : stk = As.reverse ++ .ref k :: st) (hn : As.length = n) (hr : (st.map fun v => v.category).sum ≤ 8) (hB : cs + B'.1 ≤ B.1 ∧ ss + B'.2 ≤ B.2)
    (kk : am_Mt E d B' M' (.ref k :: As) σ (fun v σ' => am_G E (d + 1) B M (cs + B'.1) (ss + B'.2) (pc + 3) lo (v.toList ++ st) σ' Q)) : am_G E (d + 1) B M cs ss pc lo stk σ Q := by
  intro p e s m args below meth c H locs ls Z hC hW hS hl hF
  have hts := hC.2.2.2.2.1
  obtain ⟨⟨hc, hini, hd2, hnl⟩, hin, hnm, hret⟩ := hm
  subst hst
  have kk' : Met E.2.2.2.2.2.2 M'.2.1 (Cond.code M'.2.1 M'.1 M'.2.2.1 none :: am_T) (am_rm d B') (va_Pc ((Value.ref k :: As).map (am_cv E)) (fun U => am_W E σ U U.heap ∧ am_N U)) (am_Q E (fun v σ' => am_G E (d + 1) B M (cs + B'.1) (ss + B'.2) (pc + 3) lo (v.toList ++ st) σ' Q)) B'.1 B'.2 (am_A E) := by
    have := kk
    unfold am_Mt at this
    rw [hret] at this
    exact this
  have hgood := am_goodIn ⟨hc, hini, hd2, hnl⟩
  rw [hret] at hgood
  have hroom : (am_rm d B').frames + 1 ≤ (am_rm (d + 1) B).frames ∧ 8 + (M'.2.2.1 + 11) + (am_rm d B').locals ≤ (am_rm (d + 1) B).locals := ⟨Nat.le_refl _, by show 8 + (M'.2.2.1 + 11) + 38 * d ≤ 38 * (d + 1); omega⟩
  have hstk : List.map (am_cv E) (As.reverse ++ Value.ref k :: st) = (As.map (am_cv E)).reverse ++ .ref (am_ad E k) :: st.map (am_cv E) := by
    rw [List.map_append, List.map_reverse]; rfl
  refine ar_run (st := st) hC hS hl hF (mc := B'.1) (ms := B'.2) (a := (Value.ref (am_ad E k) :: As.map (am_cv E)).toArray) ?_
  rcases hlk with hlk | ⟨host, hlk⟩
  · exact va_runI (rm := am_rm d B') (b := am_ad E k) (As := As.map (am_cv E)) (rest := st.map (am_cv E)) ⟨hC.1, hC.2.1, hC.2.2.1, hC.2.2.2.1, hts⟩ kk' ⟨callB_of n hts hgood rfl rfl rfl (hts _ hini) (hts _ hlk) hd2 hroom, hnm, hts _ hin⟩ ⟨am_blind, fun U hU hWm => ⟨rfl, by rw [hU]; exact hW.moved hWm.alike, am_N.warm hWm hC.2.2.2.2.2.2.2.2⟩⟩ rfl (by rw [List.length_map]; exact hn) hl.1 hstk (lv_room (by rw [am_sum]; exact hr)) hd hB
  · have hnw : va_Nw (.methodLinkNest M.2.1.cls i M'.2.1 host) s := hC.2.2.2.2.2.2.2.2.1 _ _ _ _ hlk
    exact va_runIN (rm := am_rm d B') (host := host) (b := am_ad E k) (As := As.map (am_cv E)) (rest := st.map (am_cv E)) ⟨hC.1, hC.2.1, hC.2.2.1, hC.2.2.2.1, hts⟩ kk' ⟨va_cnB n hts hgood rfl rfl rfl hnw (hts _ hini) hd2 hroom, hnm, hts _ hin⟩ ⟨am_blind, fun U hU hWm => ⟨rfl, by rw [hU]; exact hW.moved hWm.alike, am_N.warm hWm hC.2.2.2.2.2.2.2.2⟩⟩ rfl (by rw [List.length_map]; exact hn) hl.1 hstk (lv_room (by rw [am_sum]; exact hr)) hd hB
theorem ar_objInit {i k : Nat} (hd : decode M.1 pc = .ok (.invokespecial i, 3)) (h1 : Cond.methodLink M.2.1.cls i Lib.objectInit ∈ am_T) (h2 : Cond.instanceMethod Lib.objectInit ∈ am_T) (h3 : Cond.code Lib.objectInit ⟨#[0xb1]⟩ 1 none ∈ am_T) (hr : (st.map fun v => v.category).sum ≤ 8) (kk : am_G E (d + 1) B M cs ss (pc + 3) lo st σ Q) : am_G E (d + 1) B M cs ss pc lo (.ref k :: st) σ Q := by
  intro p e s m args below meth c H locs ls Z hC hW hS hl hF
  have hts := hC.2.2.2.2.1
  refine W.objInit hC.1 hC.2.1 hC.2.2.2.1 (hts _ h1) (hts _ h2) (hts _ h3) rfl (by rw [hC.2.2.1]; exact hl.1) rfl hd (by show 1 ≤ d + 1; omega) ?_ (kk p e s m args below meth c H locs ls Z hC hW hS hl hF)
  have h8 := lv_room (m := m) (pc := pc) (ls := ls) (rest := List.map (am_cv E) (Value.ref k :: st)) (st := st.map (am_cv E)) (by rw [am_sum]; exact hr)
  show _ + 12 ≤ 38 * (d + 1)
  omega
theorem ar_max {i : Nat} {x y : Int32} (hd : decode M.1 pc = .ok (.invokestatic i, 3)) (h1 : Cond.methodLink M.2.1.cls i Lib.Math.max.name ∈ am_T) (h2 : Cond.static Lib.Math.max.name ∈ am_T) (h3 : Cond.initialized "java/lang/Math" ∈ am_T) (h4 : Cond.code Lib.Math.max.name Lib.Math.max.code 2 (some .int) ∈ am_T) (hr : (st.map fun v => v.category).sum ≤ 8) (hb1 : cs ≤ B.1) (hb2 : ss ≤ B.2) (kk : am_G E (d + 1) B M cs ss (pc + 3) lo (.int (if x < y then y else x) :: st) σ Q) : am_G E (d + 1) B M cs ss pc lo (.int y :: .int x :: st) σ Q := by
  intro p e s m args below meth c H locs ls Z hC hW hS hl hF
  have hts := hC.2.2.2.2.1
  exact va_mmax hC.1 hC.2.1 (by rw [hC.2.2.1]; exact hl.1.symm) hC.2.2.2.1 (hts _ h1) (hts _ h2) (hts _ h3) (hts _ h4) (by show 1 ≤ d + 1; omega) (by have := am_sum E st; show _ + 13 ≤ 38 * (d + 1); omega) hb1 hb2 hd (kk p e s m args below meth c H locs ls Z hC hW hS hl hF)
theorem ar_min {i : Nat} {x y : Int32} (hd : decode M.1 pc = .ok (.invokestatic i, 3)) (h1 : Cond.methodLink M.2.1.cls i Lib.Math.min.name ∈ am_T) (h2 : Cond.static Lib.Math.min.name ∈ am_T) (h3 : Cond.initialized "java/lang/Math" ∈ am_T) (h4 : Cond.code Lib.Math.min.name Lib.Math.min.code 2 (some .int) ∈ am_T) (hr : (st.map fun v => v.category).sum ≤ 8) (hb1 : cs ≤ B.1) (hb2 : ss ≤ B.2) (kk : am_G E (d + 1) B M cs ss (pc + 3) lo (.int (if y < x then y else x) :: st) σ Q) : am_G E (d + 1) B M cs ss pc lo (.int y :: .int x :: st) σ Q := by
  intro p e s m args below meth c H locs ls Z hC hW hS hl hF
  have hts := hC.2.2.2.2.1
  exact va_mmin hC.1 hC.2.1 (by rw [hC.2.2.1]; exact hl.1.symm) hC.2.2.2.1 (hts _ h1) (hts _ h2) (hts _ h3) (hts _ h4) (by show 1 ≤ d + 1; omega) (by have := am_sum E st; show _ + 13 ≤ 38 * (d + 1); omega) hb1 hb2 hd (kk p e s m args below meth c H locs ls Z hC hW hS hl hF)
end AR3
