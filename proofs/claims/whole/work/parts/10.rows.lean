/-! rows for the printed walks -/
theorem ii_1 (x : Int32) : x + Int32.ofInt 1 = x + 1 := rfl
theorem ii_2 (x : Int32) : x + Int32.ofInt 2 = x + 2 := rfl
theorem ii_m1 (x : Int32) : x + Int32.ofInt (-1) = x + (-1) := rfl
theorem ii_4 (x : Int32) : x + Int32.ofInt 4 = x + 4 := rfl
theorem fne {k n : Nat} (h : fA k n) : k ≠ 0 := by have := h.1; omega
section FR4
variable {E : am_E} {d : Nat} {B : Nat × Nat} {M : am_M} {cs ss pc : Nat} {lo : List (Option Value)} {st : List Value}
theorem lg_lt (x y : Int64) : (lg_cmp x y < 0) ↔ x < y := by
  unfold lg_cmp
  by_cases h1 : y < x
  · simp only [h1, if_true]
    have h2 : ¬ x < y := lg_lt_not h1
    have h3 : ¬ x = y := fun e => by subst e; exact h2 h1
    simp [h2, h3] <;> decide
  · by_cases h2 : x = y
    · subst h2
      simp [h1] <;> decide
    · have h3 : x < y := by
        simp only [Int64.lt_iff_toInt_lt] at *
        have : x.toInt ≠ y.toInt := fun e => h2 (Int64.toInt_inj.mp e)
        omega
      simp [h1, h2, h3] <;> decide
theorem ar_lcmp_lt {σ : AH} {Q : Option Value → AH → Prop} {x y : Int64} {off : Int} {tgt : Nat} (hd : decode M.1 pc = .ok (.lcmp, 1)) (hd2 : decode M.1 (pc + 1) = .ok (.ifCond .lt off, 3)) (ht : ((pc + 1 : Nat) : Int) + off = (tgt : Int)) (kt : x < y → am_G E d B M cs ss tgt lo st σ Q) (kf : ¬ x < y → am_G E d B M cs ss (pc + 1 + 3) lo st σ Q) : am_G E d B M cs ss pc lo (.long y :: .long x :: st) σ Q :=
  fun p e s m args below meth c H locs ls Z hC hW hS hl hF => W.lcmp hC.1 hC.2.1 hd (lv_if_lt hC.1 hC.2.1 hd2 ht (fun h => kt ((lg_lt x y).mp h) p e s m args below meth c H locs ls Z hC hW hS hl hF) (fun h => kf (fun q => h ((lg_lt x y).mpr q)) p e s m args below meth c H locs ls Z hC hW hS hl hF))
theorem lg_gt (x y : Int64) : (0 < lg_cmp x y) ↔ y < x := by
  unfold lg_cmp
  by_cases h1 : y < x
  · simp only [h1, if_true]
    have h2 : ¬ x < y := lg_lt_not h1
    have h3 : ¬ x = y := fun e => by subst e; exact h2 h1
    simp [h2, h3] <;> decide
  · by_cases h2 : x = y
    · subst h2
      simp [h1] <;> decide
    · have h3 : x < y := by
        simp only [Int64.lt_iff_toInt_lt] at *
        have : x.toInt ≠ y.toInt := fun e => h2 (Int64.toInt_inj.mp e)
        omega
      simp [h1, h2, h3] <;> decide
theorem ar_lcmp_gt {σ : AH} {Q : Option Value → AH → Prop} {x y : Int64} {off : Int} {tgt : Nat} (hd : decode M.1 pc = .ok (.lcmp, 1)) (hd2 : decode M.1 (pc + 1) = .ok (.ifCond .gt off, 3)) (ht : ((pc + 1 : Nat) : Int) + off = (tgt : Int)) (kt : y < x → am_G E d B M cs ss tgt lo st σ Q) (kf : ¬ y < x → am_G E d B M cs ss (pc + 1 + 3) lo st σ Q) : am_G E d B M cs ss pc lo (.long y :: .long x :: st) σ Q :=
  fun p e s m args below meth c H locs ls Z hC hW hS hl hF => W.lcmp hC.1 hC.2.1 hd (lv_if_gt hC.1 hC.2.1 hd2 ht (fun h => kt ((lg_gt x y).mp h) p e s m args below meth c H locs ls Z hC hW hS hl hF) (fun h => kf (fun q => h ((lg_gt x y).mpr q)) p e s m args below meth c H locs ls Z hC hW hS hl hF))
theorem lg_eq (x y : Int64) : (lg_cmp x y = 0) ↔ x = y := by
  unfold lg_cmp
  by_cases h1 : y < x
  · simp only [h1, if_true]
    have h2 : ¬ x < y := lg_lt_not h1
    have h3 : ¬ x = y := fun e => by subst e; exact h2 h1
    simp [h2, h3] <;> decide
  · by_cases h2 : x = y
    · subst h2
      simp [h1] <;> decide
    · have h3 : x < y := by
        simp only [Int64.lt_iff_toInt_lt] at *
        have : x.toInt ≠ y.toInt := fun e => h2 (Int64.toInt_inj.mp e)
        omega
      simp [h1, h2, h3] <;> decide
theorem ar_lcmp_eq {σ : AH} {Q : Option Value → AH → Prop} {x y : Int64} {off : Int} {tgt : Nat} (hd : decode M.1 pc = .ok (.lcmp, 1)) (hd2 : decode M.1 (pc + 1) = .ok (.ifCond .eq off, 3)) (ht : ((pc + 1 : Nat) : Int) + off = (tgt : Int)) (kt : x = y → am_G E d B M cs ss tgt lo st σ Q) (kf : ¬ x = y → am_G E d B M cs ss (pc + 1 + 3) lo st σ Q) : am_G E d B M cs ss pc lo (.long y :: .long x :: st) σ Q :=
  fun p e s m args below meth c H locs ls Z hC hW hS hl hF => W.lcmp hC.1 hC.2.1 hd (lv_if_eq hC.1 hC.2.1 hd2 ht (fun h => kt ((lg_eq x y).mp h) p e s m args below meth c H locs ls Z hC hW hS hl hF) (fun h => kf (fun q => h ((lg_eq x y).mpr q)) p e s m args below meth c H locs ls Z hC hW hS hl hF))
variable {σ : FH} {Q : Option Value → FH → Prop}
theorem fr_callVi {i k t n : Nat} {M' : am_M} (As : List Value) {stk : List Value} {q : vw_C} {Q1 : Int32 → FH → Prop} (hd : decode M.1 pc = .ok (.invokevirtual i, 3)) (hlk : Cond.methodLink M.2.1.cls i M'.2.1 ∈ am_T) (hm : am_mV M' n) (hst : stk = As.reverse ++ .ref k :: st) (hn : As.length = n) (hk : fO k t) (hq : clsL[t]? = some q) (hqn : q.1 = M'.2.1.cls) (hr : (st.map fun v => v.category).sum ≤ 8) (hB : cs ≤ B.1 ∧ ss ≤ B.2)
    (kk : fMi E d M' (.ref k :: As) σ Q1) (hc : ∀ x σ', Q1 x σ' → fGB E (d + 1) B M cs ss (pc + 3) lo (.int x :: st) σ' Q) : fGB E (d + 1) B M cs ss pc lo stk σ Q :=
  fr_callV As hd hlk hm hst hn hk hq hqn hr hB kk (fun v σ' h => by obtain ⟨x, rfl, h⟩ := h; exact hc x σ' h)
theorem fr_callSi {i n : Nat} {M' : am_M} (As : List Value) {stk : List Value} {Q1 : Int32 → FH → Prop} (hd : decode M.1 pc = .ok (.invokestatic i, 3)) (hlk : Cond.methodLink M.2.1.cls i M'.2.1 ∈ am_T) (hm : am_mS M' n) (hst : stk = As.reverse ++ st) (hn : As.length = n) (hr : (st.map fun v => v.category).sum ≤ 8) (hB : cs ≤ B.1 ∧ ss ≤ B.2)
    (kk : fMi E d M' As σ Q1) (hc : ∀ x σ', Q1 x σ' → fGB E (d + 1) B M cs ss (pc + 3) lo (.int x :: st) σ' Q) : fGB E (d + 1) B M cs ss pc lo stk σ Q :=
  fr_callS As hd hlk hm hst hn hr hB kk (fun v σ' h => by obtain ⟨x, rfl, h⟩ := h; exact hc x σ' h)
theorem fr_callVj {i k t n : Nat} {M' : am_M} (As : List Value) {stk : List Value} {q : vw_C} {Q1 : Int64 → FH → Prop} (hd : decode M.1 pc = .ok (.invokevirtual i, 3)) (hlk : Cond.methodLink M.2.1.cls i M'.2.1 ∈ am_T) (hm : am_mV M' n) (hst : stk = As.reverse ++ .ref k :: st) (hn : As.length = n) (hk : fO k t) (hq : clsL[t]? = some q) (hqn : q.1 = M'.2.1.cls) (hr : (st.map fun v => v.category).sum ≤ 8) (hB : cs ≤ B.1 ∧ ss ≤ B.2)
    (kk : fMj E d M' (.ref k :: As) σ Q1) (hc : ∀ x σ', Q1 x σ' → fGB E (d + 1) B M cs ss (pc + 3) lo (.long x :: st) σ' Q) : fGB E (d + 1) B M cs ss pc lo stk σ Q :=
  fr_callV As hd hlk hm hst hn hk hq hqn hr hB kk (fun v σ' h => by obtain ⟨x, rfl, h⟩ := h; exact hc x σ' h)
theorem fr_callSj {i n : Nat} {M' : am_M} (As : List Value) {stk : List Value} {Q1 : Int64 → FH → Prop} (hd : decode M.1 pc = .ok (.invokestatic i, 3)) (hlk : Cond.methodLink M.2.1.cls i M'.2.1 ∈ am_T) (hm : am_mS M' n) (hst : stk = As.reverse ++ st) (hn : As.length = n) (hr : (st.map fun v => v.category).sum ≤ 8) (hB : cs ≤ B.1 ∧ ss ≤ B.2)
    (kk : fMj E d M' As σ Q1) (hc : ∀ x σ', Q1 x σ' → fGB E (d + 1) B M cs ss (pc + 3) lo (.long x :: st) σ' Q) : fGB E (d + 1) B M cs ss pc lo stk σ Q :=
  fr_callS As hd hlk hm hst hn hr hB kk (fun v σ' h => by obtain ⟨x, rfl, h⟩ := h; exact hc x σ' h)
theorem fr_callVv {i k t n : Nat} {M' : am_M} (As : List Value) {stk : List Value} {q : vw_C} {Q1 : FH → Prop} (hd : decode M.1 pc = .ok (.invokevirtual i, 3)) (hlk : Cond.methodLink M.2.1.cls i M'.2.1 ∈ am_T) (hm : am_mV M' n) (hst : stk = As.reverse ++ .ref k :: st) (hn : As.length = n) (hk : fO k t) (hq : clsL[t]? = some q) (hqn : q.1 = M'.2.1.cls) (hr : (st.map fun v => v.category).sum ≤ 8) (hB : cs ≤ B.1 ∧ ss ≤ B.2)
    (kk : fMv E d M' (.ref k :: As) σ Q1) (hc : ∀ σ', Q1 σ' → fGB E (d + 1) B M cs ss (pc + 3) lo st σ' Q) : fGB E (d + 1) B M cs ss pc lo stk σ Q :=
  fr_callV As hd hlk hm hst hn hk hq hqn hr hB kk (fun v σ' h => by obtain ⟨rfl, h⟩ := h; exact hc σ' h)
theorem fr_callSv {i n : Nat} {M' : am_M} (As : List Value) {stk : List Value} {Q1 : FH → Prop} (hd : decode M.1 pc = .ok (.invokestatic i, 3)) (hlk : Cond.methodLink M.2.1.cls i M'.2.1 ∈ am_T) (hm : am_mS M' n) (hst : stk = As.reverse ++ st) (hn : As.length = n) (hr : (st.map fun v => v.category).sum ≤ 8) (hB : cs ≤ B.1 ∧ ss ≤ B.2)
    (kk : fMv E d M' As σ Q1) (hc : ∀ σ', Q1 σ' → fGB E (d + 1) B M cs ss (pc + 3) lo st σ' Q) : fGB E (d + 1) B M cs ss pc lo stk σ Q :=
  fr_callS As hd hlk hm hst hn hr hB kk (fun v σ' h => by obtain ⟨rfl, h⟩ := h; exact hc σ' h)
end FR4
