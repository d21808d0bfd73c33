/-! Rows: a month of the class's tally -/
def rc_al (A B : Nat → Nat) (lg : Int32) (j r : Nat) : Bool := rl_ok A B lg (j % 6) r
def rc_st (A B wt : Nat → Nat) (j r : Nat) : Nat := (j / 6 ||| rc_b wt r) * 6 + rl_x A B (j % 6) r
def rc_c (wt : Nat → Nat) (j r : Nat) : Bool := decide (0 < wt r) && !(j / 6).testBit (rc_k wt r)
def rc_or (A B wt : Nat → Nat) (lg : Int32) (lb : Nat → Nat) (j k n : Nat) : Nat := fo (fun r => if rc_al A B lg j r && decide (rc_st A B wt j r = k) then (if rc_c wt j r then 2 ^ r else lb j) else 0) n
theorem rc_and {wt : Nat → Nat} {s r : Nat} (hr : r < 8) (hs : s < 2 ^ 20) : (nI (rc_b wt r) &&& (nI s ^^^ (-1)) = 0) ↔ rc_c wt (s * 6) r = false := by
  have kl := rc_k_le wt r
  rw [show (-1 : Int32) = nI (2 ^ 32 - 1) by decide, fb_xorI, fa_and]
  unfold rc_b rc_c
  rw [Nat.mul_div_cancel s (by decide)]
  by_cases h : 0 < wt r
  · rw [if_pos h, Nat.and_comm]
    have lt : (s ^^^ (2 ^ 32 - 1)) &&& 2 ^ rc_k wt r < 2 ^ 31 := by
      refine Nat.lt_of_le_of_lt (Nat.and_le_right) ?_
      exact Nat.pow_lt_pow_right (by decide) (by omega)
    rw [show (nI ((s ^^^ (2 ^ 32 - 1)) &&& 2 ^ rc_k wt r) = 0) ↔ ((s ^^^ (2 ^ 32 - 1)) &&& 2 ^ rc_k wt r) = 0 from nI_eq (b := 0) lt (by decide), fb_bit_nat, Nat.testBit_xor, Nat.testBit_two_pow_sub_one]
    have : decide (rc_k wt r < 32) = true := decide_eq_true (by omega)
    rw [this]
    simp [h]
  · rw [if_neg h]
    simp [h]
    rfl
theorem rc_b_lt {wt : Nat → Nat} {r nr : Nat} (h : r < nr) : rc_b wt r < 2 ^ rc_k wt nr := by
  unfold rc_b
  split
  · next h0 =>
    have h1 := rc_k_succ wt r
    rw [if_pos h0] at h1
    have h2 : rc_k wt (r + 1) ≤ rc_k wt nr := fb_ct_mono _ (by omega)
    exact Nat.pow_lt_pow_right (by decide) (by omega)
  · exact Nat.two_pow_pos _
theorem rl_x6 {A B : Nat → Nat} {p r : Nat} (hA : A r < 6) (hB : B r < 6) : rl_x A B p r < 6 := by
  unfold rl_x; split <;> assumption
section RC2
variable {E : am_E} {d : Nat} {σ : FH} {Q : Int32 → FH → Prop} {QV : FH → Prop} {nr : Nat} {A B wt : Nat → Nat}
set_option maxHeartbeats 1000000 in
theorem c_goOn {s p c : Nat} {lg : Int32} {T U lb : Nat → Nat} (hW : rc_W nr A B wt σ) (hF : iRf σ) (hb : ∀ r, r < nr → σ.1 73 r = nI (rc_b wt r)) (hs : s < 2 ^ rc_k wt nr) (hp : p < 6) (h4 : σ.1 (σ.2.1 4) (s * 6 + p) = nI c) (h6 : σ.1 (σ.2.1 6) (s * 6 + p) = nI (lb (s * 6 + p))) (hT : ∀ k, k < 2 ^ rc_k wt nr * 6 → σ.1 (σ.2.1 5) k = nI (T k) ∧ σ.1 (σ.2.1 7) k = nI (U k))
    (k : ∀ σ', σ'.2 = σ.2 → (∀ a i, a ≠ σ.2.1 5 → a ≠ σ.2.1 7 → σ'.1 a i = σ.1 a i) → (∀ k, k < 2 ^ rc_k wt nr * 6 → σ'.1 (σ.2.1 5) k = nI (T k + c * rl_e (rc_al A B lg) (rc_st A B wt) (s * 6 + p) k nr) ∧ σ'.1 (σ.2.1 7) k = nI (U k ||| rc_or A B wt lg lb (s * 6 + p) k nr)) → QV σ') : fMv E (d + 2) mX3_goOn [.ref 71, .ref 4, .int (nI s), .int (nI p), .int lg] σ QV := by
  obtain ⟨⟨f4, f5, f6, f7⟩, q4, q5, q6, q7, n45, n67⟩ := hF.fa
  obtain ⟨n8, w1, wr⟩ := id hW
  have kl := rc_k_le wt nr
  have pw : 2 ^ rc_k wt nr ≤ 256 := Nat.le_trans (Nat.pow_le_pow_right (by decide) (show rc_k wt nr ≤ 8 by omega)) (by decide)
  have jd : (s * 6 + p) / 6 = s := by omega
  have jm : (s * 6 + p) % 6 = p := by omega
  refine v_X3_goOn (Or.inl rfl) ?_
  unfold t_X3_goOn
  rw [show (6 : Int32) = nI 6 from rfl, pk_mul, nI_add]
  generalize hj : s * 6 + p = j at *
  have key : ∀ l r t, r + l = nr → t.2 = σ.2 → (∀ a i, a ≠ σ.2.1 5 → a ≠ σ.2.1 7 → t.1 a i = σ.1 a i) → (∀ k, k < 2 ^ rc_k wt nr * 6 → t.1 (σ.2.1 5) k = nI (T k + c * rl_e (rc_al A B lg) (rc_st A B wt) j k r) ∧ t.1 (σ.2.1 7) k = nI (U k ||| rc_or A B wt lg lb j k r)) → h_X3_goOn_11 E (d + 1) 4 (nI s) (nI p) lg (nI j) (nI r) t QV := by
    intro l
    induction l with
    | zero =>
      intro r t hr t2 tf tv
      refine v_X3_goOn_11 (Or.inl rfl) ?_
      unfold t_X3_goOn_11
      rw [show r = nr by omega] at *
      rw [tf 4 1 (by omega) (by omega), w1]
      exact ⟨fun _ => k t t2 tf tv, fun h => absurd (nI_le (Nat.le_refl nr) (by omega)) h⟩
    | succ l ih =>
      intro r t hr t2 tf tv
      obtain ⟨r1, r2, r3, r4, r5, r6⟩ := wr r (by omega)
      refine v_X3_goOn_11 (Or.inl rfl) ?_
      unfold t_X3_goOn_11
      rw [tf 4 1 (by omega) (by omega), w1, nI_clamp (by omega), nI_1 r]
      have hrd : isRd (4 + 4 + r) := ⟨4, r, Or.inl rfl, by omega, rfl⟩
      refine ⟨fun h => absurd h (nI_ge (by omega) (by omega)), fun _ => ⟨vp_in_nI (by omega) (by decide), c_across hrd (c_touches hrd ?_)⟩⟩
      rw [show 4 + 4 + r = 8 + r by omega, tf (8 + r) 2 (by omega) (by omega), tf (8 + r) 3 (by omega) (by omega), r4, r5]
      have ex : (if nI p = nI (A r) then nI (B r) else nI (A r)) = nI (rl_x A B p r) := by
        unfold rl_x
        by_cases h : p = A r
        · rw [if_pos h, if_pos (by rw [h])]
        · rw [if_neg h, if_neg (fun z => h ((nI_eq (by omega) (by omega)).mp z))]
      have x6 : rl_x A B p r < 6 := rl_x6 r1 r2
      rw [ex]
      have et : (nI p = nI (A r) ∨ nI p = nI (B r)) ↔ (p = A r ∨ p = B r) := by rw [nI_eq (by omega) (by omega), nI_eq (by omega) (by omega)]
      have hal : rc_al A B lg j r = rl_ok A B lg p r := by unfold rc_al; rw [jm]
      have hst : rc_st A B wt j r = (s ||| rc_b wt r) * 6 + rl_x A B p r := by unfold rc_st; rw [jd, jm]
      have skip : ¬ ((p = A r ∨ p = B r) ∧ (lg = -1 ∨ lg = nI (rl_x A B p r))) → h_X3_goOn_11 E (d + 1) 4 (nI s) (nI p) lg (nI j) (nI (r + 1)) t QV := by
        intro hn
        have hf : rc_al A B lg j r = false := by rw [hal]; exact decide_eq_false hn
        refine ih (r + 1) t (by omega) t2 tf (fun k' hk' => ?_)
        obtain ⟨v1, v2⟩ := tv k' hk'
        unfold rl_e at v1
        unfold rc_or at v2
        unfold rl_e rc_or
        rw [fb_ct_succ, fo, hf]
        simp only [Bool.false_and, Bool.false_eq_true, if_false, Nat.add_zero, Nat.or_zero]
        exact ⟨v1, v2⟩
      have take : (p = A r ∨ p = B r) ∧ (lg = -1 ∨ lg = nI (rl_x A B p r)) → ∀ xs0 : Int32, (xs0 = 0 ↔ rc_c wt j r = false) → t_X3_goOn_78 E (d + 1) 4 (nI s) (nI p) lg (nI j) (nI r) (nI (rl_x A B p r)) xs0 t QV := by
        intro hy xs0 hx
        have ht : rc_al A B lg j r = true := by rw [hal]; exact decide_eq_true hy
        unfold t_X3_goOn_78
        rw [nI_clamp (show r < 2 ^ 31 by omega), nI_clamp (show j < 2 ^ 31 by omega), nI_1 r]
        refine ⟨vp_in_nI (by omega) (by decide), ?_⟩
        rintro _ rfl
        have sl : s ||| rc_b wt r < 2 ^ rc_k wt nr := Nat.or_lt_two_pow hs (rc_b_lt (by omega))
        have ev : (nI s ||| t.1 73 r) * 6 + nI (rl_x A B p r) = nI (rc_st A B wt j r) := by
          rw [tf 73 r (by omega) (by omega), hb r (by omega), fa_or, show (6 : Int32) = nI 6 from rfl, pk_mul, nI_add, hst]
        rw [ev]
        generalize hk : rc_st A B wt j r = kk at *
        have kkl : kk < 2 ^ rc_k wt nr * 6 := by rw [hst]; omega
        rw [nI_clamp (show kk < 2 ^ 31 by omega)]
        rw [t2]
        refine ⟨f5, vp_in_nI (by omega) (by decide), f4, vp_in_nI (by omega) (by decide), vp_in_nI (by omega) (by decide), ?_⟩
        rintro _ rfl
        rw [fsI_2, t2]
        have c4 : t.1 (σ.2.1 4) j = nI c := by rw [tf _ _ (by omega) (by omega)]; exact h4
        obtain ⟨a1, a2⟩ := tv kk kkl
        rw [c4, a1, nI_add]
        generalize hu : fsI t (σ.2.1 5) kk (nI (T kk + c * rl_e (rc_al A B lg) (rc_st A B wt) j kk r + c)) = u
        have u2 : u.2 = σ.2 := by rw [← hu]; exact t2
        have uf : ∀ a i, ¬ (a = σ.2.1 5 ∧ i = kk) → u.1 a i = t.1 a i := fun a i h => by rw [← hu]; exact fsI_n h
        have u5 : u.1 (σ.2.1 5) kk = nI (T kk + c * rl_e (rc_al A B lg) (rc_st A B wt) j kk r + c) := by rw [← hu]; exact fsI_s
        -- what both branches end with
        have fin : ∀ v, v = (if rc_c wt j r then 2 ^ r else lb j) → h_X3_goOn_11 E (d + 1) 4 (nI s) (nI p) lg (nI j) (nI (r + 1)) (fsI u (σ.2.1 7) kk (nI ((U kk ||| rc_or A B wt lg lb j kk r) ||| v))) QV := by
          rintro _ rfl
          refine ih (r + 1) _ (by omega) (by rw [fsI_2]; exact u2) (fun a i h1 h2 => by rw [fsI_k h2, uf _ _ (fun z => h1 z.1)]; exact tf a i h1 h2) (fun k' hk' => ?_)
          obtain ⟨v1, v2⟩ := tv k' hk'
          unfold rl_e at v1
          unfold rc_or at v2
          unfold rl_e rc_or
          rw [fb_ct_succ, fo, ht, hk]
          rw [fsI_k (show σ.2.1 5 ≠ σ.2.1 7 by omega)]
          by_cases e : k' = kk
          · subst e
            rw [u5, fsI_s]
            simp only [Bool.true_and, decide_true, if_true]
            refine ⟨?_, ?_⟩
            · unfold rl_e
              congr 1
              rw [Nat.mul_add, Nat.mul_one]
              omega
            · rw [Nat.or_assoc]
          · have e' : ¬ kk = k' := fun z => e z.symm
            rw [uf _ _ (fun z => e z.2), fsI_j e, uf _ _ (fun z => e z.2)]
            simp only [Bool.true_and, decide_eq_false e', Bool.false_eq_true, if_false, Nat.add_zero, Nat.or_zero]
            exact ⟨v1, v2⟩
        have u7 : u.1 (σ.2.1 7) kk = nI (U kk ||| rc_or A B wt lg lb j kk r) := by rw [uf _ _ (by omega)]; exact a2
        rw [u7]
        refine ⟨f7, vp_in_nI (by omega) (by decide), fun h0 => ?_, fun h0 => ?_⟩
        · refine ⟨f6, vp_in_nI (by omega) (by decide), vp_in_nI (by omega) (by decide), ?_⟩
          rintro _ rfl
          rw [uf _ _ (by omega), tf _ _ (by omega) (by omega), h6, fa_or]
          exact fin _ (by rw [hx.mp h0]; rfl)
        · refine ⟨vp_in_nI (by omega) (by decide), ?_⟩
          rintro _ rfl
          have sh : ∀ i, i < 8 → (1 : Int32) <<< (nI i &&& 31) = nI (2 ^ i) := by decide
          rw [sh r (by omega), fa_or]
          refine fin _ ?_
          have : rc_c wt j r = true := by
            cases h : rc_c wt j r
            · exact absurd (hx.mpr h) h0
            · rfl
          rw [this]; rfl
      have go59 : (p = A r ∨ p = B r) ∧ (lg = -1 ∨ lg = nI (rl_x A B p r)) → t_X3_goOn_59 E (d + 1) 4 (nI s) (nI p) lg (nI j) (nI r) (nI (rl_x A B p r)) t QV := by
        intro hy
        unfold t_X3_goOn_59
        have cj : rc_c wt (s * 6) r = rc_c wt j r := by unfold rc_c; rw [jd, Nat.mul_div_cancel s (by decide)]
        rw [nI_clamp (show r < 2 ^ 31 by omega), tf 73 r (by omega) (by omega), hb r (by omega), rc_and (by omega) (by omega), cj]
        refine ⟨vp_in_nI (by omega) (by decide), fun h => take hy 0 ⟨fun _ => h, fun _ => rfl⟩, fun h => take hy 1 ⟨fun z => absurd z (by decide), fun z => absurd z h⟩⟩
      simp only [bi0, Classical.not_not]
      rw [et]
      refine ⟨fun h => skip (fun z => h z.1), fun h => ⟨fun h2 => go59 ⟨h, Or.inl h2⟩, fun h2 => ⟨fun h3 => skip (fun z => z.2.elim h2 h3), fun h3 => go59 ⟨h, Or.inr h3⟩⟩⟩⟩
  refine key nr 0 σ (by omega) rfl (fun _ _ _ _ => rfl) (fun k' hk' => ?_)
  obtain ⟨v1, v2⟩ := hT k' hk'
  unfold rl_e rc_or
  show σ.1 (σ.2.1 5) k' = nI (T k' + c * 0) ∧ σ.1 (σ.2.1 7) k' = nI (U k' ||| 0)
  rw [Nat.mul_zero, Nat.add_zero, Nat.or_zero]
  exact ⟨v1, v2⟩
theorem c_tMonth {lg : Int32} {C lb : Nat → Nat} (hW : rc_W nr A B wt σ) (hF : iRf σ) (hb : ∀ r, r < nr → σ.1 73 r = nI (rc_b wt r)) (h8 : σ.1 71 8 = nI (2 ^ rc_k wt nr)) (hC : ∀ k, k < 2 ^ rc_k wt nr * 6 → C k < 2 ^ 31 ∧ σ.1 (σ.2.1 4) k = nI (C k) ∧ σ.1 (σ.2.1 6) k = nI (lb k)) (hT : ∀ k, k < 2 ^ rc_k wt nr * 6 → σ.1 (σ.2.1 5) k = 0 ∧ σ.1 (σ.2.1 7) k = 0)
    (k : ∀ σ', σ'.2 = σ.2 → (∀ a i, a ≠ σ.2.1 5 → a ≠ σ.2.1 7 → σ'.1 a i = σ.1 a i) → (∀ k, k < 2 ^ rc_k wt nr * 6 → σ'.1 (σ.2.1 5) k = nI (fb_sm (fun j => C j * rl_e (rc_al A B lg) (rc_st A B wt) j k nr) (2 ^ rc_k wt nr * 6)) ∧ σ'.1 (σ.2.1 7) k = nI (fo (fun j => if 0 < C j then rc_or A B wt lg lb j k nr else 0) (2 ^ rc_k wt nr * 6))) → QV σ') : fMv E (d + 3) mX3_passMonth [.ref 71, .ref 4, .int lg] σ QV := by
  obtain ⟨⟨f4, f5, f6, f7⟩, q4, q5, q6, q7, n45, n67⟩ := hF.fa
  obtain ⟨n8, w1, wr⟩ := id hW
  have kl := rc_k_le wt nr
  have pw : 2 ^ rc_k wt nr ≤ 256 := Nat.le_trans (Nat.pow_le_pow_right (by decide) (show rc_k wt nr ≤ 8 by omega)) (by decide)
  refine v_X3_passMonth (Or.inl rfl) ?_
  unfold t_X3_passMonth
  generalize hS : 2 ^ rc_k wt nr = S at *
  have key2 : ∀ s, s < S → (∀ t, t.2 = σ.2 → (∀ a i, a ≠ σ.2.1 5 → a ≠ σ.2.1 7 → t.1 a i = σ.1 a i) → (∀ k, k < S * 6 → t.1 (σ.2.1 5) k = nI (fb_sm (fun j => C j * rl_e (rc_al A B lg) (rc_st A B wt) j k nr) ((s + 1) * 6)) ∧ t.1 (σ.2.1 7) k = nI (fo (fun j => if 0 < C j then rc_or A B wt lg lb j k nr else 0) ((s + 1) * 6))) → h_X3_passMonth_2 E (d + 2) 4 lg (nI (s + 1)) t QV) → ∀ l p t, p + l = 6 → t.2 = σ.2 → (∀ a i, a ≠ σ.2.1 5 → a ≠ σ.2.1 7 → t.1 a i = σ.1 a i) → (∀ k, k < S * 6 → t.1 (σ.2.1 5) k = nI (fb_sm (fun j => C j * rl_e (rc_al A B lg) (rc_st A B wt) j k nr) (s * 6 + p)) ∧ t.1 (σ.2.1 7) k = nI (fo (fun j => if 0 < C j then rc_or A B wt lg lb j k nr else 0) (s * 6 + p))) → h_X3_passMonth_13 E (d + 2) 4 lg (nI s) (nI p) t QV := by
    intro s hs kk l
    induction l with
    | zero =>
      intro p t hp t2 tf tv
      refine v_X3_passMonth_13 (Or.inl rfl) ?_
      unfold t_X3_passMonth_13
      rw [show p = 6 by omega] at *
      rw [nI_1 s]
      refine ⟨fun _ => kk t t2 tf ?_, fun h => absurd (by decide) h⟩
      rw [show (s + 1) * 6 = s * 6 + 6 by omega]
      exact tv
    | succ l ih =>
      intro p t hp t2 tf tv
      refine v_X3_passMonth_13 (Or.inl rfl) ?_
      unfold t_X3_passMonth_13
      have jl : s * 6 + p < S * 6 := by omega
      obtain ⟨c1, c2, c3⟩ := hC (s * 6 + p) jl
      rw [show (6 : Int32) = nI 6 from rfl, pk_mul, nI_add, nI_clamp (show s * 6 + p < 2 ^ 31 by omega), nI_1 p, t2, tf _ _ n45 (by omega), c2]
      refine ⟨fun h => absurd h (nI_ge (b := 6) (by omega) (by omega)), fun _ => ⟨f4, vp_in_nI (by omega) (by decide), fun hz => ?_, fun hz => ?_⟩⟩
      · have z0 : C (s * 6 + p) = 0 := by
          rcases Nat.eq_zero_or_pos (C (s * 6 + p)) with h | h
          · exact h
          · exact absurd hz (nI_nle h c1)
        refine ih (p + 1) t (by omega) t2 tf (fun k' hk' => ?_)
        obtain ⟨v1, v2⟩ := tv k' hk'
        rw [show s * 6 + (p + 1) = s * 6 + p + 1 by omega, fb_sm_succ, fo, z0]
        simp only [Nat.zero_mul, Nat.add_zero, Nat.lt_irrefl, if_false, Nat.or_zero]
        exact ⟨v1, v2⟩
      · have z0 : 0 < C (s * 6 + p) := by
          rcases Nat.eq_zero_or_pos (C (s * 6 + p)) with h | h
          · exact absurd (by rw [h]; decide) hz
          · exact h
        have hF' : iRf t := by unfold iRf; rw [t2]; exact hF
        refine c_goOn (T := fun k => fb_sm (fun j => C j * rl_e (rc_al A B lg) (rc_st A B wt) j k nr) (s * 6 + p)) (U := fun k => fo (fun j => if 0 < C j then rc_or A B wt lg lb j k nr else 0) (s * 6 + p)) (lb := lb) (c := C (s * 6 + p)) (lg := lg) (hW.cg (fun a i h => tf _ _ (by omega) (by omega))) hF' (fun r hr => by rw [tf _ _ (by omega) (by omega)]; exact hb r hr) (by rw [hS]; exact hs) (by omega) (by rw [t2, tf _ _ n45 (by omega)]; exact c2) (by rw [t2, tf _ _ (by omega) n67]; exact c3) (by rw [t2, hS]; exact tv) (fun u u2 uf uv => ?_)
        rw [t2] at uf uv
        rw [hS] at uv
        refine ih (p + 1) u (by omega) (u2.trans t2) (fun a i h1 h2 => by rw [uf _ _ h1 h2]; exact tf a i h1 h2) (fun k' hk' => ?_)
        obtain ⟨v1, v2⟩ := uv k' hk'
        rw [show s * 6 + (p + 1) = s * 6 + p + 1 by omega, fb_sm_succ, fo, if_pos z0]
        exact ⟨v1, v2⟩
  have key1 : ∀ l s t, s + l = S → t.2 = σ.2 → (∀ a i, a ≠ σ.2.1 5 → a ≠ σ.2.1 7 → t.1 a i = σ.1 a i) → (∀ k, k < S * 6 → t.1 (σ.2.1 5) k = nI (fb_sm (fun j => C j * rl_e (rc_al A B lg) (rc_st A B wt) j k nr) (s * 6)) ∧ t.1 (σ.2.1 7) k = nI (fo (fun j => if 0 < C j then rc_or A B wt lg lb j k nr else 0) (s * 6))) → h_X3_passMonth_2 E (d + 2) 4 lg (nI s) t QV := by
    intro l
    induction l with
    | zero =>
      intro s t hs t2 tf tv
      refine v_X3_passMonth_2 (Or.inl rfl) ?_
      unfold t_X3_passMonth_2
      rw [show s = S by omega] at *
      rw [tf 71 8 (by omega) (by omega), h8]
      exact ⟨fun _ => k t t2 tf tv, fun h => absurd (nI_le (Nat.le_refl _) (by omega)) h⟩
    | succ l ih =>
      intro s t hs t2 tf tv
      refine v_X3_passMonth_2 (Or.inl rfl) ?_
      unfold t_X3_passMonth_2
      rw [tf 71 8 (by omega) (by omega), h8]
      refine ⟨fun h => absurd h (nI_ge (by omega) (by omega)), fun _ => key2 s (by omega) (fun u u2 uf uv => ih (s + 1) u (by omega) u2 uf uv) 6 0 t (by omega) t2 tf tv⟩
  exact key1 S 0 σ (by omega) rfl (fun _ _ _ _ => rfl) (fun k' hk' => by rw [Nat.zero_mul]; exact hT k' hk')
end RC2
