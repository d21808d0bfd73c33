/-! Rows: the reference's log -/
def md_s : List Nat → Nat
  | [] => 0
  | r :: q => md_s q ||| 2 ^ r
def md_l (wt : Nat → Nat) : List Nat → Nat
  | [] => 0
  | r :: q => if 0 < wt r ∧ r ∉ q then r + 1 else md_l wt q
def md_F (A B wt : Nat → Nat) (q : List Nat) : Nat := 2304 * rl_p A B q + 9 * md_s q + md_l wt q
def md_al (A B : Nat → Nat) (lg : Int32) (j r : Nat) : Bool := rl_ok A B lg (j / 2304) r
def md_c (wt : Nat → Nat) (j r : Nat) : Bool := decide (0 < wt r) && !(j % 2304 / 9).testBit r
def md_st (A B wt : Nat → Nat) (j r : Nat) : Nat := 2304 * rl_x A B (j / 2304) r + 9 * (j % 2304 / 9 ||| 2 ^ r) + (if md_c wt j r then r + 1 else j % 9)
theorem md_s_bit {r : Nat} : ∀ q : List Nat, (md_s q).testBit r = decide (r ∈ q)
  | [] => by simp [md_s]
  | r' :: q => by
    rw [md_s, Nat.testBit_or, md_s_bit q, Nat.testBit_two_pow]
    by_cases e : r' = r
    · subst e; simp
    · have e' : ¬ r = r' := fun z => e z.symm
      simp [e, e']
theorem md_s_lt : ∀ q : List Nat, (∀ r, r ∈ q → r < 8) → md_s q < 256
  | [], _ => by show 0 < 256; omega
  | r :: q, h => by
    have h1 : md_s q < 2 ^ 8 := md_s_lt q (fun x hx => h x (List.mem_cons_of_mem _ hx))
    have h2 : 2 ^ r < 2 ^ 8 := Nat.pow_lt_pow_right (by decide) (h r List.mem_cons_self)
    exact Nat.or_lt_two_pow h1 h2
theorem md_l_i {wt : Nat → Nat} : ∀ q : List Nat, (∀ r, r ∈ q → r < 8) → md_l wt q < 9 ∧ ∀ i, i < 8 → (md_l wt q = i + 1 ↔ rwL wt q = some i)
  | [], _ => ⟨by show 0 < 9; omega, fun i _ => by show 0 = i + 1 ↔ none = some i; exact ⟨fun h => absurd h (by omega), fun h => absurd h (by simp)⟩⟩
  | r :: q, h => by
    rw [md_l, rwL]
    have := h r List.mem_cons_self
    by_cases h0 : 0 < wt r ∧ r ∉ q
    · rw [if_pos h0, if_pos h0]
      refine ⟨by omega, fun i hi => ?_⟩
      simp
    · rw [if_neg h0, if_neg h0]
      exact md_l_i q (fun x hx => h x (List.mem_cons_of_mem _ hx))
section MP
variable {A B wt : Nat → Nat} {q : List Nat}
theorem md_F_p (h : rl_p A B q < 6) (hq : ∀ r, r ∈ q → r < 8) : md_F A B wt q / 2304 = rl_p A B q ∧ md_F A B wt q % 2304 / 9 = md_s q ∧ md_F A B wt q % 9 = md_l wt q ∧ md_F A B wt q < 13824 := by
  have h1 := md_s_lt q hq
  have h2 := (md_l_i (wt := wt) q hq).1
  unfold md_F
  omega
theorem md_F_c {r : Nat} (h : rl_p A B q < 6) (hq : ∀ r, r ∈ q → r < 8) : md_c wt (md_F A B wt q) r = decide (0 < wt r ∧ r ∉ q) := by
  unfold md_c
  rw [(md_F_p h hq).2.1, md_s_bit]
  by_cases hw : 0 < wt r <;> simp [hw]
theorem md_F_st {r : Nat} (h : rl_p A B q < 6) (hq : ∀ r, r ∈ q → r < 8) : md_F A B wt (r :: q) = md_st A B wt (md_F A B wt q) r := by
  unfold md_st
  rw [md_F_c h hq, (md_F_p h hq).1, (md_F_p h hq).2.1, (md_F_p h hq).2.2.1]
  show 2304 * rl_x A B (rl_p A B q) r + 9 * (md_s q ||| 2 ^ r) + md_l wt (r :: q) = _
  rw [md_l]
  by_cases h0 : 0 < wt r ∧ r ∉ q
  · rw [if_pos h0, if_pos (decide_eq_true h0)]
  · rw [if_neg h0, if_neg (fun z => h0 (of_decide_eq_true z))]
end MP
def md_W (nr : Nat) (A B wt : Nat → Nat) (σ : FH) : Prop := nr ≤ 8 ∧ σ.1 78 6 = nI nr ∧ ∀ r, r < nr → A r < 6 ∧ B r < 6 ∧ wt r ≤ 4 ∧ σ.1 81 (5 * r + 1) = nI (A r) ∧ σ.1 81 (5 * r + 2) = nI (B r) ∧ wrt (σ.1 81 (5 * r)) (σ.1 81 (5 * r + 4)) = nI (wt r) ∧ vp_in (σ.1 81 (5 * r)) 5 ∧ vp_in (σ.1 81 (5 * r + 4)) 2
theorem md_W.cg {nr : Nat} {A B wt : Nat → Nat} {σ σ' : FH} (h : md_W nr A B wt σ) (hf : ∀ a i, a = 78 ∨ a = 81 → σ'.1 a i = σ.1 a i) : md_W nr A B wt σ' := by
  obtain ⟨h1, h2, h3⟩ := h
  refine ⟨h1, by rw [hf _ _ (by omega)]; exact h2, fun r hr => ?_⟩
  rw [hf _ _ (by omega), hf _ _ (by omega), hf _ _ (by omega), hf _ _ (by omega)]
  exact h3 r hr
theorem md_bit {s r : Nat} (hr : r < 8) (hs : s < 2 ^ 20) : ((nI s >>> (nI r &&& 31)) &&& 1) = nI (if s.testBit r then 1 else 0) := by
  have e : ∀ r, r < 8 → ((nI r &&& 31).toBitVec.smod 32).toNat = r := by decide
  rw [pk_shrN (by omega) _ r (e r hr), show (1 : Int32) = nI (2 ^ 1 - 1) from rfl, fa_mask, Nat.testBit_eq_decide_div_mod_eq]
  congr 1
  by_cases h : s / 2 ^ r % 2 = 1
  · rw [h]; simp
  · have : s / 2 ^ r % 2 = 0 := by omega
    simp [this]
section ML
variable {E : am_E} {d : Nat} {σ : FH} {Q : Int32 → FH → Prop} {QV : FH → Prop} {nr : Nat} {A B wt : Nat → Nat}
set_option maxHeartbeats 1000000 in
theorem c_passLog {lg : Int32} {C : Nat → Nat} (hW : md_W nr A B wt σ) (hC : ∀ k, k < 13824 → C k < 2 ^ 31 ∧ σ.1 88 k = nI (C k))
    (k : ∀ σ', σ'.2 = σ.2 → (∀ a i, a ≠ 88 → a ≠ 89 → σ'.1 a i = σ.1 a i) → (∀ k, k < 13824 → σ'.1 88 k = nI (fb_sm (fun j => C j * rl_e (md_al A B lg) (md_st A B wt) j k nr) 13824)) → QV σ') : fMv E (d + 2) mX7_passLog [.ref 78, .int lg] σ QV := by
  obtain ⟨n8, w1, wr⟩ := id hW
  refine v_X7_passLog ?_
  unfold t_X7_passLog
  -- the copy back
  have key4 : ∀ u : FH, u.2 = σ.2 → (∀ a i, a ≠ 89 → u.1 a i = σ.1 a i) → (∀ k, k < 13824 → u.1 89 k = nI (fb_sm (fun j => C j * rl_e (md_al A B lg) (md_st A B wt) j k nr) 13824)) → ∀ l i t, i + l = 13824 → t.2 = σ.2 → (∀ a j, ¬ (a = 88 ∧ j < i) → t.1 a j = u.1 a j) → (∀ j, j < i → t.1 88 j = u.1 89 j) → h_X7_passLog_177 E (d + 1) (nI i) t QV := by
    intro u u2 uf uv l
    induction l with
    | zero =>
      intro i t hi t2 tf tv
      refine v_X7_passLog_177 ?_
      unfold t_X7_passLog_177
      rw [show i = 13824 by omega] at *
      exact ⟨fun _ => k t t2 (fun a j h1 h2 => by rw [tf _ _ (by omega)]; exact uf a j h2) (fun k' hk' => by rw [tv k' hk']; exact uv k' hk'), fun h => absurd (by decide) h⟩
    | succ l ih =>
      intro i t hi t2 tf tv
      refine v_X7_passLog_177 ?_
      unfold t_X7_passLog_177
      rw [nI_clamp (by omega), nI_1 i]
      refine ⟨fun h => absurd h (nI_ge (b := 13824) (by omega) (by omega)), fun _ => ⟨vp_in_nI (by omega) (by decide), vp_in_nI (by omega) (by decide), ?_⟩⟩
      rintro _ rfl
      refine ih (i + 1) _ (by omega) (by rw [fsI_2]; exact t2) (fun a j h => by rw [fsI_n (by omega)]; exact tf a j (by omega)) (fun j hj => ?_)
      by_cases e : j = i
      · subst e; rw [fsI_s]; exact tf _ _ (by omega)
      · rw [fsI_j e]; exact tv j (by omega)
  -- the roads from a state
  have key3 : ∀ j, j < 13824 → (∀ t, t.2 = σ.2 → (∀ a i, a ≠ 89 → t.1 a i = σ.1 a i) → (∀ k, k < 13824 → t.1 89 k = nI (fb_sm (fun j => C j * rl_e (md_al A B lg) (md_st A B wt) j k nr) (j + 1))) → h_X7_passLog_24 E (d + 1) lg (nI (j + 1)) t QV) → ∀ l r t, r + l = nr → t.2 = σ.2 → (∀ a i, a ≠ 89 → t.1 a i = σ.1 a i) → (∀ k, k < 13824 → t.1 89 k = nI (fb_sm (fun j => C j * rl_e (md_al A B lg) (md_st A B wt) j k nr) j + C j * rl_e (md_al A B lg) (md_st A B wt) j k r)) → h_X7_passLog_33 E (d + 1) lg (nI j) (nI r) t QV := by
    intro j hj kk l
    obtain ⟨c1, c2⟩ := hC j hj
    induction l with
    | zero =>
      intro r t hr t2 tf tv
      refine v_X7_passLog_33 ?_
      unfold t_X7_passLog_33
      rw [show r = nr by omega] at *
      rw [tf 78 6 (by omega), w1, nI_1 j]
      exact ⟨fun _ => kk t t2 tf tv, fun h => absurd (nI_le (Nat.le_refl nr) (by omega)) h⟩
    | succ l ih =>
      intro r t hr t2 tf tv
      refine v_X7_passLog_33 ?_
      unfold t_X7_passLog_33
      obtain ⟨r1, r2, r3, r4, r5, r6, r7, r8⟩ := wr r (by omega)
      rw [tf 78 6 (by omega), w1, nI_clamp (by omega), tf 88 j (by omega), c2, nI_1 j, nI_1 r]
      refine ⟨fun h => absurd h (nI_ge (by omega) (by omega)), fun _ => ⟨vp_in_nI (by omega) (by decide), fun hz => ?_, fun hz => ?_⟩⟩
      · have z0 : C j = 0 := by
          rcases Nat.eq_zero_or_pos (C j) with h | h
          · exact h
          · exact absurd hz (nI_nle h c1)
        refine kk t t2 tf (fun k' hk' => ?_)
        rw [tv k' hk', fb_sm_succ, z0, Nat.zero_mul, Nat.zero_mul]
      · rw [show (2304 : Int32) = nI 2304 from rfl, pk_div (by omega) (by decide) (by decide)]
        have p6 : j / 2304 < 6 := by omega
        refine c_otherEnd (by omega) ?_
        rw [tf 81 _ (by omega), tf 81 _ (by omega), r4, r5]
        have oA : vp_in (nI (A r)) 6 := vp_in_nI r1 (by decide)
        have oB : vp_in (nI (B r)) 6 := vp_in_nI r2 (by decide)
        have et : (nI (j / 2304) = nI (A r) ∨ nI (j / 2304) = nI (B r)) ↔ (j / 2304 = A r ∨ j / 2304 = B r) := by rw [nI_eq (by omega) (by omega), nI_eq (by omega) (by omega)]
        have ne := oE_n (x := nI (j / 2304)) oA oB
        have ex : (j / 2304 = A r ∨ j / 2304 = B r) → oE (nI (A r)) (nI (B r)) (nI (j / 2304)) = nI (rl_x A B (j / 2304) r) := by
          intro h
          rw [oE_x oA oB (et.mpr h)]
          unfold rl_x
          by_cases h' : j / 2304 = A r
          · rw [if_pos h', if_pos (by rw [h'])]
          · rw [if_neg h', if_neg (fun z => h' ((nI_eq (by omega) (by omega)).mp z))]
        have skip : ¬ ((j / 2304 = A r ∨ j / 2304 = B r) ∧ (lg = -1 ∨ lg = nI (rl_x A B (j / 2304) r))) → h_X7_passLog_33 E (d + 1) lg (nI j) (nI (r + 1)) t QV := by
          intro hn
          have hf : md_al A B lg j r = false := decide_eq_false hn
          refine ih (r + 1) t (by omega) t2 tf (fun k' hk' => ?_)
          have v1 := tv k' hk'
          unfold rl_e at v1 ⊢
          rw [fb_ct_succ, hf]
          simp only [Bool.false_and, Bool.false_eq_true, if_false, Nat.add_zero]
          exact v1
        have take : (j / 2304 = A r ∨ j / 2304 = B r) ∧ (lg = -1 ∨ lg = nI (rl_x A B (j / 2304) r)) → t_X7_passLog_79 E (d + 1) lg (nI j) (nI r) (nI (rl_x A B (j / 2304) r)) t QV := by
          intro hy
          have ht : md_al A B lg j r = true := decide_eq_true hy
          have x6 : rl_x A B (j / 2304) r < 6 := rl_x6 r1 r2
          have s256 : j % 2304 / 9 < 256 := by omega
          have fin : ∀ z, z < 9 → z = (if md_c wt j r then r + 1 else j % 9) → t_X7_passLog_128 E (d + 1) lg (nI j) (nI r) (nI (rl_x A B (j / 2304) r)) (nI (j % 2304 / 9)) (nI z) t QV := by
            intro z hz9 hz
            unfold t_X7_passLog_128
            have sh : ∀ i, i < 8 → (1 : Int32) <<< (nI i &&& 31) = nI (2 ^ i) := by decide
            have or256 : j % 2304 / 9 ||| 2 ^ r < 2 ^ 8 := Nat.or_lt_two_pow s256 (Nat.pow_lt_pow_right (by decide) (by omega))
            rw [sh r (by omega), fa_or, show (9 : Int32) = nI 9 from rfl, show (2304 : Int32) = nI 2304 from rfl, pk_mul, pk_mul, nI_add, nI_add, nI_clamp (show j < 2 ^ 31 by omega), nI_1 r]
            have est : 2304 * rl_x A B (j / 2304) r + 9 * (j % 2304 / 9 ||| 2 ^ r) + z = md_st A B wt j r := by rw [hz]; rfl
            rw [est]
            have kkl : md_st A B wt j r < 13824 := by rw [← est]; omega
            generalize hk : md_st A B wt j r = kk' at *
            rw [nI_clamp (show kk' < 2 ^ 31 by omega), tf 88 j (by omega), c2, tv kk' kkl, nI_add]
            refine ⟨vp_in_nI (by omega) (by decide), vp_in_nI (by omega) (by decide), vp_in_nI (by omega) (by decide), ?_⟩
            rintro _ rfl
            refine ih (r + 1) _ (by omega) (by rw [fsI_2]; exact t2) (fun a i h => by rw [fsI_k h]; exact tf a i h) (fun k' hk' => ?_)
            have v1 := tv k' hk'
            unfold rl_e at v1 ⊢
            rw [fb_ct_succ, ht, hk]
            by_cases e : k' = kk'
            · subst e
              rw [fsI_s]
              simp only [Bool.true_and, decide_true, if_true]
              congr 1
              rw [Nat.mul_add, Nat.mul_one]
              omega
            · have e' : ¬ kk' = k' := fun z => e z.symm
              rw [fsI_j e]
              simp only [Bool.true_and, decide_eq_false e', Bool.false_eq_true, if_false, Nat.add_zero]
              exact v1
          unfold t_X7_passLog_79 t_X7_passLog_110 t_X7_passLog_111
          rw [show (2304 : Int32) = nI 2304 from rfl, pk_rem (by omega) (by decide) (by decide), show (9 : Int32) = nI 9 from rfl, pk_div (by omega) (by decide) (by decide), pk_rem (by omega) (by decide) (by decide), md_bit (by omega) (by omega), nI_1 r]
          have m9 : j % 9 < 9 := Nat.mod_lt _ (by decide)
          have no : md_c wt j r = false → t_X7_passLog_128 E (d + 1) lg (nI j) (nI r) (nI (rl_x A B (j / 2304) r)) (nI (j % 2304 / 9)) (nI (j % 9)) t QV := fun h => fin _ m9 (by rw [h]; rfl)
          by_cases hb : (j % 2304 / 9).testBit r = true
          · rw [if_pos hb]
            refine ⟨fun _ => ⟨fun _ => no (by unfold md_c; rw [hb]; simp), fun h => absurd rfl h⟩, fun h => absurd h (by decide)⟩
          · rw [if_neg hb]
            refine ⟨fun h => absurd rfl h, fun _ => c_worthOf (by omega) (by rw [tf _ _ (by omega)]; exact r7) (by rw [tf _ _ (by omega)]; exact r8) ?_⟩
            rw [tf 81 _ (by omega), tf 81 _ (by omega), r6]
            refine ⟨fun h => ⟨fun _ => no ?_, fun h => absurd rfl h⟩, fun h => ⟨fun h => absurd h (by decide), fun _ => fin _ (by omega) ?_⟩⟩
            · have : ¬ 0 < wt r := fun z => absurd h (nI_nle z (by omega))
              unfold md_c; simp [this]
            · have : 0 < wt r := by
                rcases Nat.eq_zero_or_pos (wt r) with h' | h'
                · exact absurd (by rw [h']; decide) h
                · exact h'
              have hb' : (j % 2304 / 9).testBit r = false := by
                cases h' : (j % 2304 / 9).testBit r
                · rfl
                · exact absurd h' hb
              unfold md_c
              rw [hb']
              simp [this]
        refine ⟨fun h => skip (fun z => absurd h (ne.mpr (et.mpr z.1))), fun h => ?_⟩
        have hy := et.mp (ne.mp h)
        rw [ex hy]
        exact ⟨fun h2 => take ⟨hy, Or.inl h2⟩, fun h2 => ⟨fun h3 => skip (fun z => z.2.elim h2 h3), fun h3 => take ⟨hy, Or.inr h3⟩⟩⟩
  -- the states
  have key2 : ∀ l j t, j + l = 13824 → t.2 = σ.2 → (∀ a i, a ≠ 89 → t.1 a i = σ.1 a i) → (∀ k, k < 13824 → t.1 89 k = nI (fb_sm (fun j => C j * rl_e (md_al A B lg) (md_st A B wt) j k nr) j)) → h_X7_passLog_24 E (d + 1) lg (nI j) t QV := by
    intro l
    induction l with
    | zero =>
      intro j t hj t2 tf tv
      refine v_X7_passLog_24 ?_
      unfold t_X7_passLog_24
      rw [show j = 13824 by omega] at *
      exact ⟨fun _ => key4 t t2 tf tv 13824 0 t (by omega) t2 (fun _ _ _ => rfl) (fun i h => absurd h (by omega)), fun h => absurd (by decide) h⟩
    | succ l ih =>
      intro j t hj t2 tf tv
      refine v_X7_passLog_24 ?_
      unfold t_X7_passLog_24
      refine ⟨fun h => absurd h (nI_ge (b := 13824) (by omega) (by omega)), fun _ => key3 j (by omega) (fun u u2 uf uv => ih (j + 1) u (by omega) u2 uf uv) nr 0 t (by omega) t2 tf (fun k' hk' => ?_)⟩
      show t.1 89 k' = nI (_ + C j * 0)
      rw [Nat.mul_zero, Nat.add_zero]
      exact tv k' hk'
  have key1 : ∀ l i t, i + l = 13824 → t.2 = σ.2 → (∀ a j, a ≠ 89 → t.1 a j = σ.1 a j) → (∀ j, j < i → t.1 89 j = 0) → h_X7_passLog_2 E (d + 1) lg (nI i) t QV := by
    intro l
    induction l with
    | zero =>
      intro i t hi t2 tf tv
      refine v_X7_passLog_2 ?_
      unfold t_X7_passLog_2
      rw [show i = 13824 by omega] at *
      exact ⟨fun _ => key2 13824 0 t (by omega) t2 tf (fun k' hk' => tv k' hk'), fun h => absurd (by decide) h⟩
    | succ l ih =>
      intro i t hi t2 tf tv
      refine v_X7_passLog_2 ?_
      unfold t_X7_passLog_2
      rw [nI_clamp (by omega), nI_1 i]
      refine ⟨fun h => absurd h (nI_ge (b := 13824) (by omega) (by omega)), fun _ => ⟨vp_in_nI (by omega) (by decide), ?_⟩⟩
      rintro _ rfl
      refine ih (i + 1) _ (by omega) (by rw [fsI_2]; exact t2) (fun a j h => by rw [fsI_k h]; exact tf a j h) (fun j hj => ?_)
      by_cases e : j = i
      · subst e; exact fsI_s
      · rw [fsI_j e]; exact tv j (by omega)
  exact key1 13824 0 σ (by omega) rfl (fun _ _ _ => rfl) (fun j h => absurd h (by omega))
end ML
