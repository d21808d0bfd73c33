/-! Rows: the reference's answers -/
section ML2
variable {E : am_E} {d : Nat} {σ : FH} {Q : Int32 → FH → Prop} {QV : FH → Prop} {nr : Nat} {A B wt : Nat → Nat} {nl : Nat} {lg : Nat → Int32}
theorem md_FN (h : ∀ r, r < nr → A r < 6 ∧ B r < 6) (hn : nr ≤ 8) (m : Nat) (q : List Nat) (hq : q ∈ rl nr A B lg m) : rl_p A B q < 6 ∧ (∀ r, r ∈ q → r < 8) ∧ md_F A B wt q < 13824 := by
  have h1 := rl_p6 (fun r hr => (h r hr).1) (fun r hr => (h r hr).2) q (rl_lt m q hq)
  have h2 : ∀ r, r ∈ q → r < 8 := fun r hr => Nat.lt_of_lt_of_le (rl_lt m q hq r hr) hn
  exact ⟨h1, h2, (md_F_p h1 h2).2.2.2⟩
theorem rl_len31 (hn : nr ≤ 8) {m : Nat} (hm : m ≤ 7) : (rl nr A B lg m).length < 2 ^ 31 := Nat.lt_of_le_of_lt (rl_len m) (Nat.lt_of_le_of_lt (Nat.pow_le_pow_left hn m) (Nat.lt_of_le_of_lt (Nat.pow_le_pow_right (by decide) hm) (by decide)))
theorem c_layLog (hW : md_W nr A B wt σ) (hnl : nl ≤ 7) (h20 : σ.1 78 20 = nI nl) (hlg : ∀ i, i < nl → σ.1 87 i = lg i) (k : ∀ σ', σ'.2 = σ.2 → (∀ a i, a ≠ 88 → a ≠ 89 → σ'.1 a i = σ.1 a i) → (∀ k, k < 13824 → σ'.1 88 k = nI ((rl nr A B lg nl).countP (fun q => decide (md_F A B wt q = k)))) → QV σ') : fMv E (d + 3) mX7_layLog [.ref 78] σ QV := by
  obtain ⟨n8, w1, wr⟩ := id hW
  have hAB : ∀ r, r < nr → A r < 6 ∧ B r < 6 := fun r hr => ⟨(wr r hr).1, (wr r hr).2.1⟩
  refine v_X7_layLog ?_
  unfold t_X7_layLog
  have key2 : ∀ l m t, m + l = nl → t.2 = σ.2 → (∀ a i, a ≠ 88 → a ≠ 89 → t.1 a i = σ.1 a i) → (∀ k, k < 13824 → t.1 88 k = nI ((rl nr A B lg m).countP (fun q => decide (md_F A B wt q = k)))) → h_X7_layLog_31 E (d + 2) (nI m) t QV := by
    intro l
    induction l with
    | zero =>
      intro m t hm t2 tf tv
      refine v_X7_layLog_31 ?_
      unfold t_X7_layLog_31
      rw [show m = nl by omega] at *
      rw [tf 78 20 (by omega) (by omega), h20]
      exact ⟨fun _ => k t t2 tf tv, fun h => absurd (nI_le (Nat.le_refl nl) (by omega)) h⟩
    | succ l ih =>
      intro m t hm t2 tf tv
      refine v_X7_layLog_31 ?_
      unfold t_X7_layLog_31
      rw [tf 78 20 (by omega) (by omega), h20, nI_clamp (by omega), tf 87 m (by omega) (by omega), hlg m (by omega), nI_1 m]
      refine ⟨fun h => absurd h (nI_ge (by omega) (by omega)), fun _ => ⟨vp_in_nI (by omega) (by decide), c_passLog (C := fun k => (rl nr A B lg m).countP (fun q => decide (md_F A B wt q = k))) (hW.cg (fun a i h => tf _ _ (by omega) (by omega))) (fun k' hk' => ⟨Nat.lt_of_le_of_lt List.countP_le_length (rl_len31 n8 (by omega)), tv k' hk'⟩) (fun u u2 uf uv => ?_)⟩⟩
      refine ih (m + 1) u (by omega) (u2.trans t2) (fun a i h1 h2 => by rw [uf _ _ h1 h2]; exact tf a i h1 h2) (fun k' hk' => ?_)
      rw [uv k' hk']
      congr 1
      refine (rl_cnt (ok := rl_ok A B (lg m)) (G := rl_p A B) (rl nr A B lg m) (fun q hq => (md_FN hAB n8 m q hq).2.2) (fun q hq r hr => ?_) (fun q hq r hr _ => ?_)).symm
      · unfold md_al
        rw [(md_F_p (md_FN (wt := wt) hAB n8 m q hq).1 (md_FN (wt := wt) hAB n8 m q hq).2.1).1]
      · exact md_F_st (md_FN (wt := wt) hAB n8 m q hq).1 (md_FN (wt := wt) hAB n8 m q hq).2.1
  have key1 : ∀ l i t, i + l = 13824 → t.2 = σ.2 → (∀ a j, a ≠ 88 → t.1 a j = σ.1 a j) → (∀ j, j < i → t.1 88 j = 0) → h_X7_layLog_2 E (d + 2) (nI i) t QV := by
    intro l
    induction l with
    | zero =>
      intro i t hi t2 tf tv
      refine v_X7_layLog_2 ?_
      unfold t_X7_layLog_2
      rw [show i = 13824 by omega] at *
      refine ⟨fun _ => ⟨vp_in_nI (n := 0) (by decide) (by decide), ?_⟩, fun h => absurd (by decide) h⟩
      rintro _ rfl
      refine key2 nl 0 _ (by omega) (by rw [fsI_2]; exact t2) (fun a j h1 h2 => by rw [fsI_k h1]; exact tf a j h1) (fun k' hk' => ?_)
      have e1 : ((rl nr A B lg 0).countP (fun q => decide (md_F A B wt q = k'))) = if k' = 0 then 1 else 0 := by
        show ([[]] : List (List Nat)).countP _ = _
        rw [List.countP_cons]
        have : md_F A B wt [] = 0 := rfl
        rw [this]
        by_cases e : k' = 0
        · subst e; simp
        · have e' : ¬ 0 = k' := fun z => e z.symm
          simp [e, e']
      rw [e1]
      by_cases e : k' = 0
      · subst e; rw [fsI_s]; rfl
      · rw [fsI_j e, if_neg e]; exact tv k' hk'
    | succ l ih =>
      intro i t hi t2 tf tv
      refine v_X7_layLog_2 ?_
      unfold t_X7_layLog_2
      rw [nI_clamp (by omega), nI_1 i]
      refine ⟨fun h => absurd h (nI_ge (b := 13824) (by omega) (by omega)), fun _ => ⟨vp_in_nI (by omega) (by decide), ?_⟩⟩
      rintro _ rfl
      refine ih (i + 1) _ (by omega) (by rw [fsI_2]; exact t2) (fun a j h => by rw [fsI_k h]; exact tf a j h) (fun j hj => ?_)
      by_cases e : j = i
      · subst e; exact fsI_s
      · rw [fsI_j e]; exact tv j (by omega)
  exact key1 13824 0 σ (by omega) rfl (fun _ _ _ => rfl) (fun j h => absurd h (by omega))
def md_h (wt : Nat → Nat) (s n : Nat) : Nat := fb_sm (fun r => if s.testBit r = true then wt r else 0) n
theorem md_h_q (q : List Nat) : md_h wt (md_s q) nr = rwH nr wt q := by
  unfold md_h rwH
  refine fb_sm_cong (fun r _ => ?_)
  rw [md_s_bit]
  by_cases h : r ∈ q <;> simp [h]
/-- what rowsBy adds up -/
theorem c_rowsBy8 {C : Nat → Nat} {x : Int32} (hW : md_W nr A B wt σ) (hC : ∀ k, k < 13824 → C k < 2 ^ 31 ∧ σ.1 88 k = nI (C k)) (hx : x = -1 ∨ ∃ h, h ≤ 60 ∧ x = nI h) (k : Q (nI (fb_sm (fun j => if x = -1 ∨ nI (md_h wt (j % 2304 / 9) nr) = x then C j else 0) 13824)) σ) : h_X7_rowsBy_8 E (d + 1) x 0 0 σ Q := by
  obtain ⟨n8, w1, wr⟩ := id hW
  have h32 : ∀ s n, n ≤ nr → md_h wt s n ≤ 32 := fun s n hn => by
    have := fb_sm_bound (f := fun r => if s.testBit r = true then wt r else 0) (c := 4) (n := n) (fun k hk => by
      show (if _ then wt k else 0) ≤ 4
      split
      · exact (wr k (by omega)).2.2.1
      · omega)
    unfold md_h
    omega
  have key2 : ∀ j S, j < 13824 → h_X7_rowsBy_8 E (d + 1) x (nI (S + (if x = -1 ∨ nI (md_h wt (j % 2304 / 9) nr) = x then C j else 0))) (nI (j + 1)) σ Q → ∀ l r, r + l = nr → h_X7_rowsBy_21 E (d + 1) x (nI S) (nI j) (nI (md_h wt (j % 2304 / 9) r)) (nI r) σ Q := by
    intro j S hj kk l
    obtain ⟨c1, c2⟩ := hC j hj
    have add : ∀ w, (0 < C j → w = md_h wt (j % 2304 / 9) nr) → w < 2 ^ 31 → t_X7_rowsBy_77 E (d + 1) x (nI S) (nI j) (nI w) σ Q := by
      intro w hw hw31
      unfold t_X7_rowsBy_77
      rw [nI_clamp (by omega), c2, nI_add, nI_1 j, show (0 : Int32) = nI 0 from rfl, nI_add]
      refine ⟨fun h => ⟨vp_in_nI (by omega) (by decide), ?_⟩, fun h => ⟨fun h2 => ?_, fun h2 => ⟨vp_in_nI (by omega) (by decide), ?_⟩⟩⟩
      · rintro _ rfl
        rw [if_pos (Or.inl h)] at kk
        exact kk
      · rcases Nat.eq_zero_or_pos (C j) with h0 | h0
        · rw [h0] at kk
          rw [ite_self] at kk
          exact kk
        · rw [hw h0] at h2
          rw [if_neg (fun z => z.elim h h2)] at kk
          exact kk
      · rintro _ rfl
        rcases Nat.eq_zero_or_pos (C j) with h0 | h0
        · rw [h0] at kk ⊢
          rw [ite_self] at kk
          exact kk
        · rw [hw h0] at h2
          rw [if_pos (Or.inr h2)] at kk
          exact kk
    induction l with
    | zero =>
      intro r hr
      refine v_X7_rowsBy_21 ?_
      unfold t_X7_rowsBy_21
      rw [show r = nr by omega, w1]
      exact ⟨fun _ => add _ (fun _ => rfl) (by have := h32 (j % 2304 / 9) nr (Nat.le_refl _); omega), fun h => absurd (nI_le (Nat.le_refl nr) (by omega)) h⟩
    | succ l ih =>
      intro r hr
      refine v_X7_rowsBy_21 ?_
      unfold t_X7_rowsBy_21
      obtain ⟨r1, r2, r3, r4, r5, r6, r7, r8⟩ := wr r (by omega)
      have ih' := ih (r + 1) (by omega)
      have e : md_h wt (j % 2304 / 9) (r + 1) = md_h wt (j % 2304 / 9) r + (if (j % 2304 / 9).testBit r = true then wt r else 0) := rfl
      rw [e] at ih'
      rw [w1, nI_clamp (by omega), c2, show (2304 : Int32) = nI 2304 from rfl, pk_rem (by omega) (by decide) (by decide), show (9 : Int32) = nI 9 from rfl, pk_div (by omega) (by decide) (by decide), md_bit (by omega) (by omega), nI_1 r]
      refine ⟨fun h => absurd h (nI_ge (by omega) (by omega)), fun _ => ⟨vp_in_nI (by omega) (by decide), fun hz => add _ (fun h => absurd hz (nI_nle h c1)) (by have := h32 (j % 2304 / 9) r (by omega); omega), fun hz => ⟨fun h => ?_, fun h => ?_⟩⟩⟩
      · have hb : ¬ (j % 2304 / 9).testBit r = true := fun z => h (by rw [if_pos z]; rfl)
        rw [if_neg hb] at ih'
        rw [show (0 : Int32) = nI 0 from rfl, nI_add]
        exact ih'
      · have hb : (j % 2304 / 9).testBit r = true := by
          cases h' : (j % 2304 / 9).testBit r
          · rw [h'] at h
            exact absurd h (by decide)
          · rfl
        rw [if_pos hb] at ih'
        refine c_worthOf (by omega) r7 r8 ?_
        rw [r6, nI_add]
        exact ih'
  have key1 : ∀ l j, j + l = 13824 → h_X7_rowsBy_8 E (d + 1) x (nI (fb_sm (fun j => if x = -1 ∨ nI (md_h wt (j % 2304 / 9) nr) = x then C j else 0) j)) (nI j) σ Q := by
    intro l
    induction l with
    | zero =>
      intro j hj
      refine v_X7_rowsBy_8 ?_
      unfold t_X7_rowsBy_8
      rw [show j = 13824 by omega]
      exact ⟨fun _ => k, fun h => absurd (by decide) h⟩
    | succ l ih =>
      intro j hj
      refine v_X7_rowsBy_8 ?_
      unfold t_X7_rowsBy_8
      exact ⟨fun h => absurd h (nI_ge (b := 13824) (by omega) (by omega)), fun _ => key2 j _ (by omega) (ih (j + 1) (by omega)) nr 0 (by omega)⟩
  exact key1 13824 0 (by omega)
theorem c_rowsBy {x : Int32} (hW : md_W nr A B wt σ) (hnl : nl ≤ 7) (h20 : σ.1 78 20 = nI nl) (hlg : ∀ i, i < nl → σ.1 87 i = lg i) (hx : x = -1 ∨ ∃ h, h ≤ 60 ∧ x = nI h) (k : ∀ σ', σ'.2 = σ.2 → (∀ a i, a ≠ 88 → a ≠ 89 → σ'.1 a i = σ.1 a i) → Q (if x = -1 then nI (rl nr A B lg nl).length else nI ((rl nr A B lg nl).countP (fun q => decide (nI (rwH nr wt q) = x)))) σ') : fMi E (d + 4) mX7_rowsBy [.ref 78, .int x] σ Q := by
  obtain ⟨n8, w1, wr⟩ := id hW
  have hAB : ∀ r, r < nr → A r < 6 ∧ B r < 6 := fun r hr => ⟨(wr r hr).1, (wr r hr).2.1⟩
  refine v_X7_rowsBy ?_
  unfold t_X7_rowsBy
  refine c_layLog hW hnl h20 hlg (fun s s2 sf sv => ?_)
  refine c_rowsBy8 (C := fun k => (rl nr A B lg nl).countP (fun q => decide (md_F A B wt q = k))) (hW.cg (fun a i h => sf _ _ (by omega) (by omega))) (fun k' hk' => ⟨Nat.lt_of_le_of_lt List.countP_le_length (rl_len31 n8 (by omega)), sv k' hk'⟩) hx ?_
  have := rl_sum (P := fun j => x = -1 ∨ nI (md_h wt (j % 2304 / 9) nr) = x) (F := md_F A B wt) (rl nr A B lg nl) (fun q hq => (md_FN hAB n8 nl q hq).2.2)
  rw [this]
  have kk := k s s2 sf
  by_cases h1 : x = -1
  · rw [if_pos h1] at kk
    rw [show (rl nr A B lg nl).countP (fun q => decide (x = -1 ∨ nI (md_h wt (md_F A B wt q % 2304 / 9) nr) = x)) = (rl nr A B lg nl).length from List.countP_eq_length.mpr (fun q _ => decide_eq_true (Or.inl h1))]
    exact kk
  · rw [if_neg h1] at kk
    rw [show (rl nr A B lg nl).countP (fun q => decide (x = -1 ∨ nI (md_h wt (md_F A B wt q % 2304 / 9) nr) = x)) = (rl nr A B lg nl).countP (fun q => decide (nI (rwH nr wt q) = x)) from List.countP_congr (fun q hq => by
      have f := md_FN (wt := wt) hAB n8 nl q hq
      rw [(md_F_p f.1 f.2.1).2.1, md_h_q]
      simp [h1])]
    exact kk
theorem c_lastOf (hW : md_W nr A B wt σ) (hnl : nl ≤ 7) (h20 : σ.1 78 20 = nI nl) (hlg : ∀ i, i < nl → σ.1 87 i = lg i) (k : ∀ σ' v, σ'.2 = σ.2 → (∀ a i, a ≠ 88 → a ≠ 89 → σ'.1 a i = σ.1 a i) → ((∃ i, i < 8 ∧ ((rl nr A B lg nl) ≠ [] ∧ ∀ q, q ∈ rl nr A B lg nl → rwL wt q = some i) ∧ v = nI i) ∨ ((∀ i, i < 8 → ¬ ((rl nr A B lg nl) ≠ [] ∧ ∀ q, q ∈ rl nr A B lg nl → rwL wt q = some i)) ∧ v = -1)) → Q v σ') : fMi E (d + 4) mX7_lastOf [.ref 78] σ Q := by
  obtain ⟨n8, w1, wr⟩ := id hW
  have hAB : ∀ r, r < nr → A r < 6 ∧ B r < 6 := fun r hr => ⟨(wr r hr).1, (wr r hr).2.1⟩
  refine v_X7_lastOf ?_
  unfold t_X7_lastOf
  refine c_layLog hW hnl h20 hlg (fun s s2 sf sv => ?_)
  generalize hL : rl nr A B lg nl = L at *
  have cl : ∀ k', L.countP (fun q => decide (md_F A B wt q = k')) < 2 ^ 31 := fun k' => by
    rw [← hL]
    exact Nat.lt_of_le_of_lt List.countP_le_length (rl_len31 n8 (by omega))
  have fL : ∀ q, q ∈ L → rl_p A B q < 6 ∧ (∀ r, r ∈ q → r < 8) ∧ md_F A B wt q < 13824 := fun q hq => md_FN hAB n8 nl q (by rw [hL]; exact hq)
  -- the bits
  have key1 : ∀ n, n = fo (fun j => if 0 < L.countP (fun q => decide (md_F A B wt q = j)) then 2 ^ (j % 9) else 0) 13824 → h_X7_lastOf_45 E (d + 3) (nI n) 0 s Q → h_X7_lastOf_8 E (d + 3) 0 0 s Q := by
    intro n en kk
    have key : ∀ l j, j + l = 13824 → h_X7_lastOf_8 E (d + 3) (nI (fo (fun j => if 0 < L.countP (fun q => decide (md_F A B wt q = j)) then 2 ^ (j % 9) else 0) j)) (nI j) s Q := by
      intro l
      induction l with
      | zero =>
        intro j hj
        refine v_X7_lastOf_8 ?_
        unfold t_X7_lastOf_8
        rw [show j = 13824 by omega, ← en]
        exact ⟨fun _ => kk, fun h => absurd (by decide) h⟩
      | succ l ih =>
        intro j hj
        refine v_X7_lastOf_8 ?_
        unfold t_X7_lastOf_8
        have ih' := ih (j + 1) (by omega)
        rw [fo] at ih'
        have sh : ∀ i, i < 9 → (1 : Int32) <<< (nI i &&& 31) = nI (2 ^ i) := by decide
        have m9 : j % 9 < 9 := Nat.mod_lt _ (by decide)
        rw [nI_clamp (by omega), sv j (by omega), nI_1 j, show (9 : Int32) = nI 9 from rfl, pk_rem (by omega) (by decide) (by decide), sh _ m9, fa_or, show (0 : Int32) = nI 0 from rfl, fa_or]
        refine ⟨fun h => absurd h (nI_ge (b := 13824) (by omega) (by omega)), fun _ => ⟨vp_in_nI (by omega) (by decide), fun hz => ?_, fun hz => ?_⟩⟩
        · rw [if_neg (fun z => absurd hz (nI_nle z (cl j)))] at ih'
          exact ih'
        · have : 0 < L.countP (fun q => decide (md_F A B wt q = j)) := by
            rcases Nat.eq_zero_or_pos (L.countP (fun q => decide (md_F A B wt q = j))) with h | h
            · exact absurd (by rw [h]; decide) hz
            · exact h
          rw [if_pos this] at ih'
          rintro _ rfl
          exact ih'
    exact key 13824 0 (by omega)
  refine key1 _ rfl ?_
  generalize hn : fo (fun j => if 0 < L.countP (fun q => decide (md_F A B wt q = j)) then 2 ^ (j % 9) else 0) 13824 = n
  have bit : ∀ b, n.testBit b = true ↔ ∃ q, q ∈ L ∧ md_l wt q = b := by
    intro b
    rw [← hn, fo_bit]
    constructor
    · rintro ⟨j, hj, hb⟩
      split at hb
      · next hc =>
        rw [Nat.testBit_two_pow] at hb
        obtain ⟨q, hq, hF⟩ := List.countP_pos_iff.mp hc
        have hF := of_decide_eq_true hF
        have f := fL q hq
        refine ⟨q, hq, ?_⟩
        rw [← (md_F_p (wt := wt) f.1 f.2.1).2.2.1, hF]
        exact of_decide_eq_true hb
      · rw [Nat.zero_testBit] at hb
        exact absurd hb (by simp)
    · rintro ⟨q, hq, h2⟩
      have f := fL q hq
      refine ⟨_, f.2.2, ?_⟩
      rw [if_pos (List.countP_pos_iff.mpr ⟨q, hq, decide_eq_true rfl⟩), Nat.testBit_two_pow, (md_F_p (wt := wt) f.1 f.2.1).2.2.1]
      exact decide_eq_true h2
  have n9 : n < 2 ^ 31 := by
    refine Nat.lt_of_lt_of_le (Nat.lt_pow_two_of_testBit (n := 9) _ (fun i hi => ?_)) (by decide)
    cases hh : n.testBit i
    · rfl
    · obtain ⟨q, hq, h3⟩ := (bit i).mp hh
      have := (md_l_i (wt := wt) q (fL q hq).2.1).1
      omega
  have lst : ∀ i, i < 8 → (n = 2 ^ (i + 1) ↔ (L ≠ [] ∧ ∀ q, q ∈ L → rwL wt q = some i)) := by
    intro i hi
    constructor
    · intro h2
      refine ⟨fun z => ?_, fun q hq => ?_⟩
      · obtain ⟨q, hq, _⟩ := (bit (i + 1)).mp (by rw [h2, Nat.testBit_two_pow]; exact decide_eq_true rfl)
        rw [z] at hq
        simp at hq
      · refine ((md_l_i (wt := wt) q (fL q hq).2.1).2 i hi).mp ?_
        have := (bit (md_l wt q)).mpr ⟨q, hq, rfl⟩
        rw [h2, Nat.testBit_two_pow] at this
        exact (of_decide_eq_true this).symm
    · rintro ⟨h1, h2⟩
      apply Nat.eq_of_testBit_eq
      intro b
      rw [Nat.testBit_two_pow]
      by_cases hb : i + 1 = b
      · subst hb
        rw [decide_eq_true rfl]
        obtain ⟨q, hq⟩ := List.exists_mem_of_ne_nil _ h1
        exact (bit (i + 1)).mpr ⟨q, hq, ((md_l_i (wt := wt) q (fL q hq).2.1).2 i hi).mpr (h2 q hq)⟩
      · rw [decide_eq_false hb]
        cases hh : n.testBit b
        · rfl
        · obtain ⟨q, hq, h3⟩ := (bit b).mp hh
          have := ((md_l_i (wt := wt) q (fL q hq).2.1).2 i hi).mpr (h2 q hq)
          omega
  have sh2 : ∀ i, i < 8 → (2 : Int32) <<< (nI i &&& 31) = nI (2 ^ (i + 1)) := by decide
  have p8 : ∀ i, i < 8 → 2 ^ (i + 1) < 2 ^ 31 := fun i hi => Nat.pow_lt_pow_right (by decide) (by omega)
  have key : ∀ l i, i + l = 8 → (∀ j, j < i → n ≠ 2 ^ (j + 1)) → h_X7_lastOf_45 E (d + 3) (nI n) (nI i) s Q := by
    intro l
    induction l with
    | zero =>
      intro i hi hj
      refine v_X7_lastOf_45 ?_
      unfold t_X7_lastOf_45
      rw [show i = 8 by omega] at *
      exact ⟨fun _ => k s _ s2 sf (Or.inr ⟨fun i hi z => hj i hi ((lst i hi).mpr z), rfl⟩), fun h => absurd (by decide) h⟩
    | succ l ih =>
      intro i hi hj
      refine v_X7_lastOf_45 ?_
      unfold t_X7_lastOf_45
      rw [sh2 i (by omega), nI_eq n9 (p8 i (by omega)), nI_1 i]
      refine ⟨fun h => absurd h (nI_ge (b := 8) (by omega) (by omega)), fun _ => ⟨fun h => ih (i + 1) (by omega) (fun j h' => ?_), fun h => k s _ s2 sf (Or.inl ⟨i, by omega, (lst i (by omega)).mp h, rfl⟩)⟩⟩
      by_cases e : j = i
      · subst e; exact h
      · exact hj j (by omega)
  exact key 8 0 (by omega) (fun j h => absurd h (by omega))
end ML2
