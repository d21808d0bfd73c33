/-! Rows: sums and the tally -/
section RC3
variable {E : am_E} {d : Nat} {σ : FH} {Q : Int32 → FH → Prop} {QV : FH → Prop} {nr : Nat} {A B wt : Nat → Nat}
theorem rc_and2 {s r : Nat} (hr : r < 8) (hs : s < 2 ^ 20) : (nI s &&& nI (rc_b wt r) = 0) ↔ ¬ (0 < wt r ∧ s.testBit (rc_k wt r) = true) := by
  have kl := rc_k_le wt r
  unfold rc_b
  by_cases h : 0 < wt r
  · rw [if_pos h, fa_bit (by omega)]
    simp [h]
  · rw [if_neg h, fa_and, Nat.and_zero]
    simp [h]
    rfl
theorem c_halvesOf {s : Nat} (hW : rc_W nr A B wt σ) (hb : ∀ r, r < nr → σ.1 73 r = nI (rc_b wt r)) (hs : s < 2 ^ 20) (k : Q (nI (rc_h wt nr s)) σ) : fMi E (d + 2) mX3_halvesOf [.ref 71, .ref 4, .int (nI s)] σ Q := by
  obtain ⟨n8, w1, wr⟩ := id hW
  refine v_X3_halvesOf (Or.inl rfl) ?_
  unfold t_X3_halvesOf
  have key : ∀ l r, r + l = nr → h_X3_halvesOf_5 E (d + 1) 4 (nI s) (nI (rc_h wt r s)) (nI r) σ Q := by
    intro l
    induction l with
    | zero =>
      intro r hr
      refine v_X3_halvesOf_5 (Or.inl rfl) ?_
      unfold t_X3_halvesOf_5
      rw [show r = nr by omega, w1]
      exact ⟨fun _ => k, fun h => absurd (nI_le (Nat.le_refl nr) (by omega)) h⟩
    | succ l ih =>
      intro r hr
      refine v_X3_halvesOf_5 (Or.inl rfl) ?_
      unfold t_X3_halvesOf_5
      obtain ⟨r1, r2, r3, r4, r5, r6⟩ := wr r (by omega)
      have ih' := ih (r + 1) (by omega)
      have e : rc_h wt (r + 1) s = rc_h wt r s + (if 0 < wt r ∧ s.testBit (rc_k wt r) = true then wt r else 0) := rfl
      rw [e] at ih'
      rw [w1, nI_clamp (by omega), hb r (by omega), rc_and2 (by omega) hs, nI_1 r]
      refine ⟨fun h => absurd h (nI_ge (by omega) (by omega)), fun _ => ⟨vp_in_nI (by omega) (by decide), fun h => ?_, fun h => ⟨vp_in_nI (by omega) (by decide), c_worth ⟨4, r, Or.inl rfl, by omega, rfl⟩ ?_⟩⟩⟩
      · rw [if_neg h, Nat.add_zero] at ih'
        exact ih'
      · rw [show 4 + 4 + r = 8 + r by omega, r6, nI_add]
        rw [if_pos (Classical.not_not.mp h)] at ih'
        exact ih'
  exact key nr 0 (by omega)
theorem rc_h60 {s : Nat} (hn : nr ≤ 8) (hw : ∀ r, r < nr → wt r ≤ 4) : rc_h wt nr s ≤ 32 := by
  have := fb_sm_bound (f := fun r => if 0 < wt r ∧ s.testBit (rc_k wt r) = true then wt r else 0) (c := 4) (n := nr) (fun k hk => by
    show (if _ then wt k else 0) ≤ 4
    split
    · exact hw k hk
    · omega)
  unfold rc_h
  omega
set_option maxHeartbeats 1000000 in
theorem c_sumUp {C lb : Nat → Nat} (hW : rc_W nr A B wt σ) (hF : iRf σ) (hb : ∀ r, r < nr → σ.1 73 r = nI (rc_b wt r)) (h8 : σ.1 71 8 = nI (2 ^ rc_k wt nr)) (hC : ∀ k, k < 2 ^ rc_k wt nr * 6 → σ.1 (σ.2.1 4) k = nI (C k) ∧ σ.1 (σ.2.1 6) k = nI (lb k)) (hl : fo lb (2 ^ rc_k wt nr * 6) < 2 ^ 31)
    (k : ∀ σ', σ'.2 = σ.2 → (∀ a i, ¬ (a = 71 ∧ i < 2) → ¬ (a = 72 ∧ i < 61) → σ'.1 a i = σ.1 a i) → σ'.1 71 0 = nI (fb_sm C (2 ^ rc_k wt nr * 6)) → (∀ h, h ≤ 60 → σ'.1 72 h = nI (fb_sm (fun j => if rc_h wt nr (j / 6) = h then C j else 0) (2 ^ rc_k wt nr * 6))) → ((∃ i, i < 8 ∧ fo lb (2 ^ rc_k wt nr * 6) = 2 ^ i ∧ σ'.1 71 1 = nI i) ∨ ((∀ i, i < 8 → fo lb (2 ^ rc_k wt nr * 6) ≠ 2 ^ i) ∧ σ'.1 71 1 = -1)) → QV σ') : fMv E (d + 3) mX3_sumUp [.ref 71, .ref 4] σ QV := by
  obtain ⟨⟨f4, f5, f6, f7⟩, q4, q5, q6, q7, n45, n67⟩ := hF.fa
  obtain ⟨n8, w1, wr⟩ := id hW
  have kl := rc_k_le wt nr
  have pw : 2 ^ rc_k wt nr ≤ 256 := Nat.le_trans (Nat.pow_le_pow_right (by decide) (show rc_k wt nr ≤ 8 by omega)) (by decide)
  have h60 : ∀ s, rc_h wt nr s ≤ 32 := fun s => rc_h60 n8 (fun r hr => (wr r hr).2.2.1)
  refine v_X3_sumUp (Or.inl rfl) ?_
  unfold t_X3_sumUp
  rintro _ rfl
  generalize hS : 2 ^ rc_k wt nr = S at *
  -- the places of a set
  have key3 : ∀ s, s < S → (∀ t, t.2 = σ.2 → (∀ a i, ¬ (a = 71 ∧ i < 2) → ¬ (a = 72 ∧ i < 61) → t.1 a i = σ.1 a i) → t.1 71 0 = nI (fb_sm C ((s + 1) * 6)) → (∀ h, h ≤ 60 → t.1 72 h = nI (fb_sm (fun j => if rc_h wt nr (j / 6) = h then C j else 0) ((s + 1) * 6))) → h_X3_sumUp_30 E (d + 2) 4 (nI (fo lb ((s + 1) * 6))) (nI (s + 1)) t QV) → ∀ l p t, p + l = 6 → t.2 = σ.2 → (∀ a i, ¬ (a = 71 ∧ i < 2) → ¬ (a = 72 ∧ i < 61) → t.1 a i = σ.1 a i) → t.1 71 0 = nI (fb_sm C (s * 6 + p)) → (∀ h, h ≤ 60 → t.1 72 h = nI (fb_sm (fun j => if rc_h wt nr (j / 6) = h then C j else 0) (s * 6 + p))) → h_X3_sumUp_49 E (d + 2) 4 (nI (fo lb (s * 6 + p))) (nI s) (nI (rc_h wt nr s)) (nI p) t QV := by
    intro s hs kk l
    induction l with
    | zero =>
      intro p t hp t2 tf t0 th
      refine v_X3_sumUp_49 (Or.inl rfl) ?_
      unfold t_X3_sumUp_49
      rw [show p = 6 by omega] at *
      rw [nI_1 s]
      rw [show s * 6 + 6 = (s + 1) * 6 by omega] at t0 th ⊢
      exact ⟨fun _ => kk t t2 tf t0 th, fun h => absurd (by decide) h⟩
    | succ l ih =>
      intro p t hp t2 tf t0 th
      refine v_X3_sumUp_49 (Or.inl rfl) ?_
      unfold t_X3_sumUp_49
      have jl : s * 6 + p < S * 6 := by omega
      obtain ⟨c2, c3⟩ := hC (s * 6 + p) jl
      have hh := h60 s
      rw [show (6 : Int32) = nI 6 from rfl, pk_mul, nI_add, nI_clamp (show s * 6 + p < 2 ^ 31 by omega), nI_1 p, t2, tf (σ.2.1 4) _ (by omega) (by omega), c2, t0, nI_add, nI_clamp (show rc_h wt nr s < 2 ^ 31 by omega)]
      refine ⟨fun h => absurd h (nI_ge (b := 6) (by omega) (by omega)), fun _ => ⟨f4, vp_in_nI (by omega) (by decide), ?_⟩⟩
      rintro _ rfl
      rw [fsI_2, t2]
      refine ⟨f6, vp_in_nI (by omega) (by decide), ?_⟩
      rintro _ rfl
      rw [fsI_k (show σ.2.1 6 ≠ 71 by omega), tf _ _ (by omega) (by omega), c3, fa_or]
      refine ⟨fun h => absurd h (nI_nlt (a := 60) (by omega) (by omega)), fun _ => ⟨vp_in_nI (by omega) (by decide), f4, vp_in_nI (by omega) (by decide), vp_in_nI (by omega) (by decide), ?_⟩⟩
      rintro _ rfl
      rw [fsI_k (show (72 : Nat) ≠ 71 by omega), fsI_k (show σ.2.1 4 ≠ 71 by omega), tf (σ.2.1 4) _ (by omega) (by omega), c2, th _ (by omega), nI_add]
      refine ih (p + 1) _ (by omega) (by rw [fsI_2, fsI_2]; exact t2) (fun a i h1 h2 => by rw [fsI_n (by omega), fsI_n (by omega)]; exact tf a i h1 h2) ?_ (fun h' hh' => ?_)
      · rw [fsI_k (by omega), fsI_s]; rfl
      · rw [show s * 6 + (p + 1) = s * 6 + p + 1 by omega, fb_sm_succ, show (s * 6 + p) / 6 = s by omega]
        by_cases e : rc_h wt nr s = h'
        · rw [if_pos e, ← e, fsI_s]
        · rw [if_neg e, Nat.add_zero, fsI_j (fun z => e z.symm), fsI_k (by omega)]
          exact th h' hh'
  have key2 : ∀ l s t, s + l = S → t.2 = σ.2 → (∀ a i, ¬ (a = 71 ∧ i < 2) → ¬ (a = 72 ∧ i < 61) → t.1 a i = σ.1 a i) → t.1 71 0 = nI (fb_sm C (s * 6)) → (∀ h, h ≤ 60 → t.1 72 h = nI (fb_sm (fun j => if rc_h wt nr (j / 6) = h then C j else 0) (s * 6))) → h_X3_sumUp_30 E (d + 2) 4 (nI (fo lb (s * 6))) (nI s) t QV := by
    intro l
    induction l with
    | zero =>
      intro s t hs t2 tf t0 th
      refine v_X3_sumUp_30 (Or.inl rfl) ?_
      unfold t_X3_sumUp_30
      rw [show s = S by omega] at *
      rw [tf 71 8 (by omega) (by omega), h8]
      refine ⟨fun _ => c_onlyRoad hl (fun i hi e => ?_) (fun e => ?_), fun h => absurd (nI_le (Nat.le_refl _) (by omega)) h⟩
      · rintro _ rfl
        exact k _ (by rw [fsI_2]; exact t2) (fun a i h1 h2 => by rw [fsI_n (by omega)]; exact tf a i h1 h2) (by rw [fsI_j (by decide)]; exact t0) (fun h hh => by rw [fsI_k (by omega)]; exact th h hh) (Or.inl ⟨i, hi, e, fsI_s⟩)
      · rintro _ rfl
        exact k _ (by rw [fsI_2]; exact t2) (fun a i h1 h2 => by rw [fsI_n (by omega)]; exact tf a i h1 h2) (by rw [fsI_j (by decide)]; exact t0) (fun h hh => by rw [fsI_k (by omega)]; exact th h hh) (Or.inr ⟨e, fsI_s⟩)
    | succ l ih =>
      intro s t hs t2 tf t0 th
      refine v_X3_sumUp_30 (Or.inl rfl) ?_
      unfold t_X3_sumUp_30
      rw [tf 71 8 (by omega) (by omega), h8]
      refine ⟨fun h => absurd h (nI_ge (by omega) (by omega)), fun _ => c_halvesOf (hW.cg (fun a i h => tf _ _ (by omega) (by omega))) (fun r hr => by rw [tf _ _ (by omega) (by omega)]; exact hb r hr) (by omega) ?_⟩
      exact key3 s (by omega) (fun u u2 uf u0 uh => ih (s + 1) u (by omega) u2 uf u0 uh) 6 0 t (by omega) t2 tf t0 th
  have key1 : ∀ l h t, h + l = 61 → t.2 = σ.2 → (∀ a i, ¬ (a = 71 ∧ i < 2) → ¬ (a = 72 ∧ i < 61) → t.1 a i = σ.1 a i) → t.1 71 0 = 0 → (∀ h', h' < h → t.1 72 h' = 0) → h_X3_sumUp_7 E (d + 2) 4 (nI h) t QV := by
    intro l
    induction l with
    | zero =>
      intro h t hh t2 tf t0 th
      refine v_X3_sumUp_7 (Or.inl rfl) ?_
      unfold t_X3_sumUp_7
      rw [show h = 61 by omega] at *
      refine ⟨fun _ => ?_, fun h => absurd (by decide) h⟩
      have := key2 S 0 t (by omega) t2 tf (by rw [t0, Nat.zero_mul]; rfl) (fun h hh => by rw [th h (by omega), Nat.zero_mul]; rfl)
      rw [Nat.zero_mul] at this
      exact this
    | succ l ih =>
      intro h t hh t2 tf t0 th
      refine v_X3_sumUp_7 (Or.inl rfl) ?_
      unfold t_X3_sumUp_7
      rw [nI_clamp (by omega), nI_1 h]
      refine ⟨fun z => absurd z (nI_nlt (a := 60) (by omega) (by omega)), fun _ => ⟨vp_in_nI (by omega) (by decide), ?_⟩⟩
      rintro _ rfl
      refine ih (h + 1) _ (by omega) (by rw [fsI_2]; exact t2) (fun a i h1 h2 => by rw [fsI_n (by omega)]; exact tf a i h1 h2) (by rw [fsI_k (by omega)]; exact t0) (fun h' hh' => ?_)
      by_cases e : h' = h
      · subst e; exact fsI_s
      · rw [fsI_j e]; exact th h' (by omega)
  exact key1 61 0 _ (by omega) rfl (fun a i h1 h2 => fsI_n (by omega)) fsI_s (fun h' hh => absurd hh (by omega))
set_option maxHeartbeats 1000000 in
theorem c_tally {nl : Nat} {lg : Nat → Int32} (hW : rc_W nr A B wt σ) (hF : iRf σ) (h9 : σ.1 71 9 = 0) (hnl : nl ≤ 7) (h4 : σ.1 4 4 = nI nl) (hlg : ∀ i, i < nl → σ.1 5 i = lg i)
    (k : ∀ σ', σ'.2.2 = σ.2.2 → iRf σ' → (∀ a i, (a < 71 ∨ 78 ≤ a) → σ'.1 a i = σ.1 a i) → σ'.1 71 9 = 1 → σ'.1 71 0 = nI (rl nr A B lg nl).length → (∀ h, h ≤ 60 → σ'.1 72 h = nI ((rl nr A B lg nl).countP (fun q => decide (rwH nr wt q = h)))) → ((∃ i, i < 8 ∧ ((rl nr A B lg nl) ≠ [] ∧ ∀ q, q ∈ rl nr A B lg nl → rwL wt q = some i) ∧ σ'.1 71 1 = nI i) ∨ ((∀ i, i < 8 → ¬ ((rl nr A B lg nl) ≠ [] ∧ ∀ q, q ∈ rl nr A B lg nl → rwL wt q = some i)) ∧ σ'.1 71 1 = -1)) → QV σ') : fMv E (d + 4) mX3_tally [.ref 71, .ref 4] σ QV := by
  obtain ⟨n8, w1, wr⟩ := id hW
  have hA : ∀ r, r < nr → A r < 6 := fun r hr => (wr r hr).1
  have hB : ∀ r, r < nr → B r < 6 := fun r hr => (wr r hr).2.1
  have kl := rc_k_le wt nr
  have pw : 2 ^ rc_k wt nr ≤ 256 := Nat.le_trans (Nat.pow_le_pow_right (by decide) (show rc_k wt nr ≤ 8 by omega)) (by decide)
  have pp : 0 < 2 ^ rc_k wt nr := Nat.two_pow_pos _
  have hlen : ∀ m, m ≤ 7 → (rl nr A B lg m).length < 2 ^ 31 := fun m hm => Nat.lt_of_le_of_lt (rl_len m) (Nat.lt_of_le_of_lt (Nat.pow_le_pow_left n8 m) (Nat.lt_of_le_of_lt (Nat.pow_le_pow_right (by decide) hm) (by decide)))
  have hFN : ∀ m q, q ∈ rl nr A B lg m → rc_F A B wt q < 2 ^ rc_k wt nr * 6 := fun m q hq => rc_F_lt (rl_p6 hA hB q (rl_lt m q hq)) (rl_lt m q hq)
  refine v_X3_tally (Or.inl rfl) ?_
  unfold t_X3_tally
  refine ⟨fun _ => c_giveBits hW (fun s s2 sf sb s8 => ?_), fun h => absurd h9 h⟩
  have hFs : iRf s := by unfold iRf; rw [s2]; exact hF
  refine c_clearThen pw s8 hFs (fun t t2 tf tz => ?_)
  have hFt : iRf t := by unfold iRf; rw [t2]; exact hFs
  obtain ⟨⟨f4, f5, f6, f7⟩, q4, q5, q6, q7, n45, n67⟩ := hFt.fa
  rw [← t2] at tf tz
  refine ⟨f5, vp_in_nI (n := 0) (by decide) (by decide), ?_⟩
  rintro _ rfl
  rw [fsI_2]
  refine ⟨f7, vp_in_nI (n := 0) (by decide) (by decide), ?_⟩
  rintro _ rfl
  refine c_swap (by unfold iRf; rw [fsI_2, fsI_2]; exact hFt) (fun u u1 uF u22 u4 u5 u6 u7 => ?_)
  rw [fsI_2, fsI_2] at u4 u5 u6 u7 u22
  have fu : ∀ a i, (a < 71 ∨ 78 ≤ a) → u.1 a i = σ.1 a i := fun a i h => by rw [u1, fsI_k (by omega), fsI_k (by omega), tf _ _ (by omega) (by omega), sf _ _ (by omega) (by omega)]
  -- the months
  have key : ∀ l m v lb, m + l = nl → v.2.2 = σ.2.2 → iRf v → (∀ a i, (a < 71 ∨ 78 ≤ a) → v.1 a i = σ.1 a i) → (∀ r, r < nr → v.1 73 r = nI (rc_b wt r)) → v.1 71 8 = nI (2 ^ rc_k wt nr) → rc_V A B wt (rl nr A B lg m) lb (2 ^ rc_k wt nr * 6) → (∀ k, k < 2 ^ rc_k wt nr * 6 → v.1 (v.2.1 4) k = nI ((rl nr A B lg m).countP (fun q => decide (rc_F A B wt q = k))) ∧ v.1 (v.2.1 6) k = nI (lb k)) → h_X3_tally_39 E (d + 3) 4 (nI m) v QV := by
    intro l
    induction l with
    | zero =>
      intro m v lb hm v22 vF vf vb v8 vV vC
      refine v_X3_tally_39 (Or.inl rfl) ?_
      unfold t_X3_tally_39
      rw [show m = nl by omega] at *
      rw [vf 4 4 (by omega), h4]
      refine ⟨fun _ => ?_, fun h => absurd (nI_le (Nat.le_refl nl) (by omega)) h⟩
      have hfo : fo lb (2 ^ rc_k wt nr * 6) < 2 ^ 31 := by
        refine Nat.lt_of_lt_of_le (Nat.lt_pow_two_of_testBit (n := 9) _ (fun i hi => ?_)) (by decide)
        cases hh : (fo lb (2 ^ rc_k wt nr * 6)).testBit i
        · rfl
        · obtain ⟨j, hj, hb⟩ := (fo_bit _).mp hh
          obtain ⟨q, hq, _, h3⟩ := (vV j i hj).mp hb
          have := rw_i_lt (wt := wt) n8 q (rl_lt nl q hq)
          omega
      refine c_sumUp (hW.cg (fun a i h => vf _ _ (by omega))) vF vb v8 vC hfo (fun x x2 xf x0 xh xl => ?_)
      rintro _ rfl
      have lst := rc_last (wt := wt) (N := 2 ^ rc_k wt nr * 6) n8 (rl_lt (A := A) (B := B) (lg := lg) nl) (hFN nl) vV rfl
      refine k _ (by rw [fsI_2, x2]; exact v22) (by unfold iRf; rw [fsI_2, x2]; exact vF) (fun a i h => by rw [fsI_n (by omega), xf _ _ (by omega) (by omega)]; exact vf a i h) fsI_s ?_ (fun h hh => ?_) ?_
      · rw [fsI_j (by decide), x0]
        have := rl_sum (P := fun _ => True) (F := rc_F A B wt) (rl nr A B lg nl) (hFN nl)
        simp only [if_true, decide_true] at this
        rw [this]
        congr 1
        exact List.countP_eq_length.mpr (fun _ _ => rfl)
      · rw [fsI_k (by omega), xh h hh]
        have := rl_sum (P := fun j => rc_h wt nr (j / 6) = h) (F := rc_F A B wt) (rl nr A B lg nl) (hFN nl)
        rw [this]
        congr 1
        refine List.countP_congr (fun q hq => ?_)
        rw [rc_F_d (rl_p6 hA hB q (rl_lt nl q hq)), rc_h_q]
      · rw [fsI_j (by decide)]
        rcases xl with ⟨i, hi, e, ei⟩ | ⟨e, ei⟩
        · exact Or.inl ⟨i, hi, (lst i hi).mp e, ei⟩
        · exact Or.inr ⟨fun i hi z => e i hi ((lst i hi).mpr z), ei⟩
    | succ l ih =>
      intro m v lb hm v22 vF vf vb v8 vV vC
      refine v_X3_tally_39 (Or.inl rfl) ?_
      unfold t_X3_tally_39
      rw [vf 4 4 (by omega), h4, nI_clamp (by omega), nI_1 m]
      refine ⟨fun h => absurd h (nI_ge (by omega) (by omega)), fun _ => c_clearThen pw v8 vF (fun x x2 xf xz => ?_)⟩
      obtain ⟨⟨g4, g5, g6, g7⟩, p4, p5, p6, p7, m45, m67⟩ := vF.fa
      refine ⟨vp_in_nI (by omega) (by decide), ?_⟩
      rw [xf 5 m (by omega) (by omega), vf 5 m (by omega), hlg m (by omega)]
      have xF : iRf x := by unfold iRf; rw [x2]; exact vF
      refine c_tMonth (C := fun k => (rl nr A B lg m).countP (fun q => decide (rc_F A B wt q = k))) (lb := lb) (lg := lg m) (hW.cg (fun a i h => by rw [xf _ _ (by omega) (by omega)]; exact vf _ _ (by omega))) xF (fun r hr => by rw [xf _ _ (by omega) (by omega)]; exact vb r hr) (by rw [xf _ _ (by omega) (by omega)]; exact v8) (fun k' hk' => ?_) (by rw [x2]; exact xz) (fun y y2 yf yv => ?_)
      · rw [x2, xf _ _ m45 (by omega), xf _ _ (by omega) m67]
        exact ⟨Nat.lt_of_le_of_lt (List.countP_le_length) (hlen m (by omega)), (vC k' hk').1, (vC k' hk').2⟩
      · have yF : iRf y := by unfold iRf; rw [y2]; exact xF
        rw [x2] at yf yv
        refine c_swap yF (fun z z1 zF z22 z4 z5 z6 z7 => ?_)
        rw [y2, x2] at z4 z5 z6 z7 z22
        have fy : ∀ a i, (a < 74 ∨ 78 ≤ a) → z.1 a i = v.1 a i := fun a i h => by rw [z1, yf _ _ (by omega) (by omega), xf _ _ (by omega) (by omega)]
        refine ih (m + 1) z _ (by omega) (z22.trans v22) zF (fun a i h => by rw [fy _ _ (by omega)]; exact vf a i h) (fun r hr => by rw [fy _ _ (by omega)]; exact vb r hr) (by rw [fy _ _ (by omega)]; exact v8) (rc_V_step (lg := lg m) hA hB (rl_lt m) vV) (fun k' hk' => ?_)
        rw [z1, z4, z6]
        obtain ⟨y1, y2'⟩ := yv k' hk'
        refine ⟨?_, y2'⟩
        rw [y1]
        congr 1
        exact (rl_cnt (ok := rl_ok A B (lg m)) (G := rl_p A B) (rl nr A B lg m) (hFN m) (fun q hq r hr => by unfold rc_al; rw [rc_F_m (rl_p6 hA hB q (rl_lt m q hq))]) (fun q hq r hr _ => rc_F_st (rl_p6 hA hB q (rl_lt m q hq)))).symm
  refine key nl 0 u (fun k => if k = 0 then 256 else 0) (by omega) (by rw [u22, t2, s2]) uF fu (fun r hr => ?_) ?_ ?_ (fun k' hk' => ?_)
  · rw [u1, fsI_k (by omega), fsI_k (by omega), tf _ _ (by omega) (by omega)]; exact sb r hr
  · rw [u1, fsI_k (by omega), fsI_k (by omega), tf _ _ (by omega) (by omega)]; exact s8
  · intro k' i hk'
    show (if k' = 0 then 256 else 0 : Nat).testBit i = true ↔ _
    constructor
    · intro h
      split at h
      · next h0 =>
        rw [show (256 : Nat) = 2 ^ 8 from rfl, Nat.testBit_two_pow] at h
        exact ⟨[], by simp [rl], by rw [h0]; rfl, of_decide_eq_true h⟩
      · rw [Nat.zero_testBit] at h
        exact absurd h (by simp)
    · rintro ⟨q, hq, h1, h2⟩
      simp only [rl, List.mem_singleton] at hq
      subst hq
      have e0 : k' = 0 := h1.symm
      have e8 : i = 8 := h2.symm
      rw [if_pos e0, e8]
      decide
  · rw [u1, u4, u6]
    have e1 : ((rl nr A B lg 0).countP (fun q => decide (rc_F A B wt q = k'))) = if k' = 0 then 1 else 0 := by
      show ([[]] : List (List Nat)).countP _ = _
      rw [List.countP_cons]
      have : rc_F A B wt [] = 0 := rfl
      rw [this]
      by_cases e : k' = 0
      · subst e; simp
      · have e' : ¬ 0 = k' := fun z => e z.symm
        simp [e, e']
    rw [e1]
    obtain ⟨z1, z2⟩ := tz k' hk'
    rw [fsI_k (show t.2.1 5 ≠ t.2.1 7 by omega)]
    by_cases e : k' = 0
    · subst e
      exact ⟨by rw [fsI_s]; rfl, by rw [fsI_s]; rfl⟩
    · rw [fsI_j e, fsI_j e, fsI_k (show t.2.1 7 ≠ t.2.1 5 by omega), if_neg e, if_neg e]
      exact ⟨z1, z2⟩
end RC3
