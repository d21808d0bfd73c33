/-! the page: the reference's automaton -/
def pg_d (q : Nat → Nat) (r j : Nat) : Nat := if j = 0 then pg_k (q (pg_P q r)) else q (pg_E q r + (j - 1)) - 48
def pg_M (q : Nat → Nat) (s e : Nat) (σ : FH) : Prop := σ.1 78 5 = nI s ∧ σ.1 78 3 = nI e ∧ (s = 0 → σ.1 78 4 = 0) ∧ (s = 1 → σ.1 78 4 = nI (q 0 - 48)) ∧ (2 ≤ s → σ.1 78 4 = nI ((q 0 - 48) * 10 + (q 1 - 48))) ∧ (∀ r j, r < e → j < 4 → σ.1 80 (4 * r + j) = nI (pg_d q r j)) ∧ (4 ≤ s → s ≤ 6 → σ.1 80 (4 * e) = nI (pg_d q e 0)) ∧ (s = 5 ∨ s = 6 → σ.1 80 (4 * e + 1) = nI (pg_d q e 1)) ∧ (s = 6 → σ.1 80 (4 * e + 2) = nI (pg_d q e 2))
section PGM
variable {E : am_E} {d : Nat} {σ : FH} {Q : Int32 → FH → Prop} {QV : FH → Prop}
theorem pg_vR {c a b : Nat} (hc : c < 1000) (ha : a < 100) (hb : b < 100) : (nI a ≤ nI c - 48 ∧ nI c - 48 ≤ nI b) ↔ (48 + a ≤ c ∧ c ≤ 48 + b) := by
  rw [show (48 : Int32) = nI 48 from rfl, fa_le, fa_le, pk_sub_toInt (by omega) (by omega), nI_toInt (by omega), nI_toInt (by omega)]
  omega
theorem c_inV {c a b : Nat} {A B : Int64} (hc : c < 1000) (ha : a < 100) (hb : b < 100) (hA : A = (nI a).toInt64) (hB : B = (nI b).toInt64) (k : Q (bi (48 + a ≤ c ∧ c ≤ 48 + b)) σ) : fMi E (d + 1) mX7_in [.long (nI c - 48).toInt64, .long A, .long B] σ Q := by
  refine c_in32 (nI a) (nI b) hA hB ?_
  rw [bi_iff (pg_vR hc ha hb)]
  exact k
theorem pg_48 {c : Nat} (h : 48 ≤ c) : nI c - 48 = nI (c - 48) := pk_sub h
set_option maxHeartbeats 1000000 in
theorem c_goRoad {q : Nat → Nat} {i s b e : Nat} (hs : 3 ≤ s) (hR : pg_R q i = some (s, b, e)) (M : pg_M q s e σ) (hq : ∀ j, j ≤ i → q j < 1000)
    (k1 : pg_S s (q i) b e = none → ∀ σ', σ'.2 = σ.2 → (∀ a j, a ≠ 80 → ¬ (a = 78 ∧ (j = 3 ∨ j = 4 ∨ j = 5)) → σ'.1 a j = σ.1 a j) → Q 0 σ')
    (k2 : ∀ t, pg_S s (q i) b e = some t → ∀ σ', σ'.2 = σ.2 → (∀ a j, a ≠ 80 → ¬ (a = 78 ∧ (j = 3 ∨ j = 4 ∨ j = 5)) → σ'.1 a j = σ.1 a j) → pg_M q t (if t = 7 then e + 1 else e) σ' → Q 1 σ') : fMi E (d + 2) mX7_goRoad [.ref 78, .int (nI (q i))] σ Q := by
  obtain ⟨i1, i2, i3, i4, i5, i6, i7, i8, i9, i10, i11, i12, i13, i14, i15⟩ := pg_R_I q i s b e hR
  obtain ⟨m1, m2, m3, m4, m5, m6, m7, m8, m9⟩ := M
  have qi := hq i (Nat.le_refl _)
  have need := m5 (by omega)
  have h15 := i15 hs
  refine v_X7_goRoad ?_
  unfold t_X7_goRoad
  have es : ∀ n, n < 100 → ((nI s = nI n) ↔ s = n) := fun n hn => nI_eq (by omega) (by omega)
  rw [m1, m2, show (nI s = 7) ↔ s = 7 from es 7 (by omega), show (nI s = 6) ↔ s = 6 from es 6 (by omega), show (nI s = 5) ↔ s = 5 from es 5 (by omega), show (nI s = 3) ↔ s = 3 from es 3 (by omega)]
  have e4 : (4 : Int32) * nI e = nI (4 * e) := by rw [show (4 : Int32) = nI 4 from rfl, pk_mul]
  rw [e4, show nI (4 * e) + 2 = nI (4 * e + 2) from nI_add _ 2, show nI (4 * e) + 1 = nI (4 * e + 1) from nI_add _ 1, show nI (4 * e) + 3 = nI (4 * e + 3) from nI_add _ 3, nI_clamp (by omega), nI_clamp (by omega), nI_clamp (by omega), nI_clamp (by omega)]
  -- the ends
  have end1 : ∀ u : FH, s = 4 ∨ (s = 3 ∧ pg_k (q i) = 0) → u.2 = σ.2 → (∀ a j, ¬ (a = 80 ∧ j = 4 * e) → u.1 a j = σ.1 a j) → u.1 80 (4 * e) = nI (pg_d q e 0) → t_X7_goRoad_178 E (d + 1) (nI (q i) - 48) (nI (4 * e)) u Q := by
    intro u hs4 u2 uf u0
    have e8 : e < 8 := i6 (by omega) (by omega)
    have hE : pg_E q e = i := by
      unfold pg_E
      rcases hs4 with h | ⟨h, h'⟩
      · rw [if_neg (i9 h).2]; exact (i9 h).1.symm
      · have := i8 h
        rw [← this, if_pos h']; omega
    have hS : pg_S s (q i) b e = if 48 ≤ q i ∧ q i ≤ 53 then some 5 else none := by
      unfold pg_S
      rcases hs4 with h | ⟨h, h'⟩
      · subst h; simp
      · subst h; simp [h']
    unfold t_X7_goRoad_178
    rw [show nI (4 * e) + 1 = nI (4 * e + 1) from nI_add _ 1, nI_clamp (by omega)]
    refine ⟨vp_in_nI (by omega) (by decide), ?_⟩
    rintro _ rfl _ rfl
    refine c_inV (a := 0) (b := 5) qi (by omega) (by omega) (by decide) (by decide) ⟨bi01, ?_⟩
    have wf : ∀ a j, ¬ (a = 80 ∧ (j = 4 * e ∨ j = 4 * e + 1)) → ¬ (a = 78 ∧ j = 5) → (fsI (fsI u 80 (4 * e + 1) (nI (q i) - 48)) 78 5 5).1 a j = σ.1 a j := fun a j h1 h2 => by rw [fsI_n h2, fsI_n (by omega), uf _ _ (by omega)]
    have w5 : (fsI (fsI u 80 (4 * e + 1) (nI (q i) - 48)) 78 5 5).1 78 5 = 5 := fsI_s
    have w0 : (fsI (fsI u 80 (4 * e + 1) (nI (q i) - 48)) 78 5 5).1 80 (4 * e) = nI (pg_d q e 0) := by rw [fsI_k (by decide), fsI_j (by omega)]; exact u0
    have w1 : (fsI (fsI u 80 (4 * e + 1) (nI (q i) - 48)) 78 5 5).1 80 (4 * e + 1) = nI (q i) - 48 := by rw [fsI_k (by decide)]; exact fsI_s
    have w2 : (fsI (fsI u 80 (4 * e + 1) (nI (q i) - 48)) 78 5 5).2 = σ.2 := u2
    generalize fsI (fsI u 80 (4 * e + 1) (nI (q i) - 48)) 78 5 5 = w at wf w5 w0 w1 w2
    by_cases hc : 48 ≤ q i ∧ q i ≤ 53
    · rw [if_pos hc] at hS
      rw [bi_t (by omega)]
      refine k2 5 hS w w2 (fun a j h1 h2 => wf a j (by omega) (by omega)) ?_
      rw [if_neg (by omega)]
      refine ⟨w5, by rw [wf _ _ (by omega) (by omega)]; exact m2, by omega, by omega, fun _ => by rw [wf _ _ (by omega) (by omega)]; exact need, fun r j h1 h2 => by rw [wf _ _ (by omega) (by omega)]; exact m6 r j h1 h2, fun _ _ => w0, fun _ => ?_, by omega⟩
      rw [w1, pg_48 hc.1]
      unfold pg_d
      rw [if_neg (by omega), show pg_E q e + (1 - 1) = pg_E q e by omega, hE]
    · rw [if_neg hc] at hS
      rw [bi_f (by omega)]
      exact k1 hS w w2 (fun a j h1 h2 => wf a j (by omega) (by omega))
  refine ⟨fun n7 => ⟨fun n6 => ⟨fun n5 => ⟨fun n3 => ?_, fun h3 => ?_⟩, fun h5 => ?_⟩, fun h6 => ?_⟩, fun h7 => ?_⟩
  · exact end1 σ (Or.inl (by omega)) rfl (fun _ _ _ => rfl) (m7 (by omega) (by omega))
  · have e8 : e < 8 := i6 (by omega) (by omega)
    have h8 := i8 h3
    refine c_kindBy ?_
    rw [pg_kd qi]
    refine ⟨vp_in_nI (by omega) (by decide), ?_⟩
    rintro _ rfl
    rw [fsI_s]
    have k5 := pg_k5 (q i)
    have d0 : pg_d q e 0 = pg_k (q i) := by unfold pg_d; rw [if_pos rfl, ← h8]
    refine ⟨vp_in_nI (by omega) (by decide), fun hz => ?_, fun hz => ?_⟩
    · have : pg_k (q i) = 0 := by
        have := (nI_leI (a := pg_k (q i)) (b := 0) (by omega) (by decide)).mp hz
        omega
      exact end1 _ (Or.inr ⟨h3, this⟩) rfl (fun a j h => fsI_n h) (by rw [fsI_s, d0])
    · have hk : pg_k (q i) ≠ 0 := fun z => hz (by rw [z]; decide)
      rintro _ rfl
      have hS : pg_S s (q i) b e = some 4 := by
        unfold pg_S
        subst h3
        simp [hk]
      refine k2 4 hS _ rfl (fun a j h1 h2 => by rw [fsI_n (by omega), fsI_n (by omega)]) ?_
      rw [if_neg (by omega)]
      refine ⟨fsI_s, by rw [fsI_n (by omega), fsI_n (by omega)]; exact m2, by omega, by omega, fun _ => by rw [fsI_n (by omega), fsI_n (by omega)]; exact need, fun r j h1 h2 => by rw [fsI_n (by omega), fsI_n (by omega)]; exact m6 r j h1 h2, fun _ _ => ?_, by omega, by omega⟩
      rw [fsI_k (by decide), fsI_s, d0]
  · have e8 : e < 8 := i6 (by omega) (by omega)
    have h11 := i11 h5
    have hb := i3 (by omega)
    have hbE : b = q (pg_E q e) := by rw [hb, h11]; rfl
    have h10 := i10 (Or.inl h5)
    refine ⟨vp_in_nI (by omega) (by decide), ?_⟩
    rintro _ rfl _ rfl
    refine c_inV (a := 0) (b := 5) qi (by omega) (by omega) (by decide) (by decide) ?_
    have wf : ∀ a j, ¬ (a = 80 ∧ j = 4 * e + 2) → ¬ (a = 78 ∧ j = 5) → (fsI (fsI σ 80 (4 * e + 2) (nI (q i) - 48)) 78 5 6).1 a j = σ.1 a j := fun a j h1 h2 => by rw [fsI_n h2, fsI_n (by omega)]
    have w5 : (fsI (fsI σ 80 (4 * e + 2) (nI (q i) - 48)) 78 5 6).1 78 5 = 6 := fsI_s
    have w1 : (fsI (fsI σ 80 (4 * e + 2) (nI (q i) - 48)) 78 5 6).1 80 (4 * e + 2) = nI (q i) - 48 := by rw [fsI_k (by decide)]; exact fsI_s
    have w2 : (fsI (fsI σ 80 (4 * e + 2) (nI (q i) - 48)) 78 5 6).2 = σ.2 := rfl
    generalize fsI (fsI σ 80 (4 * e + 2) (nI (q i) - 48)) 78 5 6 = w at wf w5 w1 w2
    have hS : pg_S s (q i) b e = if (48 ≤ q i ∧ q i ≤ 53) ∧ q i ≠ b then some 6 else none := by
      unfold pg_S
      subst h5; simp
    simp only [bi0, Classical.not_not]
    have r1 : w.1 80 (4 * e + 1) = nI (b - 48) := by
      rw [wf _ _ (by omega) (by omega), m8 (Or.inl h5), hbE]
      unfold pg_d
      rw [if_neg (by omega), show pg_E q e + (1 - 1) = pg_E q e by omega]
    have fw : ∀ a j, a ≠ 80 → ¬ (a = 78 ∧ (j = 3 ∨ j = 4 ∨ j = 5)) → w.1 a j = σ.1 a j := fun a j h1 h2 => wf a j (by omega) (by omega)
    refine ⟨fun hc => k1 (by rw [hS, if_neg (by omega)]) w w2 fw, fun hc => ⟨vp_in_nI (by omega) (by decide), fun hx => ?_, fun hx => ?_⟩⟩
    · rw [r1, pg_48 (by omega), nI_eq (by omega) (by omega)] at hx
      exact k1 (by rw [hS, if_neg (by omega)]) w w2 fw
    · rw [r1, pg_48 (by omega), nI_eq (by omega) (by omega)] at hx
      refine k2 6 (by rw [hS, if_pos (by omega)]) w w2 fw ?_
      rw [if_neg (by omega)]
      refine ⟨w5, by rw [wf _ _ (by omega) (by omega)]; exact m2, by omega, by omega, fun _ => by rw [wf _ _ (by omega) (by omega)]; exact need, fun r j h1 h2 => by rw [wf _ _ (by omega) (by omega)]; exact m6 r j h1 h2, fun _ _ => by rw [wf _ _ (by omega) (by omega)]; exact m7 (by omega) (by omega), fun _ => by rw [wf _ _ (by omega) (by omega)]; exact m8 (Or.inl h5), fun _ => ?_⟩
      rw [w1, pg_48 (by omega)]
      unfold pg_d
      rw [if_neg (by omega), show pg_E q e + (2 - 1) = pg_E q e + 1 by omega, ← h11]
  · have e8 : e < 8 := i6 (by omega) (by omega)
    obtain ⟨h12, h12a⟩ := i12 h6
    refine ⟨vp_in_nI (by omega) (by decide), ?_⟩
    rintro _ rfl _ rfl _ rfl
    rw [fsI_k (show (78 : Nat) ≠ 80 by decide), m2, nI_1 e]
    refine c_inV (a := 1) (b := 9) qi (by omega) (by omega) (by decide) (by decide) ⟨bi01, ?_⟩
    have wf : ∀ a j, ¬ (a = 80 ∧ j = 4 * e + 3) → ¬ (a = 78 ∧ (j = 3 ∨ j = 5)) → (fsI (fsI (fsI σ 80 (4 * e + 3) (nI (q i) - 48)) 78 3 (nI (e + 1))) 78 5 7).1 a j = σ.1 a j := fun a j h1 h2 => by rw [fsI_n (by omega), fsI_n (by omega), fsI_n (by omega)]
    have w5 : (fsI (fsI (fsI σ 80 (4 * e + 3) (nI (q i) - 48)) 78 3 (nI (e + 1))) 78 5 7).1 78 5 = 7 := fsI_s
    have w3 : (fsI (fsI (fsI σ 80 (4 * e + 3) (nI (q i) - 48)) 78 3 (nI (e + 1))) 78 5 7).1 78 3 = nI (e + 1) := by rw [fsI_j (by decide)]; exact fsI_s
    have w1 : (fsI (fsI (fsI σ 80 (4 * e + 3) (nI (q i) - 48)) 78 3 (nI (e + 1))) 78 5 7).1 80 (4 * e + 3) = nI (q i) - 48 := by rw [fsI_k (by decide), fsI_k (by decide)]; exact fsI_s
    have w2 : (fsI (fsI (fsI σ 80 (4 * e + 3) (nI (q i) - 48)) 78 3 (nI (e + 1))) 78 5 7).2 = σ.2 := rfl
    generalize fsI (fsI (fsI σ 80 (4 * e + 3) (nI (q i) - 48)) 78 3 (nI (e + 1))) 78 5 7 = w at wf w5 w3 w1 w2
    have hS : pg_S s (q i) b e = if 49 ≤ q i ∧ q i ≤ 57 then some 7 else none := by
      unfold pg_S
      subst h6; simp
    have fw : ∀ a j, a ≠ 80 → ¬ (a = 78 ∧ (j = 3 ∨ j = 4 ∨ j = 5)) → w.1 a j = σ.1 a j := fun a j h1 h2 => wf a j (by omega) (by omega)
    by_cases hc : 49 ≤ q i ∧ q i ≤ 57
    · rw [if_pos hc] at hS
      rw [bi_t (by omega)]
      refine k2 7 hS w w2 fw ?_
      rw [if_pos rfl]
      refine ⟨w5, w3, by omega, by omega, fun _ => by rw [wf _ _ (by omega) (by omega)]; exact need, fun r j h1 h2 => ?_, by omega, by omega, by omega⟩
      by_cases er : r = e
      · subst er
        rcases (show j = 0 ∨ j = 1 ∨ j = 2 ∨ j = 3 by omega) with rfl | rfl | rfl | rfl
        · rw [wf _ _ (by omega) (by omega)]; exact m7 (by omega) (by omega)
        · rw [wf _ _ (by omega) (by omega)]; exact m8 (Or.inr h6)
        · rw [wf _ _ (by omega) (by omega)]; exact m9 h6
        · rw [w1, pg_48 (by omega)]
          unfold pg_d
          rw [if_neg (by omega), show pg_E q r + (3 - 1) = pg_E q r + 2 by omega, ← h12]
      · rw [wf _ _ (by omega) (by omega)]; exact m6 r j (by omega) h2
    · rw [if_neg hc] at hS
      rw [bi_f (by omega)]
      exact k1 hS w w2 fw
  · rintro _ rfl
    have e3 : (fsI σ 78 5 3).1 78 3 = nI e := by rw [fsI_j (by decide)]; exact m2
    rw [e3]
    have hS : pg_S s (q i) b e = if q i = 44 ∧ e < 8 then some 3 else none := by
      unfold pg_S
      subst h7; simp
    have fw : ∀ a j, a ≠ 80 → ¬ (a = 78 ∧ (j = 3 ∨ j = 4 ∨ j = 5)) → (fsI σ 78 5 3).1 a j = σ.1 a j := fun a j h1 h2 => fsI_n (by omega)
    rw [show (nI (q i) = 44) ↔ q i = 44 from nI_eq (by omega) (by decide), show (8 ≤ nI e) ↔ 8 ≤ e from nI_leI (by decide) (by omega)]
    refine ⟨fun h => k1 (by rw [hS, if_neg (by omega)]) _ rfl fw, fun h => ⟨fun h' => k1 (by rw [hS, if_neg (by omega)]) _ rfl fw, fun h' => k2 3 (by rw [hS, if_pos (by omega)]) _ rfl fw ?_⟩⟩
    rw [if_neg (by omega)]
    exact ⟨fsI_s, e3, by omega, by omega, fun _ => by rw [fsI_n (by omega)]; exact need, fun r j h1 h2 => by rw [fsI_n (by omega)]; exact m6 r j h1 h2, by omega, by omega, by omega⟩
set_option maxHeartbeats 1000000 in
theorem c_goM {q : Nat → Nat} {i s b e : Nat} (hR : pg_R q i = some (s, b, e)) (M : pg_M q s e σ) (hq : ∀ j, j ≤ i → q j < 1000)
    (k1 : pg_S s (q i) b e = none → ∀ σ', σ'.2 = σ.2 → (∀ a j, a ≠ 80 → ¬ (a = 78 ∧ (j = 3 ∨ j = 4 ∨ j = 5)) → σ'.1 a j = σ.1 a j) → Q 0 σ')
    (k2 : ∀ t, pg_S s (q i) b e = some t → ∀ σ', σ'.2 = σ.2 → (∀ a j, a ≠ 80 → ¬ (a = 78 ∧ (j = 3 ∨ j = 4 ∨ j = 5)) → σ'.1 a j = σ.1 a j) → pg_M q t (if t = 7 then e + 1 else e) σ' → Q 1 σ') : fMi E (d + 3) mX7_go [.ref 78, .int (nI (q i))] σ Q := by
  obtain ⟨i1, i2, i3, i4, i5, i6, i7, i8, i9, i10, i11, i12, i13, i14, i15⟩ := pg_R_I q i s b e hR
  have M0 := M
  obtain ⟨m1, m2, m3, m4, m5, m6, m7, m8, m9⟩ := M
  have qi := hq i (Nat.le_refl _)
  refine v_X7_go ?_
  unfold t_X7_go
  rw [m1, show (nI s ≤ 2) ↔ s ≤ 2 from nI_leI (by omega) (by decide), nI_1 s]
  refine ⟨fun hs => ?_, fun hs => c_goRoad (by omega) hR M0 hq (fun h σ' h2 hf => ⟨Or.inl rfl, k1 h σ' h2 hf⟩) (fun t h σ' h2 hf hm => ⟨Or.inr rfl, k2 t h σ' h2 hf hm⟩)⟩
  obtain ⟨j1, j2⟩ := i5 hs
  subst j1 j2
  rintro _ rfl
  rw [fsI_s, show (nI (i + 1) = 3) ↔ i + 1 = 3 from nI_eq (by omega) (by decide)]
  refine ⟨fun h3 => ?_, fun h3 => ?_⟩
  · rintro _ rfl
    rw [fsI_j (show (4 : Nat) ≠ 5 by decide)]
    refine c_inV (a := 0) (b := 9) qi (by omega) (by omega) (by decide) (by decide) ?_
    simp only [bi0, Classical.not_not]
    generalize hv : 10 * σ.1 78 4 + (nI (q i) - 48) = v
    have wf : ∀ a j, a ≠ 80 → ¬ (a = 78 ∧ (j = 3 ∨ j = 4 ∨ j = 5)) → (fsI (fsI σ 78 5 (nI (i + 1))) 78 4 v).1 a j = σ.1 a j := fun a j h1 h2 => by rw [fsI_n (by omega), fsI_n (by omega)]
    have w5 : (fsI (fsI σ 78 5 (nI (i + 1))) 78 4 v).1 78 5 = nI (i + 1) := by rw [fsI_j (by decide)]; exact fsI_s
    have w3 : (fsI (fsI σ 78 5 (nI (i + 1))) 78 4 v).1 78 3 = nI 0 := by rw [fsI_j (by decide), fsI_j (by decide)]; exact m2
    have w4 : (fsI (fsI σ 78 5 (nI (i + 1))) 78 4 v).1 78 4 = v := fsI_s
    have w2 : (fsI (fsI σ 78 5 (nI (i + 1))) 78 4 v).2 = σ.2 := rfl
    generalize fsI (fsI σ 78 5 (nI (i + 1))) 78 4 v = w at wf w5 w3 w4 w2
    rw [w5, w4, show (nI (i + 1) = 1) ↔ i + 1 = 1 from nI_eq (by omega) (by decide)]
    rcases (show i = 0 ∨ i = 1 by omega) with rfl | rfl
    · have hS : pg_S 0 (q 0) b 0 = if 48 ≤ q 0 ∧ q 0 ≤ 54 then some 1 else none := by unfold pg_S; simp
      refine ⟨fun hc => k1 (by rw [hS, if_neg (by omega)]) w w2 wf, fun hc => ⟨fun h => absurd rfl h, fun _ => ?_⟩⟩
      rw [pg_48 (by omega), show (7 ≤ nI (q 0 - 48)) ↔ 7 ≤ q 0 - 48 from nI_leI (by decide) (by omega)]
      refine ⟨fun h => k1 (by rw [hS, if_neg (by omega)]) w w2 wf, fun h => k2 1 (by rw [hS, if_pos (by omega)]) w w2 wf ?_⟩
      rw [if_neg (by omega)]
      refine ⟨w5, w3, by omega, fun _ => ?_, by omega, fun r j h1 h2 => absurd h1 (by omega), by omega, by omega, by omega⟩
      rw [w4, ← hv, m3 rfl, pg_48 (by omega), Int32.mul_zero, Int32.zero_add]
    · have hb : b = q 0 := i3 (by omega)
      have h0 := i13 (by omega)
      have hS : pg_S 1 (q 1) b 0 = if (b = 48 ∧ 49 ≤ q 1 ∧ q 1 ≤ 57) ∨ (b = 54 ∧ q 1 = 48) ∨ (b ≠ 48 ∧ b ≠ 54 ∧ 48 ≤ q 1 ∧ q 1 ≤ 57) then some 2 else none := by unfold pg_S; simp
      refine ⟨fun hc => k1 (by rw [hS, if_neg (by omega)]) w w2 wf, fun hc => ⟨fun _ => ?_, fun h => absurd h (by omega)⟩⟩
      have ev : v = nI ((q 0 - 48) * 10 + (q 1 - 48)) := by
        rw [← hv, m4 rfl, pg_48 (by omega), show (10 : Int32) = nI 10 from rfl, pk_mul, nI_add, Nat.mul_comm]
      refine c_in32 1 60 (by decide) (by decide) ?_
      rw [ev, bi_iff (show (1 ≤ nI ((q 0 - 48) * 10 + (q 1 - 48)) ∧ nI ((q 0 - 48) * 10 + (q 1 - 48)) ≤ 60) ↔ (1 ≤ (q 0 - 48) * 10 + (q 1 - 48) ∧ (q 0 - 48) * 10 + (q 1 - 48) ≤ 60) from and_congr (nI_leI (a := 1) (by decide) (by omega)) (nI_leI (b := 60) (by omega) (by decide)))]
      simp only [bi0, Classical.not_not]
      refine ⟨fun h => k1 (by rw [hS, if_neg (by omega)]) w w2 wf, fun h => k2 2 (by rw [hS, if_pos (by omega)]) w w2 wf ?_⟩
      rw [if_neg (by omega)]
      exact ⟨w5, w3, by omega, by omega, fun _ => by rw [w4, ev], fun r j h1 h2 => absurd h1 (by omega), by omega, by omega, by omega⟩
  · have hi : i = 2 := by omega
    subst hi
    have hS : pg_S 2 (q 2) b 0 = if q 2 = 58 then some 3 else none := by unfold pg_S; simp
    have wf : ∀ a j, a ≠ 80 → ¬ (a = 78 ∧ (j = 3 ∨ j = 4 ∨ j = 5)) → (fsI σ 78 5 (nI (2 + 1))).1 a j = σ.1 a j := fun a j h1 h2 => by rw [fsI_n (by omega)]
    rw [show (nI (q 2) = 58) ↔ q 2 = 58 from nI_eq (by omega) (by decide)]
    refine ⟨fun h => k1 (by rw [hS, if_neg h]) _ rfl wf, fun h => k2 3 (by rw [hS, if_pos h]) _ rfl wf ?_⟩
    rw [if_neg (by omega)]
    exact ⟨fsI_s, by rw [fsI_j (by decide)]; exact m2, by omega, by omega, fun _ => by rw [fsI_j (by decide)]; exact m5 (by omega), fun r j h1 h2 => absurd h1 (by omega), by omega, by omega, by omega⟩
theorem c_faultOf {q : Nat → Nat} {n : Nat} (hn : n ≤ 44) (h1 : σ.1 78 1 = nI n) (hq : ∀ i, i < n → q i < 1000 ∧ σ.1 79 i = nI (q i)) (k : ∀ m σ', m ≤ n → σ'.2 = σ.2 → (∀ a j, a ≠ 80 → ¬ (a = 78 ∧ (j = 3 ∨ j = 4 ∨ j = 5)) → σ'.1 a j = σ.1 a j) → pg_R q m ≠ none → (m = n → ∃ s b e, pg_R q n = some (s, b, e) ∧ pg_M q s e σ') → (m < n → pg_R q (m + 1) = none) → Q (nI m) σ') : fMi E (d + 4) mX7_faultOf [.ref 78] σ Q := by
  refine v_X7_faultOf ?_
  unfold t_X7_faultOf
  rintro _ rfl _ rfl _ rfl
  have key : ∀ l i t s b e, i + l = n → t.2 = σ.2 → (∀ a j, a ≠ 80 → ¬ (a = 78 ∧ (j = 3 ∨ j = 4 ∨ j = 5)) → t.1 a j = σ.1 a j) → pg_M q s e t → pg_R q i = some (s, b, e) → h_X7_faultOf_17 E (d + 3) (nI i) t Q := by
    intro l
    induction l with
    | zero =>
      intro i t s b e hi t2 tf ts tr
      refine v_X7_faultOf_17 ?_
      unfold t_X7_faultOf_17
      rw [show i = n by omega] at *
      rw [tf 78 1 (by omega) (by omega), h1]
      exact ⟨fun _ => k n t (Nat.le_refl _) t2 tf (by rw [tr]; simp) (fun _ => ⟨s, b, e, tr, ts⟩) (fun q => absurd q (by omega)), fun q => absurd (nI_le (Nat.le_refl n) (by omega)) q⟩
    | succ l ih =>
      intro i t s b e hi t2 tf ts tr
      refine v_X7_faultOf_17 ?_
      unfold t_X7_faultOf_17
      obtain ⟨q1, q2⟩ := hq i (by omega)
      rw [tf 78 1 (by omega) (by omega), h1, nI_clamp (by omega), tf 79 i (by omega) (by omega), q2, nI_1 i]
      refine ⟨fun q => absurd q (nI_ge (by omega) (by omega)), fun _ => ⟨vp_in_nI (by omega) (by decide), c_goM tr ts (fun j hj => (hq j (by omega)).1) (fun hS u u2 uf => ⟨fun _ => k i u (by omega) (u2.trans t2) (fun a j h1 h2 => by rw [uf _ _ h1 h2, tf _ _ h1 h2]) (by rw [tr]; simp) (fun h => absurd h (by omega)) (fun _ => pg_R_stop tr hS), fun h => absurd rfl h⟩) (fun s' hS u u2 uf um => ⟨fun h => absurd h (by decide), fun _ => ih (i + 1) u s' (q i) _ (by omega) (u2.trans t2) (fun a j h1 h2 => by rw [uf _ _ h1 h2, tf _ _ h1 h2]) um (pg_R_step tr hS)⟩)⟩⟩
  refine key n 0 _ 0 0 0 (by omega) rfl (fun a j h1 h2 => by rw [fsI_n (by omega), fsI_n (by omega), fsI_n (by omega)]) ?_ rfl
  exact ⟨fsI_s, by rw [fsI_j (by decide), fsI_j (by decide)]; exact fsI_s, fun _ => by rw [fsI_j (by decide)]; exact fsI_s, by omega, by omega, fun r j h1 h2 => absurd h1 (by omega), by omega, by omega, by omega⟩
theorem pg_one {q : Nat → Nat} {n m m' : Nat} (h1 : m ≤ n) (h2 : m' ≤ n) (a1 : pg_R q m ≠ none) (a2 : m < n → pg_R q (m + 1) = none) (b1 : pg_R q m' ≠ none) (b2 : m' < n → pg_R q (m' + 1) = none) : m = m' := by
  rcases Nat.lt_trichotomy m m' with h | h | h
  · have := pg_R_none (a2 (by omega)) (m' - (m + 1))
    rw [show m + 1 + (m' - (m + 1)) = m' by omega] at this
    exact absurd this b1
  · exact h
  · have := pg_R_none (b2 (by omega)) (m - (m' + 1))
    rw [show m' + 1 + (m - (m' + 1)) = m by omega] at this
    exact absurd this a1
end PGM
