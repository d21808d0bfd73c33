/-! fault, roads -/
section PGO
variable {E : am_E} {d c : Nat} {σ : FH} {Q : Int32 → FH → Prop} {QV : FH → Prop}
theorem iPg.q (h : iPg σ) : ∃ (n : Nat) (q : Nat → Nat), n ≤ 44 ∧ σ.1 2 1 = nI n ∧ σ.1 78 1 = nI n ∧ ∀ i, i < n → q i < 1000 ∧ σ.1 3 i = nI (q i) ∧ σ.1 79 i = nI (q i) := by
  obtain ⟨n, a1, a2, a3, a4⟩ := h
  refine ⟨n, fun i => (σ.1 3 i).toNatClampNeg, a1, a2, a3, fun i hi => ?_⟩
  obtain ⟨e1, q, q1, q2, e2⟩ := a4 i hi
  have e3 : (σ.1 3 i).toNatClampNeg = q := by rw [e2, nI_clamp (by omega)]
  show (σ.1 3 i).toNatClampNeg < 1000 ∧ σ.1 3 i = nI (σ.1 3 i).toNatClampNeg ∧ σ.1 79 i = nI (σ.1 3 i).toNatClampNeg
  rw [e3, e1, e2]
  exact ⟨by omega, rfl, rfl⟩
theorem op_fault (h : inv c σ) : fMi E (d + 5) mX6_fault [.ref 1] σ (fun a σ1 => fMi E (d + 5) mX7_fault [.ref 78] σ1 (fun b σ2 => a = b ∧ inv (c + 1) σ2)) := by
  have h0 := h.up (Nat.le_succ c)
  obtain ⟨iP, iF, iN, nr, np, nl, iW, iK, iR⟩ := h0
  obtain ⟨n, q, hn, p1, p2, p3⟩ := iP.q
  refine v_X6_fault ?_
  unfold t_X6_fault
  refine c_firstWrong hn p1 (fun i hi => ⟨(p3 i hi).1, (p3 i hi).2.1⟩) (fun m s hm s2 sf r1 r2 r3 => ?_)
  refine v_X7_fault ?_
  unfold t_X7_fault
  refine c_faultOf hn (by rw [sf _ _ (by omega)]; exact p2) (fun i hi => ⟨(p3 i hi).1, by rw [sf _ _ (by omega)]; exact (p3 i hi).2.2⟩) (fun m' t hm' t2 tf u1 u2 u3 => ?_)
  refine ⟨by rw [pg_one hm hm' r1 r3 u1 u3], ?_⟩
  have fr : ∀ a i, ¬ (a = 2 ∧ i = 2) → a ≠ 80 → ¬ (a = 78 ∧ (i = 3 ∨ i = 4 ∨ i = 5)) → t.1 a i = σ.1 a i := fun a i h1 h2 h3 => by rw [tf _ _ h2 h3, sf _ _ h1]
  obtain ⟨jP, jF, jN, jK⟩ := inv_keep iP iF iN iK (σ' := t) (fun a i h => fr a i (by omega) (by omega) (by omega))
  exact ⟨jP, jF, jN, nr, np, nl, iW.cg (fun k j h1 h2 => fr _ _ (by omega) (by omega) (by omega)) (fun j _ => fr _ _ (by omega) (by omega) (by omega)) (fun j => fr _ _ (by omega) (by omega) (by omega)) (fun j => fr _ _ (by omega) (by omega) (by omega)) (fun j => fr _ _ (by omega) (by omega) (by omega)) (fun j _ => fr _ _ (by omega) (by omega) (by omega)), jK, iR.cg iW.1.1 (by rw [t2, s2]) (fun k j h1 h2 h3 => fr _ _ (by omega) (by omega) (by omega)) (fun j => fr _ _ (by omega) (by omega) (by omega)) (fun j h1 => fr _ _ (by omega) (by omega) (by omega)) (fun j => fr _ _ (by omega) (by omega) (by omega))⟩
theorem pg_P_mono (q : Nat → Nat) {r : Nat} : ∀ m, pg_P q r ≤ pg_P q (r + m)
  | 0 => Nat.le_refl _
  | m + 1 => by
    have := pg_P_mono q (r := r) m
    have h2 := pg_PE q (r + m)
    have h3 : pg_P q (r + m) ≤ pg_E q (r + m) := by unfold pg_E; omega
    rw [show r + (m + 1) = r + m + 1 by omega, h2]
    omega
theorem c_layRoads {q : Nat → Nat} {n b e : Nat} (hn : n ≤ 44) (h1 : σ.1 2 1 = nI n) (hq : ∀ i, i < n → q i < 1000 ∧ σ.1 3 i = nI (q i)) (hR : pg_R q n = some (7, b, e))
    (k : ∀ σ', σ'.2 = σ.2 → (∀ a i, ¬ (a = 4 ∧ i < 2) → ¬ (8 ≤ a ∧ a < 16 ∧ 1 ≤ i ∧ i < 6) → σ'.1 a i = σ.1 a i) → σ'.1 4 0 = nI ((q 0 - 48) * 10 + (q 1 - 48)) → σ'.1 4 1 = nI e → (∀ r j, r < e → j < 4 → σ'.1 (8 + r) (j + 1) = nI (pg_d q r j)) → (∀ r, r < e → σ'.1 (8 + r) 5 = 1) → QV σ') : fMv E (d + 2) mX0_layRoads [.ref 2, .ref 4] σ QV := by
  obtain ⟨i1, i2, i3, i4, i5, i6, i7, i8, i9, i10, i11, i12, i13, i14, i15⟩ := pg_R_I q n 7 b e hR
  obtain ⟨e0, eP⟩ := i7 rfl
  have g0 := i13 (by omega)
  have g1 := i14 (by omega)
  have g3 := i15 (by omega)
  refine v_X0_layRoads (Or.inl rfl) ?_
  unfold t_X0_layRoads
  refine ⟨vp_in_nI (n := 0) (by omega) (by decide), vp_in_nI (n := 1) (by omega) (by decide), ?_⟩
  rintro _ rfl
  have nd : (σ.1 3 0 - 48) * 10 + σ.1 3 1 - 48 = nI ((q 0 - 48) * 10 + (q 1 - 48)) := by
    rw [(hq 0 (by omega)).2, (hq 1 (by omega)).2, pg_48 g0.1, show (10 : Int32) = nI 10 from rfl, pk_mul, nI_add, pg_48 (by omega)]
    congr 1
    omega
  rw [nd]
  have key : ∀ l r s, r + l = e → s.2 = σ.2 → (∀ a i, ¬ (a = 4 ∧ i = 0) → ¬ (8 ≤ a ∧ a < 8 + r ∧ 1 ≤ i ∧ i < 6) → s.1 a i = σ.1 a i) → s.1 4 0 = nI ((q 0 - 48) * 10 + (q 1 - 48)) → (∀ r' j, r' < r → j < 4 → s.1 (8 + r') (j + 1) = nI (pg_d q r' j)) → (∀ r', r' < r → s.1 (8 + r') 5 = 1) → h_X0_layRoads_30 E (d + 1) 4 (nI (pg_P q r)) (nI r) s QV := by
    intro l
    induction l with
    | zero =>
      intro r s hr s2 sf s0 sr s5
      have hre : r = e := by omega
      subst hre
      have done : QV (fsI s 4 1 (nI r)) := k _ s2 (fun a i h1 h2 => by rw [fsI_n (by omega)]; exact sf a i (by omega) (by omega)) (by rw [fsI_j (by decide)]; exact s0) fsI_s (fun r' j h1 h2 => by rw [fsI_k (by omega)]; exact sr r' j h1 h2) (fun r' h1 => by rw [fsI_k (by omega)]; exact s5 r' h1)
      refine v_X0_layRoads_30 (Or.inl rfl) ?_
      unfold t_X0_layRoads_30
      rw [sf 2 1 (by omega) (by omega), h1]
      refine ⟨fun _ => ?_, fun _ => ⟨fun _ => ?_, fun h => absurd (nI_le (by omega) (by omega)) h⟩⟩
      · rintro _ rfl; exact done
      · rintro _ rfl; exact done
    | succ l ih =>
      intro r s hr s2 sf s0 sr s5
      have m1 := pg_P_mono q (r := r + 1) (e - (r + 1))
      rw [show r + 1 + (e - (r + 1)) = e by omega] at m1
      have m2 := pg_PE q r
      have m3 : pg_P q r ≤ pg_E q r := by unfold pg_E; omega
      have m4 := i4 r (by omega)
      refine v_X0_layRoads_30 (Or.inl rfl) ?_
      unfold t_X0_layRoads_30
      obtain ⟨c1, c2⟩ := hq (pg_P q r) (by omega)
      rw [sf 2 1 (by omega) (by omega), h1, nI_clamp (by omega), sf 3 _ (by omega) (by omega), c2]
      refine ⟨fun h => absurd h (nI_ge (b := 8) (by omega) (by omega)), fun _ => ⟨fun h => absurd h (nI_ge (by omega) (by omega)), fun _ => ⟨vp_in_nI (by omega) (by decide), c_kindOf ?_⟩⟩⟩
      rw [pg_kd c1, nI_z (by have := pg_k5 (q (pg_P q r)); omega)]
      have lay : t_X0_layRoads_67 E (d + 1) 4 (nI r) (nI (pg_k (q (pg_P q r)))) (nI (pg_E q r)) s QV := by
        unfold t_X0_layRoads_67
        obtain ⟨c3, c4⟩ := hq (pg_E q r) (by omega)
        obtain ⟨c5, c6⟩ := hq (pg_E q r + 1) (by omega)
        obtain ⟨c7, c8⟩ := hq (pg_E q r + 2) (by omega)
        rw [show nI (pg_E q r) + 2 = nI (pg_E q r + 2) from nI_add _ 2, show nI (pg_E q r) + 1 = nI (pg_E q r + 1) from nI_add _ 1, show nI (pg_E q r) + 4 = nI (pg_E q r + 4) from nI_add _ 4, nI_clamp (by omega), nI_clamp (by omega), nI_clamp (by omega), nI_clamp (by omega), nI_1 r, sf 3 _ (by omega) (by omega), sf 3 _ (by omega) (by omega), sf 3 _ (by omega) (by omega), c4, c6, c8]
        obtain ⟨f1, f2, f3, f4, f5⟩ := m4
        rw [pg_48 f1.1, pg_48 f2.1, pg_48 (by omega)]
        refine ⟨fun h => absurd h (nI_ge (b := 44) (by omega) (by omega)), fun _ => ⟨vp_in_nI (by omega) (by decide), vp_in_nI (by omega) (by decide), vp_in_nI (by omega) (by decide), vp_in_nI (by omega) (by decide), c_lay ⟨4, r, Or.inl rfl, by omega, rfl⟩ ?_⟩⟩
        have := ih (r + 1)
        rw [pg_PE] at this
        refine this _ (by omega) s2 (fun a i h1 h2 => by (repeat rw [fsI_n (by omega)]); exact sf a i h1 (by omega)) (by (repeat rw [fsI_k (by omega)]); exact s0) (fun r' j h1 h2 => ?_) (fun r' h1 => ?_)
        · by_cases er : r' = r
          · subst er
            have d0 : pg_d q r' 0 = pg_k (q (pg_P q r')) := rfl
            have d1 : pg_d q r' 1 = q (pg_E q r') - 48 := rfl
            have d2 : pg_d q r' 2 = q (pg_E q r' + 1) - 48 := rfl
            have d3 : pg_d q r' 3 = q (pg_E q r' + 2) - 48 := rfl
            rcases (show j = 0 ∨ j = 1 ∨ j = 2 ∨ j = 3 by omega) with rfl | rfl | rfl | rfl
            · rw [d0]; simp [fsI_at]
            · rw [d1]; simp [fsI_at]
            · rw [d2]; simp [fsI_at]
            · rw [d3]; simp [fsI_at]
          · repeat rw [fsI_k (by omega)]
            exact sr r' j (by omega) h2
        · by_cases er : r' = r
          · subst er; exact fsI_s
          · repeat rw [fsI_k (by omega)]
            exact s5 r' (by omega)
      refine ⟨fun hk => ?_, fun hk => ?_⟩
      · have : pg_E q r = pg_P q r + 1 := by unfold pg_E; rw [if_neg hk]
        rw [nI_1, ← this]
        exact lay
      · have : pg_E q r = pg_P q r := by unfold pg_E; rw [if_pos hk]; rfl
        rw [this] at lay
        exact lay
  exact key e 0 _ (by omega) rfl (fun a i h1 h2 => fsI_n h1) fsI_s (fun r' j h => absurd h (by omega)) (fun r' h => absurd h (by omega))
theorem c_mRoads {q : Nat → Nat} {e : Nat} (he : e ≤ 8) (h3 : σ.1 78 3 = nI e) (hr : ∀ r j, r < e → j < 4 → σ.1 80 (4 * r + j) = nI (pg_d q r j))
    (k : ∀ σ', σ'.2 = σ.2 → (∀ a i, ¬ (a = 81 ∧ i < 40) → ¬ (a = 78 ∧ (i = 1 ∨ i = 6 ∨ i = 7 ∨ i = 8 ∨ i = 9 ∨ i = 11 ∨ i = 20)) → σ'.1 a i = σ.1 a i) → (∀ r j, r < e → j < 4 → σ'.1 81 (5 * r + j) = nI (pg_d q r j)) → (∀ r, r < e → σ'.1 81 (5 * r + 4) = 1) → σ'.1 78 1 = 0 → σ'.1 78 6 = nI e → σ'.1 78 7 = σ.1 78 4 → σ'.1 78 8 = σ.1 78 8 + 1 → σ'.1 78 9 = 0 → σ'.1 78 11 = 0 → σ'.1 78 20 = 0 → Q (nI e) σ') : h_X7_roads_25 E d 0 σ Q := by
  have key2 : ∀ r, r < e → ∀ t : FH, (t.2 = σ.2 → (∀ a i, ¬ (a = 81 ∧ i < 5 * r) → t.1 a i = σ.1 a i) → (∀ s, s.2 = t.2 → (∀ a i, ¬ (a = 81 ∧ 5 * r ≤ i ∧ i < 5 * r + 5) → s.1 a i = t.1 a i) → (∀ j, j < 4 → s.1 81 (5 * r + j) = nI (pg_d q r j)) → s.1 81 (5 * r + 4) = 1 → h_X7_roads_25 E d (nI (r + 1)) s Q) → ∀ l j s, j + l = 4 → s.2 = t.2 → (∀ a i, ¬ (a = 81 ∧ 5 * r ≤ i ∧ i < 5 * r + j) → s.1 a i = t.1 a i) → (∀ j', j' < j → s.1 81 (5 * r + j') = nI (pg_d q r j')) → h_X7_roads_35 E d (nI r) (nI j) s Q) := by
    intro r hre t t2 tf kk l
    induction l with
    | zero =>
      intro j s hj s2 sf sv
      refine v_X7_roads_35 ?_
      unfold t_X7_roads_35
      rw [show j = 4 by omega] at *
      rw [n5_4, nI_clamp (by omega), nI_1 r]
      refine ⟨fun _ => ⟨vp_in_nI (by omega) (by decide), ?_⟩, fun h => absurd (by decide) h⟩
      rintro _ rfl
      exact kk _ s2 (fun a i h => by rw [fsI_n (by omega)]; exact sf a i (by omega)) (fun j' h => by rw [fsI_n (by omega)]; exact sv j' h) fsI_s
    | succ l ih =>
      intro j s hj s2 sf sv
      refine v_X7_roads_35 ?_
      unfold t_X7_roads_35
      have e4 : (4 : Int32) * nI r + nI j = nI (4 * r + j) := by rw [show (4 : Int32) = nI 4 from rfl, pk_mul, nI_add]
      rw [n5, e4, nI_clamp (by omega), nI_clamp (by omega), nI_1 j]
      refine ⟨fun h => absurd h (nI_ge (b := 4) (by omega) (by omega)), fun _ => ⟨vp_in_nI (by omega) (by decide), vp_in_nI (by omega) (by decide), ?_⟩⟩
      rintro _ rfl
      refine ih (j + 1) _ (by omega) s2 (fun a i h => by rw [fsI_n (by omega)]; exact sf a i (by omega)) (fun j' h => ?_)
      by_cases ej : j' = j
      · subst ej
        rw [fsI_s, sf _ _ (by omega), tf _ _ (by omega)]
        exact hr r j' hre (by omega)
      · rw [fsI_n (by omega)]; exact sv j' (by omega)
  have key1 : ∀ l r s, r + l = e → s.2 = σ.2 → (∀ a i, ¬ (a = 81 ∧ i < 5 * r) → s.1 a i = σ.1 a i) → (∀ r' j, r' < r → j < 4 → s.1 81 (5 * r' + j) = nI (pg_d q r' j)) → (∀ r', r' < r → s.1 81 (5 * r' + 4) = 1) → h_X7_roads_25 E d (nI r) s Q := by
    intro l
    induction l with
    | zero =>
      intro r s hr' s2 sf sv s4
      refine v_X7_roads_25 ?_
      unfold t_X7_roads_25
      rw [show r = e by omega] at *
      rw [sf 78 3 (by omega), h3]
      refine ⟨fun _ => ?_, fun h => absurd (nI_le (Nat.le_refl e) (by omega)) h⟩
      rintro _ rfl _ rfl _ rfl _ rfl _ rfl _ rfl _ rfl
      have z6 : ∀ x, (fsI x 78 1 0).1 78 6 = x.1 78 6 := fun x => fsI_j (by decide)
      have e64 : (fsI s 78 6 (nI e)).1 78 4 = σ.1 78 4 := by rw [fsI_j (by decide)]; exact sf _ _ (by omega)
      have e8 : (fsI (fsI (fsI (fsI (fsI s 78 6 (nI e)) 78 7 (σ.1 78 4)) 78 11 0) 78 9 0) 78 20 0).1 78 8 = σ.1 78 8 := by (repeat rw [fsI_j (by decide)]); exact sf _ _ (by omega)
      rw [e64, e8]
      have zf : ∀ a i, ¬ (a = 78 ∧ (i = 1 ∨ i = 6 ∨ i = 7 ∨ i = 8 ∨ i = 9 ∨ i = 11 ∨ i = 20)) → (fsI (fsI (fsI (fsI (fsI (fsI (fsI s 78 6 (nI e)) 78 7 (σ.1 78 4)) 78 11 0) 78 9 0) 78 20 0) 78 8 (σ.1 78 8 + 1)) 78 1 0).1 a i = s.1 a i := fun a i h => by repeat rw [fsI_n (by omega)]
      have v6 : (fsI (fsI (fsI (fsI (fsI (fsI (fsI s 78 6 (nI e)) 78 7 (σ.1 78 4)) 78 11 0) 78 9 0) 78 20 0) 78 8 (σ.1 78 8 + 1)) 78 1 0).1 78 6 = nI e := by simp [fsI_at]
      rw [v6]
      refine k _ s2 (fun a i h1 h2 => by rw [zf _ _ h2]; exact sf a i (by omega)) (fun r' j h1 h2 => by rw [zf _ _ (by omega)]; exact sv r' j h1 h2) (fun r' h1 => by rw [zf _ _ (by omega)]; exact s4 r' h1) ?_ v6 ?_ ?_ ?_ ?_ ?_
      · exact fsI_s
      · simp [fsI_at]
      · simp [fsI_at]
      · simp [fsI_at]
      · simp [fsI_at]
      · simp [fsI_at]
    | succ l ih =>
      intro r s hr' s2 sf sv s4
      refine v_X7_roads_25 ?_
      unfold t_X7_roads_25
      rw [sf 78 3 (by omega), h3]
      refine ⟨fun h => absurd h (nI_ge (by omega) (by omega)), fun _ => ?_⟩
      refine key2 r (by omega) s s2 sf (fun t t2 tf tv t4 => ih (r + 1) t (by omega) (t2.trans s2) (fun a i h => by rw [tf _ _ (by omega)]; exact sf a i (by omega)) (fun r' j h1 h2 => ?_) (fun r' h1 => ?_)) 4 0 s (by omega) rfl (fun _ _ _ => rfl) (fun j h => absurd h (by omega))
      · by_cases er : r' = r
        · subst er; exact tv j h2
        · rw [tf _ _ (by omega)]; exact sv r' j (by omega) h2
      · by_cases er : r' = r
        · subst er; exact t4
        · rw [tf _ _ (by omega)]; exact s4 r' (by omega)
  exact key1 e 0 σ (by omega) rfl (fun _ _ _ => rfl) (fun r' j h => absurd h (by omega)) (fun r' h => absurd h (by omega))
set_option maxHeartbeats 1000000 in
theorem op_roads (h : inv c σ) : fMi E (d + 6) mX6_roads [.ref 1] σ (fun a σ1 => fMi E (d + 6) mX7_roads [.ref 78] σ1 (fun b σ2 => a = b ∧ inv (c + 1) σ2)) := by
  have h0 := h.up (Nat.le_succ c)
  obtain ⟨iP, iF, iN, nr, np, nl, iW, iK, iR⟩ := h
  obtain ⟨n, q, hn, p1, p2, p3⟩ := iP.q
  obtain ⟨w0, w1, b4, b5, b6, b7, b8⟩ := id iW
  refine v_X6_roads ?_
  unfold t_X6_roads
  refine v_X0_isWhole ?_
  unfold t_X0_isWhole
  refine c_firstWrong hn p1 (fun i hi => ⟨(p3 i hi).1, (p3 i hi).2.1⟩) (fun m s hm s2 sf r1 r2 r3 => ?_)
  have s21 : s.1 2 1 = nI n := by rw [sf _ _ (by omega)]; exact p1
  -- the reference, where the page is not whole
  have no : ¬ (m = n ∧ s.1 2 2 = 7) → fMi E (d + 6) mX7_roads [.ref 78] s (fun b σ2 => -103 = b ∧ inv (c + 1) σ2) := by
    intro hno
    refine v_X7_roads ?_
    unfold t_X7_roads
    refine c_faultOf hn (by rw [sf _ _ (by omega)]; exact p2) (fun i hi => ⟨(p3 i hi).1, by rw [sf _ _ (by omega)]; exact (p3 i hi).2.2⟩) (fun m' t hm' t2 tf u1 u2 u3 => ?_)
    have em := pg_one hm hm' r1 r3 u1 u3
    subst em
    have fr : ∀ a i, ¬ (a = 2 ∧ i = 2) → a ≠ 80 → ¬ (a = 78 ∧ (i = 3 ∨ i = 4 ∨ i = 5)) → t.1 a i = σ.1 a i := fun a i h1 h2 h3 => by rw [tf _ _ h2 h3, sf _ _ h1]
    have fin : inv (c + 1) t := by
      obtain ⟨jP, jF, jN, jK⟩ := inv_keep iP iF iN (iK.up (Nat.le_succ c)) (σ' := t) (fun a i h => fr a i (by omega) (by omega) (by omega))
      exact ⟨jP, jF, jN, nr, np, nl, (iW.up (Nat.le_succ c)).cg (fun k j h1 h2 => fr _ _ (by omega) (by omega) (by omega)) (fun j _ => fr _ _ (by omega) (by omega) (by omega)) (fun j => fr _ _ (by omega) (by omega) (by omega)) (fun j => fr _ _ (by omega) (by omega) (by omega)) (fun j => fr _ _ (by omega) (by omega) (by omega)) (fun j _ => fr _ _ (by omega) (by omega) (by omega)), jK, iR.cg iW.1.1 (by rw [t2, s2]) (fun k j h1 h2 h3 => fr _ _ (by omega) (by omega) (by omega)) (fun j => fr _ _ (by omega) (by omega) (by omega)) (fun j h1 => fr _ _ (by omega) (by omega) (by omega)) (fun j => fr _ _ (by omega) (by omega) (by omega))⟩
    rw [fr 78 1 (by omega) (by omega) (by omega), p2]
    refine ⟨fun _ => ⟨rfl, fin⟩, fun hlt => ⟨fun h7 => ?_, fun _ => ⟨rfl, fin⟩⟩⟩
    have emn : m = n := by
      rcases Nat.lt_or_ge m n with h | h
      · exact absurd (nI_lt h (by omega)) hlt
      · omega
    obtain ⟨s1, b1, e1, R1, S1⟩ := r2 emn
    obtain ⟨s3, b3, e3, R3, S3⟩ := u2 emn
    rw [R1] at R3
    injection R3 with R3
    injection R3 with R3 _
    subst R3
    refine absurd ⟨emn, ?_⟩ hno
    rw [S1, ← S3.1]
    exact h7
  refine ⟨fun hne => ⟨fun h => absurd rfl h, fun _ => no (fun z => hne (by rw [s21, z.1]))⟩, fun heq => ?_⟩
  have emn : m = n := by
    rw [s21] at heq
    exact (nI_eq (by omega) (by omega)).mp heq
  refine ⟨fun hs7 => ⟨fun h => absurd rfl h, fun _ => no (fun z => hs7 z.2)⟩, fun hs7 => ⟨fun _ => ?_, fun h => absurd h (by decide)⟩⟩
  obtain ⟨s1, b1, e, R1, S1⟩ := r2 emn
  have es : s1 = 7 := by
    have := (pg_R_I q n s1 b1 e R1).1
    rw [S1] at hs7
    exact (nI_eq (b := 7) (by omega) (by decide)).mp hs7
  subst es
  obtain ⟨i1, i2, i3, i4, i5, i6, i7, i8, i9, i10, i11, i12, i13, i14, i15⟩ := pg_R_I q n 7 b1 e R1
  have g1 := i14 (by omega)
  refine v_X5_startAnew (Or.inl rfl) ?_
  unfold t_X5_startAnew
  rintro _ rfl _ rfl _ rfl
  have tf : ∀ a i, ¬ (a = 2 ∧ i = 2) → ¬ (a = 4 ∧ (i = 2 ∨ i = 3 ∨ i = 4)) → (fsI (fsI (fsI s 4 2 0) 4 3 0) 4 4 0).1 a i = σ.1 a i := fun a i h1 h2 => by (repeat rw [fsI_n (by omega)]); exact sf a i h1
  have t42 : (fsI (fsI (fsI s 4 2 0) 4 3 0) 4 4 0).1 4 2 = 0 := by simp [fsI_at]
  have t43 : (fsI (fsI (fsI s 4 2 0) 4 3 0) 4 4 0).1 4 3 = 0 := by simp [fsI_at]
  have t44 : (fsI (fsI (fsI s 4 2 0) 4 3 0) 4 4 0).1 4 4 = 0 := by simp [fsI_at]
  have t2 : (fsI (fsI (fsI s 4 2 0) 4 3 0) 4 4 0).2 = σ.2 := s2
  generalize fsI (fsI (fsI s 4 2 0) 4 3 0) 4 4 0 = t at tf t42 t43 t44 t2
  refine c_layRoads hn (by rw [tf _ _ (by omega) (by omega)]; exact p1) (fun i hi => ⟨(p3 i hi).1, by rw [tf _ _ (by omega) (by omega)]; exact (p3 i hi).2.1⟩) R1 (fun u u2 uf u0 u1 ur u5 => ?_)
  rintro _ rfl _ rfl _ rfl
  refine c_outdate ?_
  have k17 : (fsI (fsI u 2 1 0) 1 6 0).1 1 7 = σ.1 1 7 := by rw [fsI_n (by omega), fsI_n (by omega), uf _ _ (by omega) (by omega), tf _ _ (by omega) (by omega)]
  rw [k17]
  have vf : ∀ a i, ¬ (a = 2 ∧ i = 1) → ¬ (a = 1 ∧ (i = 6 ∨ i = 7)) → ¬ (a = 71 ∧ i = 9) → (fsI (fsI (fsI (fsI u 2 1 0) 1 6 0) 1 7 (σ.1 1 7 + 1)) 71 9 0).1 a i = u.1 a i := fun a i h1 h2 h3 => by repeat rw [fsI_n (by omega)]
  have v21 : (fsI (fsI (fsI (fsI u 2 1 0) 1 6 0) 1 7 (σ.1 1 7 + 1)) 71 9 0).1 2 1 = 0 := by simp [fsI_at]
  have v16 : (fsI (fsI (fsI (fsI u 2 1 0) 1 6 0) 1 7 (σ.1 1 7 + 1)) 71 9 0).1 1 6 = 0 := by simp [fsI_at]
  have v17 : (fsI (fsI (fsI (fsI u 2 1 0) 1 6 0) 1 7 (σ.1 1 7 + 1)) 71 9 0).1 1 7 = σ.1 1 7 + 1 := by simp [fsI_at]
  have v71 : (fsI (fsI (fsI (fsI u 2 1 0) 1 6 0) 1 7 (σ.1 1 7 + 1)) 71 9 0).1 71 9 = 0 := fsI_s
  have v2 : (fsI (fsI (fsI (fsI u 2 1 0) 1 6 0) 1 7 (σ.1 1 7 + 1)) 71 9 0).2 = σ.2 := by rw [fsI_2, fsI_2, fsI_2, fsI_2, u2, t2]
  generalize fsI (fsI (fsI (fsI u 2 1 0) 1 6 0) 1 7 (σ.1 1 7 + 1)) 71 9 0 = v at vf v21 v16 v17 v71 v2
  have fv : ∀ a i, ¬ (a = 2 ∧ (i = 1 ∨ i = 2)) → ¬ (a = 1 ∧ (i = 6 ∨ i = 7)) → ¬ (a = 71 ∧ i = 9) → ¬ (a = 4 ∧ i < 5) → ¬ (8 ≤ a ∧ a < 16 ∧ 1 ≤ i ∧ i < 6) → v.1 a i = σ.1 a i := fun a i h1 h2 h3 h4 h5 => by rw [vf _ _ (by omega) h2 h3, uf _ _ (by omega) h5, tf _ _ (by omega) (by omega)]
  have v41 : v.1 4 1 = nI e := by rw [vf _ _ (by omega) (by omega) (by omega)]; exact u1
  rw [v41]
  refine v_X7_roads ?_
  unfold t_X7_roads
  refine c_faultOf hn (by rw [fv _ _ (by omega) (by omega) (by omega) (by omega) (by omega)]; exact p2) (fun i hi => ⟨(p3 i hi).1, by rw [fv _ _ (by omega) (by omega) (by omega) (by omega) (by omega)]; exact (p3 i hi).2.2⟩) (fun m' x hm' x2 xf y1 y2 y3 => ?_)
  have em' : m' = n := by rw [← pg_one hm hm' r1 r3 y1 y3]; exact emn
  obtain ⟨s3, b3, e3, R3, M3⟩ := y2 em'
  rw [R1] at R3
  injection R3 with R3
  injection R3 with R3 R4
  injection R4 with R4 R5
  subst R3 R4 R5
  obtain ⟨m1, m2, m3, m4, m5, m6, m7, m8, m9⟩ := M3
  rw [xf 78 1 (by omega) (by omega), fv 78 1 (by omega) (by omega) (by omega) (by omega) (by omega), p2, em']
  refine ⟨fun h => absurd h (nI_nlt (Nat.le_refl n) (by omega)), fun _ => ⟨fun _ => ?_, fun h => absurd m1 h⟩⟩
  refine c_mRoads i2 m2 m6 (fun z z2 zf zr z4 z1 z6 z7 z8 z9 z11 z20 => ⟨rfl, ?_⟩)
  have fz : ∀ a i, ¬ (a = 2 ∧ (i = 1 ∨ i = 2)) → ¬ (a = 1 ∧ (i = 6 ∨ i = 7)) → ¬ (a = 71 ∧ i = 9) → ¬ (a = 4 ∧ i < 5) → ¬ (8 ≤ a ∧ a < 16 ∧ 1 ≤ i ∧ i < 6) → a ≠ 80 → ¬ (a = 81 ∧ i < 40) → ¬ (a = 78 ∧ (i = 3 ∨ i = 4 ∨ i = 5)) → ¬ (a = 78 ∧ (i = 1 ∨ i = 6 ∨ i = 7 ∨ i = 8 ∨ i = 9 ∨ i = 11 ∨ i = 20)) → z.1 a i = σ.1 a i := fun a i h1 h2 h3 h4 h5 h6 h7 h8 h9 => by rw [zf _ _ h7 h9, xf _ _ h6 h8, fv _ _ h1 h2 h3 h4 h5]
  have zv : ∀ a i, a < 78 → z.1 a i = v.1 a i := fun a i h => by rw [zf _ _ (by omega) (by omega), xf _ _ (by omega) (by omega)]
  have zu : ∀ a i, 4 ≤ a → a < 24 → z.1 a i = u.1 a i := fun a i h1 h2 => by rw [zv _ _ (by omega), vf _ _ (by omega) (by omega) (by omega)]
  have z40 : z.1 4 0 = nI ((q 0 - 48) * 10 + (q 1 - 48)) := by rw [zu _ _ (by omega) (by omega)]; exact u0
  have z42 : z.1 4 2 = 0 := by rw [zu _ _ (by omega) (by omega), uf _ _ (by omega) (by omega)]; exact t42
  have z43 : z.1 4 3 = 0 := by rw [zu _ _ (by omega) (by omega), uf _ _ (by omega) (by omega)]; exact t43
  have z44 : z.1 4 4 = 0 := by rw [zu _ _ (by omega) (by omega), uf _ _ (by omega) (by omega)]; exact t44
  have cr : ∀ r j, r < e → j < 4 → z.1 (8 + r) (j + 1) = nI (pg_d q r j) := fun r j h1 h2 => by rw [zu _ _ (by omega) (by omega)]; exact ur r j h1 h2
  have c5 : ∀ r, r < e → z.1 (8 + r) 5 = 1 := fun r h1 => by rw [zu _ _ (by omega) (by omega)]; exact u5 r h1
  obtain ⟨nk, k1, k2, k3, k4⟩ := iK
  refine ⟨⟨0, by omega, by rw [zv _ _ (by omega)]; exact v21, z1, fun i hi => absurd hi (by omega)⟩, iF.cg (fz _ _ (by omega) (by omega) (by omega) (by omega) (by omega) (by omega) (by omega) (by omega) (by omega)) (fz _ _ (by omega) (by omega) (by omega) (by omega) (by omega) (by omega) (by omega) (by omega) (by omega)) (fz _ _ (by omega) (by omega) (by omega) (by omega) (by omega) (by omega) (by omega) (by omega) (by omega)), iN.cg (fun k h1 h2 h3 => fz _ _ (by omega) (by omega) (by omega) (by omega) (by omega) (by omega) (by omega) (by omega) (by omega)), e, 0, 0, ⟨⟨i2, by omega, by omega, by rw [zu _ _ (by omega) (by omega)]; exact u1, z42, z44, fun r hr => ?_, fun p hp => absurd hp (by omega), fun i hi => absurd hi (by omega), ⟨_, g1.2.2.2, z40⟩⟩, ⟨fun r hr => ?_, fun p hp => absurd hp (by omega), fun i hi => absurd hi (by omega)⟩, z6, z11, z20, by rw [z7, z40]; exact m5 (by omega), by rw [z9, z43]⟩, ⟨nk + 1, by omega, ?_, ?_, Or.inl ⟨by rw [zv _ _ (by omega)]; exact v16, ?_⟩⟩, iR.off (by rw [z2, x2, v2]) (by rw [zv _ _ (by omega)]; exact v71)⟩
  · rw [show 4 + 4 + r = 8 + r by omega]
    obtain ⟨f1, f2, f3, f4, f5⟩ := i4 r hr
    have d0 : pg_d q r 0 = pg_k (q (pg_P q r)) := rfl
    have d1 : pg_d q r 1 = q (pg_E q r) - 48 := rfl
    have d2 : pg_d q r 2 = q (pg_E q r + 1) - 48 := rfl
    have d3 : pg_d q r 3 = q (pg_E q r + 2) - 48 := rfl
    have k5 := pg_k5 (q (pg_P q r))
    refine ⟨by rw [cr r 0 hr (by omega), d0]; exact vp_in_nI k5 (by decide), by rw [cr r 1 hr (by omega), d1]; exact vp_in_nI (by omega) (by decide), by rw [cr r 2 hr (by omega), d2]; exact vp_in_nI (by omega) (by decide), ?_, ⟨q (pg_E q r + 2) - 48, by omega, by omega, by rw [cr r 3 hr (by omega), d3]⟩, by rw [c5 r hr]; exact in_b (Or.inr rfl)⟩
    rw [cr r 1 hr (by omega), cr r 2 hr (by omega), d1, d2]
    intro hh
    have := (nI_eq (by omega) (by omega)).mp hh
    omega
  · rw [show 4 + 4 + r = 8 + r by omega]
    exact ⟨by rw [cr r 0 hr (by omega)]; exact zr r 0 hr (by omega), by rw [cr r 1 hr (by omega)]; exact zr r 1 hr (by omega), by rw [cr r 2 hr (by omega)]; exact zr r 2 hr (by omega), by rw [cr r 3 hr (by omega)]; exact zr r 3 hr (by omega), by rw [c5 r hr]; exact z4 r hr⟩
  · rw [zv _ _ (by omega), v17, k2, nI_1]
  · rw [z8, xf _ _ (by omega) (by omega), fv _ _ (by omega) (by omega) (by omega) (by omega) (by omega), k3, nI_1]
  · rw [fz 78 27 (by omega) (by omega) (by omega) (by omega) (by omega) (by omega) (by omega) (by omega) (by omega)]
    rcases k4 with ⟨_, k4 | ⟨m0, hm0, k4⟩⟩ | ⟨_, k4, _⟩
    · exact Or.inl k4
    · exact Or.inr ⟨m0, by omega, k4⟩
    · exact Or.inr ⟨nk, by omega, k4⟩
end PGO
