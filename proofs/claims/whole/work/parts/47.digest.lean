/-! digest: both -/
section DG2
variable {E : am_E} {d c : Nat} {σ : FH} {Q : Int32 → FH → Prop} {QJ : Int64 → FH → Prop} {QV : FH → Prop}
theorem c_dTail {n np : Nat} {h : Int64} (hn : n ≤ 44) (h1 : σ.1 2 1 = nI n) (hn4 : np ≤ 4) (h2 : σ.1 4 2 = nI np) (hl : ∀ p, p < np → vp_in (σ.1 (16 + 2 * p) 4) 2) (k : QJ (dg (dgC σ np) (dg (fun i => σ.1 3 i) h n) 9) σ) : h_X6_digest_67 E (d + 2) h 0 σ QJ := by
  have key2 : ∀ l w, w + l = 9 → h_X6_digest_109 E (d + 2) (dg (dgC σ np) (dg (fun i => σ.1 3 i) h n) w) (nI w) σ QJ := by
    intro l
    induction l with
    | zero =>
      intro w hw
      refine v_X6_digest_109 ?_
      unfold t_X6_digest_109
      rw [show w = 9 by omega]
      exact ⟨fun _ => k, fun h => absurd (by decide) h⟩
    | succ l ih =>
      intro w hw
      refine v_X6_digest_109 ?_
      unfold t_X6_digest_109
      rw [nI_1 w]
      exact ⟨fun h => absurd h (nI_nlt (a := 8) (by omega) (by omega)), fun _ => c_cCount (by omega) hn4 h2 hl (ih (w + 1) (by omega))⟩
  have key1 : ∀ l i, i + l = n → h_X6_digest_67 E (d + 2) (dg (fun i => σ.1 3 i) h i) (nI i) σ QJ := by
    intro l
    induction l with
    | zero =>
      intro i hi
      refine v_X6_digest_67 ?_
      unfold t_X6_digest_67
      rw [show i = n by omega, h1]
      exact ⟨fun _ => key2 9 0 (by omega), fun h => absurd (nI_le (Nat.le_refl n) (by omega)) h⟩
    | succ l ih =>
      intro i hi
      refine v_X6_digest_67 ?_
      unfold t_X6_digest_67
      rw [h1, nI_clamp (by omega), nI_1 i]
      refine ⟨fun h => absurd h (nI_ge (by omega) (by omega)), fun _ => ⟨fun h => absurd h (nI_ge (b := 44) (by omega) (by omega)), fun _ => ⟨vp_in_nI (by omega) (by decide), ?_⟩⟩⟩
      rintro _ rfl
      exact ih (i + 1) (by omega)
  exact key1 n 0 (by omega)
theorem m_dTail {n nr np nl : Nat} {h : Int64} (hn : n ≤ 44) (h1 : σ.1 78 1 = nI n) (iP : iPg σ) (iF : iFr σ) (iW : iWd c nr np nl σ) (iK : iKp c nr σ) (k : QJ (dg (dgC σ np) (dg (fun i => σ.1 79 i) h n) 9) (fsJ σ (dg (dgC σ np) (dg (fun i => σ.1 79 i) h n) 9))) : h_X7_digest_141 E (d + 2) 0 (fsJ σ h) QJ := by
  have key2 : ∀ l w, w + l = 9 → h_X7_digest_168 E (d + 2) (nI w) (fsJ σ (dg (dgC σ np) (dg (fun i => σ.1 79 i) h n) w)) QJ := by
    intro l
    induction l with
    | zero =>
      intro w hw
      refine v_X7_digest_168 ?_
      unfold t_X7_digest_168
      rw [show w = 9 by omega]
      exact ⟨fun _ => k, fun h => absurd (by decide) h⟩
    | succ l ih =>
      intro w hw
      refine v_X7_digest_168 ?_
      unfold t_X7_digest_168
      rw [nI_1 w]
      exact ⟨fun h => absurd h (nI_ge (b := 9) (by omega) (by omega)), fun _ => c_mCount (c := c) (nr := nr) (np := np) (nl := nl) (by omega) iP iF iW iK (c_say (ih (w + 1) (by omega)))⟩
  have key1 : ∀ l i, i + l = n → h_X7_digest_141 E (d + 2) (nI i) (fsJ σ (dg (fun i => σ.1 79 i) h i)) QJ := by
    intro l
    induction l with
    | zero =>
      intro i hi
      refine v_X7_digest_141 ?_
      unfold t_X7_digest_141
      have e : (fsJ σ (dg (fun i => σ.1 79 i) h i)).1 78 1 = nI n := h1
      rw [e, show i = n by omega]
      exact ⟨fun _ => key2 9 0 (by omega), fun h => absurd (nI_le (Nat.le_refl n) (by omega)) h⟩
    | succ l ih =>
      intro i hi
      refine v_X7_digest_141 ?_
      unfold t_X7_digest_141
      have e : (fsJ σ (dg (fun i => σ.1 79 i) h i)).1 78 1 = nI n := h1
      rw [e, nI_clamp (by omega), nI_1 i]
      exact ⟨fun h => absurd h (nI_ge (by omega) (by omega)), fun _ => ⟨vp_in_nI (by omega) (by decide), c_say (ih (i + 1) (by omega))⟩⟩
  exact key1 n 0 (by omega)
theorem m_dRoads {nr : Nat} {h : Int64} (hn : nr ≤ 8) (h1 : σ.1 78 6 = nI nr) (rel : ∀ r, r < nr → rr σ (8 + r) 81 r) (ok : ∀ r, r < nr → rdOK σ (8 + r)) (k : h_X7_digest_50 E (d + 3) 0 (fsJ σ (dg2 (dgR σ) 6 h nr)) QJ) : h_X7_digest_9 E (d + 3) 0 (fsJ σ h) QJ := by
  have key2 : ∀ r, r < nr → h_X7_digest_9 E (d + 3) (nI (r + 1)) (fsJ σ (dg2 (dgR σ) 6 h (r + 1))) QJ → ∀ l w, w + l = 6 → h_X7_digest_19 E (d + 3) (nI r) (nI w) (fsJ σ (dg (dgR σ r) (dg2 (dgR σ) 6 h r) w)) QJ := by
    intro r hr kk l
    obtain ⟨r0, r1, r2, r3, r4⟩ := rel r hr
    obtain ⟨o1, o2, o3, o4, o5, o6⟩ := ok r hr
    induction l with
    | zero =>
      intro w hw
      refine v_X7_digest_19 ?_
      unfold t_X7_digest_19
      rw [show w = 6 by omega, nI_1 r]
      exact ⟨fun _ => kk, fun h => absurd (by decide) h⟩
    | succ l ih =>
      intro w hw
      refine v_X7_digest_19 ?_
      unfold t_X7_digest_19
      rw [nI_1 w]
      refine ⟨fun h => absurd h (nI_ge (b := 6) (by omega) (by omega)), fun _ => c_tellRoad (by omega) (show vp_in (σ.1 81 (5 * r)) 5 by rw [r0]; exact o1) (show vp_in (σ.1 81 (5 * r + 4)) 2 by rw [r4]; exact o6) ?_⟩
      have e : rdV (fun j => (fsJ σ (dg (dgR σ r) (dg2 (dgR σ) 6 h r) w)).1 81 (5 * r + (j - 1))) (nI w) = dgR σ r w := rdV_rr (σ := σ) (rel r hr)
      rw [e]
      exact c_say (ih (w + 1) (by omega))
  have key1 : ∀ l r, r + l = nr → h_X7_digest_9 E (d + 3) (nI r) (fsJ σ (dg2 (dgR σ) 6 h r)) QJ := by
    intro l
    induction l with
    | zero =>
      intro r hr
      refine v_X7_digest_9 ?_
      unfold t_X7_digest_9
      have e : (fsJ σ (dg2 (dgR σ) 6 h r)).1 78 6 = nI nr := h1
      rw [e, show r = nr by omega]
      exact ⟨fun _ => k, fun h => absurd (nI_le (Nat.le_refl nr) (by omega)) h⟩
    | succ l ih =>
      intro r hr
      refine v_X7_digest_9 ?_
      unfold t_X7_digest_9
      have e : (fsJ σ (dg2 (dgR σ) 6 h r)).1 78 6 = nI nr := h1
      rw [e]
      exact ⟨fun h => absurd h (nI_ge (by omega) (by omega)), fun _ => key2 r (by omega) (ih (r + 1) (by omega)) 6 0 (by omega)⟩
  exact key1 nr 0 (by omega)
theorem m_dPilgrims {np : Nat} {h : Int64} (hn : np ≤ 4) (h1 : σ.1 78 11 = nI np) (rel : ∀ p, p < np → pr σ (16 + 2 * p) 82 83 p) (k : h_X7_digest_50 E (d + 3) (nI np) (fsJ σ (dg2 (dgP σ) 13 h np)) QJ) : h_X7_digest_50 E (d + 3) 0 (fsJ σ h) QJ := by
  have key2 : ∀ p, p < np → h_X7_digest_50 E (d + 3) (nI (p + 1)) (fsJ σ (dg2 (dgP σ) 13 h (p + 1))) QJ → ∀ l w, w + l = 18 → h_X7_digest_60 E (d + 3) (nI p) (nI w) (fsJ σ (dg (dgP σ p) (dg2 (dgP σ) 13 h p) (if w < 5 then w else if w < 10 then 5 else w - 5))) QJ := by
    intro p hp kk l
    induction l with
    | zero =>
      intro w hw
      refine v_X7_digest_60 ?_
      unfold t_X7_digest_60
      rw [show w = 18 by omega, nI_1 p]
      exact ⟨fun _ => kk, fun h => absurd (by decide) h⟩
    | succ l ih =>
      intro w hw
      refine v_X7_digest_60 ?_
      unfold t_X7_digest_60
      rw [nI_1 w, show (nI w < 5) ↔ w < 5 from nI_ltI (b := 5) (by omega) (by decide), show (nI w ≤ 9) ↔ w ≤ 9 from nI_leI (b := 9) (by omega) (by decide)]
      have ih' := ih (w + 1) (by omega)
      have e : ∀ v, pgV (fun j => (fsJ σ v).1 82 (5 * p + (if j = 4 then 3 else if j = 3 then 4 else j))) (fun j => (fsJ σ v).1 83 (8 * p + j)) (nI w) = pgV (fun j => σ.1 (16 + 2 * p) j) (fun j => σ.1 (16 + 2 * p + 1) j) (nI w) := fun v => pgV_pr (σ := σ) (rel p hp)
      refine ⟨fun h => absurd h (nI_ge (b := 18) (by omega) (by omega)), fun _ => ⟨fun h5 => c_tell (by omega) ?_, fun h5 => ⟨fun h9 => ?_, fun h9 => c_tell (by omega) ?_⟩⟩⟩
      · rw [e, if_pos h5]
        have e2 : (if w + 1 < 5 then w + 1 else if w + 1 < 10 then 5 else w + 1 - 5) = w + 1 := by
          by_cases h4 : w + 1 < 5
          · rw [if_pos h4]
          · rw [if_neg h4, if_pos (by omega)]; omega
        rw [e2, dg] at ih'
        have e3 : dgP σ p w = pgV (fun j => σ.1 (16 + 2 * p) j) (fun j => σ.1 (16 + 2 * p + 1) j) (nI w) := by unfold dgP; rw [if_pos h5]
        rw [e3] at ih'
        exact c_say ih'
      · rw [if_neg h5, if_pos (by omega)]
        have e2 : (if w + 1 < 5 then w + 1 else if w + 1 < 10 then 5 else w + 1 - 5) = 5 := by rw [if_neg (by omega)]; split <;> omega
        rw [e2] at ih'
        exact ih'
      · rw [e, if_neg h5, if_neg (by omega)]
        have e2 : (if w + 1 < 5 then w + 1 else if w + 1 < 10 then 5 else w + 1 - 5) = w - 5 + 1 := by rw [if_neg (by omega), if_neg (by omega)]; omega
        rw [e2, dg] at ih'
        have e3 : dgP σ p (w - 5) = pgV (fun j => σ.1 (16 + 2 * p) j) (fun j => σ.1 (16 + 2 * p + 1) j) (nI w) := by unfold dgP; rw [if_neg (by omega), show w - 5 + 5 = w by omega]
        rw [e3] at ih'
        exact c_say ih'
  have key1 : ∀ l p, p + l = np → h_X7_digest_50 E (d + 3) (nI p) (fsJ σ (dg2 (dgP σ) 13 h p)) QJ := by
    intro l
    induction l with
    | zero =>
      intro p hp
      rw [show p = np by omega]
      exact k
    | succ l ih =>
      intro p hp
      refine v_X7_digest_50 ?_
      unfold t_X7_digest_50
      have e : (fsJ σ (dg2 (dgP σ) 13 h p)).1 78 11 = nI np := h1
      rw [e]
      exact ⟨fun h => absurd h (nI_ge (by omega) (by omega)), fun _ => key2 p (by omega) (ih (p + 1) (by omega)) 18 0 (by omega)⟩
  exact key1 np 0 (by omega)
end DG2
