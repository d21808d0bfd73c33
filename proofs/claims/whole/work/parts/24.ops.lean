/-! calls on roads and pilgrims that read, and those that change little -/
def rdV (f : Nat → Int32) (y : Int32) : Int32 := if y = 0 then f 1 else if y = 1 then f 2 else if y = 2 then f 3 else if y = 3 then f 4 else if y = 4 then wrt (f 1) (f 5) else if y = 5 then f 5 else -102
def pgV (f g : Nat → Int32) (y : Int32) : Int32 := if 10 ≤ y ∧ y ≤ 17 then g (y - 10).toNatClampNeg else if y = 0 then f 0 else if y = 1 then f 1 else if y = 2 then f 2 else if y = 3 then f 4 else if y = 4 then f 3 else -102
theorem i_le {a b : Int32} : (a ≤ b) ↔ a.toInt ≤ b.toInt := fa_le a b
section C3
variable {E : am_E} {d : Nat} {σ : FH} {Q : Int32 → FH → Prop}
theorem c_cRoad {r nr : Nat} {y : Int32} (hr : r < nr) (hn : nr ≤ 8) (h1 : σ.1 4 1 = nI nr) (hl : vp_in (σ.1 (8 + r) 5) 2) (k : Q (rdV (fun j => σ.1 (8 + r) j) y) σ) : fMi E (d + 2) mX6_road [.ref 1, .int (nI r), .int y] σ Q := by
  refine v_X6_road ?_
  unfold t_X6_road
  refine c_cIsRoad ?_
  rw [h1, bi_t (nI_rng (by omega) hr), nI_clamp (by omega)]
  have hrd : isRd (8 + r) := ⟨4, r, Or.inl rfl, by omega, rfl⟩
  unfold rdV at k
  refine ⟨fun _ => ⟨vp_in_nI (by omega) (by decide), fun h => ?_, fun h => ?_, fun h => ?_, fun h => ?_, fun h => c_worth hrd ?_, fun h => c_asNumber (vp_b hl) ?_, fun g0 g1 g2 g3 g4 g5 => ?_⟩, fun h => absurd h (by decide)⟩
  · rw [if_pos h] at k; exact k
  · subst h; exact k
  · subst h; exact k
  · subst h; exact k
  · subst h; exact k
  · subst h; exact k
  · rw [if_neg g0, if_neg g1, if_neg g2, if_neg g3, if_neg g4, if_neg g5] at k; exact k
theorem c_cRoadN {x y : Int32} (hx : ¬ (0 ≤ x ∧ x < σ.1 4 1)) (k : Q (-101) σ) : fMi E (d + 2) mX6_road [.ref 1, .int x, .int y] σ Q := by
  refine v_X6_road ?_
  unfold t_X6_road
  refine c_cIsRoad ?_
  rw [bi_f hx]
  exact ⟨fun h => absurd rfl h, fun _ => k⟩
theorem c_tellRoad {r : Nat} {y : Int32} (hr : r < 8) (hk : vp_in (σ.1 81 (5 * r)) 5) (hl : vp_in (σ.1 81 (5 * r + 4)) 2) (k : Q (rdV (fun j => σ.1 81 (5 * r + (j - 1))) y) σ) : fMi E (d + 2) mX7_tellRoad [.ref 78, .int (nI r), .int y] σ Q := by
  refine v_X7_tellRoad ?_
  unfold t_X7_tellRoad
  unfold rdV at k
  refine ⟨fun h => ?_, fun h => ?_, fun h => ?_, fun h => ?_, fun h => c_worthOf (by omega) hk hl ?_, fun h => ?_, fun g0 g1 g2 g3 g4 g5 => ?_⟩
  · subst h
    rw [show (5 : Int32) * nI r + 0 = nI (5 * r) from n5 (j := 0), nI_clamp (by omega)]
    exact ⟨vp_in_nI (by omega) (by decide), k⟩
  · subst h
    rw [n5_1, nI_clamp (by omega)]
    exact ⟨vp_in_nI (by omega) (by decide), k⟩
  · subst h
    rw [n5_2, nI_clamp (by omega)]
    exact ⟨vp_in_nI (by omega) (by decide), k⟩
  · subst h
    rw [n5_3, nI_clamp (by omega)]
    exact ⟨vp_in_nI (by omega) (by decide), k⟩
  · subst h; exact k
  · subst h
    rw [n5_4, nI_clamp (by omega)]
    exact ⟨vp_in_nI (by omega) (by decide), k⟩
  · rw [if_neg g0, if_neg g1, if_neg g2, if_neg g3, if_neg g4, if_neg g5] at k; exact k
theorem rdV_rr {r k : Nat} {y : Int32} (h : rr σ k 81 r) : rdV (fun j => σ.1 81 (5 * r + (j - 1))) y = rdV (fun j => σ.1 k j) y := by
  obtain ⟨a0, a1, a2, a3, a4⟩ := h
  unfold rdV
  dsimp only
  rw [show 5 * r + (1 - 1) = 5 * r from rfl, show 5 * r + (2 - 1) = 5 * r + 1 from rfl, show 5 * r + (3 - 1) = 5 * r + 2 from rfl, show 5 * r + (4 - 1) = 5 * r + 3 from rfl, show 5 * r + (5 - 1) = 5 * r + 4 from rfl, a0, a1, a2, a3, a4]
theorem c_cAbout {p np : Nat} {y : Int32} (hp : p < np) (hn : np ≤ 4) (h1 : σ.1 4 2 = nI np) (hl : vp_in (σ.1 (16 + 2 * p) 4) 2) (k : Q (pgV (fun j => σ.1 (16 + 2 * p) j) (fun j => σ.1 (16 + 2 * p + 1) j) y) σ) : fMi E (d + 2) mX6_about [.ref 1, .int (nI p), .int y] σ Q := by
  refine v_X6_about ?_
  unfold t_X6_about
  refine c_cIsPilgrim ?_
  rw [h1, bi_t (nI_rng (by omega) hp), nI_clamp (by omega)]
  have sw : ¬ (10 ≤ y ∧ y ≤ 17) → t_X6_about_43 E (d + 1) y (16 + 2 * p) σ Q := by
    intro hy
    unfold pgV at k
    rw [if_neg hy] at k
    unfold t_X6_about_43
    refine ⟨fun h => ?_, fun h => ?_, fun h => ?_, fun h => c_asNumber (vp_b hl) ?_, fun h => ?_, fun g0 g1 g2 g3 g4 => ?_⟩
    · rw [if_pos h] at k; exact k
    · subst h; exact k
    · subst h; exact k
    · subst h; exact k
    · subst h; exact k
    · rw [if_neg g0, if_neg g1, if_neg g2, if_neg g3, if_neg g4] at k; exact k
  refine ⟨fun _ => ⟨vp_in_nI (by omega) (by decide), fun h => sw (fun q => lt_nle.mp h q.1), fun h => ⟨fun h2 => sw (fun q => ?_), fun h2 => ?_⟩⟩, fun h => absurd h (by decide)⟩
  · rw [fa_le] at h2 q
    have := q.2
    rw [fa_le] at this
    have e1 : (18 : Int32).toInt = 18 := rfl
    have e2 : (17 : Int32).toInt = 17 := rfl
    omega
  · have hy : 10 ≤ y ∧ y ≤ 17 := by
      rw [lt_nle, Classical.not_not] at h
      refine ⟨h, ?_⟩
      rw [fa_le] at h2 ⊢
      have e1 : (18 : Int32).toInt = 18 := rfl
      have e2 : (17 : Int32).toInt = 17 := rfl
      omega
    have k' := k
    unfold pgV at k'
    rw [if_pos hy] at k'
    refine ⟨?_, k'⟩
    obtain ⟨j, hj, e⟩ := nI_of2 (x := y) (M := 17) (n := 17) rfl (fun q => by
      have := hy.1
      rw [fa_le] at this
      rw [fa_lt] at q
      have e1 : (10 : Int32).toInt = 10 := rfl
      have e2 : (0 : Int32).toInt = 0 := rfl
      omega) hy.2
    have hj2 : 10 ≤ j := by
      have := hy.1
      rw [e] at this
      exact (nI_leI (by decide) (by omega)).mp this
    rw [e, show (10 : Int32) = nI 10 from rfl, pk_sub hj2]
    exact vp_in_nI (by omega) (by decide)
theorem c_cAboutN {x y : Int32} (hx : ¬ (0 ≤ x ∧ x < σ.1 4 2)) (k : Q (-101) σ) : fMi E (d + 2) mX6_about [.ref 1, .int x, .int y] σ Q := by
  refine v_X6_about ?_
  unfold t_X6_about
  refine c_cIsPilgrim ?_
  rw [bi_f hx]
  exact ⟨fun h => absurd rfl h, fun _ => k⟩
theorem i_rng {y : Int32} {a b : Nat} (ha : a < 2 ^ 30) (hb : b < 2 ^ 30) (h : nI a ≤ y ∧ y ≤ nI b) : ∃ j, a ≤ j ∧ j ≤ b ∧ y = nI j := by
  obtain ⟨j, hj, e⟩ := nI_of2 (x := y) (M := nI b) (n := b) (nI_toInt (by omega)) (fun q => by
    have := h.1
    rw [fa_le, nI_toInt (by omega)] at this
    rw [fa_lt] at q
    have e2 : (0 : Int32).toInt = 0 := rfl
    omega) h.2
  refine ⟨j, ?_, hj, e⟩
  have := h.1
  rw [e] at this
  exact (nI_leI (by omega) (by omega)).mp this
theorem c_tell {p : Nat} {y : Int32} (hp : p < 4) (k : Q (pgV (fun j => σ.1 82 (5 * p + (if j = 4 then 3 else if j = 3 then 4 else j))) (fun j => σ.1 83 (8 * p + j)) y) σ) : fMi E (d + 2) mX7_tell [.ref 78, .int (nI p), .int y] σ Q := by
  refine v_X7_tell ?_
  unfold t_X7_tell
  refine c_in32 10 17 rfl rfl ?_
  simp only [bi0, Classical.not_not]
  refine ⟨fun h => c_in32 0 4 rfl rfl ?_, fun h => ?_⟩
  · simp only [bi0, Classical.not_not]
    unfold pgV at k
    rw [if_neg h] at k
    refine ⟨fun h2 => ?_, fun h2 => ?_⟩
    · have ne : ∀ v : Int32, (0 ≤ v ∧ v ≤ 4) → ¬ y = v := fun v hv e => h2 (e ▸ hv)
      rw [if_neg (ne 0 (by decide)), if_neg (ne 1 (by decide)), if_neg (ne 2 (by decide)), if_neg (ne 3 (by decide)), if_neg (ne 4 (by decide))] at k
      exact k
    · obtain ⟨j, -, hj, e⟩ := i_rng (a := 0) (b := 4) (by decide) (by decide) h2
      subst e
      rw [n5, nI_clamp (by omega)]
      refine ⟨vp_in_nI (by omega) (by decide), ?_⟩
      rcases (show j = 0 ∨ j = 1 ∨ j = 2 ∨ j = 3 ∨ j = 4 by omega) with rfl | rfl | rfl | rfl | rfl <;> exact k
  · unfold pgV at k
    rw [if_pos h] at k
    obtain ⟨j, hj1, hj2, e⟩ := i_rng (a := 10) (b := 17) (by decide) (by decide) h
    subst e
    rw [show (10 : Int32) = nI 10 from rfl, pk_sub hj1, nI_clamp (by omega)] at k
    rw [n8, show (10 : Int32) = nI 10 from rfl, pk_sub (by omega), nI_clamp (by omega)]
    refine ⟨vp_in_nI (by omega) (by decide), ?_⟩
    rw [show 8 * p + j - 10 = 8 * p + (j - 10) by omega]
    exact k
theorem pgV_pr {p k : Nat} {y : Int32} (h : pr σ k 82 83 p) : pgV (fun j => σ.1 82 (5 * p + (if j = 4 then 3 else if j = 3 then 4 else j))) (fun j => σ.1 83 (8 * p + j)) y = pgV (fun j => σ.1 k j) (fun j => σ.1 (k + 1) j) y := by
  obtain ⟨a0, a1, a2, a3, a4, a5⟩ := h
  unfold pgV
  by_cases hy : 10 ≤ y ∧ y ≤ 17
  · rw [if_pos hy, if_pos hy]
    obtain ⟨j, hj1, hj2, e⟩ := i_rng (a := 10) (b := 17) (by decide) (by decide) hy
    subst e
    rw [show (10 : Int32) = nI 10 from rfl, pk_sub hj1, nI_clamp (by omega)]
    exact a5 _ (by omega)
  · rw [if_neg hy, if_neg hy]
    dsimp only
    rw [show 5 * p + (if 0 = 4 then 3 else if 0 = 3 then 4 else 0) = 5 * p from rfl, show 5 * p + (if 1 = 4 then 3 else if 1 = 3 then 4 else 1) = 5 * p + 1 from rfl, show 5 * p + (if 2 = 4 then 3 else if 2 = 3 then 4 else 2) = 5 * p + 2 from rfl, show 5 * p + (if 4 = 4 then 3 else if 4 = 3 then 4 else 4) = 5 * p + 3 from rfl, show 5 * p + (if 3 = 4 then 3 else if 3 = 3 then 4 else 3) = 5 * p + 4 from rfl, a0, a1, a2, a3, a4]
end C3
section OPS2
variable {E : am_E} {d c : Nat} {σ : FH}
theorem op_blank (h : inv c σ) : fMi E (d + 2) mX6_blank [.ref 1] σ (fun a σ1 => fMi E (d + 2) mX7_blank [.ref 78] σ1 (fun b σ2 => a = b ∧ inv (c + 1) σ2)) := by
  have h0 := h.up (Nat.le_succ c)
  obtain ⟨⟨n, a1, a2, a3, a4⟩, iF, iN, nr, np, nl, iW, iK, iR⟩ := h0
  refine v_X6_blank ?_
  unfold t_X6_blank
  rintro _ rfl
  refine v_X7_blank ?_
  unfold t_X7_blank
  rintro _ rfl
  refine ⟨by rw [fsI_k (by decide), a2, a3], ?_⟩
  generalize hs : fsI (fsI σ 2 1 0) 78 1 0 = s
  have fr : ∀ a i, ¬ (a = 2 ∧ i = 1) → ¬ (a = 78 ∧ i = 1) → s.1 a i = σ.1 a i := fun a i h1 h2 => by rw [← hs]; repeat rw [fsI_n (by omega)]
  have f2 : s.2 = σ.2 := by rw [← hs]; rfl
  refine ⟨⟨0, by omega, by rw [← hs, fsI_k (by decide)]; exact fsI_s, by rw [← hs]; exact fsI_s, fun i hi => absurd hi (by omega)⟩, iF.cg (fr _ _ (by omega) (by omega)) (fr _ _ (by omega) (by omega)) (fr _ _ (by omega) (by omega)), iN.cg (fun k h1 h2 h3 => fr _ _ (by omega) (by omega)), nr, np, nl, iW.cg (fun k j h1 h2 => fr _ _ (by omega) (by omega)) (fun j h1 => fr _ _ (by omega) (by omega)) (fun j => fr _ _ (by omega) (by omega)) (fun j => fr _ _ (by omega) (by omega)) (fun j => fr _ _ (by omega) (by omega)) (fun j h1 => fr _ _ (by omega) (by omega)), iK.cg (fun k j h1 h2 => fr _ _ (by omega) (by omega)) (fun k j h1 h2 => fr _ _ (by omega) (by omega)) (fr _ _ (by omega) (by omega)) (fr _ _ (by omega) (by omega)) (fun j h1 => fr _ _ (by omega) (by omega)) (fr _ _ (by omega) (by omega)), iR.cg iW.1.1 f2 (fun k j h1 h2 h3 => fr _ _ (by omega) (by omega)) (fun j => fr _ _ (by omega) (by omega)) (fun j h1 => fr _ _ (by omega) (by omega)) (fun j => fr _ _ (by omega) (by omega))⟩
theorem op_road {x y : Int32} (h : inv c σ) : fMi E (d + 3) mX6_road [.ref 1, .int x, .int y] σ (fun a σ1 => fMi E (d + 3) mX7_road [.ref 78, .int x, .int y] σ1 (fun b σ2 => a = b ∧ inv (c + 1) σ2)) := by
  have h0 := h.up (Nat.le_succ c)
  obtain ⟨iP, iF, iN, nr, np, nl, iW, iK, iR⟩ := id h0
  obtain ⟨⟨a1, a2, a3, a4, a5, a6, a7, a8, a9, a10⟩, ⟨b1, b2, b3⟩, b4, b5, b6, b7, b8⟩ := id iW
  have mm : ∀ P : Int32 → FH → Prop, (¬ (0 ≤ x ∧ x < nI nr) → P (-101) σ) → (∀ r, r < nr → x = nI r → P (rdV (fun j => σ.1 (8 + r) j) y) σ) → fMi E (d + 3) mX7_road [.ref 78, .int x, .int y] σ P := by
    intro P k1 k2
    refine v_X7_road ?_
    unfold t_X7_road
    refine c_mIsRoad ?_
    rw [b4, bi_iff (bi_rng (by omega))]
    simp only [bi0, Classical.not_not]
    refine ⟨k1, fun hx => ?_⟩
    obtain ⟨r, hr, e⟩ := rng_nI (by omega) hx
    subst e
    have hb := b1 r hr
    rw [show 4 + 4 + r = 8 + r by omega] at hb
    have ha := a7 r hr
    rw [show 4 + 4 + r = 8 + r by omega] at ha
    refine c_tellRoad (by omega) (by rw [hb.1]; exact ha.1) (by rw [hb.2.2.2.2]; exact ha.2.2.2.2.2) ?_
    rw [rdV_rr hb]
    exact k2 r hr rfl
  by_cases hx : 0 ≤ x ∧ x < nI nr
  · obtain ⟨r, hr, e⟩ := rng_nI (by omega) hx
    subst e
    have ha := a7 r hr
    rw [show 4 + 4 + r = 8 + r by omega] at ha
    refine c_cRoad hr a1 a4 ha.2.2.2.2.2 (mm _ (fun q => absurd hx q) (fun r' hr' e => ⟨?_, h0⟩))
    rw [(nI_eq (by omega) (by omega)).mp e]
  · exact c_cRoadN (by rw [a4]; exact hx) (mm _ (fun _ => ⟨rfl, h0⟩) (fun r hr e => absurd (by rw [e]; exact nI_rng (by omega) hr) hx))
theorem op_about {x y : Int32} (h : inv c σ) : fMi E (d + 3) mX6_about [.ref 1, .int x, .int y] σ (fun a σ1 => fMi E (d + 3) mX7_about [.ref 78, .int x, .int y] σ1 (fun b σ2 => a = b ∧ inv (c + 1) σ2)) := by
  have h0 := h.up (Nat.le_succ c)
  obtain ⟨iP, iF, iN, nr, np, nl, iW, iK, iR⟩ := id h0
  obtain ⟨⟨a1, a2, a3, a4, a5, a6, a7, a8, a9, a10⟩, ⟨b1, b2, b3⟩, b4, b5, b6, b7, b8⟩ := id iW
  have mm : ∀ P : Int32 → FH → Prop, (¬ (0 ≤ x ∧ x < nI np) → P (-101) σ) → (∀ r, r < np → x = nI r → P (pgV (fun j => σ.1 (16 + 2 * r) j) (fun j => σ.1 (16 + 2 * r + 1) j) y) σ) → fMi E (d + 3) mX7_about [.ref 78, .int x, .int y] σ P := by
    intro P k1 k2
    refine v_X7_about ?_
    unfold t_X7_about
    refine c_mIsPilgrim ?_
    rw [b5, bi_iff (bi_rng (by omega))]
    simp only [bi0, Classical.not_not]
    refine ⟨k1, fun hx => ?_⟩
    obtain ⟨r, hr, e⟩ := rng_nI (by omega) hx
    subst e
    have hb := b2 r hr
    rw [show 4 + 12 + 2 * r = 16 + 2 * r by omega] at hb
    refine c_tell (by omega) ?_
    rw [pgV_pr hb]
    exact k2 r hr rfl
  by_cases hx : 0 ≤ x ∧ x < nI np
  · obtain ⟨r, hr, e⟩ := rng_nI (by omega) hx
    subst e
    have ha := a8 r hr
    rw [show 4 + 12 + 2 * r = 16 + 2 * r by omega] at ha
    refine c_cAbout hr a2 a5 ha.2.2.2.1 (mm _ (fun q => absurd hx q) (fun r' hr' e => ⟨?_, h0⟩))
    rw [(nI_eq (by omega) (by omega)).mp e]
  · exact c_cAboutN (by rw [a5]; exact hx) (mm _ (fun _ => ⟨rfl, h0⟩) (fun r hr e => absurd (by rw [e]; exact nI_rng (by omega) hr) hx))
end OPS2
