/-! as, worsen, licence, log, forget -/
theorem iWd.rd {c nr np nl r : Nat} {σ σ' : FH} (h : iWd c nr np nl σ) (hr : r < nr) (fr : ∀ a i, ((4 ≤ a ∧ a < 24 ∧ a ≠ 8 + r) ∨ (a = 81 ∧ i < 40 ∧ ¬ (5 * r ≤ i ∧ i < 5 * r + 5)) ∨ a = 82 ∨ a = 83 ∨ a = 87 ∨ (a = 78 ∧ (i = 6 ∨ i = 7 ∨ i = 9 ∨ i = 11 ∨ i = 20))) → σ'.1 a i = σ.1 a i) (h1 : rr σ' (8 + r) 81 r) (h2 : rdOK σ' (8 + r)) : iWd c nr np nl σ' := by
  obtain ⟨⟨a1, a2, a3, a4, a5, a6, a7, a8, a9, a10⟩, ⟨b1, b2, b3⟩, b4, b5, b6, b7, b8⟩ := h
  refine ⟨⟨a1, a2, a3, by rw [fr _ _ (by omega)]; exact a4, by rw [fr _ _ (by omega)]; exact a5, by rw [fr _ _ (by omega)]; exact a6, fun i hi => ?_, fun q hq => (a8 q hq).cg (fun j _ => fr _ _ (by omega)) (fun j _ => fr _ _ (by omega)), fun i hi => by rw [fr _ _ (by omega)]; exact a9 i hi, by rw [fr _ _ (by omega)]; exact a10⟩, ⟨fun i hi => ?_, fun q hq => (b2 q hq).cg (fun j _ => fr _ _ (by omega)) (fun j _ => fr _ _ (by omega)) (fun j _ => fr _ _ (by omega)) (fun j _ => fr _ _ (by omega)), fun i hi => by rw [fr _ _ (by omega), fr _ _ (by omega)]; exact b3 i hi⟩, by rw [fr _ _ (by omega)]; exact b4, by rw [fr _ _ (by omega)]; exact b5, by rw [fr _ _ (by omega)]; exact b6, by rw [fr _ _ (by omega), fr _ _ (by omega)]; exact b7, by rw [fr _ _ (by omega), fr _ _ (by omega)]; exact b8⟩
  · by_cases e : i = r
    · subst e
      rw [show 4 + 4 + i = 8 + i by omega]
      exact h2
    · exact (a7 i hi).cg (fun j _ => fr _ _ (by omega))
  · by_cases e : i = r
    · subst e
      rw [show 4 + 4 + i = 8 + i by omega]
      exact h1
    · exact (b1 i hi).cg (fun j _ => fr _ _ (by omega)) (fun j _ => fr _ _ (by omega))
section OPS5
variable {E : am_E} {d c : Nat} {σ : FH}
theorem op_as {x y : Int32} (h : inv c σ) : fMi E (d + 3) mX6_as [.ref 1, .int x, .int y] σ (fun a σ1 => fMi E (d + 3) mX7_as [.ref 78, .int x, .int y] σ1 (fun b σ2 => a = b ∧ inv (c + 1) σ2)) := by
  have h0 := h.up (Nat.le_succ c)
  obtain ⟨iP, iF, iN, nr, np, nl, iW, iK, iR⟩ := h
  obtain ⟨⟨a1, a2, a3, a4, a5, a6, a7, a8, a9, a10⟩, ⟨b1, b2, b3⟩, b4, b5, b6, b7, b8⟩ := id iW
  have mm : ∀ P : Int32 → FH → Prop, (¬ (0 ≤ x ∧ x < nI nr) → P (-101) σ) → (∀ r, r < nr → x = nI r → ¬ (0 ≤ y ∧ y ≤ 4) → P (-102) σ) → (∀ r, r < nr → x = nI r → (0 ≤ y ∧ y ≤ 4) → P (if y = 0 ∨ y = σ.1 (8 + r) 1 ∨ (y = 3 ∧ σ.1 (8 + r) 1 = 4) then x else -1) σ) → fMi E (d + 3) mX7_as [.ref 78, .int x, .int y] σ P := by
    intro P k1 k2 k3
    refine v_X7_as ?_
    unfold t_X7_as
    refine c_mIsRoad ?_
    rw [b4, bi_iff (bi_rng (by omega))]
    simp only [bi0, Classical.not_not]
    refine ⟨fun hx => c_in32 0 4 rfl rfl ?_, k1⟩
    simp only [bi0, Classical.not_not]
    obtain ⟨r, hr, e⟩ := rng_nI (by omega) hx
    subst e
    have hb := b1 r hr
    rw [show 4 + 4 + r = 8 + r by omega] at hb
    refine ⟨fun hy => ?_, fun hy => k2 r hr rfl hy⟩
    rw [n5', nI_clamp (by omega), hb.1]
    refine ⟨vp_in_nI (by omega) (by decide), ?_⟩
    rintro _ rfl
    have k := k3 r hr rfl hy
    refine ⟨fun q => ?_, fun q => ⟨fun q2 => ?_, fun q2 => ⟨fun q3 => ?_, fun q3 => ⟨fun q4 => ?_, fun q4 => ?_⟩⟩⟩⟩
    · rw [if_pos (Or.inl q)] at k; exact k
    · rw [if_pos (Or.inr (Or.inl q2))] at k; exact k
    · rw [if_neg (fun z => z.elim q (fun z => z.elim q2 (fun z => q3 z.1)))] at k; exact k
    · rw [if_neg (fun z => z.elim q (fun z => z.elim q2 (fun z => q4 z.2)))] at k; exact k
    · rw [if_pos (Or.inr (Or.inr ⟨q3, q4⟩))] at k; exact k
  refine v_X6_as ?_
  unfold t_X6_as
  refine c_cIsRoad ?_
  rw [a4]
  simp only [bi0, Classical.not_not]
  refine ⟨fun hx => ?_, fun hx => mm _ (fun _ => ⟨rfl, h0⟩) (fun r hr e => absurd (by rw [e]; exact nI_rng (by omega) hr) hx) (fun r hr e => absurd (by rw [e]; exact nI_rng (by omega) hr) hx)⟩
  obtain ⟨r, hr, e⟩ := rng_nI (by omega) hx
  subst e
  rw [nI_clamp (by omega)]
  have hrd : isRd (8 + r) := ⟨4, r, Or.inl rfl, by omega, by omega⟩
  refine ⟨fun hy => mm _ (fun q => absurd hx q) (fun _ _ _ _ => ⟨rfl, h0⟩) (fun _ _ _ q => absurd q.1 (lt_nle.mp hy)), fun hy => ⟨fun hy2 => ⟨vp_in_nI (by omega) (by decide), c_isOfKind hrd ?_⟩, fun hy2 => mm _ (fun q => absurd hx q) (fun _ _ _ _ => ⟨rfl, h0⟩) (fun _ _ _ q => absurd q.2 hy2)⟩⟩
  have hy' : (0 : Int32) ≤ y ∧ y ≤ 4 := ⟨by rw [lt_nle, Classical.not_not] at hy; exact hy, hy2⟩
  simp only [bi0, Classical.not_not]
  refine ⟨fun hk => mm _ (fun q => absurd hx q) (fun _ _ _ q => absurd hy' q) (fun r' hr' e _ => ?_), fun hk => mm _ (fun q => absurd hx q) (fun _ _ _ q => absurd hy' q) (fun r' hr' e _ => ?_)⟩
  · obtain rfl := (nI_eq (by omega) (by omega)).mp e
    rw [if_neg hk]; exact ⟨rfl, h0⟩
  · obtain rfl := (nI_eq (by omega) (by omega)).mp e
    rw [if_pos hk]; exact ⟨rfl, h0⟩
theorem op_worsen {x y : Int32} (h : inv c σ) : fMi E (d + 3) mX6_worsen [.ref 1, .int x, .int y] σ (fun a σ1 => fMi E (d + 3) mX7_worsen [.ref 78, .int x, .int y] σ1 (fun b σ2 => a = b ∧ inv (c + 1) σ2)) := by
  have h0 := h.up (Nat.le_succ c)
  obtain ⟨iP, iF, iN, nr, np, nl, iW, iK, iR⟩ := id h0
  obtain ⟨⟨a1, a2, a3, a4, a5, a6, a7, a8, a9, a10⟩, ⟨b1, b2, b3⟩, b4, b5, b6, b7, b8⟩ := id iW
  have mm : ∀ s : FH, s.1 78 6 = nI nr → ∀ P : Int32 → FH → Prop, (¬ (0 ≤ x ∧ x < nI nr) → P (-101) s) → (∀ r, r < nr → x = nI r → ¬ (1 ≤ y ∧ y ≤ 9) → P (-102) s) → (∀ r, r < nr → x = nI r → (1 ≤ y ∧ y ≤ 9) → P (s.1 81 (5 * r + 3)) (fsI s 81 (5 * r + 3) y)) → fMi E (d + 3) mX7_worsen [.ref 78, .int x, .int y] s P := by
    intro s s1 P k1 k2 k3
    refine v_X7_worsen ?_
    unfold t_X7_worsen
    refine c_mIsRoad ?_
    rw [s1, bi_iff (bi_rng (by omega))]
    simp only [bi0, Classical.not_not]
    refine ⟨fun hx => c_in32 1 9 rfl rfl ?_, k1⟩
    simp only [bi0, Classical.not_not]
    obtain ⟨r, hr, e⟩ := rng_nI (by omega) hx
    subst e
    refine ⟨fun hy => ?_, fun hy => k2 r hr rfl hy⟩
    rw [n5_3, nI_clamp (by omega)]
    refine ⟨vp_in_nI (by omega) (by decide), ?_⟩
    rintro _ rfl
    refine ⟨vp_in_nI (by omega) (by decide), ?_⟩
    rintro _ rfl
    exact k3 r hr rfl hy
  refine v_X6_worsen ?_
  unfold t_X6_worsen
  refine c_cIsRoad ?_
  rw [a4]
  simp only [bi0, Classical.not_not]
  refine ⟨fun hx => ?_, fun hx => mm σ b4 _ (fun _ => ⟨rfl, h0⟩) (fun r hr e => absurd (by rw [e]; exact nI_rng (by omega) hr) hx) (fun r hr e => absurd (by rw [e]; exact nI_rng (by omega) hr) hx)⟩
  obtain ⟨r, hr, e⟩ := rng_nI (by omega) hx
  subst e
  rw [nI_clamp (by omega)]
  refine ⟨fun hy => mm σ b4 _ (fun q => absurd hx q) (fun _ _ _ _ => ⟨rfl, h0⟩) (fun _ _ _ q => absurd q.1 (lt_nle.mp hy)), fun hy => ⟨fun hy2 => ⟨vp_in_nI (by omega) (by decide), ?_⟩, fun hy2 => mm σ b4 _ (fun q => absurd hx q) (fun _ _ _ _ => ⟨rfl, h0⟩) (fun _ _ _ q => absurd q.2 hy2)⟩⟩
  rintro _ rfl
  refine ⟨vp_in_nI (by omega) (by decide), ?_⟩
  rintro _ rfl
  have hy' : (1 : Int32) ≤ y ∧ y ≤ 9 := ⟨by rw [lt_nle, Classical.not_not] at hy; exact hy, hy2⟩
  have rok := a7 r hr
  have rel := b1 r hr
  rw [show 4 + 4 + r = 8 + r by omega] at rok rel
  have sf : ∀ a i, ¬ (a = 8 + r ∧ i = 4) → (fsI σ (8 + r) 4 y).1 a i = σ.1 a i := fun a i h1 => fsI_n h1
  have s1 : (fsI σ (8 + r) 4 y).1 (8 + r) 4 = y := fsI_s
  have s2 : (fsI σ (8 + r) 4 y).2 = σ.2 := rfl
  generalize fsI σ (8 + r) 4 y = s at sf s1 s2
  refine mm s (by rw [sf _ _ (by omega)]; exact b4) _ (fun q => absurd hx q) (fun _ _ _ q => absurd hy' q) (fun r' hr' e _ => ?_)
  obtain rfl := (nI_eq (by omega) (by omega)).mp e
  have zf : ∀ a i, ¬ (a = 81 ∧ i = 5 * r + 3) → (fsI s 81 (5 * r + 3) y).1 a i = s.1 a i := fun a i h1 => fsI_n h1
  have z1 : (fsI s 81 (5 * r + 3) y).1 81 (5 * r + 3) = y := fsI_s
  have z2 : (fsI s 81 (5 * r + 3) y).2 = σ.2 := s2
  generalize fsI s 81 (5 * r + 3) y = z at zf z1 z2
  have fr : ∀ a i, ¬ (a = 8 + r ∧ i = 4) → ¬ (a = 81 ∧ i = 5 * r + 3) → z.1 a i = σ.1 a i := fun a i h1 h2 => by rw [zf _ _ h2, sf _ _ h1]
  refine ⟨by rw [sf _ _ (by omega), rel.2.2.2.1], ?_⟩
  obtain ⟨jP, jF, jN, jK⟩ := inv_keep iP iF iN iK (σ' := z) (fun a i h => fr a i (by omega) (by omega))
  refine ⟨jP, jF, jN, nr, np, nl, iW.rd hr (fun a i h => fr a i (by omega) (by omega)) ?_ ?_, jK, iR.cg a1 z2 (fun k j h1 h2 h3 => fr _ _ (by omega) (by omega)) (fun j => fr _ _ (by omega) (by omega)) (fun j h1 => fr _ _ (by omega) (by omega)) (fun j => fr _ _ (by omega) (by omega))⟩
  · obtain ⟨q0, q1, q2, q3, q4⟩ := rel
    exact ⟨by rw [fr _ _ (by omega) (by omega), fr _ _ (by omega) (by omega)]; exact q0, by rw [fr _ _ (by omega) (by omega), fr _ _ (by omega) (by omega)]; exact q1, by rw [fr _ _ (by omega) (by omega), fr _ _ (by omega) (by omega)]; exact q2, by rw [z1, zf _ _ (by omega), s1], by rw [fr _ _ (by omega) (by omega), fr _ _ (by omega) (by omega)]; exact q4⟩
  · obtain ⟨q0, q1, q2, q3, q4, q5⟩ := rok
    obtain ⟨j, hj1, hj2, ej⟩ := i_rng (a := 1) (b := 9) (by decide) (by decide) hy'
    exact ⟨by rw [fr _ _ (by omega) (by omega)]; exact q0, by rw [fr _ _ (by omega) (by omega)]; exact q1, by rw [fr _ _ (by omega) (by omega)]; exact q2, by rw [fr _ _ (by omega) (by omega), fr _ _ (by omega) (by omega)]; exact q3, ⟨j, hj1, hj2, by rw [zf _ _ (by omega), s1]; exact ej⟩, by rw [fr _ _ (by omega) (by omega)]; exact q5⟩
theorem op_licence {x y : Int32} (hy : y = 0 ∨ y = 1) (h : inv c σ) : fMi E (d + 3) mX6_licence [.ref 1, .int x, .int y] σ (fun a σ1 => fMi E (d + 3) mX7_licence [.ref 78, .int x, .int y] σ1 (fun b σ2 => a = b ∧ inv (c + 1) σ2)) := by
  have h0 := h.up (Nat.le_succ c)
  obtain ⟨iP, iF, iN, nr, np, nl, iW, iK, iR⟩ := id h0
  obtain ⟨⟨a1, a2, a3, a4, a5, a6, a7, a8, a9, a10⟩, ⟨b1, b2, b3⟩, b4, b5, b6, b7, b8⟩ := id iW
  have mm : ∀ s : FH, s.1 78 6 = nI nr → ∀ P : Int32 → FH → Prop, (¬ (0 ≤ x ∧ x < nI nr) → P (-101) s) → (∀ r, r < nr → x = nI r → P (s.1 81 (5 * r + 4)) (fsI s 81 (5 * r + 4) y)) → fMi E (d + 3) mX7_licence [.ref 78, .int x, .int y] s P := by
    intro s s1 P k1 k3
    refine v_X7_licence ?_
    unfold t_X7_licence
    refine c_mIsRoad ?_
    rw [s1, bi_iff (bi_rng (by omega))]
    simp only [bi0, Classical.not_not]
    refine ⟨fun hx => ?_, k1⟩
    obtain ⟨r, hr, e⟩ := rng_nI (by omega) hx
    subst e
    rw [n5_4, nI_clamp (by omega)]
    refine ⟨vp_in_nI (by omega) (by decide), ?_⟩
    rintro _ rfl
    have k := k3 r hr rfl
    refine ⟨fun q => ⟨vp_in_nI (by omega) (by decide), ?_⟩, fun q => ⟨vp_in_nI (by omega) (by decide), ?_⟩⟩
    · rintro _ rfl
      rw [q] at k; exact k
    · rintro _ rfl
      rw [hy.resolve_left q] at k; exact k
  refine v_X6_licence ?_
  unfold t_X6_licence
  refine c_cIsRoad ?_
  rw [a4]
  simp only [bi0, Classical.not_not]
  refine ⟨fun hx => ?_, fun hx => mm σ b4 _ (fun _ => ⟨rfl, h0⟩) (fun r hr e => absurd (by rw [e]; exact nI_rng (by omega) hr) hx)⟩
  obtain ⟨r, hr, e⟩ := rng_nI (by omega) hx
  subst e
  rw [nI_clamp (by omega)]
  have rok := a7 r hr
  have rel := b1 r hr
  rw [show 4 + 4 + r = 8 + r by omega] at rok rel
  refine ⟨vp_in_nI (by omega) (by decide), c_asNumber (vp_b rok.2.2.2.2.2) ⟨vp_in_nI (by omega) (by decide), hy, ?_⟩⟩
  rintro _ rfl
  refine c_outdate ?_
  have sf : ∀ a i, ¬ (a = 8 + r ∧ i = 5) → ¬ (a = 71 ∧ i = 9) → (fsI (fsI σ (8 + r) 5 y) 71 9 0).1 a i = σ.1 a i := fun a i h1 h2 => by repeat rw [fsI_n (by omega)]
  have s1 : (fsI (fsI σ (8 + r) 5 y) 71 9 0).1 (8 + r) 5 = y := by rw [fsI_n (by omega)]; exact fsI_s
  have s9 : (fsI (fsI σ (8 + r) 5 y) 71 9 0).1 71 9 = 0 := fsI_s
  have s2 : (fsI (fsI σ (8 + r) 5 y) 71 9 0).2 = σ.2 := rfl
  generalize fsI (fsI σ (8 + r) 5 y) 71 9 0 = s at sf s1 s2 s9
  refine mm s (by rw [sf _ _ (by omega) (by omega)]; exact b4) _ (fun q => absurd hx q) (fun r' hr' e => ?_)
  obtain rfl := (nI_eq (by omega) (by omega)).mp e
  have zf : ∀ a i, ¬ (a = 81 ∧ i = 5 * r + 4) → (fsI s 81 (5 * r + 4) y).1 a i = s.1 a i := fun a i h1 => fsI_n h1
  have z1 : (fsI s 81 (5 * r + 4) y).1 81 (5 * r + 4) = y := fsI_s
  have z2 : (fsI s 81 (5 * r + 4) y).2 = σ.2 := s2
  generalize fsI s 81 (5 * r + 4) y = z at zf z1 z2
  have fr : ∀ a i, ¬ (a = 8 + r ∧ i = 5) → ¬ (a = 71 ∧ i = 9) → ¬ (a = 81 ∧ i = 5 * r + 4) → z.1 a i = σ.1 a i := fun a i h1 h2 h3 => by rw [zf _ _ h3, sf _ _ h1 h2]
  refine ⟨by rw [sf _ _ (by omega) (by omega), rel.2.2.2.2], ?_⟩
  obtain ⟨jP, jF, jN, jK⟩ := inv_keep iP iF iN iK (σ' := z) (fun a i h => fr a i (by omega) (by omega) (by omega))
  refine ⟨jP, jF, jN, nr, np, nl, iW.rd hr (fun a i h => fr a i (by omega) (by omega) (by omega)) ?_ ?_, jK, iR.off z2 (by rw [zf _ _ (by omega)]; exact s9)⟩
  · obtain ⟨q0, q1, q2, q3, q4⟩ := rel
    exact ⟨by rw [fr _ _ (by omega) (by omega) (by omega), fr _ _ (by omega) (by omega) (by omega)]; exact q0, by rw [fr _ _ (by omega) (by omega) (by omega), fr _ _ (by omega) (by omega) (by omega)]; exact q1, by rw [fr _ _ (by omega) (by omega) (by omega), fr _ _ (by omega) (by omega) (by omega)]; exact q2, by rw [fr _ _ (by omega) (by omega) (by omega), fr _ _ (by omega) (by omega) (by omega)]; exact q3, by rw [z1, zf _ _ (by omega), s1]⟩
  · obtain ⟨q0, q1, q2, q3, q4, q5⟩ := rok
    exact ⟨by rw [fr _ _ (by omega) (by omega) (by omega)]; exact q0, by rw [fr _ _ (by omega) (by omega) (by omega)]; exact q1, by rw [fr _ _ (by omega) (by omega) (by omega)]; exact q2, by rw [fr _ _ (by omega) (by omega) (by omega), fr _ _ (by omega) (by omega) (by omega)]; exact q3, by rw [fr _ _ (by omega) (by omega) (by omega)]; exact q4, by rw [zf _ _ (by omega), s1]; exact in_b hy⟩
theorem log_iff {x : Int32} : (x = -1 ∨ (0 ≤ x ∧ x ≤ 5)) ↔ ¬ (¬ x = -1 ∧ ¬ (0 ≤ x ∧ x ≤ 5)) := by
  constructor
  · intro h q; exact h.elim q.1 q.2
  · intro h
    by_cases q : x = -1
    · exact Or.inl q
    · exact Or.inr (Classical.not_not.mp (fun z => h ⟨q, z⟩))
theorem op_log {x : Int32} (h : inv c σ) : fMi E (d + 3) mX6_log [.ref 1, .int x] σ (fun a σ1 => fMi E (d + 3) mX7_log [.ref 78, .int x] σ1 (fun b σ2 => a = b ∧ inv (c + 1) σ2)) := by
  have h0 := h.up (Nat.le_succ c)
  obtain ⟨iP, iF, iN, nr, np, nl, iW, iK, iR⟩ := id h0
  obtain ⟨⟨a1, a2, a3, a4, a5, a6, a7, a8, a9, a10⟩, ⟨b1, b2, b3⟩, b4, b5, b6, b7, b8⟩ := id iW
  have mm : ∀ s : FH, s.1 78 20 = nI nl → ∀ P : Int32 → FH → Prop, (¬ (x = -1 ∨ (0 ≤ x ∧ x ≤ 5)) → P (-101) s) → ((x = -1 ∨ (0 ≤ x ∧ x ≤ 5)) → nl = 7 → P (-104) s) → ((x = -1 ∨ (0 ≤ x ∧ x ≤ 5)) → nl < 7 → P (nI (nl + 1)) (fsI (fsI s 87 nl x) 78 20 (nI (nl + 1)))) → fMi E (d + 3) mX7_log [.ref 78, .int x] s P := by
    intro s s1 P k1 k2 k3
    refine v_X7_log ?_
    unfold t_X7_log
    have tl : (x = -1 ∨ (0 ≤ x ∧ x ≤ 5)) → t_X7_log_20 E (d + 2) x s P := by
      intro hx
      unfold t_X7_log_20
      rw [s1]
      refine ⟨fun hn => ?_, fun hn => k2 hx ((nI_eq (by omega) (by decide)).mp hn)⟩
      have hn' : nl < 7 := by
        rcases Nat.lt_or_ge nl 7 with q | q
        · exact q
        · exact absurd (by rw [show nl = 7 by omega]; rfl) hn
      rw [nI_clamp (by omega)]
      refine ⟨vp_in_nI hn' (by decide), ?_⟩
      rintro _ rfl _ rfl
      have e : (fsI s 87 nl x).1 78 20 = nI nl := by rw [fsI_n (by omega)]; exact s1
      rw [fsI_s, e, nI_1]
      exact k3 hx hn'
    refine ⟨fun hx => tl (Or.inl hx), fun hx => c_in32 0 5 rfl rfl ?_⟩
    simp only [bi0, Classical.not_not]
    exact ⟨fun q => tl (Or.inr q), fun q => k1 (fun z => z.elim hx q)⟩
  refine v_X6_log ?_
  unfold t_X6_log
  have tl : (x = -1 ∨ (0 ≤ x ∧ x ≤ 5)) → t_X6_log_18 E (d + 2) x σ (fun a σ1 => fMi E (d + 3) mX7_log [.ref 78, .int x] σ1 (fun b σ2 => a = b ∧ inv (c + 1) σ2)) := by
    intro hx
    unfold t_X6_log_18
    rw [a6]
    refine ⟨fun hn => ?_, fun hn => mm σ b6 _ (fun q => absurd hx q) (fun _ _ => ⟨rfl, h0⟩) (fun _ q => absurd (nI_lt q (by decide)) hn)⟩
    have hn' : nl < 7 := (nI_ltI (by omega) (by decide)).mp hn
    rw [nI_clamp (by omega)]
    refine ⟨vp_in_nI hn' (by decide), ?_⟩
    rintro _ rfl _ rfl
    have e : (fsI σ 5 nl x).1 4 4 = nI nl := by rw [fsI_n (by omega)]; exact a6
    rw [e, nI_1]
    refine c_outdate ?_
    have sf : ∀ a i, ¬ (a = 5 ∧ i = nl) → ¬ (a = 4 ∧ i = 4) → ¬ (a = 71 ∧ i = 9) → (fsI (fsI (fsI σ 5 nl x) 4 4 (nI (nl + 1))) 71 9 0).1 a i = σ.1 a i := fun a i h1 h2 h3 => by repeat rw [fsI_n (by omega)]
    have s1 : (fsI (fsI (fsI σ 5 nl x) 4 4 (nI (nl + 1))) 71 9 0).1 5 nl = x := by rw [fsI_n (by omega), fsI_n (by omega)]; exact fsI_s
    have s4 : (fsI (fsI (fsI σ 5 nl x) 4 4 (nI (nl + 1))) 71 9 0).1 4 4 = nI (nl + 1) := by rw [fsI_n (by omega)]; exact fsI_s
    have s9 : (fsI (fsI (fsI σ 5 nl x) 4 4 (nI (nl + 1))) 71 9 0).1 71 9 = 0 := fsI_s
    have s2 : (fsI (fsI (fsI σ 5 nl x) 4 4 (nI (nl + 1))) 71 9 0).2 = σ.2 := rfl
    generalize fsI (fsI (fsI σ 5 nl x) 4 4 (nI (nl + 1))) 71 9 0 = s at sf s1 s2 s4 s9
    refine mm s (by rw [sf _ _ (by omega) (by omega) (by omega)]; exact b6) _ (fun q => absurd hx q) (fun _ q => absurd q (by omega)) (fun _ _ => ⟨by rw [s4], ?_⟩)
    have zf : ∀ a i, ¬ (a = 87 ∧ i = nl) → ¬ (a = 78 ∧ i = 20) → (fsI (fsI s 87 nl x) 78 20 (nI (nl + 1))).1 a i = s.1 a i := fun a i h1 h2 => by repeat rw [fsI_n (by omega)]
    have z1 : (fsI (fsI s 87 nl x) 78 20 (nI (nl + 1))).1 87 nl = x := by rw [fsI_n (by omega)]; exact fsI_s
    have z4 : (fsI (fsI s 87 nl x) 78 20 (nI (nl + 1))).1 78 20 = nI (nl + 1) := fsI_s
    have z2 : (fsI (fsI s 87 nl x) 78 20 (nI (nl + 1))).2 = σ.2 := s2
    generalize fsI (fsI s 87 nl x) 78 20 (nI (nl + 1)) = z at zf z1 z2 z4
    have fr : ∀ a i, ¬ (a = 5 ∧ i = nl) → ¬ (a = 4 ∧ i = 4) → ¬ (a = 71 ∧ i = 9) → ¬ (a = 87 ∧ i = nl) → ¬ (a = 78 ∧ i = 20) → z.1 a i = σ.1 a i := fun a i h1 h2 h3 h4 h5 => by rw [zf _ _ h4 h5, sf _ _ h1 h2 h3]
    obtain ⟨jP, jF, jN, jK⟩ := inv_keep iP iF iN iK (σ' := z) (fun a i h => fr a i (by omega) (by omega) (by omega) (by omega) (by omega))
    have f : ∀ a i, a ≠ 5 → a ≠ 71 → a ≠ 87 → ¬ (a = 4 ∧ i = 4) → ¬ (a = 78 ∧ i = 20) → z.1 a i = σ.1 a i := fun a i h1 h2 h3 h4 h5 => fr a i (by omega) h4 (by omega) (by omega) h5
    refine ⟨jP, jF, jN, nr, np, nl + 1, ⟨⟨a1, a2, by omega, by rw [f _ _ (by omega) (by omega) (by omega) (by omega) (by omega)]; exact a4, by rw [f _ _ (by omega) (by omega) (by omega) (by omega) (by omega)]; exact a5, by rw [zf _ _ (by omega) (by omega)]; exact s4, fun i hi => (a7 i hi).cg (fun j _ => f _ _ (by omega) (by omega) (by omega) (by omega) (by omega)), fun p hp => (a8 p hp).cg (fun j _ => f _ _ (by omega) (by omega) (by omega) (by omega) (by omega)) (fun j _ => f _ _ (by omega) (by omega) (by omega) (by omega) (by omega)), fun i hi => ?_, by rw [f _ _ (by omega) (by omega) (by omega) (by omega) (by omega)]; exact a10⟩, ⟨fun i hi => (b1 i hi).cg (fun j _ => f _ _ (by omega) (by omega) (by omega) (by omega) (by omega)) (fun j _ => f _ _ (by omega) (by omega) (by omega) (by omega) (by omega)), fun p hp => (b2 p hp).cg (fun j _ => f _ _ (by omega) (by omega) (by omega) (by omega) (by omega)) (fun j _ => f _ _ (by omega) (by omega) (by omega) (by omega) (by omega)) (fun j _ => f _ _ (by omega) (by omega) (by omega) (by omega) (by omega)) (fun j _ => f _ _ (by omega) (by omega) (by omega) (by omega) (by omega)), fun i hi => ?_⟩, by rw [f _ _ (by omega) (by omega) (by omega) (by omega) (by omega)]; exact b4, by rw [f _ _ (by omega) (by omega) (by omega) (by omega) (by omega)]; exact b5, z4, by rw [f _ _ (by omega) (by omega) (by omega) (by omega) (by omega), f _ _ (by omega) (by omega) (by omega) (by omega) (by omega)]; exact b7, by rw [f _ _ (by omega) (by omega) (by omega) (by omega) (by omega), f _ _ (by omega) (by omega) (by omega) (by omega) (by omega)]; exact b8⟩, jK, iR.off z2 (by rw [zf _ _ (by omega) (by omega)]; exact s9)⟩
    · by_cases e : i = nl
      · subst e
        rw [zf _ _ (by omega) (by omega), s1]
        refine hx.imp (fun q => q) (fun q => ?_)
        obtain ⟨j, hj1, hj2, ej⟩ := i_rng (a := 0) (b := 5) (by decide) (by decide) q
        rw [ej]
        exact vp_in_nI (by omega) (by decide)
      · rw [fr _ _ (by omega) (by omega) (by omega) (by omega) (by omega)]
        exact a9 i (by omega)
    · by_cases e : i = nl
      · subst e
        rw [z1, zf _ _ (by omega) (by omega), s1]
      · rw [fr _ _ (by omega) (by omega) (by omega) (by omega) (by omega), fr _ _ (by omega) (by omega) (by omega) (by omega) (by omega)]
        exact b3 i (by omega)
  have out : ¬ x = -1 → ¬ (0 ≤ x ∧ x ≤ 5) → fMi E (d + 3) mX7_log [.ref 78, .int x] σ (fun b σ2 => (-101) = b ∧ inv (c + 1) σ2) := fun h1 h2 => mm σ b6 _ (fun _ => ⟨rfl, h0⟩) (fun q => (q.elim h1 h2).elim) (fun q => (q.elim h1 h2).elim)
  refine ⟨fun hx => tl (Or.inl hx), fun hx => ⟨fun h2 => out hx (fun q => lt_nle.mp h2 q.1), fun h2 => ⟨fun h3 => tl (Or.inr ⟨?_, ?_⟩), fun h3 => out hx (fun q => h3 ?_)⟩⟩⟩
  · rw [lt_nle, Classical.not_not] at h2; exact h2
  · rw [fa_lt] at h3
    rw [fa_le]
    have e1 : (6 : Int32).toInt = 6 := rfl
    have e2 : (5 : Int32).toInt = 5 := rfl
    omega
  · have := q.2
    rw [fa_le] at this
    rw [fa_lt]
    have e1 : (6 : Int32).toInt = 6 := rfl
    have e2 : (5 : Int32).toInt = 5 := rfl
    omega
theorem op_forget (h : inv c σ) : fMi E (d + 2) mX6_forget [.ref 1] σ (fun a σ1 => fMi E (d + 2) mX7_forget [.ref 78] σ1 (fun b σ2 => a = b ∧ inv (c + 1) σ2)) := by
  have h0 := h.up (Nat.le_succ c)
  obtain ⟨iP, iF, iN, nr, np, nl, iW, iK, iR⟩ := id h0
  obtain ⟨⟨a1, a2, a3, a4, a5, a6, a7, a8, a9, a10⟩, ⟨b1, b2, b3⟩, b4, b5, b6, b7, b8⟩ := id iW
  refine v_X6_forget ?_
  unfold t_X6_forget
  rintro _ rfl
  refine c_outdate ?_
  refine v_X7_forget ?_
  unfold t_X7_forget
  rintro _ rfl
  have e1 : (fsI (fsI σ 4 4 0) 71 9 0).1 78 20 = σ.1 78 20 := by repeat rw [fsI_n (by omega)]
  refine ⟨by rw [e1, a6, b6], ?_⟩
  have fr : ∀ a i, ¬ (a = 4 ∧ i = 4) → ¬ (a = 71 ∧ i = 9) → ¬ (a = 78 ∧ i = 20) → (fsI (fsI (fsI σ 4 4 0) 71 9 0) 78 20 0).1 a i = σ.1 a i := fun a i h1 h2 h3 => by repeat rw [fsI_n (by omega)]
  have z4 : (fsI (fsI (fsI σ 4 4 0) 71 9 0) 78 20 0).1 4 4 = 0 := by rw [fsI_n (by omega), fsI_n (by omega)]; exact fsI_s
  have z9 : (fsI (fsI (fsI σ 4 4 0) 71 9 0) 78 20 0).1 71 9 = 0 := by rw [fsI_n (by omega)]; exact fsI_s
  have z20 : (fsI (fsI (fsI σ 4 4 0) 71 9 0) 78 20 0).1 78 20 = 0 := fsI_s
  have z2 : (fsI (fsI (fsI σ 4 4 0) 71 9 0) 78 20 0).2 = σ.2 := rfl
  generalize fsI (fsI (fsI σ 4 4 0) 71 9 0) 78 20 0 = z at fr z4 z9 z20 z2
  obtain ⟨jP, jF, jN, jK⟩ := inv_keep iP iF iN iK (σ' := z) (fun a i h => fr a i (by omega) (by omega) (by omega))
  refine ⟨jP, jF, jN, nr, np, 0, ⟨⟨a1, a2, by omega, by rw [fr _ _ (by omega) (by omega) (by omega)]; exact a4, by rw [fr _ _ (by omega) (by omega) (by omega)]; exact a5, z4, fun i hi => (a7 i hi).cg (fun j _ => fr _ _ (by omega) (by omega) (by omega)), fun p hp => (a8 p hp).cg (fun j _ => fr _ _ (by omega) (by omega) (by omega)) (fun j _ => fr _ _ (by omega) (by omega) (by omega)), fun i hi => absurd hi (by omega), by rw [fr _ _ (by omega) (by omega) (by omega)]; exact a10⟩, ⟨fun i hi => (b1 i hi).cg (fun j _ => fr _ _ (by omega) (by omega) (by omega)) (fun j _ => fr _ _ (by omega) (by omega) (by omega)), fun p hp => (b2 p hp).cg (fun j _ => fr _ _ (by omega) (by omega) (by omega)) (fun j _ => fr _ _ (by omega) (by omega) (by omega)) (fun j _ => fr _ _ (by omega) (by omega) (by omega)) (fun j _ => fr _ _ (by omega) (by omega) (by omega)), fun i hi => absurd hi (by omega)⟩, by rw [fr _ _ (by omega) (by omega) (by omega)]; exact b4, by rw [fr _ _ (by omega) (by omega) (by omega)]; exact b5, z20, by rw [fr _ _ (by omega) (by omega) (by omega), fr _ _ (by omega) (by omega) (by omega)]; exact b7, by rw [fr _ _ (by omega) (by omega) (by omega), fr _ _ (by omega) (by omega) (by omega)]; exact b8⟩, jK, iR.off z2 z9⟩
end OPS5
