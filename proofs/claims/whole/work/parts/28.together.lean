/-! walking by two -/
theorem iWd.all {c c' nr np nl : Nat} {σ σ' : FH} (h : iWd c nr np nl σ) (fr : ∀ a i, ((4 ≤ a ∧ a < 16 ∧ ¬ (a = 4 ∧ i = 3)) ∨ (a = 81 ∧ i < 40) ∨ a = 87 ∨ (a = 78 ∧ (i = 6 ∨ i = 7 ∨ i = 11 ∨ i = 20))) → σ'.1 a i = σ.1 a i) (hm : σ'.1 78 9 = σ'.1 4 3) (h1 : ∀ p, p < np → pr σ' (16 + 2 * p) 82 83 p ∧ pgOK c' σ' (16 + 2 * p)) : iWd c' nr np nl σ' := by
  obtain ⟨⟨a1, a2, a3, a4, a5, a6, a7, a8, a9, a10⟩, ⟨b1, b2, b3⟩, b4, b5, b6, b7, b8⟩ := h
  refine ⟨⟨a1, a2, a3, by rw [fr _ _ (by omega)]; exact a4, by rw [fr _ _ (by omega)]; exact a5, by rw [fr _ _ (by omega)]; exact a6, fun i hi => (a7 i hi).cg (fun j _ => fr _ _ (by omega)), fun q hq => ?_, fun i hi => by rw [fr _ _ (by omega)]; exact a9 i hi, by rw [fr _ _ (by omega)]; exact a10⟩, ⟨fun i hi => (b1 i hi).cg (fun j _ => fr _ _ (by omega)) (fun j _ => fr _ _ (by omega)), fun q hq => ?_, fun i hi => by rw [fr _ _ (by omega), fr _ _ (by omega)]; exact b3 i hi⟩, by rw [fr _ _ (by omega)]; exact b4, by rw [fr _ _ (by omega)]; exact b5, by rw [fr _ _ (by omega)]; exact b6, by rw [fr _ _ (by omega), fr _ _ (by omega)]; exact b7, hm⟩
  · rw [show 4 + 12 + 2 * q = 16 + 2 * q by omega]; exact (h1 q hq).2
  · rw [show 4 + 12 + 2 * q = 16 + 2 * q by omega]; exact (h1 q hq).1
section OPS6
variable {E : am_E} {d c : Nat} {σ : FH}
set_option maxHeartbeats 1000000 in
theorem op_together {x y v : Int32} (hc : c < 900) (h : inv c σ) : fMi E (d + 4) mX6_together [.ref 1, .int x, .int y, .int v] σ (fun a σ1 => fMi E (d + 4) mX7_together [.ref 78, .int x, .int y, .int v] σ1 (fun b σ2 => a = b ∧ inv (c + 1) σ2)) := by
  have h0 := h.up (Nat.le_succ c)
  obtain ⟨iP, iF, iN, nr, np, nl, iW, iK, iR⟩ := h
  obtain ⟨⟨a1, a2, a3, a4, a5, a6, a7, a8, a9, a10⟩, ⟨b1, b2, b3⟩, b4, b5, b6, b7, b8⟩ := id iW
  have mm : ∀ s : FH, s.1 78 6 = nI nr → s.1 78 11 = nI np → ∀ P : Int32 → FH → Prop, ((¬ (0 ≤ x ∧ x < nI np) ∨ ¬ (0 ≤ y ∧ y < nI np) ∨ x = y ∨ ¬ (0 ≤ v ∧ v < nI nr)) → P (-101) s) → (∀ p q r, p < np → q < np → r < nr → x = nI p → y = nI q → v = nI r → p ≠ q → ((¬ s.1 82 (5 * p) = s.1 82 (5 * q) → P (-103) s) ∧ (s.1 82 (5 * p) = s.1 82 (5 * q) → fMi E (d + 3) mX7_mayWalk [.ref 78, .int (nI p), .int (nI r), .int ((s.1 81 (5 * r + 3) + 1) / 2)] s (fun r17 σ16 => ((r17 = 0 → P (-103) σ16) ∧
            (¬ r17 = 0 → fMi E (d + 3) mX7_mayWalk [.ref 78, .int (nI q), .int (nI r), .int ((s.1 81 (5 * r + 3) + 1) / 2)] σ16 (fun r20 σ19 => ((¬ r20 = 0 → fMi E (d + 3) mX7_worthOf [.ref 78, .int (nI r)] σ19 (fun r23 σ22 => fMv E (d + 3) mX7_goes [.ref 78, .int (nI p), .int (nI r), .int ((s.1 81 (5 * r + 3) + 1) / 2), .int r23] σ22 (fun σ24 => fMi E (d + 3) mX7_worthOf [.ref 78, .int (nI r)] σ24 (fun r27 σ26 => fMv E (d + 3) mX7_goes [.ref 78, .int (nI q), .int (nI r), .int ((s.1 81 (5 * r + 3) + 1) / 2), .int (r27 / 2)] σ26 (fun σ28 => (∀ σ30 : FH, σ30 = fsI σ28 78 9 ((σ28.1 78 9) + 1) → P (σ30.1 82 (5 * p)) σ30)))))) ∧
              (r20 = 0 → P (-103) σ19))))))))) → fMi E (d + 4) mX7_together [.ref 78, .int x, .int y, .int v] s P := by
    intro s s1 s2 P k1 k3
    refine v_X7_together ?_
    unfold t_X7_together
    refine c_mIsPilgrim ?_
    rw [s2, bi_iff (bi_rng (by omega))]
    simp only [bi0, Classical.not_not]
    refine ⟨fun hx => k1 (Or.inl hx), fun hx => c_mIsPilgrim ?_⟩
    rw [s2, bi_iff (bi_rng (by omega))]
    simp only [bi0, Classical.not_not]
    refine ⟨fun hy => k1 (Or.inr (Or.inl hy)), fun hy => ⟨fun hxy => k1 (Or.inr (Or.inr (Or.inl hxy))), fun hxy => c_mIsRoad ?_⟩⟩
    rw [s1, bi_iff (bi_rng (by omega))]
    simp only [bi0, Classical.not_not]
    refine ⟨fun hv => ?_, fun hv => k1 (Or.inr (Or.inr (Or.inr hv)))⟩
    obtain ⟨p, hp, e⟩ := rng_nI (by omega) hx
    obtain ⟨q, hq, e2⟩ := rng_nI (by omega) hy
    obtain ⟨r, hr, e3⟩ := rng_nI (by omega) hv
    subst e
    subst e2
    subst e3
    have k := k3 p q r hp hq hr rfl rfl rfl (fun z => hxy (by rw [z]))
    rw [n5_3, n5', n5', nI_clamp (by omega), nI_clamp (by omega), nI_clamp (by omega)]
    refine ⟨vp_in_nI (by omega) (by decide), ?_⟩
    rintro _ rfl
    refine ⟨vp_in_nI (by omega) (by decide), vp_in_nI (by omega) (by decide), k.1, fun hz => fMi.mono (k.2 hz) (fun r17 σ16 z => ⟨z.1, fun q1 => fMi.mono (z.2 q1) (fun r20 σ19 z => ⟨fun q2 => fMi.mono (z.1 q2) (fun r23 σ22 z => fMv.mono z (fun σ24 z => fMi.mono z (fun r27 σ26 z => fMv.mono z (fun σ28 z σ30 e => ⟨vp_in_nI (by omega) (by decide), z σ30 e⟩)))), z.2⟩)⟩)⟩
  have unk : (¬ (0 ≤ x ∧ x < nI np) ∨ ¬ (0 ≤ y ∧ y < nI np) ∨ x = y ∨ ¬ (0 ≤ v ∧ v < nI nr)) → fMi E (d + 4) mX7_together [.ref 78, .int x, .int y, .int v] σ (fun b σ2 => (-101) = b ∧ inv (c + 1) σ2) := fun hu => mm σ b4 b5 _ (fun _ => ⟨rfl, h0⟩) (fun p q r hp hq hr e1 e2 e3 hne => by
    rcases hu with z | z | z | z
    · exact absurd (by rw [e1]; exact nI_rng (by omega) hp) z
    · exact absurd (by rw [e2]; exact nI_rng (by omega) hq) z
    · rw [e1, e2] at z
      exact absurd ((nI_eq (by omega) (by omega)).mp z) hne
    · exact absurd (by rw [e3]; exact nI_rng (by omega) hr) z)
  refine v_X6_together ?_
  unfold t_X6_together
  refine c_cIsPilgrim ?_
  rw [a5]
  simp only [bi0, Classical.not_not]
  refine ⟨fun hx => unk (Or.inl hx), fun hx => c_cIsPilgrim ?_⟩
  rw [a5]
  simp only [bi0, Classical.not_not]
  refine ⟨fun hy => unk (Or.inr (Or.inl hy)), fun hy => ⟨fun hxy => unk (Or.inr (Or.inr (Or.inl hxy))), fun hxy => c_cIsRoad ?_⟩⟩
  rw [a4]
  simp only [bi0, Classical.not_not]
  refine ⟨fun hv => ?_, fun hv => unk (Or.inr (Or.inr (Or.inr hv)))⟩
  obtain ⟨p, hp, e⟩ := rng_nI (by omega) hx
  obtain ⟨q, hq, e2⟩ := rng_nI (by omega) hy
  obtain ⟨r, hr, e3⟩ := rng_nI (by omega) hv
  subst e
  subst e2
  subst e3
  have hpq : p ≠ q := fun z => hxy (by rw [z])
  rw [nI_clamp (by omega), nI_clamp (by omega), nI_clamp (by omega)]
  have hpg : isPg (16 + 2 * p) := ⟨4, p, Or.inl rfl, by omega, by omega⟩
  have hqg : isPg (16 + 2 * q) := ⟨4, q, Or.inl rfl, by omega, by omega⟩
  have hrd : isRd (8 + r) := ⟨4, r, Or.inl rfl, by omega, by omega⟩
  have hnum : σ.1 (8 + r) 0 = nI r := iN 4 (Or.inl rfl) r (by omega)
  have rok := a7 r hr
  have rel := b1 r hr
  rw [show 4 + 4 + r = 8 + r by omega] at rok rel
  have pok := a8 p hp
  have prl := b2 p hp
  rw [show 4 + 12 + 2 * p = 16 + 2 * p by omega] at pok prl
  have qok := a8 q hq
  have qrl := b2 q hq
  rw [show 4 + 12 + 2 * q = 16 + 2 * q by omega] at qok qrl
  obtain ⟨hm, hm1, hm2, hm3⟩ := rok.2.2.2.2.1
  obtain ⟨w, hw1, hw2⟩ := wrt_n rok.1 rok.2.2.2.2.2
  have hhalf : (σ.1 (8 + r) 4 + 1) / 2 = nI ((hm + 1) / 2) := by
    rw [hm3, nI_1, show (2 : Int32) = nI 2 from rfl, pk_div (by omega) (by decide) (by decide)]
  have hw22 : wrt (σ.1 (8 + r) 1) (σ.1 (8 + r) 5) / 2 = nI (w / 2) := by
    rw [hw2, show (2 : Int32) = nI 2 from rfl, pk_div (by omega) (by decide) (by decide)]
  rw [hhalf]
  have inj : ∀ p', p' < np → ∀ p, p < np → nI p = nI p' → p' = p := fun p' hp' p hp e => ((nI_eq (by omega) (by omega)).mp e).symm
  refine ⟨vp_in_nI (by omega) (by decide), vp_in_nI (by omega) (by decide), vp_in_nI (by omega) (by decide), ?_⟩
  rintro _ rfl
  -- refusals of the reference over σ itself
  have ref : (σ.1 (16 + 2 * p) 0 = σ.1 (16 + 2 * q) 0 → (σ.1 (16 + 2 * p) 4 = 0 ∧ (σ.1 (16 + 2 * p) 0 = σ.1 (8 + r) 2 ∨ σ.1 (16 + 2 * p) 0 = σ.1 (8 + r) 3) ∧ ¬ 99 < σ.1 (16 + 2 * p) 1 + nI ((hm + 1) / 2)) → ¬ (σ.1 (16 + 2 * q) 4 = 0 ∧ (σ.1 (16 + 2 * q) 0 = σ.1 (8 + r) 2 ∨ σ.1 (16 + 2 * q) 0 = σ.1 (8 + r) 3) ∧ ¬ 99 < σ.1 (16 + 2 * q) 1 + nI ((hm + 1) / 2))) → fMi E (d + 4) mX7_together [.ref 78, .int (nI p), .int (nI q), .int (nI r)] σ (fun b σ2 => (-103) = b ∧ inv (c + 1) σ2) := by
    intro hno
    refine mm σ b4 b5 _ (fun z => ?_) ?_
    · rcases z with z | z | z | z
      · exact absurd hx z
      · exact absurd hy z
      · exact absurd z hxy
      · exact absurd hv z
    · intro p' q' r' hp' hq' hr' e1 e2 e3 hne
      obtain rfl := inj p' hp' p hp e1
      obtain rfl := inj q' hq' q hq e2
      obtain rfl := (nI_eq (by omega) (by omega)).mp e3
      rw [prl.1, qrl.1, rel.2.2.2.1, hhalf]
      refine ⟨fun _ => ⟨rfl, h0⟩, fun hz => c_mayWalk (by omega) (by omega) ?_⟩
      rw [bi_iff (may_iff prl rel pok rok)]
      simp only [bi0, Classical.not_not]
      refine ⟨fun _ => ⟨by trivial, h0⟩, fun hz2 => c_mayWalk (by omega) (by omega) ?_⟩
      rw [bi_iff (may_iff qrl rel qok rok), bi_f (hno hz hz2)]
      exact ⟨fun z => absurd rfl z, fun _ => ⟨by trivial, h0⟩⟩
  refine ⟨fun hz => ref (fun z => absurd z hz), fun hz => c_may hpg hrd ?_⟩
  simp only [bi0, Classical.not_not]
  refine ⟨fun hz2 => ref (fun _ z => absurd z hz2), fun hz2 => c_may hqg hrd ?_⟩
  simp only [bi0, Classical.not_not]
  refine ⟨fun hz3 => c_worth hrd ?_, fun hz3 => ref (fun _ _ => hz3)⟩
  refine c_go (r := r) hpg hrd ⟨by omega, by omega⟩ (by omega) hnum ?_
  intro s f0 f1 f2 f3 f4 f5 f6
  have sr : ∀ i, s.1 (8 + r) i = σ.1 (8 + r) i := fun i => f1 _ _ (by omega) (by omega)
  refine c_worth hrd ?_
  rw [sr, sr, hw22]
  refine c_go (r := r) hqg hrd ⟨by omega, by omega⟩ (by omega) (by rw [sr]; exact hnum) ?_
  intro s' g0 g1 g2 g3 g4 g5 g6
  rintro _ rfl
  have s43 : s'.1 4 3 = σ.1 4 3 := by rw [g1 _ _ (by omega) (by omega), f1 _ _ (by omega) (by omega)]
  rw [s43]
  generalize hu : fsI s' 4 3 (σ.1 4 3 + 1) = u
  have us : ∀ a i, ¬ (a = 4 ∧ i = 3) → u.1 a i = s'.1 a i := fun a i ha => by rw [← hu, fsI_n ha]
  have usf : ∀ a i, 78 ≤ a → u.1 a i = σ.1 a i := fun a i ha => by rw [us _ _ (by omega), g1 _ _ (by omega) (by omega), f1 _ _ (by omega) (by omega)]
  have u43 : u.1 4 3 = σ.1 4 3 + 1 := by rw [← hu]; exact fsI_s
  -- the reference
  refine mm u (by rw [usf _ _ (by omega)]; exact b4) (by rw [usf _ _ (by omega)]; exact b5) _ (fun z => ?_) ?_
  · rcases z with z | z | z | z
    · exact absurd hx z
    · exact absurd hy z
    · exact absurd z hxy
    · exact absurd hv z
  intro p' q' r' hp' hq' hr' e1 e2 e3 hne
  obtain rfl := inj p' hp' p hp e1
  obtain rfl := inj q' hq' q hq e2
  obtain rfl := (nI_eq (by omega) (by omega)).mp e3
  have e81 : u.1 81 (5 * r + 3) = σ.1 (8 + r) 4 := by rw [usf _ _ (by omega)]; exact rel.2.2.2.1
  rw [usf 82 (5 * p') (by omega), usf 82 (5 * q') (by omega), prl.1, qrl.1, e81, hhalf]
  refine ⟨fun z => absurd hz z, fun _ => c_mayWalk (by omega) (by omega) ?_⟩
  have cp : (¬ u.1 82 (5 * p' + 3) = 1 ∧ ¬ oE (u.1 81 (5 * r + 1)) (u.1 81 (5 * r + 2)) (u.1 82 (5 * p')) = -1 ∧ ¬ 99 < u.1 82 (5 * p' + 1) + nI ((hm + 1) / 2)) := by
    rw [usf _ _ (by omega), usf _ _ (by omega), usf _ _ (by omega), usf _ _ (by omega), usf _ _ (by omega)]
    exact (may_iff prl rel pok rok).mpr hz2
  have cq : (¬ u.1 82 (5 * q' + 3) = 1 ∧ ¬ oE (u.1 81 (5 * r + 1)) (u.1 81 (5 * r + 2)) (u.1 82 (5 * q')) = -1 ∧ ¬ 99 < u.1 82 (5 * q' + 1) + nI ((hm + 1) / 2)) := by
    rw [usf _ _ (by omega), usf _ _ (by omega), usf _ _ (by omega), usf _ _ (by omega), usf _ _ (by omega)]
    exact (may_iff qrl rel qok rok).mpr hz3
  rw [bi_t cp]
  refine ⟨fun z => absurd z (by decide), fun _ => c_mayWalk (by omega) (by omega) ?_⟩
  rw [bi_t cq]
  refine ⟨fun _ => ?_, fun z => absurd z (by decide)⟩
  have wk : ∀ z : FH, (∀ i, z.1 81 i = σ.1 81 i) → vp_in (z.1 81 (5 * r)) 5 ∧ vp_in (z.1 81 (5 * r + 4)) 2 ∧ wrt (z.1 81 (5 * r)) (z.1 81 (5 * r + 4)) = nI w := fun z hz => by
    rw [hz, hz, rel.1, rel.2.2.2.2]
    exact ⟨rok.1, rok.2.2.2.2.2, hw2⟩
  obtain ⟨w1, w2, w3⟩ := wk u (fun i => usf _ _ (by omega))
  refine c_worthOf (by omega) w1 w2 ?_
  rw [w3]
  refine c_goes (by omega) (by omega) ?_
  intro t m0 m1 m2 m3 m4 m5 m6 m7
  obtain ⟨w4, w5, w6⟩ := wk t (fun i => by rw [m1 _ _ (by omega) (by omega), usf _ _ (by omega)])
  refine c_worthOf (by omega) w4 w5 ?_
  rw [w6, show (2 : Int32) = nI 2 from rfl, pk_div (by omega) (by decide) (by decide)]
  refine c_goes (by omega) (by omega) ?_
  intro t' l0 l1 l2 l3 l4 l5 l6 l7
  rintro _ rfl
  have t9 : t'.1 78 9 = σ.1 4 3 := by rw [l1 _ _ (by omega) (by omega), m1 _ _ (by omega) (by omega), usf _ _ (by omega), b8]
  rw [t9]
  generalize hzz : fsI t' 78 9 (σ.1 4 3 + 1) = z
  have zf : ∀ a i, ¬ (a = 78 ∧ i = 9) → z.1 a i = t'.1 a i := fun a i ha => by rw [← hzz, fsI_n ha]
  have zu : ∀ a i, a < 78 → z.1 a i = u.1 a i := fun a i ha => by rw [zf _ _ (by omega), l1 _ _ (by omega) (by omega), m1 _ _ (by omega) (by omega)]
  rw [hw2] at f4
  obtain ⟨k1, k2⟩ := pr_go (s := u) (t := z) (w := w) (h := (hm + 1) / 2) (y := nI w) prl rel pok rok (by omega) (by omega) (by omega) (by omega) (by omega) hw1 rfl hz2.2.1 hz2.2.2 usf (by rw [us _ _ (by omega), g1 _ _ (by omega) (by omega)]; exact f1 _ _ (by omega) (by omega)) (fun i hi => by rw [us _ _ (by omega), g1 _ _ (by omega) (by omega)]; exact f1 _ _ (by omega) (by omega)) (by rw [us _ _ (by omega), g1 _ _ (by omega) (by omega)]; exact f2) (by rw [us _ _ (by omega), g1 _ _ (by omega) (by omega)]; exact f3) (by rw [us _ _ (by omega), g1 _ _ (by omega) (by omega)]; exact f4) (by rw [us _ _ (by omega), g1 _ _ (by omega) (by omega)]; exact f5) (by rw [us _ _ (by omega), g1 _ _ (by omega) (by omega)]; exact f6) (fun i => zu _ _ (by omega)) (fun i => zu _ _ (by omega)) (fun i hi hi2 => by rw [zf _ _ (by omega), l1 _ _ (by omega) (by omega), m1 _ _ (by omega) (by omega)]) (by rw [zf _ _ (by omega), l1 _ _ (by omega) (by omega)]; exact m2) (by rw [zf _ _ (by omega), l1 _ _ (by omega) (by omega)]; exact m3) (by rw [zf _ _ (by omega), l1 _ _ (by omega) (by omega)]; exact m4) (by rw [zf _ _ (by omega), l1 _ _ (by omega) (by omega)]; exact m5) (by rw [zf _ _ (by omega), l1 _ _ (by omega) (by omega)]; exact m6) (by rw [zf _ _ (by omega), l1 _ _ (by omega) (by omega)]; exact m7)
  have sq : ∀ i, s.1 (16 + 2 * q') i = σ.1 (16 + 2 * q') i := fun i => f1 _ _ (by omega) (by omega)
  have sq1 : ∀ i, s.1 (16 + 2 * q' + 1) i = σ.1 (16 + 2 * q' + 1) i := fun i => f1 _ _ (by omega) (by omega)
  rw [sq, sr, sr] at g2
  rw [sq] at g3 g5
  rw [sq, sr, sq1] at g4
  rw [sr, sq1] at g6
  have tu : ∀ a i, ¬ (a = 82 ∧ 5 * p' ≤ i ∧ i < 5 * p' + 5) → ¬ (a = 83 ∧ i = 8 * p' + r) → t.1 a i = u.1 a i := m1
  rw [tu _ _ (by omega) (by omega), tu _ _ (by omega) (by omega), tu _ _ (by omega) (by omega)] at l2
  rw [tu _ _ (by omega) (by omega)] at l3 l5 l6
  rw [tu 82 (5 * q' + 2) (by omega) (by omega), tu 81 (5 * r + 3) (by omega) (by omega), tu 83 (8 * q' + r) (by omega) (by omega)] at l4
  rw [tu 81 (5 * r + 3) (by omega) (by omega), tu 83 (8 * q' + r) (by omega) (by omega)] at l7
  obtain ⟨k3, k4⟩ := pr_go (s := u) (t := z) (w := w / 2) (h := (hm + 1) / 2) (y := nI (w / 2)) qrl rel qok rok (by omega) (by omega) (by omega) (by omega) (by omega) (by omega) rfl hz3.2.1 hz3.2.2 usf (by rw [us _ _ (by omega), g1 _ _ (by omega) (by omega)]; exact f1 _ _ (by omega) (by omega)) (fun i hi => by rw [us _ _ (by omega), g1 _ _ (by omega) (by omega)]; exact f1 _ _ (by omega) (by omega)) (by rw [us _ _ (by omega)]; exact g2) (by rw [us _ _ (by omega)]; exact g3) (by rw [us _ _ (by omega)]; exact g4) (by rw [us _ _ (by omega)]; exact g5) (by rw [us _ _ (by omega)]; exact g6) (fun i => zu _ _ (by omega)) (fun i => zu _ _ (by omega)) (fun i hi hi2 => by rw [zf _ _ (by omega), l1 _ _ (by omega) (by omega), m1 _ _ (by omega) (by omega)]) (by rw [zf _ _ (by omega)]; exact l2) (by rw [zf _ _ (by omega)]; exact l3) (by rw [zf _ _ (by omega)]; exact l4) (by rw [zf _ _ (by omega)]; exact l5) (by rw [zf _ _ (by omega)]; exact l6) (by rw [zf _ _ (by omega)]; exact l7)
  have fr : ∀ a i, ¬ (a = 4 ∧ i = 3) → ¬ (a = 16 + 2 * p' ∧ i < 4) → ¬ (a = 17 + 2 * p' ∧ i = r) → ¬ (a = 16 + 2 * q' ∧ i < 4) → ¬ (a = 17 + 2 * q' ∧ i = r) → ¬ (a = 82 ∧ 5 * p' ≤ i ∧ i < 5 * p' + 5) → ¬ (a = 83 ∧ i = 8 * p' + r) → ¬ (a = 82 ∧ 5 * q' ≤ i ∧ i < 5 * q' + 5) → ¬ (a = 83 ∧ i = 8 * q' + r) → ¬ (a = 78 ∧ i = 9) → z.1 a i = σ.1 a i := fun a i h1 h2 h3 h4 h5 h6 h7 h8 h9 h10 => by
    rw [zf _ _ h10, l1 _ _ h8 h9, m1 _ _ h6 h7, us _ _ h1, g1 _ _ (by omega) (by omega), f1 _ _ (by omega) (by omega)]
  have z2 : z.2 = σ.2 := by
    rw [← hzz]
    show t'.2 = σ.2
    rw [l0, m0, ← hu]
    show s'.2 = σ.2
    rw [g0, f0]
  refine ⟨?_, ?_⟩
  · rw [← zu _ _ (by omega)]; exact k1.1.symm
  · obtain ⟨jP, jF, jN, jK⟩ := inv_keep iP iF iN (iK.up (Nat.le_succ c)) (σ' := z) (fun a i h => fr a i (by omega) (by omega) (by omega) (by omega) (by omega) (by omega) (by omega) (by omega) (by omega) (by omega))
    refine ⟨jP, jF, jN, nr, np, nl, iW.all (fun a i h => fr a i (by omega) (by omega) (by omega) (by omega) (by omega) (by omega) (by omega) (by omega) (by omega) (by omega)) ?_ ?_, jK, iR.cg a1 z2 (fun k j h1 h2 h3 => fr _ _ (by omega) (by omega) (by omega) (by omega) (by omega) (by omega) (by omega) (by omega) (by omega) (by omega)) (fun j => fr _ _ (by omega) (by omega) (by omega) (by omega) (by omega) (by omega) (by omega) (by omega) (by omega) (by omega)) (fun j h1 => fr _ _ (by omega) (by omega) (by omega) (by omega) (by omega) (by omega) (by omega) (by omega) (by omega) (by omega)) (fun j => fr _ _ (by omega) (by omega) (by omega) (by omega) (by omega) (by omega) (by omega) (by omega) (by omega) (by omega))⟩
    · rw [zu 4 3 (by omega), u43, ← hzz, fsI_s]
    · intro i hi
      by_cases e : i = p'
      · subst e; exact ⟨k1, k2⟩
      · by_cases e2 : i = q'
        · subst e2; exact ⟨k3, k4⟩
        · have x1 := a8 i hi
          have x2 := b2 i hi
          rw [show 4 + 12 + 2 * i = 16 + 2 * i by omega] at x1 x2
          exact ⟨x2.cg (fun j _ => fr _ _ (by omega) (by omega) (by omega) (by omega) (by omega) (by omega) (by omega) (by omega) (by omega) (by omega)) (fun j _ => fr _ _ (by omega) (by omega) (by omega) (by omega) (by omega) (by omega) (by omega) (by omega) (by omega) (by omega)) (fun j _ => fr _ _ (by omega) (by omega) (by omega) (by omega) (by omega) (by omega) (by omega) (by omega) (by omega) (by omega)) (fun j _ => fr _ _ (by omega) (by omega) (by omega) (by omega) (by omega) (by omega) (by omega) (by omega) (by omega) (by omega)), (x1.cg (fun j _ => fr _ _ (by omega) (by omega) (by omega) (by omega) (by omega) (by omega) (by omega) (by omega) (by omega) (by omega)) (fun j _ => fr _ _ (by omega) (by omega) (by omega) (by omega) (by omega) (by omega) (by omega) (by omega) (by omega) (by omega))).up (Nat.le_succ c)⟩
end OPS6
