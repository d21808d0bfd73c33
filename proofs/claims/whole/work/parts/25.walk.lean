/-! walking: one step of a pilgrim of the class and of the reference keeps them alike -/
theorem oE_x {a b x : Int32} (ha : vp_in a 6) (hb : vp_in b 6) (h : x = a ∨ x = b) : oE a b x = (if x = a then b else a) := by
  unfold oE
  by_cases e : x = a
  · rw [if_pos e.symm, if_pos e]
  · rw [if_neg (fun q => e q.symm), if_neg e, if_pos ((h.resolve_left e).symm)]
theorem vp_ne {a : Int32} {n : Nat} (ha : vp_in a n) : a ≠ -1 := by
  intro e
  subst e
  exact ha (Or.inl (by decide))
theorem oE_n {a b x : Int32} (ha : vp_in a 6) (hb : vp_in b 6) : (¬ oE a b x = -1) ↔ (x = a ∨ x = b) := by
  unfold oE
  by_cases e : a = x
  · rw [if_pos e]
    exact ⟨fun _ => Or.inl e.symm, fun _ => vp_ne hb⟩
  · rw [if_neg e]
    by_cases e2 : b = x
    · rw [if_pos e2]
      exact ⟨fun _ => Or.inr e2.symm, fun _ => vp_ne ha⟩
    · rw [if_neg e2]
      exact ⟨fun q => absurd rfl q, fun q => (q.elim (fun z => e z.symm) (fun z => e2 z.symm)).elim⟩
theorem n01 {x : Int32} (h : x = 0 ∨ x = 1) : (x = 0) ↔ ¬ x = 1 := by
  rcases h with rfl | rfl
  · exact ⟨fun _ => by decide, fun _ => rfl⟩
  · exact ⟨fun q => absurd q (by decide), fun q => absurd rfl q⟩
theorem may_iff {σ : FH} {c k0 k1 p r : Nat} {x : Int32} (hp : pr σ k0 82 83 p) (hr : rr σ k1 81 r) (ok : pgOK c σ k0) (rk : rdOK σ k1) : (¬ σ.1 82 (5 * p + 3) = 1 ∧ ¬ oE (σ.1 81 (5 * r + 1)) (σ.1 81 (5 * r + 2)) (σ.1 82 (5 * p)) = -1 ∧ ¬ 99 < σ.1 82 (5 * p + 1) + x) ↔ (σ.1 k0 4 = 0 ∧ (σ.1 k0 0 = σ.1 k1 2 ∨ σ.1 k0 0 = σ.1 k1 3) ∧ ¬ 99 < σ.1 k0 1 + x) := by
  rw [hp.1, hp.2.1, hp.2.2.2.1, hr.2.1, hr.2.2.1, oE_n rk.2.1 rk.2.2.1, n01 (vp_b ok.2.2.2.1)]
/-- the state behind a step of both -/
theorem pr_go {σ s t : FH} {c k0 k1 p r h w : Nat} {y : Int32} (hp : pr σ k0 82 83 p) (hr : rr σ k1 81 r) (ok : pgOK c σ k0) (rk : rdOK σ k1) (hk : k0 + 1 < 78) (hk1 : k1 < 78) (hr8 : r < 8) (hc : c < 1000) (hh : h ≤ 9) (hw : w ≤ 4) (hy : y = nI w)
    (ht : σ.1 k0 0 = σ.1 k1 2 ∨ σ.1 k0 0 = σ.1 k1 3) (hl : ¬ 99 < σ.1 k0 1 + nI h)
    (sf : ∀ a i, 78 ≤ a → s.1 a i = σ.1 a i) (g1 : s.1 k0 4 = σ.1 k0 4) (g1' : ∀ i, i ≠ r → s.1 (k0 + 1) i = σ.1 (k0 + 1) i) (g2 : s.1 k0 0 = (if σ.1 k0 0 = σ.1 k1 2 then σ.1 k1 3 else σ.1 k1 2)) (g3 : s.1 k0 1 = σ.1 k0 1 + nI h) (g4 : s.1 k0 2 = (if σ.1 k1 4 ≤ σ.1 (k0 + 1) r then σ.1 k0 2 else σ.1 k0 2 + y)) (g5 : s.1 k0 3 = σ.1 k0 3 + 1) (g6 : s.1 (k0 + 1) r = (if σ.1 k1 4 ≤ σ.1 (k0 + 1) r then σ.1 (k0 + 1) r else σ.1 k1 4))
    (tf : ∀ i, t.1 k0 i = s.1 k0 i) (tf' : ∀ i, t.1 (k0 + 1) i = s.1 (k0 + 1) i) (m1 : ∀ i, i < 8 → i ≠ r → t.1 83 (8 * p + i) = s.1 83 (8 * p + i)) (m2 : t.1 82 (5 * p) = oE (s.1 81 (5 * r + 1)) (s.1 81 (5 * r + 2)) (s.1 82 (5 * p))) (m3 : t.1 82 (5 * p + 1) = s.1 82 (5 * p + 1) + nI h) (m4 : t.1 82 (5 * p + 2) = s.1 82 (5 * p + 2) + (if s.1 81 (5 * r + 3) ≤ s.1 83 (8 * p + r) then 0 else y)) (m5 : t.1 82 (5 * p + 3) = s.1 82 (5 * p + 3)) (m6 : t.1 82 (5 * p + 4) = s.1 82 (5 * p + 4) + 1) (m7 : t.1 83 (8 * p + r) = (if s.1 81 (5 * r + 3) ≤ s.1 83 (8 * p + r) then s.1 83 (8 * p + r) else s.1 81 (5 * r + 3))) : pr t k0 82 83 p ∧ pgOK (c + 1) t k0 := by
  obtain ⟨p0, p1, p2, p3, p4, p5⟩ := hp
  obtain ⟨r0, r1, r2, r3, r4⟩ := hr
  obtain ⟨o0, o1, o2, o3, o4⟩ := ok
  obtain ⟨q0, q1, q2, q3, ⟨hh0, hh1, hh2, q4⟩, q5⟩ := rk
  rw [sf _ _ (by omega), sf _ _ (by omega), sf _ _ (by omega), r1, r2, p0, oE_x q1 q2 ht] at m2
  rw [sf _ _ (by omega), p1] at m3
  rw [sf _ _ (by omega), sf _ _ (by omega), sf _ _ (by omega), p2, r3, p5 r hr8] at m4
  rw [sf _ _ (by omega), p3] at m5
  rw [sf _ _ (by omega), p4] at m6
  rw [sf _ _ (by omega), sf _ _ (by omega), r3, p5 r hr8] at m7
  have e4 : t.1 k0 4 = σ.1 k0 4 := by rw [tf, g1]
  have ek : ∀ i, i ≠ r → t.1 (k0 + 1) i = σ.1 (k0 + 1) i := fun i hi => by rw [tf', g1' i hi]
  refine ⟨⟨by rw [m2, tf, g2], by rw [m3, tf, g3], ?_, by rw [m5, e4], by rw [m6, tf, g5], fun i hi => ?_⟩, ?_, ?_, ?_, by rw [e4]; exact o3, fun i hi => ?_⟩
  · rw [m4, tf, g4]
    by_cases hcnt : σ.1 k1 4 ≤ σ.1 (k0 + 1) r
    · rw [if_pos hcnt, if_pos hcnt, Int32.add_zero]
    · rw [if_neg hcnt, if_neg hcnt]
  · by_cases hi2 : i = r
    · subst hi2
      rw [m7, tf', g6]
    · rw [m1 i hi hi2, sf _ _ (by omega), p5 i hi, ek i hi2]
  · rw [tf, g2]
    split <;> assumption
  · rw [tf, g3]
    obtain ⟨u, hu, eu⟩ := vp_in_of o1 (by decide)
    rw [eu, nI_add] at hl ⊢
    refine vp_in_nI ?_ (by decide)
    rcases Nat.lt_or_ge (u + h) 100 with z | z
    · exact z
    · exact absurd (nI_lt (a := 99) (b := u + h) (by omega) (by omega)) hl
  · rw [tf, g4]
    obtain ⟨u, hu, eu⟩ := vp_in_of o2 (by omega)
    by_cases hcnt : σ.1 k1 4 ≤ σ.1 (k0 + 1) r
    · rw [if_pos hcnt]
      exact vp_mono o2 (by omega)
    · rw [if_neg hcnt, eu, hy, nI_add]
      exact vp_in_nI (by omega) (by omega)
  · by_cases hi2 : i = r
    · subst hi2
      rw [tf', g6]
      split
      · exact o4 i hi
      · rw [q4]; exact vp_in_nI (by omega) (by decide)
    · rw [ek i hi2]; exact o4 i hi
theorem wrt_n {a b : Int32} (ha : vp_in a 5) (hb : vp_in b 2) : ∃ w, w ≤ 4 ∧ wrt a b = nI w := by
  unfold wrt
  split
  · exact ⟨0, by omega, rfl⟩
  · split
    · exact ⟨1, by omega, rfl⟩
    · split
      · exact ⟨4, by omega, rfl⟩
      · split
        · split
          · exact ⟨0, by omega, rfl⟩
          · exact ⟨4, by omega, rfl⟩
        · exact ⟨2, by omega, rfl⟩
section OPS3
variable {E : am_E} {d c : Nat} {σ : FH}
theorem op_walk {x y : Int32} (hc : c < 900) (h : inv c σ) : fMi E (d + 4) mX6_walk [.ref 1, .int x, .int y] σ (fun a σ1 => fMi E (d + 4) mX7_walk [.ref 78, .int x, .int y] σ1 (fun b σ2 => a = b ∧ inv (c + 1) σ2)) := by
  have h0 := h.up (Nat.le_succ c)
  obtain ⟨iP, iF, iN, nr, np, nl, iW, iK, iR⟩ := h
  obtain ⟨⟨a1, a2, a3, a4, a5, a6, a7, a8, a9, a10⟩, ⟨b1, b2, b3⟩, b4, b5, b6, b7, b8⟩ := id iW
  -- the reference, behind the class
  have mm : ∀ s : FH, s.1 78 6 = nI nr → s.1 78 11 = nI np → ∀ P : Int32 → FH → Prop, (¬ (0 ≤ x ∧ x < nI np) → P (-101) s) → (¬ (0 ≤ y ∧ y < nI nr) → P (-101) s) → (∀ p r, p < np → r < nr → x = nI p → y = nI r → fMi E (d + 3) mX7_mayWalk [.ref 78, .int (nI p), .int (nI r), .int (s.1 81 (5 * r + 3))] s (fun r9 σ8 => ((¬ r9 = 0 → fMi E (d + 3) mX7_worthOf [.ref 78, .int (nI r)] σ8 (fun r13 σ12 => fMv E (d + 3) mX7_goes [.ref 78, .int (nI p), .int (nI r), .int (σ8.1 81 (5 * r + 3)), .int r13] σ12 (fun σ14 => (∀ σ16 : FH, σ16 = fsI σ14 78 9 ((σ14.1 78 9) + 1) → P (σ16.1 82 (5 * p)) σ16)))) ∧ (r9 = 0 → P (-103) σ8)))) → fMi E (d + 4) mX7_walk [.ref 78, .int x, .int y] s P := by
    intro s s1 s2 P k1 k2 k3
    refine v_X7_walk ?_
    unfold t_X7_walk
    refine c_mIsPilgrim ?_
    rw [s2, bi_iff (bi_rng (by omega))]
    simp only [bi0, Classical.not_not]
    refine ⟨k1, fun hx => c_mIsRoad ?_⟩
    rw [s1, bi_iff (bi_rng (by omega))]
    simp only [bi0, Classical.not_not]
    refine ⟨fun hy => ?_, k2⟩
    obtain ⟨p, hp, e⟩ := rng_nI (by omega) hx
    obtain ⟨r, hr, e2⟩ := rng_nI (by omega) hy
    subst e
    subst e2
    rw [n5_3, n5', nI_clamp (by omega), nI_clamp (by omega)]
    refine ⟨vp_in_nI (by omega) (by decide), fMi.mono (k3 p r hp hr rfl rfl) (fun r9 σ8 z => ⟨fun q => ⟨vp_in_nI (by omega) (by decide), fMi.mono (z.1 q) (fun r13 σ12 z => fMv.mono z (fun σ14 z σ16 e => ⟨vp_in_nI (by omega) (by decide), z σ16 e⟩))⟩, z.2⟩)⟩
  refine v_X6_walk ?_
  unfold t_X6_walk
  refine c_cIsPilgrim ?_
  rw [a5]
  simp only [bi0, Classical.not_not]
  refine ⟨fun hx => mm σ b4 b5 _ (fun _ => ⟨rfl, h0⟩) (fun _ => ⟨rfl, h0⟩) (fun p r hp hr e1 e2 => absurd (by rw [e1]; exact nI_rng (by omega) hp) hx), fun hx => c_cIsRoad ?_⟩
  rw [a4]
  simp only [bi0, Classical.not_not]
  refine ⟨fun hy => ?_, fun hy => mm σ b4 b5 _ (fun _ => ⟨rfl, h0⟩) (fun _ => ⟨rfl, h0⟩) (fun p r hp hr e1 e2 => absurd (by rw [e2]; exact nI_rng (by omega) hr) hy)⟩
  obtain ⟨p, hp, e⟩ := rng_nI (by omega) hx
  obtain ⟨r, hr, e2⟩ := rng_nI (by omega) hy
  subst e
  subst e2
  rw [nI_clamp (by omega), nI_clamp (by omega)]
  have hpg : isPg (16 + 2 * p) := ⟨4, p, Or.inl rfl, by omega, by omega⟩
  have hrd : isRd (8 + r) := ⟨4, r, Or.inl rfl, by omega, by omega⟩
  have hnum : σ.1 (8 + r) 0 = nI r := iN 4 (Or.inl rfl) r (by omega)
  have rok := a7 r hr
  have rel := b1 r hr
  rw [show 4 + 4 + r = 8 + r by omega] at rok rel
  have pok := a8 p hp
  have prl := b2 p hp
  rw [show 4 + 12 + 2 * p = 16 + 2 * p by omega] at pok prl
  obtain ⟨hm, hm1, hm2, hm3⟩ := rok.2.2.2.2.1
  obtain ⟨w, hw1, hw2⟩ := wrt_n rok.1 rok.2.2.2.2.2
  refine ⟨vp_in_nI (by omega) (by decide), vp_in_nI (by omega) (by decide), c_may hpg hrd ?_⟩
  simp only [bi0, Classical.not_not]
  refine ⟨fun hmay => c_worth hrd ?_, fun hmay => ?_⟩
  · refine c_go (r := r) hpg hrd ⟨by omega, by omega⟩ (by omega) hnum ?_
    intro s g0 g1 g2 g3 g4 g5 g6
    rintro _ rfl
    have s3 : s.1 4 3 = σ.1 4 3 := g1 _ _ (by omega) (by omega)
    have hsf : ∀ a i, 78 ≤ a → (fsI s 4 3 (s.1 4 3 + 1)).1 a i = σ.1 a i := fun a i ha => by rw [fsI_n (by omega), g1 _ _ (by omega) (by omega)]
    refine mm _ (by rw [hsf _ _ (by omega)]; exact b4) (by rw [hsf _ _ (by omega)]; exact b5) _ (fun q => absurd (nI_rng (by omega) hp) q) (fun q => absurd (nI_rng (by omega) hr) q) ?_
    intro p' r' hp' hr' e1 e2
    obtain rfl := (nI_eq (by omega) (by omega)).mp e1
    obtain rfl := (nI_eq (by omega) (by omega)).mp e2
    refine c_mayWalk (by omega) (by omega) ?_
    have hcond : (¬ (fsI s 4 3 (s.1 4 3 + 1)).1 82 (5 * p + 3) = 1 ∧ ¬ oE ((fsI s 4 3 (s.1 4 3 + 1)).1 81 (5 * r + 1)) ((fsI s 4 3 (s.1 4 3 + 1)).1 81 (5 * r + 2)) ((fsI s 4 3 (s.1 4 3 + 1)).1 82 (5 * p)) = -1 ∧ ¬ 99 < (fsI s 4 3 (s.1 4 3 + 1)).1 82 (5 * p + 1) + (fsI s 4 3 (s.1 4 3 + 1)).1 81 (5 * r + 3)) := by
      rw [hsf _ _ (by omega), hsf _ _ (by omega), hsf _ _ (by omega), hsf _ _ (by omega), hsf _ _ (by omega), hsf _ _ (by omega), rel.2.2.2.1]
      exact (may_iff prl rel pok rok).mpr hmay
    rw [bi_t hcond]
    refine ⟨fun _ => c_worthOf (by omega) (by rw [hsf _ _ (by omega), rel.1]; exact rok.1) (by rw [hsf _ _ (by omega), rel.2.2.2.2]; exact rok.2.2.2.2.2) ?_, fun q => absurd q (by decide)⟩
    refine c_goes (by omega) (by omega) ?_
    intro t m0 m1 m2 m3 m4 m5 m6 m7
    rintro _ rfl
    rw [hsf 81 (5 * r) (by omega), hsf 81 (5 * r + 4) (by omega), rel.1, rel.2.2.2.2] at m4
    rw [hsf 81 (5 * r + 3) (by omega), rel.2.2.2.1, hm3] at m3
    rw [hm3] at g3
    have t9 : t.1 78 9 = σ.1 4 3 := by rw [m1 _ _ (by omega) (by omega), hsf _ _ (by omega), b8]
    rw [t9]
    generalize hz : fsI t 78 9 (σ.1 4 3 + 1) = z
    rw [s3] at hsf m1 m2 m3 m4 m5 m6 m7 ⊢
    generalize hu : fsI s 4 3 (σ.1 4 3 + 1) = u at hsf m1 m2 m3 m4 m5 m6 m7 ⊢
    have uk : ∀ a i, a ≠ 4 → u.1 a i = s.1 a i := fun a i ha => by rw [← hu, fsI_n (by omega)]
    have zf : ∀ a i, ¬ (a = 78 ∧ i = 9) → z.1 a i = t.1 a i := fun a i ha => by rw [← hz, fsI_n ha]
    have zu : ∀ a i, a < 78 → z.1 a i = u.1 a i := fun a i ha => by rw [zf _ _ (by omega), m1 _ _ (by omega) (by omega)]
    obtain ⟨k1, k2⟩ := pr_go (s := u) (t := z) (w := w) (h := hm) prl rel pok rok (by omega) (by omega) (by omega) (by omega) hm2 hw1 hw2 hmay.2.1 (by rw [← hm3]; exact hmay.2.2) hsf (by rw [uk _ _ (by omega)]; exact g1 _ _ (by omega) (by omega)) (fun i hi => by rw [uk _ _ (by omega)]; exact g1 _ _ (by omega) (by omega)) (by rw [uk _ _ (by omega)]; exact g2) (by rw [uk _ _ (by omega)]; exact g3) (by rw [uk _ _ (by omega)]; exact g4) (by rw [uk _ _ (by omega)]; exact g5) (by rw [uk _ _ (by omega)]; exact g6) (fun i => zu _ _ (by omega)) (fun i => zu _ _ (by omega)) (fun i hi hi2 => by rw [zf _ _ (by omega), m1 _ _ (by omega) (by omega)]) (by rw [zf _ _ (by omega)]; exact m2) (by rw [zf _ _ (by omega)]; exact m3) (by rw [zf _ _ (by omega)]; exact m4) (by rw [zf _ _ (by omega)]; exact m5) (by rw [zf _ _ (by omega)]; exact m6) (by rw [zf _ _ (by omega)]; exact m7)
    have fr : ∀ a i, ¬ (a = 4 ∧ i = 3) → ¬ (a = 16 + 2 * p ∧ i < 4) → ¬ (a = 17 + 2 * p ∧ i = r) → ¬ (a = 82 ∧ 5 * p ≤ i ∧ i < 5 * p + 5) → ¬ (a = 83 ∧ i = 8 * p + r) → ¬ (a = 78 ∧ i = 9) → z.1 a i = σ.1 a i := fun a i h1 h2 h3 h4 h5 h6 => by
      rw [zf _ _ h6, m1 _ _ h4 h5, ← hu, fsI_n h1, g1 _ _ (by omega) (by omega)]
    have z2 : z.2 = σ.2 := by rw [← hz, ← g0]; show t.2 = s.2; rw [m0]; rfl
    refine ⟨?_, ?_⟩
    · rw [← zu _ _ (by omega)]; exact k1.1.symm
    · obtain ⟨jP, jF, jN, jK⟩ := inv_keep iP iF iN (iK.up (Nat.le_succ c)) (σ' := z) (fun a i h => fr a i (by omega) (by omega) (by omega) (by omega) (by omega) (by omega))
      refine ⟨jP, jF, jN, nr, np, nl, iW.pg (Nat.le_succ c) (p := p) (fun a i h => fr a i (by omega) (by omega) (by omega) (by omega) (by omega) (by omega)) (by omega) ?_ k1 k2, jK, iR.cg a1 z2 (fun k j h1 h2 h3 => fr _ _ (by omega) (by omega) (by omega) (by omega) (by omega) (by omega)) (fun j => fr _ _ (by omega) (by omega) (by omega) (by omega) (by omega) (by omega)) (fun j h1 => fr _ _ (by omega) (by omega) (by omega) (by omega) (by omega) (by omega)) (fun j => fr _ _ (by omega) (by omega) (by omega) (by omega) (by omega) (by omega))⟩
      rw [zu 4 3 (by omega), ← hu, ← hz, fsI_s, fsI_s]
  · refine mm σ b4 b5 _ (fun q => absurd (nI_rng (by omega) hp) q) (fun q => absurd (nI_rng (by omega) hr) q) ?_
    intro p' r' hp' hr' e1 e2
    obtain rfl := (nI_eq (by omega) (by omega)).mp e1
    obtain rfl := (nI_eq (by omega) (by omega)).mp e2
    refine c_mayWalk (by omega) (by omega) ?_
    rw [rel.2.2.2.1, bi_f (fun q => hmay ((may_iff prl rel pok rok).mp q))]
    exact ⟨fun q => absurd rfl q, fun _ => ⟨rfl, h0⟩⟩
end OPS3
