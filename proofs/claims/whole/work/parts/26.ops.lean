/-! rest, enter, as, worsen, licence, log, forget -/
section OPS4
variable {E : am_E} {d c : Nat} {σ : FH}
theorem rest_v {x : Int32} {n : Nat} (hn : n < 100) (hx : x = nI n) : (if 0 < x - 5 then x - 5 else 0) = (if 5 ≤ x then x - 5 else 0) := by
  subst hx
  rcases Nat.lt_or_ge n 5 with h | h
  · have key : ∀ n, n < 5 → (if (0 : Int32) < nI n - 5 then nI n - 5 else 0) = (if 5 ≤ nI n then nI n - 5 else 0) := by decide
    exact key n h
  · rw [show (5 : Int32) = nI 5 from rfl, if_pos (nI_le h (by omega)), pk_sub h]
    rcases Nat.eq_or_lt_of_le h with e | e
    · subst e; rfl
    · exact if_pos (show (0 : Int32) < nI (n - 5) from nI_lt (a := 0) (b := n - 5) (by omega) (by omega))
theorem rest_ok {x : Int32} (h : vp_in x 100) : vp_in (if 5 ≤ x then x - 5 else 0) 100 := by
  obtain ⟨n, hn, rfl⟩ := vp_in_of h (by decide)
  split
  · next q =>
    have h5 : 5 ≤ n := (nI_leI (by decide) (by omega)).mp q
    rw [show (5 : Int32) = nI 5 from rfl, pk_sub h5]
    exact vp_in_nI (by omega) (by decide)
  · exact vp_in_nI (n := 0) (by decide) (by decide)
theorem op_rest {x : Int32} (h : inv c σ) : fMi E (d + 3) mX6_rest [.ref 1, .int x] σ (fun a σ1 => fMi E (d + 3) mX7_rest [.ref 78, .int x] σ1 (fun b σ2 => a = b ∧ inv (c + 1) σ2)) := by
  have h0 := h.up (Nat.le_succ c)
  obtain ⟨iP, iF, iN, nr, np, nl, iW, iK, iR⟩ := h
  obtain ⟨⟨a1, a2, a3, a4, a5, a6, a7, a8, a9, a10⟩, ⟨b1, b2, b3⟩, b4, b5, b6, b7, b8⟩ := id iW
  have mm : ∀ s : FH, s.1 78 11 = nI np → ∀ P : Int32 → FH → Prop, (¬ (0 ≤ x ∧ x < nI np) → P (-101) s) → (∀ p, p < np → x = nI p → s.1 82 (5 * p + 3) = 1 → P (-103) s) → (∀ p, p < np → x = nI p → ¬ s.1 82 (5 * p + 3) = 1 → ∀ z, z = fsI (fsI s 82 (5 * p + 1) (if 5 ≤ s.1 82 (5 * p + 1) then s.1 82 (5 * p + 1) - 5 else 0)) 78 9 (s.1 78 9 + 1) → P (z.1 82 (5 * p + 1)) z) → fMi E (d + 3) mX7_rest [.ref 78, .int x] s P := by
    intro s s2 P k1 k2 k3
    refine v_X7_rest ?_
    unfold t_X7_rest
    refine c_mIsPilgrim ?_
    rw [s2, bi_iff (bi_rng (by omega))]
    simp only [bi0, Classical.not_not]
    refine ⟨fun hx => ?_, k1⟩
    obtain ⟨p, hp, e⟩ := rng_nI (by omega) hx
    subst e
    refine c_isIn (by omega) ?_
    simp only [bi0, Classical.not_not]
    refine ⟨fun hin => c_rests (by omega) ?_, fun hin => k2 p hp rfl hin⟩
    rintro _ rfl
    rw [n5_1, nI_clamp (by omega)]
    refine ⟨vp_in_nI (by omega) (by decide), k3 p hp rfl hin _ ?_⟩
    rw [fsI_k (by decide)]
  refine v_X6_rest ?_
  unfold t_X6_rest
  refine c_cIsPilgrim ?_
  rw [a5]
  simp only [bi0, Classical.not_not]
  refine ⟨fun hx => ?_, fun hx => mm σ b5 _ (fun _ => ⟨rfl, h0⟩) (fun p hp e => absurd (by rw [e]; exact nI_rng (by omega) hp) hx) (fun p hp e => absurd (by rw [e]; exact nI_rng (by omega) hp) hx)⟩
  obtain ⟨p, hp, e⟩ := rng_nI (by omega) hx
  subst e
  rw [nI_clamp (by omega)]
  have hpg : isPg (16 + 2 * p) := ⟨4, p, Or.inl rfl, by omega, by omega⟩
  have pok := a8 p hp
  have prl := b2 p hp
  rw [show 4 + 12 + 2 * p = 16 + 2 * p by omega] at pok prl
  have inj : ∀ p', p' < np → nI p = nI p' → p' = p := fun p' hp' e => ((nI_eq (by omega) (by omega)).mp e).symm
  refine ⟨vp_in_nI (by omega) (by decide), fun hin => c_recover hpg ?_, fun hin => ?_⟩
  · rintro _ rfl
    have e1 : σ.1 82 (5 * p + 1) = σ.1 (16 + 2 * p) 1 := prl.2.1
    obtain ⟨n, hn, en⟩ := vp_in_of pok.2.1 (by decide)
    rw [rest_v hn en]
    have e4 : (fsI σ (16 + 2 * p) 1 (if 5 ≤ σ.1 (16 + 2 * p) 1 then σ.1 (16 + 2 * p) 1 - 5 else 0)).1 4 3 = σ.1 4 3 := fsI_n (by omega)
    rw [e4]
    generalize hv : (if 5 ≤ σ.1 (16 + 2 * p) 1 then σ.1 (16 + 2 * p) 1 - 5 else 0) = v
    have vok : vp_in v 100 := by rw [← hv]; exact rest_ok pok.2.1
    generalize hs : fsI (fsI σ (16 + 2 * p) 1 v) 4 3 (σ.1 4 3 + 1) = s
    have sf : ∀ a i, ¬ (a = 16 + 2 * p ∧ i = 1) → ¬ (a = 4 ∧ i = 3) → s.1 a i = σ.1 a i := fun a i h1 h2 => by rw [← hs]; repeat rw [fsI_n (by omega)]
    have s1 : s.1 (16 + 2 * p) 1 = v := by rw [← hs, fsI_n (by omega)]; exact fsI_s
    have s43 : s.1 4 3 = σ.1 4 3 + 1 := by rw [← hs]; exact fsI_s
    refine mm s (by rw [sf _ _ (by omega) (by omega)]; exact b5) _ (fun q => absurd (nI_rng (by omega) hp) q) (fun p' hp' e q => ?_) (fun p' hp' e q z hz => ?_)
    · obtain rfl := inj p' hp' e
      rw [sf _ _ (by omega) (by omega), prl.2.2.2.1, hin] at q
      exact absurd q (by decide)
    · obtain rfl := inj p' hp' e
      rw [sf _ _ (by omega) (by omega), sf _ _ (by omega) (by omega), e1, hv, b8] at hz
      have zf : ∀ a i, ¬ (a = 82 ∧ i = 5 * p' + 1) → ¬ (a = 78 ∧ i = 9) → z.1 a i = s.1 a i := fun a i h1 h2 => by rw [hz]; repeat rw [fsI_n (by omega)]
      have z1 : z.1 82 (5 * p' + 1) = v := by rw [hz, fsI_n (by omega)]; exact fsI_s
      have fr : ∀ a i, ¬ (a = 16 + 2 * p' ∧ i = 1) → ¬ (a = 4 ∧ i = 3) → ¬ (a = 82 ∧ i = 5 * p' + 1) → ¬ (a = 78 ∧ i = 9) → z.1 a i = σ.1 a i := fun a i h1 h2 h3 h4 => by rw [zf _ _ h3 h4, sf _ _ h1 h2]
      have z2 : z.2 = σ.2 := by rw [hz, ← hs]; rfl
      refine ⟨by rw [s1, z1], ?_⟩
      obtain ⟨jP, jF, jN, jK⟩ := inv_keep iP iF iN (iK.up (Nat.le_succ c)) (σ' := z) (fun a i h => fr a i (by omega) (by omega) (by omega) (by omega))
      refine ⟨jP, jF, jN, nr, np, nl, iW.pg (Nat.le_succ c) (p := p') (fun a i h => fr a i (by omega) (by omega) (by omega) (by omega)) (by omega) ?_ ?_ ?_, jK, iR.cg a1 z2 (fun k j h1 h2 h3 => fr _ _ (by omega) (by omega) (by omega) (by omega)) (fun j => fr _ _ (by omega) (by omega) (by omega) (by omega)) (fun j h1 => fr _ _ (by omega) (by omega) (by omega) (by omega)) (fun j => fr _ _ (by omega) (by omega) (by omega) (by omega))⟩
      · rw [zf 4 3 (by omega) (by omega), s43, hz, fsI_s]
      · obtain ⟨q0, q1, q2, q3, q4, q5⟩ := prl
        refine ⟨by rw [fr _ _ (by omega) (by omega) (by omega) (by omega), fr _ _ (by omega) (by omega) (by omega) (by omega)]; exact q0, by rw [z1, zf _ _ (by omega) (by omega), s1], by rw [fr _ _ (by omega) (by omega) (by omega) (by omega), fr _ _ (by omega) (by omega) (by omega) (by omega)]; exact q2, by rw [fr _ _ (by omega) (by omega) (by omega) (by omega), fr _ _ (by omega) (by omega) (by omega) (by omega)]; exact q3, by rw [fr _ _ (by omega) (by omega) (by omega) (by omega), fr _ _ (by omega) (by omega) (by omega) (by omega)]; exact q4, fun i hi => by rw [fr _ _ (by omega) (by omega) (by omega) (by omega), fr _ _ (by omega) (by omega) (by omega) (by omega)]; exact q5 i hi⟩
      · obtain ⟨q0, q1, q2, q3, q4⟩ := pok.up (Nat.le_succ c)
        exact ⟨by rw [fr _ _ (by omega) (by omega) (by omega) (by omega)]; exact q0, by rw [zf _ _ (by omega) (by omega), s1]; exact vok, by rw [fr _ _ (by omega) (by omega) (by omega) (by omega)]; exact q2, by rw [fr _ _ (by omega) (by omega) (by omega) (by omega)]; exact q3, fun i hi => by rw [fr _ _ (by omega) (by omega) (by omega) (by omega)]; exact q4 i hi⟩
  · refine mm σ b5 _ (fun q => absurd (nI_rng (by omega) hp) q) (fun p' hp' e q => ⟨rfl, h0⟩) (fun p' hp' e q => ?_)
    obtain rfl := inj p' hp' e
    rw [prl.2.2.2.1] at q
    exact absurd ((n01 (vp_b pok.2.2.2.1)).mpr q) hin
theorem op_enter {x : Int32} (h : inv c σ) : fMi E (d + 3) mX6_enter [.ref 1, .int x] σ (fun a σ1 => fMi E (d + 3) mX7_enter [.ref 78, .int x] σ1 (fun b σ2 => a = b ∧ inv (c + 1) σ2)) := by
  have h0 := h.up (Nat.le_succ c)
  obtain ⟨iP, iF, iN, nr, np, nl, iW, iK, iR⟩ := h
  obtain ⟨⟨a1, a2, a3, a4, a5, a6, a7, a8, a9, a10⟩, ⟨b1, b2, b3⟩, b4, b5, b6, b7, b8⟩ := id iW
  have mm : ∀ s : FH, s.1 78 11 = nI np → ∀ P : Int32 → FH → Prop, (¬ (0 ≤ x ∧ x < nI np) → P (-101) s) → (∀ p, p < np → x = nI p → (s.1 82 (5 * p + 3) = 1 ∨ ¬ s.1 82 (5 * p) = 5) → P (-103) s) → (∀ p, p < np → x = nI p → ¬ s.1 82 (5 * p + 3) = 1 → s.1 82 (5 * p) = 5 → s.1 82 (5 * p + 2) = s.1 78 7 → P (s.1 78 7 - s.1 82 (5 * p + 2)) (fsI s 82 (5 * p + 3) 1)) → (∀ p, p < np → x = nI p → ¬ s.1 82 (5 * p + 3) = 1 → s.1 82 (5 * p) = 5 → ¬ s.1 82 (5 * p + 2) = s.1 78 7 → P (s.1 78 7 - s.1 82 (5 * p + 2)) s) → fMi E (d + 3) mX7_enter [.ref 78, .int x] s P := by
    intro s s2 P k1 k2 k3 k4
    refine v_X7_enter ?_
    unfold t_X7_enter
    refine c_mIsPilgrim ?_
    rw [s2, bi_iff (bi_rng (by omega))]
    simp only [bi0, Classical.not_not]
    refine ⟨fun hx => ?_, k1⟩
    obtain ⟨p, hp, e⟩ := rng_nI (by omega) hx
    subst e
    refine c_isIn (by omega) ?_
    simp only [bi0, Classical.not_not]
    refine ⟨fun hin => k2 p hp rfl (Or.inl hin), fun hin => ?_⟩
    rw [n5_2, n5', nI_clamp (by omega), nI_clamp (by omega)]
    refine ⟨vp_in_nI (by omega) (by decide), fun hg => c_asks (by omega) (fun _ hq => ⟨vp_in_nI (by omega) (by decide), ?_⟩) (fun hq => ⟨vp_in_nI (by omega) (by decide), k4 p hp rfl hin hg (fun z => hq ⟨hg, z⟩)⟩), fun hg => k2 p hp rfl (Or.inr hg)⟩
    rw [fsI_k (by decide), fsI_j (by omega)]
    exact k3 p hp rfl hin hg hq
  refine v_X6_enter ?_
  unfold t_X6_enter
  refine c_cIsPilgrim ?_
  rw [a5]
  simp only [bi0, Classical.not_not]
  refine ⟨fun hx => ?_, fun hx => mm σ b5 _ (fun _ => ⟨rfl, h0⟩) (fun p hp e => absurd (by rw [e]; exact nI_rng (by omega) hp) hx) (fun p hp e => absurd (by rw [e]; exact nI_rng (by omega) hp) hx) (fun p hp e => absurd (by rw [e]; exact nI_rng (by omega) hp) hx)⟩
  obtain ⟨p, hp, e⟩ := rng_nI (by omega) hx
  subst e
  rw [nI_clamp (by omega)]
  have hpg : isPg (16 + 2 * p) := ⟨4, p, Or.inl rfl, by omega, by omega⟩
  have pok := a8 p hp
  have prl := b2 p hp
  rw [show 4 + 12 + 2 * p = 16 + 2 * p by omega] at pok prl
  have inj : ∀ p', p' < np → nI p = nI p' → p' = p := fun p' hp' e => ((nI_eq (by omega) (by omega)).mp e).symm
  have l01 := n01 (vp_b pok.2.2.2.1)
  refine ⟨vp_in_nI (by omega) (by decide), fun hin => ?_, fun hin => ⟨fun hg => c_ask hpg (fun _ hq => ?_) (fun hq => ?_), fun hg => ?_⟩⟩
  · refine mm σ b5 _ (fun q => absurd (nI_rng (by omega) hp) q) (fun p' hp' e q => ⟨rfl, h0⟩) (fun p' hp' e q => ?_) (fun p' hp' e q => ?_) <;>
    · obtain rfl := inj p' hp' e
      rw [prl.2.2.2.1] at q
      exact absurd (l01.mpr q) hin
  · rw [fsI_k (by omega), fsI_j (by decide)]
    have sf : ∀ a i, ¬ (a = 16 + 2 * p ∧ i = 4) → (fsI σ (16 + 2 * p) 4 1).1 a i = σ.1 a i := fun a i h1 => fsI_n h1
    have s1 : (fsI σ (16 + 2 * p) 4 1).1 (16 + 2 * p) 4 = 1 := fsI_s
    have s2 : (fsI σ (16 + 2 * p) 4 1).2 = σ.2 := rfl
    generalize fsI σ (16 + 2 * p) 4 1 = s at sf s1 s2
    refine mm s (by rw [sf _ _ (by omega)]; exact b5) _ (fun q => absurd (nI_rng (by omega) hp) q) (fun p' hp' e q => ?_) (fun p' hp' e q1 q2 q3 => ?_) (fun p' hp' e q1 q2 q3 => ?_)
    · obtain rfl := inj p' hp' e
      rw [sf _ _ (by omega), sf _ _ (by omega), prl.1, prl.2.2.2.1, hin] at q
      exact q.elim (fun z => absurd z (by decide)) (fun z => absurd hg z)
    · obtain rfl := inj p' hp' e
      have zf : ∀ a i, ¬ (a = 82 ∧ i = 5 * p' + 3) → (fsI s 82 (5 * p' + 3) 1).1 a i = s.1 a i := fun a i h1 => fsI_n h1
      have z1 : (fsI s 82 (5 * p' + 3) 1).1 82 (5 * p' + 3) = 1 := fsI_s
      have z2 : (fsI s 82 (5 * p' + 3) 1).2 = σ.2 := s2
      generalize fsI s 82 (5 * p' + 3) 1 = z at zf z1 z2
      have fr : ∀ a i, ¬ (a = 16 + 2 * p' ∧ i = 4) → ¬ (a = 82 ∧ i = 5 * p' + 3) → z.1 a i = σ.1 a i := fun a i h1 h2 => by rw [zf _ _ h2, sf _ _ h1]
      refine ⟨by rw [sf _ _ (by omega), sf _ _ (by omega), prl.2.2.1, b7], ?_⟩
      obtain ⟨jP, jF, jN, jK⟩ := inv_keep iP iF iN (iK.up (Nat.le_succ c)) (σ' := z) (fun a i h => fr a i (by omega) (by omega))
      refine ⟨jP, jF, jN, nr, np, nl, iW.pg (Nat.le_succ c) (p := p') (fun a i h => fr a i (by omega) (by omega)) (by omega) (by rw [fr _ _ (by omega) (by omega), fr _ _ (by omega) (by omega)]; exact b8) ?_ ?_, jK, iR.cg a1 z2 (fun k j h1 h2 h3 => fr _ _ (by omega) (by omega)) (fun j => fr _ _ (by omega) (by omega)) (fun j h1 => fr _ _ (by omega) (by omega)) (fun j => fr _ _ (by omega) (by omega))⟩
      · obtain ⟨q0, q1, q2, q3, q4, q5⟩ := prl
        refine ⟨by rw [fr _ _ (by omega) (by omega), fr _ _ (by omega) (by omega)]; exact q0, by rw [fr _ _ (by omega) (by omega), fr _ _ (by omega) (by omega)]; exact q1, by rw [fr _ _ (by omega) (by omega), fr _ _ (by omega) (by omega)]; exact q2, by rw [z1, zf _ _ (by omega), s1], by rw [fr _ _ (by omega) (by omega), fr _ _ (by omega) (by omega)]; exact q4, fun i hi => by rw [fr _ _ (by omega) (by omega), fr _ _ (by omega) (by omega)]; exact q5 i hi⟩
      · obtain ⟨q0, q1, q2, q3, q4⟩ := pok.up (Nat.le_succ c)
        exact ⟨by rw [fr _ _ (by omega) (by omega)]; exact q0, by rw [fr _ _ (by omega) (by omega)]; exact q1, by rw [fr _ _ (by omega) (by omega)]; exact q2, by rw [zf _ _ (by omega), s1]; exact in_b (Or.inr rfl), fun i hi => by rw [fr _ _ (by omega) (by omega)]; exact q4 i hi⟩
    · obtain rfl := inj p' hp' e
      rw [sf _ _ (by omega), sf _ _ (by omega), prl.2.2.1, b7] at q3
      exact absurd hq q3
  · refine mm σ b5 _ (fun q => absurd (nI_rng (by omega) hp) q) (fun p' hp' e q => ?_) (fun p' hp' e q1 q2 q3 => ?_) (fun p' hp' e q1 q2 q3 => ?_)
    · obtain rfl := inj p' hp' e
      rw [prl.1, prl.2.2.2.1, hin] at q
      exact q.elim (fun z => absurd z (by decide)) (fun z => absurd hg z)
    · obtain rfl := inj p' hp' e
      rw [prl.2.2.1, b7] at q3
      exact absurd ⟨hg, q3⟩ hq
    · obtain rfl := inj p' hp' e
      exact ⟨by rw [prl.2.2.1, b7], h0⟩
  · refine mm σ b5 _ (fun q => absurd (nI_rng (by omega) hp) q) (fun p' hp' e q => ⟨rfl, h0⟩) (fun p' hp' e q1 q2 q3 => ?_) (fun p' hp' e q1 q2 q3 => ?_) <;>
    · obtain rfl := inj p' hp' e
      rw [prl.1] at q2
      exact absurd q2 hg
end OPS4
