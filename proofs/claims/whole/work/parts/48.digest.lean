section DG3
variable {E : am_E} {d c : Nat} {σ : FH}
theorem dgR_cg {s : FH} {r w : Nat} (hr : r < 8) (h : ∀ a i, a < 71 → s.1 a i = σ.1 a i) : dgR s r w = dgR σ r w := by
  unfold dgR
  congr 1
  funext j
  exact h _ _ (by omega)
theorem dgP_cg {s : FH} {p w : Nat} (hr : p < 4) (h : ∀ a i, a < 71 → s.1 a i = σ.1 a i) : dgP s p w = dgP σ p w := by
  unfold dgP
  have e1 : (fun j => s.1 (16 + 2 * p) j) = (fun j => σ.1 (16 + 2 * p) j) := funext fun j => h _ _ (by omega)
  have e2 : (fun j => s.1 (16 + 2 * p + 1) j) = (fun j => σ.1 (16 + 2 * p + 1) j) := funext fun j => h _ _ (by omega)
  rw [e1, e2]
theorem dgC_cg {s : FH} {np w : Nat} (hn : np ≤ 4) (h : ∀ a i, a < 71 → s.1 a i = σ.1 a i) : dgC s np w = dgC σ np w := by
  unfold dgC
  rw [h 4 1 (by omega), h 4 0 (by omega), h 4 2 (by omega), h 4 3 (by omega), h 4 4 (by omega), h 2 1 (by omega), h 1 7 (by omega), h 1 8 (by omega), smI_cg np (fun p hp => h (16 + 2 * p) 4 (by omega))]
theorem op_digest (h : inv c σ) : fMj E (d + 6) mX6_digest [.ref 1] σ (fun a σ1 => fMj E (d + 6) mX7_digest [.ref 78] σ1 (fun b σ2 => a = b ∧ inv (c + 1) σ2)) := by
  have h0 := h.up (Nat.le_succ c)
  obtain ⟨iP, iF, iN, nr, np, nl, iW, iK, iR⟩ := h0
  obtain ⟨⟨a1, a2, a3, a4, a5, a6, a7, a8, a9, a10⟩, ⟨b1, b2, b3⟩, b4, b5, b6, b7, b8⟩ := id iW
  obtain ⟨n, p1, p2, p3, p4⟩ := id iP
  obtain ⟨nd, hnd, end'⟩ := a10
  have lr : ∀ r, r < nr → vp_in (σ.1 (8 + r) 5) 2 := fun r hr => by have := (a7 r hr).2.2.2.2.2; rwa [show 4 + 4 + r = 8 + r by omega] at this
  have lp : ∀ p, p < np → vp_in (σ.1 (16 + 2 * p) 4) 2 := fun p hp => by have := (a8 p hp).2.2.2.1; rwa [show 4 + 12 + 2 * p = 16 + 2 * p by omega] at this
  -- the reference up to its rows, at a state whose low cells are σ's
  have start : ∀ s : FH, (∀ a i, (a < 71 ∨ 78 ≤ a) → s.1 a i = σ.1 a i) → ∀ QJ : Int64 → FH → Prop, h_X7_digest_50 E (d + 5) (nI np) (fsJ s (dg2 (dgP σ) 13 (dg2 (dgR σ) 6 761 nr) np)) QJ → fMj E (d + 6) mX7_digest [.ref 78] s QJ := by
    intro s sf QJ k
    refine v_X7_digest ?_
    unfold t_X7_digest
    rintro _ rfl
    refine m_dRoads (d := d + 2) a1 (by rw [sf _ _ (by omega)]; exact b4) (fun r hr => ?_) (fun r hr => ?_) ?_
    · have := b1 r hr
      rw [show 4 + 4 + r = 8 + r by omega] at this
      exact this.cg (fun j _ => sf _ _ (by omega)) (fun j _ => sf _ _ (by omega))
    · have := a7 r hr
      rw [show 4 + 4 + r = 8 + r by omega] at this
      exact this.cg (fun j _ => sf _ _ (by omega))
    · rw [dg2_cg nr (fun r w hr _ => dgR_cg (by omega) (fun a i h => sf _ _ (Or.inl h)))]
      refine m_dPilgrims (d := d + 2) a2 (by rw [sf _ _ (by omega)]; exact b5) (fun p hp => ?_) ?_
      · have := b2 p hp
        rw [show 4 + 12 + 2 * p = 16 + 2 * p by omega] at this
        exact this.cg (fun j _ => sf _ _ (by omega)) (fun j _ => sf _ _ (by omega)) (fun j _ => sf _ _ (by omega)) (fun j _ => sf _ _ (by omega))
      · rw [dg2_cg np (fun p w hp _ => dgP_cg (by omega) (fun a i h => sf _ _ (Or.inl h)))]
        exact k
  have pgE : ∀ hh, dg (fun i => σ.1 79 i) hh n = dg (fun i => σ.1 3 i) hh n := fun hh => dg_cg n (fun i hi => (p4 i hi).1)
  refine v_X6_digest ?_
  unfold t_X6_digest
  refine c_dRoads a1 a4 lr (c_dPilgrims a2 a5 lp ?_)
  generalize hH : dg2 (dgP σ) 13 (dg2 (dgR σ) 6 761 nr) np = H at *
  rw [a4]
  refine ⟨fun hz => ?_, fun hz => ?_⟩
  · -- without roads
    have n0 : nr = 0 := by
      rcases Nat.eq_zero_or_pos nr with z | z
      · exact z
      · exact absurd hz (nI_nle z (by omega))
    refine c_dTail p1 p2 a2 a5 lp ?_
    refine start σ (fun _ _ _ => rfl) _ ?_
    refine v_X7_digest_50 ?_
    unfold t_X7_digest_50
    have e11 : (fsJ σ H).1 78 11 = nI np := b5
    have e6 : (fsJ σ H).1 78 6 = nI nr := b4
    rw [e11]
    refine ⟨fun _ => c_lacks ?_, fun q => absurd (nI_le (Nat.le_refl np) (by omega)) q⟩
    rw [e6, n0]
    refine ⟨fun _ => m_dTail (c := c + 1) (nr := nr) (np := np) (nl := nl) (n := n) p1 p3 iP iF iW iK ⟨?_, ?_⟩, fun q => absurd q (by decide)⟩
    · rw [pgE]
    · exact ⟨iP, iF, iN, nr, np, nl, iW, iK, iR⟩
  · have hr : nr ≠ 0 := fun z => hz (by rw [z]; decide)
    have nz : ¬ nI nr = 0 := fun z => hr ((nI_z (by omega)).mp z)
    refine v_X6_walks ?_
    unfold t_X6_walks
    rw [a4]
    refine ⟨fun _ => c_tallyW iW iR (fun s s22 sf sF s9 sT => ?_), fun q => absurd q nz⟩
    have again : ∀ QV : FH → Prop, QV s → fMv E (d + 4) mX3_tally [.ref 71, .ref 4] s QV := by
      intro QV k
      refine v_X3_tally (Or.inl rfl) ?_
      unfold t_X3_tally
      rw [s9]
      exact ⟨fun h => absurd h (by decide), fun _ => k⟩
    obtain ⟨A, B, wm, m20, mlg, t1, t2, t3⟩ := rows_m iW sf sT
    show fMi E (d + 5) mX6_walksBy [.ref 1, .int (s.1 4 0)] s _
    rw [sf 4 0 (by omega), end']
    refine v_X6_walksBy ?_
    unfold t_X6_walksBy
    rw [sf 4 1 (by omega), a4, nI_clamp (by omega)]
    refine ⟨fun q => absurd q (nI_pos (by omega)), fun _ => ⟨fun _ => ⟨fun _ => again _ ⟨vp_in_nI (by omega) (by decide), ?_⟩, fun q => absurd q nz⟩, fun q => absurd (nI_le (b := 60) hnd (by decide)) q⟩⟩
    rintro _ rfl
    refine v_X6_last ?_
    unfold t_X6_last
    rw [sf 4 1 (by omega), a4]
    refine ⟨fun _ => again _ ?_, fun q => absurd q nz⟩
    refine c_dTail p1 (by rw [sf _ _ (by omega)]; exact p2) a2 (by rw [sf _ _ (by omega)]; exact a5) (fun p hp => by rw [sf _ _ (by omega)]; exact lp p hp) ?_
    rw [t1, t2 nd hnd]
    refine start s sf _ ?_
    refine v_X7_digest_50 ?_
    unfold t_X7_digest_50
    have e11 : (fsJ s H).1 78 11 = nI np := (sf _ _ (by omega)).trans b5
    have e6 : (fsJ s H).1 78 6 = nI nr := (sf _ _ (by omega)).trans b4
    rw [e11]
    refine ⟨fun _ => c_lacks ?_, fun q => absurd (nI_le (Nat.le_refl np) (by omega)) q⟩
    rw [e6]
    refine ⟨fun q => absurd (bi_f nz) q, fun _ => ?_⟩
    have W1 : ∀ t : FH, (∀ a i, a ≠ 88 → a ≠ 89 → t.1 a i = s.1 a i) → md_W nr A B (rwWt σ) t := fun t tf => wm.cg (fun a i h => tf _ _ (by omega) (by omega))
    refine c_rowsBy (d := d + 1) (lg := fun i => σ.1 5 i) (W1 (fsJ s H) (fun _ _ _ _ => rfl)) a3 m20 mlg (Or.inl rfl) (fun u u2 uf => c_say ?_)
    rw [if_pos rfl]
    have uf' : ∀ v a i, a ≠ 88 → a ≠ 89 → (fsJ u v).1 a i = s.1 a i := fun v a i h1 h2 => uf a i h1 h2
    generalize hg1 : 31 * u.2.2 + (nI (rl nr A B (fun i => σ.1 5 i) nl).length).toInt64 = g1
    have e7 : (fsJ u g1).1 78 7 = nI nd := by rw [uf' _ _ _ (by omega) (by omega), sf _ _ (by omega), b7]; exact end'
    rw [e7]
    refine c_rowsBy (d := d + 1) (lg := fun i => σ.1 5 i) (W1 (fsJ u g1) (uf' g1)) a3 (by rw [uf' _ _ _ (by omega) (by omega)]; exact m20) (fun i hi => by rw [uf' _ _ _ (by omega) (by omega)]; exact mlg i hi) (Or.inr ⟨nd, hnd, rfl⟩) (fun w w2 wf => c_say ?_)
    rw [if_neg (vp_ne (vp_in_nI (n := nd) (N := 61) (by omega) (by decide)))]
    have wf' : ∀ v a i, a ≠ 88 → a ≠ 89 → (fsJ w v).1 a i = s.1 a i := fun v a i h1 h2 => (wf a i h1 h2).trans (uf' g1 a i h1 h2)
    generalize hg2 : 31 * w.2.2 + (nI ((rl nr A B (fun i => σ.1 5 i) nl).countP (fun q => decide (nI (rwH nr (rwWt σ) q) = nI nd)))).toInt64 = g2
    refine c_lastOf (d := d + 1) (lg := fun i => σ.1 5 i) (W1 (fsJ w g2) (wf' g2)) a3 (by rw [wf' _ _ _ (by omega) (by omega)]; exact m20) (fun i hi => by rw [wf' _ _ _ (by omega) (by omega)]; exact mlg i hi) (fun x vl x2 xf hv => c_say ?_)
    have ev := rwB_one t3 hv
    have xf' : ∀ a i, a ≠ 88 → a ≠ 89 → x.1 a i = s.1 a i := fun a i h1 h2 => (xf a i h1 h2).trans (wf' g2 a i h1 h2)
    have x21 : x.2.1 = s.2.1 := by rw [x2]; show w.2.1 = s.2.1; rw [w2]; show u.2.1 = s.2.1; rw [u2]; rfl
    have fin := walks_inv (t := x) iP iF iN iW iK sf sF s9 sT x21 xf'
    have xs : ∀ a i, a < 71 ∨ (78 ≤ a ∧ a < 88) → x.1 a i = σ.1 a i := fun a i h => by rw [xf' _ _ (by omega) (by omega), sf _ _ (by omega)]
    have xW : iWd (c + 1) nr np nl x := iW.cg (fun k j h1 h2 => xs _ _ (by omega)) (fun j _ => xs _ _ (by omega)) (fun j => xs _ _ (by omega)) (fun j => xs _ _ (by omega)) (fun j => xs _ _ (by omega)) (fun j _ => xs _ _ (by omega))
    obtain ⟨xP, xF, xN, xK⟩ := inv_keep iP iF iN iK (σ' := x) (fun a i h => by
      by_cases e : 92 ≤ a
      · rw [xf' _ _ (by omega) (by omega), sf _ _ (by omega)]
      · exact xs a i (by omega))
    refine m_dTail (d := d + 3) (c := c + 1) (nr := nr) (np := np) (nl := nl) (n := n) p1 (by rw [xs _ _ (by omega)]; exact p3) xP xF xW xK ⟨?_, fin⟩
    have eh : x.2.2 = g2 := by rw [x2]; rfl
    have ew : w.2.2 = g1 := by rw [w2]; rfl
    have eu : u.2.2 = H := by rw [u2]; rfl
    rw [eu] at hg1
    rw [ew] at hg2
    rw [eh, ← ev, ← hg2, ← hg1]
    rw [dg_cg 9 (fun w' _ => dgC_cg (σ := σ) (s := s) a2 (fun a i h => sf _ _ (Or.inl h))), dg_cg 9 (f := dgC x np) (fun w' _ => dgC_cg (σ := σ) a2 (fun a i h => xs _ _ (Or.inl h)))]
    congr 1
    rw [dg_cg n (f := fun i => x.1 79 i) (g := fun i => s.1 3 i) (fun i hi => by rw [xs _ _ (by omega), sf _ _ (by omega)]; exact (p4 i hi).1)]
end DG3
