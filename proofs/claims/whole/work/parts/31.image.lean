/-! image, restore -/
section OPS8
variable {E : am_E} {d c : Nat} {σ : FH}
theorem op_image (h : inv c σ) : fMi E (d + 4) mX6_image [.ref 1] σ (fun a σ1 => fMi E (d + 4) mX7_image [.ref 78] σ1 (fun b σ2 => a = b ∧ inv (c + 1) σ2)) := by
  have h0 := h.up (Nat.le_succ c)
  obtain ⟨iP, iF, iN, nr, np, nl, iW, iK, iR⟩ := h
  obtain ⟨w0, w1, b4, b5, b6, b7, b8⟩ := id iW
  obtain ⟨a1, a2, a3, a4, a5, a6, a7, a8, a9, a10⟩ := id w0
  refine v_X6_image ?_
  unfold t_X6_image
  rw [a4, nI_z (by omega)]
  refine ⟨fun hr => ?_, fun hr => ?_⟩
  · refine c_wBecome (Or.inr (Or.inl rfl)) (Or.inl rfl) (by decide) a1 a2 a4 a5 (fun i hi => (a7 i hi).2.2.2.2.2) (fun p hp => (a8 p hp).2.2.2.1) ?_
    intro s s2 sf s0 sw sl sr sp sk
    rintro _ rfl
    have tf : ∀ a i, ¬ (a = 1 ∧ i = 6) → (fsI s 1 6 1).1 a i = s.1 a i := fun a i h => fsI_n h
    have t2 : (fsI s 1 6 1).2 = σ.2 := s2
    have t1 : (fsI s 1 6 1).1 1 6 = 1 := fsI_s
    generalize fsI s 1 6 1 = t at tf t1 t2
    have ft : ∀ a i, ¬ (a = 1 ∧ i = 6) → ¬ (24 ≤ a ∧ a < 44) → t.1 a i = σ.1 a i := fun a i h1 h2 => by rw [tf _ _ h1, sf _ _ (by omega)]
    refine v_X7_image ?_
    unfold t_X7_image
    refine c_lacks ?_
    rw [ft _ _ (by omega) (by omega), b4]
    refine ⟨fun _ => ?_, fun q => absurd (bi0.mpr (fun z => hr ((nI_z (by omega)).mp z))) q⟩
    refine c_copy (n0 := 45) (n1 := 45) ⟨by decide, by decide, rfl⟩ ⟨by decide, by decide, rfl⟩ (by decide) (by decide) (by decide) ?_
    intro u u2 uf uv
    refine c_copy (n0 := 20) (n1 := 20) ⟨by decide, by decide, rfl⟩ ⟨by decide, by decide, rfl⟩ (by decide) (by decide) (by decide) ?_
    intro v v2 vf vv
    refine c_copy (n0 := 32) (n1 := 32) ⟨by decide, by decide, rfl⟩ ⟨by decide, by decide, rfl⟩ (by decide) (by decide) (by decide) ?_
    intro x x2 xf xv
    refine c_copy (n0 := 7) (n1 := 7) ⟨by decide, by decide, rfl⟩ ⟨by decide, by decide, rfl⟩ (by decide) (by decide) (by decide) ?_
    intro y y2 yf yv
    rintro _ rfl _ rfl _ rfl _ rfl
    have y78 : ∀ i, y.1 78 i = σ.1 78 i := fun i => by rw [yf _ _ (by omega), xf _ _ (by omega), vf _ _ (by omega), uf _ _ (by omega), ft _ _ (by omega) (by omega)]
    simp only [fsI_j (show (9 : Nat) ≠ 28 by decide), fsI_j (show (9 : Nat) ≠ 29 by decide), fsI_j (show (9 : Nat) ≠ 30 by decide), fsI_j (show (9 : Nat) ≠ 27 by decide), fsI_j (show (20 : Nat) ≠ 28 by decide), fsI_j (show (20 : Nat) ≠ 29 by decide), fsI_j (show (8 : Nat) ≠ 28 by decide), fsI_j (show (8 : Nat) ≠ 29 by decide), fsI_j (show (8 : Nat) ≠ 30 by decide), y78]
    rw [b5, b6, b8]
    have zf : ∀ a i, ¬ (a = 78 ∧ (27 ≤ i ∧ i ≤ 30)) → (fsI (fsI (fsI (fsI y 78 28 (nI np)) 78 29 (σ.1 4 3)) 78 30 (nI nl)) 78 27 (σ.1 78 8)).1 a i = y.1 a i := fun a i h => by repeat rw [fsI_n (by omega)]
    have z28 : (fsI (fsI (fsI (fsI y 78 28 (nI np)) 78 29 (σ.1 4 3)) 78 30 (nI nl)) 78 27 (σ.1 78 8)).1 78 28 = nI np := by simp [fsI_at]
    have z29 : (fsI (fsI (fsI (fsI y 78 28 (nI np)) 78 29 (σ.1 4 3)) 78 30 (nI nl)) 78 27 (σ.1 78 8)).1 78 29 = σ.1 4 3 := by simp [fsI_at]
    have z30 : (fsI (fsI (fsI (fsI y 78 28 (nI np)) 78 29 (σ.1 4 3)) 78 30 (nI nl)) 78 27 (σ.1 78 8)).1 78 30 = nI nl := by simp [fsI_at]
    have z27 : (fsI (fsI (fsI (fsI y 78 28 (nI np)) 78 29 (σ.1 4 3)) 78 30 (nI nl)) 78 27 (σ.1 78 8)).1 78 27 = σ.1 78 8 := by simp [fsI_at]
    have z2 : (fsI (fsI (fsI (fsI y 78 28 (nI np)) 78 29 (σ.1 4 3)) 78 30 (nI nl)) 78 27 (σ.1 78 8)).2 = σ.2 := by rw [fsI_2, fsI_2, fsI_2, fsI_2, y2, x2, v2, u2, t2]
    generalize fsI (fsI (fsI (fsI y 78 28 (nI np)) 78 29 (σ.1 4 3)) 78 30 (nI nl)) 78 27 (σ.1 78 8) = z at zf z28 z29 z30 z27 z2
    have yt : ∀ a i, a < 92 → y.1 a i = t.1 a i := fun a i h => by rw [yf _ _ (by omega), xf _ _ (by omega), vf _ _ (by omega), uf _ _ (by omega)]
    have fz : ∀ a i, ¬ (a = 1 ∧ i = 6) → ¬ (24 ≤ a ∧ a < 44) → ¬ (92 ≤ a) → ¬ (a = 78 ∧ (27 ≤ i ∧ i ≤ 30)) → z.1 a i = σ.1 a i := fun a i h1 h2 h3 h4 => by rw [zf _ _ h4, yt _ _ (by omega), ft _ _ h1 h2]
    have fs : ∀ a i, 24 ≤ a → a < 44 → z.1 a i = s.1 a i := fun a i h1 h2 => by rw [zf _ _ (by omega), yt _ _ (by omega), tf _ _ (by omega)]
    have c92 : ∀ j, j < 45 → z.1 92 j = σ.1 81 j := fun j hj => by rw [zf _ _ (by omega), yf _ _ (by omega), xf _ _ (by omega), vf _ _ (by omega), uv j hj, ft _ _ (by omega) (by omega)]
    have c93 : ∀ j, j < 20 → z.1 93 j = σ.1 82 j := fun j hj => by rw [zf _ _ (by omega), yf _ _ (by omega), xf _ _ (by omega), vv j hj, uf _ _ (by omega), ft _ _ (by omega) (by omega)]
    have c94 : ∀ j, j < 32 → z.1 94 j = σ.1 83 j := fun j hj => by rw [zf _ _ (by omega), yf _ _ (by omega), xv j hj, vf _ _ (by omega), uf _ _ (by omega), ft _ _ (by omega) (by omega)]
    have c95 : ∀ j, j < 7 → z.1 95 j = σ.1 87 j := fun j hj => by rw [zf _ _ (by omega), yv j hj, xf _ _ (by omega), vf _ _ (by omega), uf _ _ (by omega), ft _ _ (by omega) (by omega)]
    refine ⟨ft _ _ (by omega) (by omega), ?_⟩
    obtain ⟨nk, k1, k2, k3, k4⟩ := iK
    have ww : wOK (c + 1) 24 nr np nl z := (w0.up (Nat.le_succ c)).tr (fun j hj => by rw [fs _ _ (by omega) (by omega)]; exact sw j hj) (fun j hj => by rw [fs _ _ (by omega) (by omega)]; exact sl j hj) (fun i j h1 h2 h3 => by rw [fs _ _ (by omega) (by omega)]; exact sr i j h1 h2 h3) (fun p j h1 h2 => by rw [fs _ _ (by omega) (by omega)]; exact sp p j h1 h2) (fun p j h1 h2 => by rw [fs _ _ (by omega) (by omega)]; exact sk p j h1 h2)
    have wr : wRel 24 92 93 94 95 nr np nl z := wRel.tr a1 a2 a3 w1 (fun j hj => by rw [fs _ _ (by omega) (by omega)]; exact sl j hj) (fun i j h1 h2 h3 => by rw [fs _ _ (by omega) (by omega)]; exact sr i j h1 h2 h3) (fun p j h1 h2 => by rw [fs _ _ (by omega) (by omega)]; exact sp p j h1 h2) (fun p j h1 h2 => by rw [fs _ _ (by omega) (by omega)]; exact sk p j h1 h2) (fun j hj => c92 j (by omega)) c93 c94 c95
    have f4 : ∀ a i, 4 ≤ a → a < 24 → z.1 a i = σ.1 a i := fun a i h1 h2 => fz a i (by omega) (by omega) (by omega) (by omega)
    refine ⟨iP.cg (fz _ _ (by omega) (by omega) (by omega) (by omega)) (fz _ _ (by omega) (by omega) (by omega) (by omega)) (fun j => fz _ _ (by omega) (by omega) (by omega) (by omega)) (fun j => fz _ _ (by omega) (by omega) (by omega) (by omega)), iF.cg (fz _ _ (by omega) (by omega) (by omega) (by omega)) (fz _ _ (by omega) (by omega) (by omega) (by omega)) (fz _ _ (by omega) (by omega) (by omega) (by omega)), iN.cg (fun k h1 h2 h3 => ?_), nr, np, nl, (iW.up (Nat.le_succ c)).cg (fun k j h1 h2 => f4 k j h1 h2) (fun j _ => fz _ _ (by omega) (by omega) (by omega) (by omega)) (fun j => fz _ _ (by omega) (by omega) (by omega) (by omega)) (fun j => fz _ _ (by omega) (by omega) (by omega) (by omega)) (fun j => fz _ _ (by omega) (by omega) (by omega) (by omega)) (fun j _ => fz _ _ (by omega) (by omega) (by omega) (by omega)), ⟨nk, by omega, by rw [fz _ _ (by omega) (by omega) (by omega) (by omega)]; exact k2, by rw [fz _ _ (by omega) (by omega) (by omega) (by omega)]; exact k3, Or.inr ⟨by rw [zf _ _ (by omega), yt _ _ (by omega)]; exact t1, by rw [z27]; exact k3, np, nl, ww, wr, z28, z30, ?_, ?_⟩⟩, iR.cg a1 z2 (fun k j h1 h2 h3 => f4 _ _ (by omega) (by omega)) (fun j => f4 _ _ (by omega) (by omega)) (fun j h1 => fz _ _ (by omega) (by omega) (by omega) (by omega)) (fun j => fz _ _ (by omega) (by omega) (by omega) (by omega))⟩
    · rcases h3 with h3 | h3 | h3
      · exact f4 _ _ (by omega) (by omega)
      · rw [fs _ _ (by omega) (by omega)]
        have := s0 (k - 28) (by omega)
        rwa [show 24 + 4 + (k - 28) = k by omega] at this
      · exact fz _ _ (by omega) (by omega) (by omega) (by omega)
    · rw [z29, fs _ _ (by omega) (by omega)]; exact (sw 3 (by omega)).symm
    · rw [fs _ _ (by omega) (by omega), f4 _ _ (by omega) (by omega)]; exact sw 0 (by omega)
  · refine v_X7_image ?_
    unfold t_X7_image
    refine c_lacks ?_
    rw [b4, hr]
    exact ⟨fun q => absurd q (by decide), fun _ => ⟨rfl, h0⟩⟩
theorem op_restore (hc : c < 900) (h : inv c σ) : fMi E (d + 4) mX6_restore [.ref 1] σ (fun a σ1 => fMi E (d + 4) mX7_restore [.ref 78] σ1 (fun b σ2 => a = b ∧ inv (c + 1) σ2)) := by
  have h0 := h.up (Nat.le_succ c)
  obtain ⟨iP, iF, iN, nr, np, nl, iW, iK, iR⟩ := h
  obtain ⟨w0, w1, b4, b5, b6, b7, b8⟩ := id iW
  have iK' := iK.up (Nat.le_succ c)
  obtain ⟨nk, k1, k2, k3, k4⟩ := iK
  refine v_X6_restore ?_
  unfold t_X6_restore
  rcases k4 with ⟨q1, q2⟩ | ⟨q1, q2, np', nl', v0, v1, q3, q4, q5, q6⟩
  · rw [q1]
    refine ⟨fun q => absurd rfl q, fun _ => ?_⟩
    refine v_X7_restore ?_
    unfold t_X7_restore
    refine ⟨fun q => ?_, fun _ => ⟨rfl, h0⟩⟩
    rw [k3] at q
    rcases q2 with q2 | ⟨m, hm, q2⟩
    · rw [q2] at q
      exact absurd q.symm (vp_ne (vp_in_nI (n := nk) (N := 1000) (by omega) (by decide)))
    · rw [q2] at q
      exact absurd ((nI_eq (by omega) (by omega)).mp q) (by omega)
  · obtain ⟨a1, a2, a3, a4, a5, a6, a7, a8, a9, a10⟩ := id v0
    rw [q1]
    refine ⟨fun _ => ?_, fun q => absurd q (by decide)⟩
    refine c_wBecome (Or.inl rfl) (Or.inr (Or.inl rfl)) (by decide) a1 a2 a4 a5 (fun i hi => (a7 i hi).2.2.2.2.2) (fun p hp => (a8 p hp).2.2.2.1) ?_
    intro s s2 sf s0 sw sl sr sp sk
    refine c_outdate ?_
    have tf : ∀ a i, ¬ (a = 71 ∧ i = 9) → (fsI s 71 9 0).1 a i = s.1 a i := fun a i h => fsI_n h
    have t2 : (fsI s 71 9 0).2 = σ.2 := s2
    have t1 : (fsI s 71 9 0).1 71 9 = 0 := fsI_s
    generalize fsI s 71 9 0 = t at tf t1 t2
    have ft : ∀ a i, ¬ (a = 71 ∧ i = 9) → ¬ (4 ≤ a ∧ a < 24) → t.1 a i = σ.1 a i := fun a i h1 h2 => by rw [tf _ _ h1, sf _ _ (by omega)]
    refine v_X7_restore ?_
    unfold t_X7_restore
    rw [ft _ _ (by omega) (by omega), q2, ft _ _ (by omega) (by omega), k3]
    refine ⟨fun _ => ?_, fun q => absurd rfl q⟩
    refine c_copy (n0 := 45) (n1 := 45) ⟨by decide, by decide, rfl⟩ ⟨by decide, by decide, rfl⟩ (by decide) (by decide) (by decide) ?_
    intro u u2 uf uv
    refine c_copy (n0 := 20) (n1 := 20) ⟨by decide, by decide, rfl⟩ ⟨by decide, by decide, rfl⟩ (by decide) (by decide) (by decide) ?_
    intro v v2 vf vv
    refine c_copy (n0 := 32) (n1 := 32) ⟨by decide, by decide, rfl⟩ ⟨by decide, by decide, rfl⟩ (by decide) (by decide) (by decide) ?_
    intro x x2 xf xv
    refine c_copy (n0 := 7) (n1 := 7) ⟨by decide, by decide, rfl⟩ ⟨by decide, by decide, rfl⟩ (by decide) (by decide) (by decide) ?_
    intro y y2 yf yv
    rintro _ rfl _ rfl _ rfl
    have y78 : ∀ i, y.1 78 i = σ.1 78 i := fun i => by rw [yf _ _ (by omega), xf _ _ (by omega), vf _ _ (by omega), uf _ _ (by omega), ft _ _ (by omega) (by omega)]
    have e29 : (fsI y 78 11 (y.1 78 28)).1 78 29 = y.1 78 29 := fsI_j (by decide)
    have e30 : (fsI (fsI y 78 11 (y.1 78 28)) 78 9 (y.1 78 29)).1 78 30 = y.1 78 30 := by rw [fsI_j (by decide), fsI_j (by decide)]
    rw [e29, e30, y78, y78, y78, q3, q4, q5]
    have zf : ∀ a i, ¬ (a = 78 ∧ (i = 9 ∨ i = 11 ∨ i = 20)) → (fsI (fsI (fsI y 78 11 (nI np')) 78 9 (σ.1 24 3)) 78 20 (nI nl')).1 a i = y.1 a i := fun a i h => by repeat rw [fsI_n (by omega)]
    have z11 : (fsI (fsI (fsI y 78 11 (nI np')) 78 9 (σ.1 24 3)) 78 20 (nI nl')).1 78 11 = nI np' := by simp [fsI_at]
    have z9 : (fsI (fsI (fsI y 78 11 (nI np')) 78 9 (σ.1 24 3)) 78 20 (nI nl')).1 78 9 = σ.1 24 3 := by simp [fsI_at]
    have z20 : (fsI (fsI (fsI y 78 11 (nI np')) 78 9 (σ.1 24 3)) 78 20 (nI nl')).1 78 20 = nI nl' := by simp [fsI_at]
    have z2 : (fsI (fsI (fsI y 78 11 (nI np')) 78 9 (σ.1 24 3)) 78 20 (nI nl')).2 = σ.2 := by rw [fsI_2, fsI_2, fsI_2, y2, x2, v2, u2, t2]
    generalize fsI (fsI (fsI y 78 11 (nI np')) 78 9 (σ.1 24 3)) 78 20 (nI nl') = z at zf z11 z9 z20 z2
    have yt : ∀ a i, a < 81 ∨ 88 ≤ a → y.1 a i = t.1 a i := fun a i h => by rw [yf _ _ (by omega), xf _ _ (by omega), vf _ _ (by omega), uf _ _ (by omega)]
    have fz : ∀ a i, ¬ (a = 71 ∧ i = 9) → ¬ (4 ≤ a ∧ a < 24) → (a < 81 ∨ 88 ≤ a) → ¬ (a = 78 ∧ (i = 9 ∨ i = 11 ∨ i = 20)) → z.1 a i = σ.1 a i := fun a i h1 h2 h3 h4 => by rw [zf _ _ h4, yt _ _ (by omega), ft _ _ h1 h2]
    have fs : ∀ a i, 4 ≤ a → a < 24 → z.1 a i = s.1 a i := fun a i h1 h2 => by rw [zf _ _ (by omega), yt _ _ (by omega), tf _ _ (by omega)]
    have c92 : ∀ j, j < 45 → z.1 81 j = σ.1 92 j := fun j hj => by rw [zf _ _ (by omega), yf _ _ (by omega), xf _ _ (by omega), vf _ _ (by omega), uv j hj, ft _ _ (by omega) (by omega)]
    have c93 : ∀ j, j < 20 → z.1 82 j = σ.1 93 j := fun j hj => by rw [zf _ _ (by omega), yf _ _ (by omega), xf _ _ (by omega), vv j hj, uf _ _ (by omega), ft _ _ (by omega) (by omega)]
    have c94 : ∀ j, j < 32 → z.1 83 j = σ.1 94 j := fun j hj => by rw [zf _ _ (by omega), yf _ _ (by omega), xv j hj, vf _ _ (by omega), uf _ _ (by omega), ft _ _ (by omega) (by omega)]
    have c95 : ∀ j, j < 7 → z.1 87 j = σ.1 95 j := fun j hj => by rw [zf _ _ (by omega), yv j hj, xf _ _ (by omega), vf _ _ (by omega), uf _ _ (by omega), ft _ _ (by omega) (by omega)]
    refine ⟨by rw [tf _ _ (by omega), sw 3 (by omega), z9], ?_⟩
    have ww : wOK (c + 1) 4 nr np' nl' z := (v0.up (Nat.le_succ c)).tr (fun j hj => by rw [fs _ _ (by omega) (by omega)]; exact sw j hj) (fun j hj => by rw [fs _ _ (by omega) (by omega)]; exact sl j hj) (fun i j h1 h2 h3 => by rw [fs _ _ (by omega) (by omega)]; exact sr i j h1 h2 h3) (fun p j h1 h2 => by rw [fs _ _ (by omega) (by omega)]; exact sp p j h1 h2) (fun p j h1 h2 => by rw [fs _ _ (by omega) (by omega)]; exact sk p j h1 h2)
    have wr : wRel 4 81 82 83 87 nr np' nl' z := wRel.tr a1 a2 a3 v1 (fun j hj => by rw [fs _ _ (by omega) (by omega)]; exact sl j hj) (fun i j h1 h2 h3 => by rw [fs _ _ (by omega) (by omega)]; exact sr i j h1 h2 h3) (fun p j h1 h2 => by rw [fs _ _ (by omega) (by omega)]; exact sp p j h1 h2) (fun p j h1 h2 => by rw [fs _ _ (by omega) (by omega)]; exact sk p j h1 h2) (fun j hj => c92 j (by omega)) c93 c94 c95
    have s40 : z.1 4 0 = σ.1 4 0 := by rw [fs _ _ (by omega) (by omega), sw 0 (by omega)]; exact q6
    refine ⟨iP.cg (fz _ _ (by omega) (by omega) (by omega) (by omega)) (fz _ _ (by omega) (by omega) (by omega) (by omega)) (fun j => fz _ _ (by omega) (by omega) (by omega) (by omega)) (fun j => fz _ _ (by omega) (by omega) (by omega) (by omega)), iF.cg (fz _ _ (by omega) (by omega) (by omega) (by omega)) (fz _ _ (by omega) (by omega) (by omega) (by omega)) (fz _ _ (by omega) (by omega) (by omega) (by omega)), iN.cg (fun k h1 h2 h3 => ?_), nr, np', nl', ⟨ww, wr, by rw [fz _ _ (by omega) (by omega) (by omega) (by omega)]; exact b4, z11, z20, by rw [fz _ _ (by omega) (by omega) (by omega) (by omega), s40]; exact b7, by rw [z9, fs _ _ (by omega) (by omega), sw 3 (by omega)]⟩, iK'.cg (fun k j h1 h2 => fz _ _ (by omega) (by omega) (by omega) (by omega)) (fun k j h1 h2 => fz _ _ (by omega) (by omega) (by omega) (by omega)) (fz _ _ (by omega) (by omega) (by omega) (by omega)) (fz _ _ (by omega) (by omega) (by omega) (by omega)) (fun j h1 => fz _ _ (by omega) (by omega) (by omega) (by omega)) s40, iR.off z2 (by rw [zf _ _ (by omega), yt _ _ (by omega)]; exact t1)⟩
    rcases h3 with h3 | h3 | h3
    · rw [fs _ _ (by omega) (by omega)]
      have := s0 (k - 8) (by omega)
      rwa [show 4 + 4 + (k - 8) = k by omega] at this
    · exact fz _ _ (by omega) (by omega) (by omega) (by omega)
    · exact fz _ _ (by omega) (by omega) (by omega) (by omega)
end OPS8
