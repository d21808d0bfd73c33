/-! most, bridge -/
section OM
variable {E : am_E} {d c : Nat} {σ : FH} {P Q : Int32 → FH → Prop}
theorem mo_lim {n p0 lim lim' M : Nat} {A B h g : Nat → Nat} (e : lim = lim') (H : mo n A B h g p0 lim M) : mo n A B h g p0 lim' M := e ▸ H
/-- the reference's loop over all states -/
theorem m_most95 {m nr p : Nat} {A B h ρ g wm : Nat → Nat} {fr : Nat → Bool} {p0 lim W cn nd : Nat} {bar : Int32} {D : Nat → Nat} (hx : sm_x nr p m A B h ρ fr p0 W bar σ) (hw : sm_w m p ρ g wm fr cn nd σ) (hl : lim ≤ 99) (hD : ∀ z, z < 3072 → rf_c σ z (D z)) (hS : xS m A B h ρ fr p0 lim D) (h0 : D (512 * p0) = 0) (hc : ∀ z, z < 3072 → xC m A B h ρ fr lim D z)
    (k : ∀ M, mo m A B h g p0 lim M → Q (nI (cn + M)) σ) : h_X7_most_95 E (d + 2) (nI p) 0 0 σ Q := by
  obtain ⟨hr, hρ⟩ := hx.s
  have hi := hx.2.2.2.2.2.2.2.2.2.2.1
  have p6 := hx.2.2.2.2.2.2.2.2.2.2.2.2
  have m9 := hx.2.2.1
  obtain ⟨w1, w2, w3, w4, w5, w6, w7⟩ := id hw
  have hh : ∀ r, r < m → 1 ≤ h r := fun r q => (hr r q).2.2
  have all := x_all hr hρ p6 hl hS h0 hc
  have key : ∀ l i M, i + l = 3072 → M < 2 ^ 30 → (M = 0 ∨ ∃ w, sw_v m A B p0 w ∧ sw_h h w ≤ lim ∧ M = cn + rwH m g w) → (∀ z, z < i → D z ≠ 1000000000 → cn + xh wm (z % 512) ≤ M) → h_X7_most_95 E (d + 2) (nI p) (nI M) (nI i) σ Q := by
    intro l
    induction l with
    | zero =>
      intro i M hi' M30 b1 b2
      refine v_X7_most_95 ?_
      unfold t_X7_most_95
      rw [show i = 3072 by omega] at *
      have up : ∀ w, sw_v m A B p0 w → sw_h h w ≤ lim → cn + rwH m g w ≤ M := by
        intro w a1 a2
        have a := all w a1 a2
        have lt := xs_lt (fr := fr) hρ w a1
        have s6 := sw_p6 p6 (fun r q => (hr r q).1) (fun r q => (hr r q).2.1) w a1
        have wp := xn_parts (ρ := ρ) hh (fun r z => by have := hρ r z; omega) a1 (by omega)
        obtain ⟨e1, e2⟩ := xq_d (A := A) (B := B) (p0 := p0) lt
        have := b2 (xq A B ρ fr p0 w) (by unfold xq; omega) (by omega)
        rw [e2, xh_w hρ hi w6 (sw_v_mem w a1)] at this
        exact this
      have nil := up [] trivial (Nat.zero_le _)
      rw [rwH0] at nil
      refine ⟨fun _ => ?_, fun q => absurd (by decide) q⟩
      have := k (M - cn) ⟨?_, fun w a1 a2 => by have := up w a1 a2; omega⟩
      · rw [show cn + (M - cn) = M by omega] at this
        exact this
      · rcases b1 with e | ⟨w, a1, a2, a3⟩
        · exact ⟨[], trivial, Nat.zero_le _, by rw [rwH0]; omega⟩
        · exact ⟨w, a1, a2, by omega⟩
    | succ l ih =>
      intro i M hi' M30 b1 b2
      refine v_X7_most_95 ?_
      unfold t_X7_most_95
      have rz := hD i (by omega)
      rw [nI_clamp (by omega), rz.n1, nI_1 i, show (512 : Int32) = nI 512 from rfl, pk_rem (by omega) (by decide) (by decide)]
      have skip : (D i ≠ 1000000000 → cn + xh wm (i % 512) ≤ M) → h_X7_most_95 E (d + 2) (nI p) (nI M) (nI (i + 1)) σ Q := by
        intro q
        refine ih (i + 1) M (by omega) M30 b1 (fun z hz e1 => ?_)
        by_cases e : z = i
        · subst e; exact q e1
        · exact b2 z (by omega) e1
      refine ⟨fun q => absurd q (nI_ge (b := 3072) (by omega) (by omega)), fun _ => ⟨vp_in_nI (by omega) (by decide), fun q => ?_, fun q => ⟨fun _ => skip (fun z => absurd q z), fun z => absurd (nI_pos' (by omega)) z⟩⟩⟩
      obtain ⟨w, a1, a2, a3, a4⟩ := hS i q
      have lt := xs_lt (fr := fr) hρ w a1
      obtain ⟨e1, e2⟩ := xq_d (A := A) (B := B) (p0 := p0) lt
      rw [a2] at e2
      have xw := xh_w (w := w) hρ hi w6 (sw_v_mem w a1)
      have r36 := rwH36 m9 w7 w
      have cw : ∀ Q' : Int32 → FH → Prop, Q' (nI (cn + rwH m g w)) σ → fMi E (d + 2) mX7_countedBy [.ref 78, .int (nI p), .int (nI (i % 512))] σ Q' := by
        intro Q' kq
        have := c_countedW (E := E) (d := d) (Q := Q') hx hw a1 kq
        rw [← e2] at this
        exact this
      refine cw _ ?_
      rw [nI_leI (a := cn + rwH m g w) (b := M) (by omega) (by omega)]
      refine ⟨fun q2 => skip (fun _ => by rw [e2, xw]; exact q2), fun q2 => ih (i + 1) _ (by omega) (by omega) (Or.inr ⟨w, a1, a4, rfl⟩) (fun z hz ez => ?_)⟩
      by_cases e : z = i
      · subst e; rw [e2, xw]; exact Nat.le_refl _
      · have := b2 z (by omega) ez
        omega
  exact key 3072 0 0 (by omega) (by omega) (Or.inl rfl) (fun z q => absurd q (by omega))
/-- the reference's most -/
theorem m_most {x y : Int32} {s : FH} {np : Nat} (hnp : np ≤ 4) (s11 : s.1 78 11 = nI np) (k1 : ¬ (0 ≤ x ∧ x < nI np) → P (-101) s) (k2 : (0 ≤ x ∧ x < nI np) → ¬ (0 ≤ y ∧ y ≤ 60) → P (-102) s) (k3 : ∀ p, p < np → x = nI p → (0 ≤ y ∧ y ≤ 60) → (s.1 82 (5 * p + 3) = 1 ∨ s.1 78 14 = 24) → P (-103) s)
    (k4 : ∀ p, p < np → x = nI p → (0 ≤ y ∧ y ≤ 60) → ¬ (s.1 82 (5 * p + 3) = 1 ∨ s.1 78 14 = 24) → ∃ nr A B h wt g p0 hu cn nd, sv_y nr p A B h wt g p0 hu cn nd s ∧ ∀ t M ny, t.2 = s.2 → (∀ a i, (a < 84 ∨ 86 < a) → ¬ (a = 78 ∧ (i = 14 ∨ i = 18 ∨ i = 19)) → t.1 a i = s.1 a i) → t.1 78 14 = s.1 78 14 + 1 → y = nI ny → ny ≤ 60 → mo (tm 100 nr) (fun j => A (tk 100 j)) (fun j => B (tk 100 j)) (fun j => h (tk 100 j)) (fun j => g (tk 100 j)) p0 (if 99 - hu < ny then 99 - hu else ny) M → P (nI (cn + M)) t) : fMi E (d + 4) mX7_most [.ref 78, .int x, .int y] s P := by
  refine v_X7_most ?_
  unfold t_X7_most
  refine c_mIsPilgrim ?_
  rw [s11, bi_iff (bi_rng (by omega))]
  simp only [bi0, Classical.not_not]
  refine ⟨fun hx => ?_, k1⟩
  obtain ⟨p, hp, e⟩ := rng_nI (by omega) hx
  subst e
  refine c_in32 0 60 rfl rfl ?_
  simp only [bi0, Classical.not_not]
  refine ⟨fun hy => c_isDone (by omega) ?_, fun hy => k2 hx hy⟩
  simp only [bi0, Classical.not_not]
  refine ⟨fun q => ?_, fun q => k3 p hp rfl hy q⟩
  obtain ⟨nr, A, B, h, wt, g, p0, hu, cn, nd, H, k⟩ := k4 p hp rfl hy q
  obtain ⟨ny, hny, ey⟩ := nI_of2 (n := 60) (show (60 : Int32).toInt = 60 from rfl) (fun z => absurd hy.1 (lt_nle.mp z)) hy.2
  subst ey
  have a3 := H.2.2.1
  obtain ⟨a7, a8⟩ : s.1 82 (5 * p + 1) = nI hu ∧ hu ≤ 99 := ⟨H.2.2.2.2.2.2.1, H.2.2.2.2.2.2.2.1⟩
  rintro _ rfl
  rw [n5_1, nI_clamp (by omega)]
  refine ⟨vp_in_nI (by omega) (by decide), ?_⟩
  rintro _ rfl _ rfl _ rfl
  rw [fsI_n (show ¬ (82 = 78 ∧ 5 * p + 1 = 14) by omega), a7, fsI_n (show ¬ (78 = 78 ∧ 6 = 14) by omega), a3, show (99 : Int32) = nI 99 from rfl, pk_sub a8, nI_leI (by omega) (by omega)]
  have uf : ∀ a i, ¬ (a = 78 ∧ (i = 14 ∨ i = 18 ∨ i = 19)) → (fsI (fsI (fsI s 78 14 (s.1 78 14 + 1)) 78 18 (nI nr)) 78 19 (-1)).1 a i = s.1 a i := fun a i q => by rw [fsI_n (by omega), fsI_n (by omega), fsI_n (by omega)]
  have u14 : (fsI (fsI (fsI s 78 14 (s.1 78 14 + 1)) 78 18 (nI nr)) 78 19 (-1)).1 78 14 = s.1 78 14 + 1 := by rw [fsI_j (by decide), fsI_j (by decide)]; exact fsI_s
  have u18 : (fsI (fsI (fsI s 78 14 (s.1 78 14 + 1)) 78 18 (nI nr)) 78 19 (-1)).1 78 18 = nI nr := by rw [fsI_j (by decide)]; exact fsI_s
  have u19 : (fsI (fsI (fsI s 78 14 (s.1 78 14 + 1)) 78 18 (nI nr)) 78 19 (-1)).1 78 19 = -1 := fsI_s
  have u2 : (fsI (fsI (fsI s 78 14 (s.1 78 14 + 1)) 78 18 (nI nr)) 78 19 (-1)).2 = s.2 := rfl
  generalize fsI (fsI (fsI s 78 14 (s.1 78 14 + 1)) 78 18 (nI nr)) 78 19 (-1) = u at uf u14 u18 u19 u2
  have H' : sv_y nr p A B h wt g p0 hu cn nd u := H.cg (fun i _ => uf _ _ (by omega)) (fun a i q => uf _ _ (by omega)) (fun i q => uf _ _ (by omega))
  obtain ⟨m1, m2⟩ := H'.mx (b := 100) (x_none H.1 (by decide)) u18 u19
  have main : ∀ lim, lim = (if 99 - hu < ny then 99 - hu else ny) → fMv E (d + 3) mX7_layWays [.ref 78, .int (nI p), .int (nI lim)] u (fun σ16 => h_X7_most_95 E (d + 3) (nI p) 0 0 σ16 P) := by
    intro lim el
    have l99 : lim ≤ 99 := by rw [el]; split <;> omega
    refine c_layWays m1 l99 (fun t D tI tc => ?_)
    obtain ⟨t2, tf, tr, tS, t0⟩ := tI
    refine m_most95 (m1.cg tf) (m2.cg tf) l99 tr tS t0 tc (fun M hM => ?_)
    exact k t M ny (t2.trans u2) (fun a i q1 q2 => by rw [tf a i q1, uf a i q2]) (by rw [tf _ _ (by omega)]; exact u14) rfl hny (mo_lim el hM)
  refine ⟨fun q => main _ ?_, fun q => main _ ?_⟩
  · split <;> omega
  · rw [if_neg (by omega)]
theorem op_most {x y : Int32} (hc : c < 900) (h : inv c σ) : fMi E (d + 6) mX6_most [.ref 1, .int x, .int y] σ (fun a σ1 => fMi E (d + 6) mX7_most [.ref 78, .int x, .int y] σ1 (fun b σ2 => a = b ∧ inv (c + 1) σ2)) := by
  have h0 := h.up (Nat.le_succ c)
  obtain ⟨iP, ⟨n, hn, f1, f2, f69⟩, iN, nr, np, nl, iW, iK, iR⟩ := id h
  have np4 : np ≤ 4 := iW.1.2.1
  have a5 : σ.1 4 2 = nI np := iW.1.2.2.2.2.1
  have b5 : σ.1 78 11 = nI np := iW.2.2.2.1
  refine v_X6_most ?_
  unfold t_X6_most
  refine c_cIsPilgrim ?_
  rw [a5]
  simp only [bi0, Classical.not_not]
  refine ⟨fun hx => ?_, fun hx => m_most np4 b5 (fun _ => ⟨rfl, h0⟩) (fun q => absurd q hx) (fun p hp e => absurd (by rw [e]; exact nI_rng (by omega) hp) hx) (fun p hp e => absurd (by rw [e]; exact nI_rng (by omega) hp) hx)⟩
  obtain ⟨p, hp, e⟩ := rng_nI (by omega) hx
  subst e
  have inj : ∀ p', p' < np → nI p = nI p' → p' = p := fun p' hp' e => ((nI_eq (by omega) (by omega)).mp e).symm
  have out : ¬ (0 ≤ y ∧ y ≤ 60) → fMi E (d + 6) mX7_most [.ref 78, .int (nI p), .int y] σ (fun b σ2 => -102 = b ∧ inv (c + 1) σ2) := fun q => m_most np4 b5 (fun q2 => absurd hx q2) (fun _ _ => ⟨rfl, h0⟩) (fun _ _ _ q2 => absurd q2 q) (fun _ _ _ q2 => absurd q2 q)
  refine ⟨fun q => out (fun z => absurd z.1 (lt_nle.mp q)), fun q => ⟨fun q2 => ?_, fun q2 => out (fun z => q2 z.2)⟩⟩
  have hy : 0 ≤ y ∧ y ≤ 60 := ⟨Classical.not_not.mp (fun z => q (lt_nle.mpr z)), q2⟩
  have sif := see_iff iW hp hn f1 f2
  refine c_mayForesee (by omega) ?_
  rw [bi_iff sif]
  simp only [bi0, Classical.not_not]
  refine ⟨fun nd' => ?_, fun dn => m_most np4 b5 (fun q2 => absurd hx q2) (fun _ q2 => absurd hy q2) (fun _ _ _ _ _ => ⟨rfl, h0⟩) (fun p' hp' e _ q2 => ?_)⟩
  · rintro _ rfl
    obtain ⟨A, B, hh, wt, g, p0, hu, cn, nd, Hx, Hy, -⟩ := sv_of hc iN iW hp
    rw [nI_clamp (by omega)]
    refine ⟨vp_in_nI (by omega) (by decide), ?_⟩
    have n24 : n < 24 := by
      rcases Nat.lt_or_ge n 24 with z | z
      · exact z
      · exact absurd (Or.inr (by rw [f2, show n = 24 by omega]; rfl)) nd'
    obtain ⟨ny, hny, ey⟩ := nI_of2 (n := 60) (show (60 : Int32).toInt = 60 from rfl) q hy.2
    subst ey
    refine c_mostCounted hny (Hx.cg (fun a i _ _ => fsI_n (by omega))) (by rw [fsI_k (by decide)]; exact f69) (fun t M t2 tf t69 tl => ?_)
    have tf' : ∀ a i, (a < 64 ∨ 70 < a) → ¬ (a = 1 ∧ i = 8) → t.1 a i = σ.1 a i := fun a i q1 q2 => by rw [tf a i q1, fsI_n q2]
    refine m_most np4 (by rw [tf' _ _ (by omega) (by omega)]; exact b5) (fun q2 => absurd hx q2) (fun _ q2 => absurd hy q2) (fun p' hp' e _ q2 => ?_) (fun p' hp' e _ q2 => ?_)
    · obtain rfl := inj p' hp' e
      rw [tf' _ _ (by omega) (by omega), tf' _ _ (by omega) (by omega)] at q2
      exact absurd q2 nd'
    · obtain rfl := inj p' hp' e
      refine ⟨nr, A, B, hh, wt, g, p0, hu, cn, nd, Hy.cg (fun i _ => tf' _ _ (by omega) (by omega)) (fun a i _ => tf' _ _ (by omega) (by omega)) (fun i _ => tf' _ _ (by omega) (by omega)), fun u M' ny' u2 uf u14 e' _ ul => ?_⟩
      have en : ny = ny' := (nI_eq (by omega) (by omega)).mp e'
      subst en
      refine ⟨by rw [mo_one tl ul], inv_see (n := n + 1) h (by rw [u2, t2]; rfl) (fun a i z1 z2 z3 z4 z5 => by rw [uf a i (by omega) z4, tf' a i z1 z3]) (by rw [uf _ _ (by omega) (by omega)]; exact t69) (by omega) (by rw [uf _ _ (by omega) (by omega), tf _ _ (by omega), fsI_s, f1, nI_1]) (by rw [u14, tf' _ _ (by omega) (by omega), f2, nI_1])⟩
  · obtain rfl := inj p' hp' e
    exact absurd dn q2
end OM
