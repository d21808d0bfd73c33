/-! way, bars -/
/-- what way answers of a cost -/
def wans (y : Int32) (v : Nat) : Int32 := if v = 1000000000 then -1 else if y = 0 then nI (v / 2048) else if y = 1 then nI (v / 16 % 128) else if v = 0 then -1 else nI (v % 16)
theorem rf_wans {t : FH} {z c : Nat} {y : Int32} (H : rf_c t z c) (hc : c ≠ 1000000000) : (y = 0 → t.1 84 z = wans y c) ∧ (¬ y = 0 → y = 1 → t.1 85 z = wans y c) ∧ (¬ y = 0 → ¬ y = 1 → t.1 86 z = wans y c) := by
  unfold wans
  rw [if_neg hc]
  rcases H with a | a | a
  · exact absurd a.1 hc
  · refine ⟨fun q => ?_, fun q q2 => ?_, fun q q2 => ?_⟩
    · rw [if_pos q, a.2.1, a.1]; rfl
    · rw [if_neg q, if_pos q2, a.2.2.1, a.1]; rfl
    · rw [if_neg q, if_neg q2, if_pos a.1, a.2.2.2]
  · refine ⟨fun q => ?_, fun q q2 => ?_, fun q q2 => ?_⟩
    · rw [if_pos q, a.2.2.1]
    · rw [if_neg q, if_pos q2, a.2.2.2.1]
    · rw [if_neg q, if_neg q2, if_neg (by omega), a.2.2.2.2]
theorem nI_n1 {n : Nat} (hn : n < 2 ^ 31) : ¬ nI n = -1 := fun q => by
  have := nI_pos hn
  rw [q] at this
  exact absurd (by decide) this
theorem bv_b {σ : FH} {v : Int32} {c : Nat} (H : bv σ v c) : (c = 1000000000 ∨ c < 2 ^ 20) ∧ (v = -1 ↔ c = 1000000000) := by
  rcases H with ⟨a, b⟩ | ⟨z, a, b, e, f⟩
  · exact ⟨Or.inl b, fun _ => b, fun _ => a⟩
  · refine ⟨e.b, fun q => ?_, fun q => absurd q f⟩
    rw [b] at q
    exact absurd q (nI_n1 (by omega))
section OW
variable {E : am_E} {d c : Nat} {σ : FH} {P Q : Int32 → FH → Prop}
theorem c_walksOf {v : Nat} (hv : v < 2 ^ 31) (k : Q (nI (v / 16 % 128)) σ) : fMi E (d + 1) mX4_walksOf [.int (nI v)] σ Q := by
  refine v_X4_walksOf ?_
  unfold t_X4_walksOf
  rw [show nI v >>> ((4 : Int32) &&& 31) = nI (v / 2 ^ 4) from pk_shrN hv _ 4 (by decide), pk_andN (by omega) 7 (by decide)]
  exact k
theorem c_firstOf {v : Nat} (hv : v < 2 ^ 31) (k : Q (if v = 0 then -1 else nI (v % 16)) σ) : fMi E (d + 1) mX4_firstOf [.int (nI v)] σ Q := by
  refine v_X4_firstOf ?_
  unfold t_X4_firstOf
  rw [show (nI v = 0) ↔ v = 0 from nI_eq (b := 0) hv (by decide), pk_andN (by omega) 4 (by decide)]
  refine ⟨fun q => ?_, fun q => ?_⟩
  · rw [if_neg q] at k; exact k
  · rw [if_pos q] at k; exact k
/-- the reference's way -/
theorem m_way {x y : Int32} {s : FH} {np : Nat} (hnp : np ≤ 4) (s11 : s.1 78 11 = nI np) (k1 : ¬ (0 ≤ x ∧ x < nI np) → P (-101) s) (k2 : (0 ≤ x ∧ x < nI np) → ¬ (0 ≤ y ∧ y ≤ 2) → P (-102) s) (k3 : ∀ p, p < np → x = nI p → (0 ≤ y ∧ y ≤ 2) → (s.1 82 (5 * p + 3) = 1 ∨ s.1 78 14 = 24) → P (-103) s)
    (k4 : ∀ p, p < np → x = nI p → (0 ≤ y ∧ y ≤ 2) → ¬ (s.1 82 (5 * p + 3) = 1 ∨ s.1 78 14 = 24) → ∃ nr A B h wt g p0 hu cn nd, sv_y nr p A B h wt g p0 hu cn nd s ∧ ∀ t c, t.2 = s.2 → (∀ a i, (a < 84 ∨ 86 < a) → ¬ (a = 78 ∧ (i = 14 ∨ i = 18 ∨ i = 19)) → t.1 a i = s.1 a i) → t.1 78 14 = s.1 78 14 + 1 → lc (tm 100 nr) (fun j => A (tk 100 j)) (fun j => B (tk 100 j)) (fun j => h (tk 100 j)) (fun j => g (tk 100 j)) (tk 100) p0 cn nd (99 - hu) c → P (wans y c) t) : fMi E (d + 5) mX7_way [.ref 78, .int x, .int y] s P := by
  refine v_X7_way ?_
  unfold t_X7_way
  refine c_mIsPilgrim ?_
  rw [s11, bi_iff (bi_rng (by omega))]
  simp only [bi0, Classical.not_not]
  refine ⟨fun hx => ?_, k1⟩
  obtain ⟨p, hp, e⟩ := rng_nI (by omega) hx
  subst e
  refine c_in32 0 2 rfl rfl ?_
  simp only [bi0, Classical.not_not]
  refine ⟨fun hy => c_isDone (by omega) ?_, fun hy => k2 hx hy⟩
  simp only [bi0, Classical.not_not]
  refine ⟨fun q => ?_, fun q => k3 p hp rfl hy q⟩
  obtain ⟨nr, A, B, h, wt, g, p0, hu, cn, nd, H, k⟩ := k4 p hp rfl hy q
  rintro _ rfl
  have H' : sv_y nr p A B h wt g p0 hu cn nd (fsI s 78 14 (s.1 78 14 + 1)) := H.cg (fun i _ => fsI_n (by omega)) (fun a i q => fsI_n (by omega)) (fun i q => fsI_n (by omega))
  refine c_wayBy (b := 100) H' (x_none H.1 (by decide)) (fun t v c t2 tf tb tl => ?_)
  have fin : P (wans y c) t := k t c t2 (fun a i q1 q2 => by rw [tf a i q1 (by omega), fsI_n (by omega)]) (by rw [tf _ _ (by omega) (by omega)]; exact fsI_s) tl
  rcases tb with ⟨b1, b2⟩ | ⟨z, b1, b2, b3, b4⟩
  · refine ⟨fun q => absurd b1 q, fun _ => ?_⟩
    unfold wans at fin
    rw [if_pos b2] at fin
    exact fin
  · have nz : ¬ v = -1 := by rw [b2]; exact nI_n1 (by omega)
    have iz : vp_in v 3072 := by rw [b2]; exact vp_in_nI b1 (by decide)
    have cz : v.toNatClampNeg = z := by rw [b2]; exact nI_clamp (by omega)
    obtain ⟨f1, f2, f3⟩ := rf_wans (y := y) b3 b4
    rw [cz]
    exact ⟨fun _ => ⟨fun q1 => ⟨fun q2 => ⟨iz, by rw [f3 q1 q2]; exact fin⟩, fun q2 => ⟨iz, by rw [f2 q1 q2]; exact fin⟩⟩, fun q1 => ⟨iz, by rw [f1 q1]; exact fin⟩⟩, fun q => absurd q nz⟩
theorem y_rng {y : Int32} {n : Nat} {N : Int32} (hN : N = nI n) (hn : n < 2 ^ 31) : (0 ≤ y ∧ y ≤ N) ↔ (¬ y < 0 ∧ y ≤ N) := by
  rw [lt_nle, Classical.not_not]
theorem op_way {x y : Int32} (hc : c < 900) (h : inv c σ) : fMi E (d + 6) mX6_way [.ref 1, .int x, .int y] σ (fun a σ1 => fMi E (d + 6) mX7_way [.ref 78, .int x, .int y] σ1 (fun b σ2 => a = b ∧ inv (c + 1) σ2)) := by
  have h0 := h.up (Nat.le_succ c)
  obtain ⟨iP, ⟨n, hn, f1, f2, f69⟩, iN, nr, np, nl, iW, iK, iR⟩ := id h
  have np4 : np ≤ 4 := iW.1.2.1
  have a5 : σ.1 4 2 = nI np := iW.1.2.2.2.2.1
  have b5 : σ.1 78 11 = nI np := iW.2.2.2.1
  refine v_X6_way ?_
  unfold t_X6_way
  refine c_cIsPilgrim ?_
  rw [a5]
  simp only [bi0, Classical.not_not]
  refine ⟨fun hx => ?_, fun hx => m_way np4 b5 (fun _ => ⟨rfl, h0⟩) (fun q => absurd q hx) (fun p hp e => absurd (by rw [e]; exact nI_rng (by omega) hp) hx) (fun p hp e => absurd (by rw [e]; exact nI_rng (by omega) hp) hx)⟩
  obtain ⟨p, hp, e⟩ := rng_nI (by omega) hx
  subst e
  have inj : ∀ p', p' < np → nI p = nI p' → p' = p := fun p' hp' e => ((nI_eq (by omega) (by omega)).mp e).symm
  have out : ¬ (0 ≤ y ∧ y ≤ 2) → fMi E (d + 6) mX7_way [.ref 78, .int (nI p), .int y] σ (fun b σ2 => -102 = b ∧ inv (c + 1) σ2) := fun q => m_way np4 b5 (fun q2 => absurd hx q2) (fun _ _ => ⟨rfl, h0⟩) (fun _ _ _ q2 => absurd q2 q) (fun _ _ _ q2 => absurd q2 q)
  refine ⟨fun q => out (fun z => absurd z.1 (lt_nle.mp q)), fun q => ⟨fun q2 => ?_, fun q2 => out (fun z => q2 z.2)⟩⟩
  have hy : 0 ≤ y ∧ y ≤ 2 := ⟨Classical.not_not.mp (fun z => q (lt_nle.mpr z)), q2⟩
  have sif := see_iff iW hp hn f1 f2
  refine c_mayForesee (by omega) ?_
  rw [bi_iff sif]
  simp only [bi0, Classical.not_not]
  refine ⟨fun nd' => ?_, fun dn => m_way np4 b5 (fun q2 => absurd hx q2) (fun _ q2 => absurd hy q2) (fun _ _ _ _ _ => ⟨rfl, h0⟩) (fun p' hp' e _ q2 => ?_)⟩
  · rintro _ rfl
    obtain ⟨A, B, hh, wt, g, p0, hu, cn, nd, Hx, Hy, -⟩ := sv_of hc iN iW hp
    rw [nI_clamp (by omega)]
    refine ⟨vp_in_nI (by omega) (by decide), ?_⟩
    have n24 : n < 24 := by
      rcases Nat.lt_or_ge n 24 with z | z
      · exact z
      · exact absurd (Or.inr (by rw [f2, show n = 24 by omega]; rfl)) nd'
    refine c_leastWay (b := 100) (Hx.cg (fun a i _ _ => fsI_n (by omega))) (by rw [fsI_k (by decide)]; exact f69) (x_none Hx.1 (by decide)) (fun t v t2 tf t8 tR vb tl => ?_)
    have tf' : ∀ a i, (a < 64 ∨ 70 < a) → ¬ (a = 1 ∧ i = 8) → t.1 a i = σ.1 a i := fun a i q1 q2 => by rw [tf a i q1, fsI_n q2]
    have fin : ∀ a, a = wans y v → fMi E (d + 6) mX7_way [.ref 78, .int (nI p), .int y] t (fun b σ2 => a = b ∧ inv (c + 1) σ2) := by
      rintro _ rfl
      refine m_way np4 (by rw [tf' _ _ (by omega) (by omega)]; exact b5) (fun q2 => absurd hx q2) (fun _ q2 => absurd hy q2) (fun p' hp' e _ q2 => ?_) (fun p' hp' e _ q2 => ?_)
      · obtain rfl := inj p' hp' e
        rw [tf' _ _ (by omega) (by omega), tf' _ _ (by omega) (by omega)] at q2
        exact absurd q2 nd'
      · obtain rfl := inj p' hp' e
        refine ⟨nr, A, B, hh, wt, g, p0, hu, cn, nd, Hy.cg (fun i _ => tf' _ _ (by omega) (by omega)) (fun a i _ => tf' _ _ (by omega) (by omega)) (fun i _ => tf' _ _ (by omega) (by omega)), fun u v' u2 uf u14 ul => ?_⟩
        have ev := lc_one (fun r hr => by unfold tk; rw [if_pos (by have := tm_le (b := 100) (nr := nr); have := Hx.1; omega)]) tl ul
        refine ⟨by rw [ev], inv_see (n := n + 1) h (by rw [u2, t2]; rfl) (fun a i z1 z2 z3 z4 z5 => by rw [uf a i (by omega) z4, tf' a i z1 z3]) (by rw [uf _ _ (by omega) (by omega)]; exact tR.z) (by omega) (by rw [uf _ _ (by omega) (by omega), tf _ _ (by omega), fsI_s, f1, nI_1]) (by rw [u14, tf' _ _ (by omega) (by omega), f2, nI_1])⟩
    rw [nI_far vb]
    refine ⟨fun q => ⟨fun y0 => c_harmOf (by omega) (fin _ ?_), fun y1 => c_walksOf (by omega) (fin _ ?_), fun y0 y1 => c_firstOf (by omega) (fin _ ?_)⟩, fun q => fin _ ?_⟩
    · unfold wans; rw [if_neg q, if_pos y0]
    · unfold wans; rw [if_neg q, if_neg (by rw [y1]; decide), if_pos y1]
    · unfold wans; rw [if_neg q, if_neg y0, if_neg y1]
    · unfold wans; rw [if_pos q]
  · obtain rfl := inj p' hp' e
    exact absurd dn q2
/-- the reference's bars -/
theorem m_bars {x : Int32} {s : FH} {np : Nat} (hnp : np ≤ 4) (s11 : s.1 78 11 = nI np) (k1 : ¬ (0 ≤ x ∧ x < nI np) → P (-101) s) (k3 : ∀ p, p < np → x = nI p → (s.1 82 (5 * p + 3) = 1 ∨ s.1 78 14 = 24) → P (-103) s)
    (k4 : ∀ p, p < np → x = nI p → ¬ (s.1 82 (5 * p + 3) = 1 ∨ s.1 78 14 = 24) → ∃ nr A B h wt g p0 hu cn nd, sv_y nr p A B h wt g p0 hu cn nd s ∧ (∀ b, sg_R (tm b nr) (fun j => A (tk b j)) (fun j => B (tk b j)) (fun j => h (tk b j)) (fun j => g (tk b j))) ∧ ∀ t v, t.2 = s.2 → (∀ a i, (a < 84 ∨ 86 < a) → ¬ (a = 78 ∧ (i = 14 ∨ i = 18 ∨ i = 19)) → t.1 a i = s.1 a i) → t.1 78 14 = s.1 78 14 + 1 → brs nr A B h g p0 cn nd (99 - hu) v → P v t) : fMi E (d + 5) mX7_bars [.ref 78, .int x] s P := by
  refine v_X7_bars ?_
  unfold t_X7_bars
  refine c_mIsPilgrim ?_
  rw [s11, bi_iff (bi_rng (by omega))]
  simp only [bi0, Classical.not_not]
  refine ⟨fun hx => ?_, k1⟩
  obtain ⟨p, hp, e⟩ := rng_nI (by omega) hx
  subst e
  refine c_isDone (by omega) ?_
  simp only [bi0, Classical.not_not]
  refine ⟨fun q => ?_, fun q => k3 p hp rfl q⟩
  obtain ⟨nr, A, B, h, wt, g, p0, hu, cn, nd, H, hsg, k⟩ := k4 p hp rfl q
  have h1 := H.1
  have h3 := H.2.2.1
  have bd : ∀ b w, wy (tm b nr) (fun j => A (tk b j)) (fun j => B (tk b j)) (fun j => h (tk b j)) (fun j => g (tk b j)) p0 cn nd (99 - hu) w → xn (fun j => h (tk b j)) (tk b) w < 2 ^ 20 := fun b => wy_b (hsg b) (fun r q => by have := tk_lt q; omega) (by omega)
  rintro _ rfl
  have H' : sv_y nr p A B h wt g p0 hu cn nd (fsI s 78 14 (s.1 78 14 + 1)) := H.cg (fun i _ => fsI_n (by omega)) (fun a i q => fsI_n (by omega)) (fun i q => fsI_n (by omega))
  refine c_wayBy (b := 100) H' (x_none H.1 (by decide)) (fun t v c t2 tf tb tl => ?_)
  obtain ⟨vb, vn⟩ := bv_b tb
  have z0 := lc_zw tl vb (bd 100)
  rw [vn]
  have tf' : ∀ a i, (a < 84 ∨ 86 < a) → ¬ (a = 78 ∧ (i = 14 ∨ i = 18 ∨ i = 19)) → t.1 a i = s.1 a i := fun a i q1 q2 => by rw [tf a i q1 (by omega), fsI_n (by omega)]
  have t14 : t.1 78 14 = s.1 78 14 + 1 := by rw [tf _ _ (by omega) (by omega)]; exact fsI_s
  refine ⟨fun q => ?_, fun q => k t (-1) t2 tf' t14 (Or.inl ⟨z0.mp q, rfl⟩)⟩
  have Z : zw nr A B h g p0 cn nd (99 - hu) 100 := Classical.not_not.mp (fun z => q (z0.mpr z))
  have key : ∀ l i u, i + l = nr → u.2 = s.2 → (∀ a i, (a < 84 ∨ 86 < a) → ¬ (a = 78 ∧ (i = 14 ∨ i = 18 ∨ i = 19)) → u.1 a i = s.1 a i) → u.1 78 14 = s.1 78 14 + 1 → (∀ j, j < i → zw nr A B h g p0 cn nd (99 - hu) j) → h_X7_bars_46 E (d + 4) (nI p) (nI i) u P := by
    intro l
    induction l with
    | zero =>
      intro i u hi u2 uf u14 uz
      refine v_X7_bars_46 ?_
      unfold t_X7_bars_46
      rw [show i = nr by omega] at *
      rw [uf 78 6 (by omega) (by omega), h3]
      exact ⟨fun _ => k u (-1) u2 uf u14 (Or.inr ⟨Z, Or.inr ⟨uz, rfl⟩⟩), fun q => absurd (nI_le (Nat.le_refl nr) (by omega)) q⟩
    | succ l ih =>
      intro i u hi u2 uf u14 uz
      refine v_X7_bars_46 ?_
      unfold t_X7_bars_46
      rw [uf 78 6 (by omega) (by omega), h3, nI_1 i]
      refine ⟨fun q => absurd q (nI_ge (by omega) (by omega)), fun _ => ?_⟩
      refine c_wayBy (b := i) (H.cg (fun i _ => uf _ _ (by omega) (by omega)) (fun a i q => uf _ _ (by omega) (by omega)) (fun i q => uf _ _ (by omega) (by omega))) (fun j hj => nI_eq (by omega) (by omega)) (fun w v c w2 wf wb wl => ?_)
      obtain ⟨vb, vn⟩ := bv_b wb
      have z1 := lc_zw wl vb (bd i)
      rw [vn]
      have wf' : ∀ a i, (a < 84 ∨ 86 < a) → ¬ (a = 78 ∧ (i = 14 ∨ i = 18 ∨ i = 19)) → w.1 a i = s.1 a i := fun a i q1 q2 => by rw [wf a i q1 (by omega), uf a i q1 q2]
      have w14 : w.1 78 14 = s.1 78 14 + 1 := by rw [wf _ _ (by omega) (by omega)]; exact u14
      refine ⟨fun q => ih (i + 1) w (by omega) (w2.trans u2) wf' w14 (fun j hj => ?_), fun q => k w (nI i) (w2.trans u2) wf' w14 (Or.inr ⟨Z, Or.inl ⟨i, by omega, z1.mp q, uz, rfl⟩⟩)⟩
      by_cases e : j = i
      · subst e; exact Classical.not_not.mp (fun z => q (z1.mpr z))
      · exact uz j (by omega)
  exact key nr 0 t (by omega) t2 tf' t14 (fun j q => absurd q (by omega))
theorem op_bars {x : Int32} (hc : c < 900) (h : inv c σ) : fMi E (d + 7) mX6_bars [.ref 1, .int x] σ (fun a σ1 => fMi E (d + 7) mX7_bars [.ref 78, .int x] σ1 (fun b σ2 => a = b ∧ inv (c + 1) σ2)) := by
  have h0 := h.up (Nat.le_succ c)
  obtain ⟨iP, ⟨n, hn, f1, f2, f69⟩, iN, nr, np, nl, iW, iK, iR⟩ := id h
  have np4 : np ≤ 4 := iW.1.2.1
  have a5 : σ.1 4 2 = nI np := iW.1.2.2.2.2.1
  have b5 : σ.1 78 11 = nI np := iW.2.2.2.1
  refine v_X6_bars ?_
  unfold t_X6_bars
  refine c_cIsPilgrim ?_
  rw [a5]
  simp only [bi0, Classical.not_not]
  refine ⟨fun hx => ?_, fun hx => m_bars np4 b5 (fun _ => ⟨rfl, h0⟩) (fun p hp e => absurd (by rw [e]; exact nI_rng (by omega) hp) hx) (fun p hp e => absurd (by rw [e]; exact nI_rng (by omega) hp) hx)⟩
  obtain ⟨p, hp, e⟩ := rng_nI (by omega) hx
  subst e
  have inj : ∀ p', p' < np → nI p = nI p' → p' = p := fun p' hp' e => ((nI_eq (by omega) (by omega)).mp e).symm
  have sif := see_iff iW hp hn f1 f2
  refine c_mayForesee (by omega) ?_
  rw [bi_iff sif]
  simp only [bi0, Classical.not_not]
  refine ⟨fun nd' => ?_, fun dn => m_bars np4 b5 (fun q2 => absurd hx q2) (fun _ _ _ _ => ⟨rfl, h0⟩) (fun p' hp' e q2 => ?_)⟩
  · rintro _ rfl
    obtain ⟨A, B, hh, wt, g, p0, hu, cn, nd, Hx, Hy, -⟩ := sv_of hc iN iW hp
    rw [nI_clamp (by omega)]
    refine ⟨vp_in_nI (by omega) (by decide), ?_⟩
    have n24 : n < 24 := by
      rcases Nat.lt_or_ge n 24 with z | z
      · exact z
      · exact absurd (Or.inr (by rw [f2, show n = 24 by omega]; rfl)) nd'
    refine c_leastBar (Hx.cg (fun a i _ _ => fsI_n (by omega))) (by rw [fsI_k (by decide)]; exact f69) (fun t v t2 tf t69 tl => ?_)
    have tf' : ∀ a i, (a < 64 ∨ 70 < a) → ¬ (a = 1 ∧ i = 8) → t.1 a i = σ.1 a i := fun a i q1 q2 => by rw [tf a i q1, fsI_n q2]
    refine m_bars np4 (by rw [tf' _ _ (by omega) (by omega)]; exact b5) (fun q2 => absurd hx q2) (fun p' hp' e q2 => ?_) (fun p' hp' e q2 => ?_)
    · obtain rfl := inj p' hp' e
      rw [tf' _ _ (by omega) (by omega), tf' _ _ (by omega) (by omega)] at q2
      exact absurd q2 nd'
    · obtain rfl := inj p' hp' e
      refine ⟨nr, A, B, hh, wt, g, p0, hu, cn, nd, Hy.cg (fun i _ => tf' _ _ (by omega) (by omega)) (fun a i _ => tf' _ _ (by omega) (by omega)) (fun i _ => tf' _ _ (by omega) (by omega)), fun b => Hx.sg b, fun u v' u2 uf u14 ul => ?_⟩
      refine ⟨brs_one tl ul, inv_see (n := n + 1) h (by rw [u2, t2]; rfl) (fun a i z1 z2 z3 z4 z5 => by rw [uf a i (by omega) z4, tf' a i z1 z3]) (by rw [uf _ _ (by omega) (by omega)]; exact t69) (by omega) (by rw [uf _ _ (by omega) (by omega), tf _ _ (by omega), fsI_s, f1, nI_1]) (by rw [u14, tf' _ _ (by omega) (by omega), f2, nI_1])⟩
  · obtain rfl := inj p' hp' e
    exact absurd dn q2
end OW
