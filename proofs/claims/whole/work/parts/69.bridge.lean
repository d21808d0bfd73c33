/-! bridge -/
section OB
variable {E : am_E} {d c : Nat} {σ : FH} {P Q : Int32 → FH → Prop} {A B h wt g : Nat → Nat} {nr p p0 hu cn nd : Nat}
/-- the reference's roads with a bridge -/
theorem sv_y.bx {l r : Nat} (H : sv_y nr p A B h wt g p0 hu cn nd σ) (hl : l < 6) (hr6 : r < 6) (h1 : h nr = 1) (g2 : g nr = 2) (e41 : σ.1 81 41 = nI l) (e42 : σ.1 81 42 = nI r) (e43 : σ.1 81 43 = nI 1) (h18 : σ.1 78 18 = nI (nr + 1)) (h19 : σ.1 78 19 = -1) : sm_x nr p (nr + 1) (bA nr l (fun j => A (tk 100 j))) (bA nr r (fun j => B (tk 100 j))) (fun j => h (tk 100 j)) (pi_ nr) (fun j => decide (pi_ nr j = 8 ∨ ¬ σ.1 81 (5 * pi_ nr j + 3) ≤ σ.1 83 (8 * p + pi_ nr j))) p0 (nr + 1) (-1) σ ∧ sm_w (nr + 1) p (pi_ nr) (fun j => g (tk 100 j)) wt (fun j => decide (pi_ nr j = 8 ∨ ¬ σ.1 81 (5 * pi_ nr j + 3) ≤ σ.1 83 (8 * p + pi_ nr j))) cn nd σ := by
  obtain ⟨a1, a2, a3, a4, a5, a6, a7, a8, a9, a10, a11, a12⟩ := H
  have tke : ∀ j, j ≤ 8 → tk 100 j = j := fun j q => by unfold tk; rw [if_pos (by omega)]
  have pn : pi_ nr nr = 8 := by unfold pi_; rw [if_pos rfl]
  have pe : ∀ j, j ≠ nr → pi_ nr j = j := fun j q => by unfold pi_; rw [if_neg q]
  refine ⟨⟨a1, a2, by omega, by omega, a3, h18, h19, fun j hj => ?_, fun i hi _ => ⟨i, hi, rfl⟩, fun j hj => ⟨?_, j, hj, rfl⟩, fun j j' hj hj' e => ?_, a5, a6⟩, ⟨a9, a10, a11, a12, fun j hj q => ?_, fun j hj => ?_, fun j hj => ?_⟩⟩
  · unfold bA
    dsimp only
    rw [tke j (by omega)]
    by_cases e : j = nr
    · subst e
      rw [if_pos rfl, if_pos rfl, pn, h1]
      exact ⟨by omega, hl, hr6, by omega, by omega, e41, e42, e43, decide_eq_true_iff⟩
    · rw [if_neg e, if_neg e, pe j e]
      obtain ⟨e1, e2, e3, e4, e5, e6, e7, e8⟩ := a4 j (by omega)
      exact ⟨by omega, e1, e2, e3, e4, e5, e6, e7, decide_eq_true_iff⟩
  · exact nI_n1 (by unfold pi_; split <;> omega)
  · unfold pi_ at e
    split at e <;> split at e <;> omega
  · have ne : j ≠ nr := fun e => by rw [e, pn] at q; omega
    rw [pe j ne] at q ⊢
    obtain ⟨e1, e2, e3, e4, e5, e6, e7, e8, e9, e10, e11⟩ := a4 j (by omega)
    exact ⟨e8, e9, e10⟩
  · dsimp only
    rw [tke j (by omega)]
    by_cases e : j = nr
    · subst e
      simp [pn, g2]
    · simp only [pe j e]
      obtain ⟨e1, e2, e3, e4, e5, e6, e7, e8, e9, e10, e11, e12⟩ := a4 j (by omega)
      rw [e12]
      have n8 : ¬ j = 8 := by omega
      simp [n8]
  · dsimp only
    rw [tke j (by omega)]
    by_cases e : j = nr
    · subst e
      omega
    · obtain ⟨e1, e2, e3, e4, e5, e6, e7, e8, e9, e10, e11, e12⟩ := a4 j (by omega)
      rw [e12]
      split <;> omega
set_option maxHeartbeats 1000000 in
/-- the reference's loop over the pairs -/
theorem m_bloop {s : FH} {l0 : Nat} (H : sv_y nr p A B h wt g p0 hu cn nd s) (h1 : h nr = 1) (g2 : g nr = 2) (hsg : sg_R nr (fun j => A (tk 100 j)) (fun j => B (tk 100 j)) (fun j => h (tk 100 j)) (fun j => g (tk 100 j)))
    (k : ∀ t l b, t.2 = s.2 → (∀ a i, (a < 84 ∨ 86 < a) → ¬ (a = 78 ∧ (i = 18 ∨ i = 19)) → ¬ (a = 81 ∧ 40 ≤ i) → t.1 a i = s.1 a i) → bf nr (fun j => A (tk 100 j)) (fun j => B (tk 100 j)) (fun j => h (tk 100 j)) (fun j => g (tk 100 j)) p0 cn nd (99 - hu) l0 36 l b → Q b t) :
    ∀ m x t least best, x + m = 36 → least ≤ 1000 → t.2 = s.2 → (∀ a i, (a < 84 ∨ 86 < a) → ¬ (a = 78 ∧ (i = 18 ∨ i = 19)) → ¬ (a = 81 ∧ 40 ≤ i) → t.1 a i = s.1 a i) → bf nr (fun j => A (tk 100 j)) (fun j => B (tk 100 j)) (fun j => h (tk 100 j)) (fun j => g (tk 100 j)) p0 cn nd (99 - hu) l0 x least best → h_X7_bridge_63 E (d + 3) (nI p) (nI least) best (nI x) t Q := by
  have a1 := H.1
  have a2 := H.2.1
  have a3 := H.2.2.1
  obtain ⟨a7, a8⟩ : s.1 82 (5 * p + 1) = nI hu ∧ hu ≤ 99 := ⟨H.2.2.2.2.2.2.1, H.2.2.2.2.2.2.2.1⟩
  intro m
  induction m with
  | zero =>
    intro x t least best hx hl t2 tf tb
    refine v_X7_bridge_63 ?_
    unfold t_X7_bridge_63
    rw [show x = 36 by omega] at *
    exact ⟨fun _ => k t least best t2 tf tb, fun q => absurd (by decide) q⟩
  | succ m ih =>
    intro x t least best hx hl t2 tf tb
    refine v_X7_bridge_63 ?_
    unfold t_X7_bridge_63
    rw [show (6 : Int32) = nI 6 from rfl, pk_rem (by omega) (by decide) (by decide), pk_div (by omega) (by decide) (by decide), nI_leI (by omega) (by omega), nI_1 x]
    have no : ∀ u, u.2 = s.2 → (∀ a i, (a < 84 ∨ 86 < a) → ¬ (a = 78 ∧ (i = 18 ∨ i = 19)) → ¬ (a = 81 ∧ 40 ≤ i) → u.1 a i = s.1 a i) → (¬ x / 6 < x % 6 ∨ ∀ w, bw nr (fun j => A (tk 100 j)) (fun j => B (tk 100 j)) (fun j => h (tk 100 j)) (fun j => g (tk 100 j)) p0 cn nd (99 - hu) x w → least ≤ sw_h (fun j => h (tk 100 j)) w) → h_X7_bridge_63 E (d + 3) (nI p) (nI least) best (nI (x + 1)) u Q := by
      intro u u2 uf uq
      exact ih (x + 1) u least best (by omega) hl u2 uf ⟨least, best, tb, Or.inr ⟨uq, rfl, rfl⟩⟩
    refine ⟨fun q => absurd q (nI_ge (b := 36) (by omega) (by omega)), fun _ => ⟨fun q => no t t2 tf (Or.inl (by omega)), fun q => ⟨vp_in_nI (n := 40) (N := 45) (by omega) (by omega), ?_⟩⟩⟩
    rintro _ rfl
    refine ⟨vp_in_nI (n := 41) (N := 45) (by omega) (by omega), ?_⟩
    rintro _ rfl
    refine ⟨vp_in_nI (n := 42) (N := 45) (by omega) (by omega), ?_⟩
    rintro _ rfl
    refine ⟨vp_in_nI (n := 43) (N := 45) (by omega) (by omega), ?_⟩
    rintro _ rfl _ rfl _ rfl
    have e6 : (fsI (fsI (fsI (fsI t 81 40 0) 81 41 (nI (x / 6))) 81 42 (nI (x % 6))) 81 43 1).1 78 6 = nI nr := by
      rw [fsI_k (by decide), fsI_k (by decide), fsI_k (by decide), fsI_k (by decide), tf _ _ (by omega) (by omega) (by omega)]; exact a3
    rw [e6, nI_1 nr]
    have uf : ∀ a i, ¬ (a = 78 ∧ (i = 18 ∨ i = 19)) → ¬ (a = 81 ∧ 40 ≤ i) → (fsI (fsI (fsI (fsI (fsI (fsI t 81 40 0) 81 41 (nI (x / 6))) 81 42 (nI (x % 6))) 81 43 1) 78 18 (nI (nr + 1))) 78 19 (-1)).1 a i = t.1 a i := fun a i q1 q2 => by rw [fsI_n (by omega), fsI_n (by omega), fsI_n (by omega), fsI_n (by omega), fsI_n (by omega), fsI_n (by omega)]
    have u41 : (fsI (fsI (fsI (fsI (fsI (fsI t 81 40 0) 81 41 (nI (x / 6))) 81 42 (nI (x % 6))) 81 43 1) 78 18 (nI (nr + 1))) 78 19 (-1)).1 81 41 = nI (x / 6) := by simp [fsI_at]
    have u42 : (fsI (fsI (fsI (fsI (fsI (fsI t 81 40 0) 81 41 (nI (x / 6))) 81 42 (nI (x % 6))) 81 43 1) 78 18 (nI (nr + 1))) 78 19 (-1)).1 81 42 = nI (x % 6) := by simp [fsI_at]
    have u43 : (fsI (fsI (fsI (fsI (fsI (fsI t 81 40 0) 81 41 (nI (x / 6))) 81 42 (nI (x % 6))) 81 43 1) 78 18 (nI (nr + 1))) 78 19 (-1)).1 81 43 = nI 1 := by simp [fsI_at]; rfl
    have u18 : (fsI (fsI (fsI (fsI (fsI (fsI t 81 40 0) 81 41 (nI (x / 6))) 81 42 (nI (x % 6))) 81 43 1) 78 18 (nI (nr + 1))) 78 19 (-1)).1 78 18 = nI (nr + 1) := by simp [fsI_at]
    have u19 : (fsI (fsI (fsI (fsI (fsI (fsI t 81 40 0) 81 41 (nI (x / 6))) 81 42 (nI (x % 6))) 81 43 1) 78 18 (nI (nr + 1))) 78 19 (-1)).1 78 19 = -1 := by simp [fsI_at]
    have u2 : (fsI (fsI (fsI (fsI (fsI (fsI t 81 40 0) 81 41 (nI (x / 6))) 81 42 (nI (x % 6))) 81 43 1) 78 18 (nI (nr + 1))) 78 19 (-1)).2 = t.2 := rfl
    generalize fsI (fsI (fsI (fsI (fsI (fsI t 81 40 0) 81 41 (nI (x / 6))) 81 42 (nI (x % 6))) 81 43 1) 78 18 (nI (nr + 1))) 78 19 (-1) = u at uf u41 u42 u43 u18 u19 u2
    have uf' : ∀ a i, (a < 84 ∨ 86 < a) → ¬ (a = 78 ∧ (i = 18 ∨ i = 19)) → ¬ (a = 81 ∧ 40 ≤ i) → u.1 a i = s.1 a i := fun a i q1 q2 q3 => by rw [uf a i q2 q3, tf a i q1 q2 q3]
    have H' : sv_y nr p A B h wt g p0 hu cn nd u := H.cg (fun i _ => uf' _ _ (by omega) (by omega) (by omega)) (fun a i _ => uf' _ _ (by omega) (by omega) (by omega)) (fun i _ => uf' _ _ (by omega) (by omega) (by omega))
    obtain ⟨m1, m2⟩ := H'.bx (l := x / 6) (r := x % 6) (by omega) (by omega) h1 g2 u41 u42 u43 u18 u19
    rw [n5_1, nI_clamp (by omega), uf' _ _ (by omega) (by omega) (by omega), a7, show (99 : Int32) = nI 99 from rfl, pk_sub a8]
    refine ⟨vp_in_nI (by omega) (by decide), ?_⟩
    refine c_layBest (lim := 99 - hu) m1 m2 (by omega) (fun v r cc v2 vf vb vl => ?_)
    have vf' : ∀ a i, (a < 84 ∨ 86 < a) → ¬ (a = 78 ∧ (i = 18 ∨ i = 19)) → ¬ (a = 81 ∧ 40 ≤ i) → v.1 a i = s.1 a i := fun a i q1 q2 q3 => by rw [vf a i q1, uf' a i q1 q2 q3]
    have v2' : v.2 = s.2 := by rw [v2, u2, t2]
    have hh := m1.s.1
    have hρ := m1.s.2
    rcases vl with ⟨e, un⟩ | ⟨w, w1, w2, w3⟩
    · have r1 := (bv_b vb).2.mpr e
      refine ⟨fun _ => ?_, fun z => absurd r1 z⟩
      unfold t_X7_bridge_184 t_X7_bridge_185
      rw [nI_1 x]
      have := no v v2' vf' (Or.inr (fun w hw => absurd hw (un w)))
      exact ⟨fun _ => ⟨fun _ => this, fun z => absurd rfl z⟩, fun z => absurd rfl z⟩
    · have wp := xn_parts (ρ := pi_ nr) (fun r z => (hh r z).2.2) (fun r z => by have := hρ r z; omega) w1.1 (by have := w1.2.2.2; omega)
      have nf : cc ≠ 1000000000 := by omega
      rcases vb with ⟨b1, b2⟩ | ⟨z, b1, b2, b3, b4⟩
      · exact absurd b2 nf
      · have nz : ¬ r = -1 := by rw [b2]; exact nI_n1 (by omega)
        have iz : vp_in r 3072 := by rw [b2]; exact vp_in_nI b1 (by decide)
        have cz : r.toNatClampNeg = z := by rw [b2]; exact nI_clamp (by omega)
        have e84 : v.1 84 z = nI (sw_h (fun j => h (tk 100 j)) w) := (b3.hm (by omega)).mpr (by omega)
        have wl := w1.2.2.2
        have low : ∀ w', bw nr (fun j => A (tk 100 j)) (fun j => B (tk 100 j)) (fun j => h (tk 100 j)) (fun j => g (tk 100 j)) p0 cn nd (99 - hu) x w' → sw_h (fun j => h (tk 100 j)) w ≤ sw_h (fun j => h (tk 100 j)) w' := by
          intro w' hw'
          have le := w3 w' hw'
          have wp' := xn_parts (ρ := pi_ nr) (fun r z => (hh r z).2.2) (fun r z => by have := hρ r z; omega) hw'.1 (by have := hw'.2.2.2; omega)
          have := Nat.div_le_div_right (c := 2048) le
          omega
        rw [cz, e84, nI_leI (by omega) (by omega)]
        refine ⟨fun y => absurd y nz, fun _ => ⟨iz, fun q2 => ?_, fun q2 => ?_⟩⟩
        · unfold t_X7_bridge_184 t_X7_bridge_185
          rw [nI_1 x]
          have := no v v2' vf' (Or.inr (fun w' hw' => by have := low w' hw'; omega))
          exact ⟨fun _ => ⟨fun _ => this, fun z => absurd rfl z⟩, fun z => absurd rfl z⟩
        · unfold t_X7_bridge_185
          rw [nI_1 x, cz, e84]
          refine ⟨fun z => absurd z (by decide), fun _ => ⟨fun z => absurd z (by decide), fun _ => ⟨iz, ?_⟩⟩⟩
          exact ih (x + 1) v _ _ (by omega) (by omega) v2' vf' ⟨least, best, tb, Or.inl ⟨by omega, w, w1, by omega, low, rfl, rfl⟩⟩
/-- the reference's bridge -/
theorem m_bridge {x : Int32} {s : FH} {np : Nat} (hnp : np ≤ 4) (s11 : s.1 78 11 = nI np) (k1 : ¬ (0 ≤ x ∧ x < nI np) → P (-101) s) (k3 : ∀ p, p < np → x = nI p → (s.1 82 (5 * p + 3) = 1 ∨ s.1 78 14 = 24) → P (-103) s)
    (k4 : ∀ p, p < np → x = nI p → ¬ (s.1 82 (5 * p + 3) = 1 ∨ s.1 78 14 = 24) → ∃ nr A B h wt g p0 hu cn nd, sv_y nr p A B h wt g p0 hu cn nd s ∧ h nr = 1 ∧ g nr = 2 ∧ sg_R nr (fun j => A (tk 100 j)) (fun j => B (tk 100 j)) (fun j => h (tk 100 j)) (fun j => g (tk 100 j)) ∧ ∀ t l b v, t.2 = s.2 → (∀ a i, (a < 84 ∨ 86 < a) → ¬ (a = 78 ∧ (i = 14 ∨ i = 18 ∨ i = 19)) → ¬ (a = 81 ∧ 40 ≤ i) → t.1 a i = s.1 a i) → t.1 78 14 = s.1 78 14 + 1 → lc (tm 100 nr) (fun j => A (tk 100 j)) (fun j => B (tk 100 j)) (fun j => h (tk 100 j)) (fun j => g (tk 100 j)) (tk 100) p0 cn nd (99 - hu) v → bf nr (fun j => A (tk 100 j)) (fun j => B (tk 100 j)) (fun j => h (tk 100 j)) (fun j => g (tk 100 j)) p0 cn nd (99 - hu) (bl0 v) 36 l b → P b t) : fMi E (d + 5) mX7_bridge [.ref 78, .int x] s P := by
  refine v_X7_bridge ?_
  unfold t_X7_bridge
  refine c_mIsPilgrim ?_
  rw [s11, bi_iff (bi_rng (by omega))]
  simp only [bi0, Classical.not_not]
  refine ⟨fun hx => ?_, k1⟩
  obtain ⟨p, hp, e⟩ := rng_nI (by omega) hx
  subst e
  refine c_isDone (by omega) ?_
  simp only [bi0, Classical.not_not]
  refine ⟨fun q => ?_, fun q => k3 p hp rfl q⟩
  obtain ⟨nr, A, B, h, wt, g, p0, hu, cn, nd, H, h1, g2, hsg, k⟩ := k4 p hp rfl q
  rintro _ rfl
  have H' : sv_y nr p A B h wt g p0 hu cn nd (fsI s 78 14 (s.1 78 14 + 1)) := H.cg (fun i _ => fsI_n (by omega)) (fun a i q => fsI_n (by omega)) (fun i q => fsI_n (by omega))
  refine c_wayBy (b := 100) H' (x_none H.1 (by decide)) (fun t v c t2 tf tb tl => ?_)
  have tf' : ∀ a i, (a < 84 ∨ 86 < a) → ¬ (a = 78 ∧ (i = 14 ∨ i = 18 ∨ i = 19)) → t.1 a i = s.1 a i := fun a i q1 q2 => by rw [tf a i q1 (by omega), fsI_n (by omega)]
  have t14 : t.1 78 14 = s.1 78 14 + 1 := by rw [tf _ _ (by omega) (by omega)]; exact fsI_s
  have Ht : sv_y nr p A B h wt g p0 hu cn nd t := H.cg (fun i _ => tf' _ _ (by omega) (by omega)) (fun a i q => tf' _ _ (by omega) (by omega)) (fun i q => tf' _ _ (by omega) (by omega))
  have go : ∀ l, l = bl0 c → l ≤ 1000 → h_X7_bridge_63 E (d + 4) (nI p) (nI l) (-1) 0 t P := by
    intro l el hl
    refine m_bloop (l0 := bl0 c) Ht h1 g2 hsg (fun u l' b u2 uf ub => ?_) 36 0 t l (-1) (by omega) hl rfl (fun _ _ _ _ _ => rfl) ⟨el, rfl⟩
    exact k u l' b c (u2.trans t2) (fun a i q1 q2 q3 => by rw [uf a i q1 (by omega) q3, tf' a i q1 q2]) (by rw [uf _ _ (by omega) (by omega) (by omega)]; exact t14) tl ub
  rcases tb with ⟨b1, b2⟩ | ⟨z, b1, b2, b3, b4⟩
  · refine ⟨fun q => absurd b1 q, fun _ => ?_⟩
    exact go 1000 (by unfold bl0; rw [if_pos b2]) (Nat.le_refl _)
  · have nz : ¬ v = -1 := by rw [b2]; exact nI_n1 (by omega)
    have iz : vp_in v 3072 := by rw [b2]; exact vp_in_nI b1 (by decide)
    have cz : v.toNatClampNeg = z := by rw [b2]; exact nI_clamp (by omega)
    have c20 : c < 2 ^ 20 := b3.b.resolve_left b4
    have e84 : t.1 84 z = nI (c / 2048) := (b3.hm (by omega)).mpr rfl
    rw [cz, e84]
    exact ⟨fun _ => ⟨iz, go (c / 2048) (by unfold bl0; rw [if_neg b4]) (by omega)⟩, fun q => absurd q nz⟩
theorem op_bridge {x : Int32} (hc : c < 900) (h : inv c σ) : fMi E (d + 7) mX6_bridge [.ref 1, .int x] σ (fun a σ1 => fMi E (d + 7) mX7_bridge [.ref 78, .int x] σ1 (fun b σ2 => a = b ∧ inv (c + 1) σ2)) := by
  have h0 := h.up (Nat.le_succ c)
  obtain ⟨iP, ⟨n, hn, f1, f2, f69⟩, iN, nr, np, nl, iW, iK, iR⟩ := id h
  have np4 : np ≤ 4 := iW.1.2.1
  have a5 : σ.1 4 2 = nI np := iW.1.2.2.2.2.1
  have b5 : σ.1 78 11 = nI np := iW.2.2.2.1
  refine v_X6_bridge ?_
  unfold t_X6_bridge
  refine c_cIsPilgrim ?_
  rw [a5]
  simp only [bi0, Classical.not_not]
  refine ⟨fun hx => ?_, fun hx => m_bridge np4 b5 (fun _ => ⟨rfl, h0⟩) (fun p hp e => absurd (by rw [e]; exact nI_rng (by omega) hp) hx) (fun p hp e => absurd (by rw [e]; exact nI_rng (by omega) hp) hx)⟩
  obtain ⟨p, hp, e⟩ := rng_nI (by omega) hx
  subst e
  have inj : ∀ p', p' < np → nI p = nI p' → p' = p := fun p' hp' e => ((nI_eq (by omega) (by omega)).mp e).symm
  have sif := see_iff iW hp hn f1 f2
  refine c_mayForesee (by omega) ?_
  rw [bi_iff sif]
  simp only [bi0, Classical.not_not]
  refine ⟨fun nd' => ?_, fun dn => m_bridge np4 b5 (fun q2 => absurd hx q2) (fun _ _ _ _ => ⟨rfl, h0⟩) (fun p' hp' e q2 => ?_)⟩
  · rintro _ rfl
    obtain ⟨A, B, hh, wt, g, p0, hu, cn, nd, Hx, Hy, hA0, hB0, hh1, hg2⟩ := sv_of hc iN iW hp
    rw [nI_clamp (by omega)]
    refine ⟨vp_in_nI (by omega) (by decide), ?_⟩
    have n24 : n < 24 := by
      rcases Nat.lt_or_ge n 24 with z | z
      · exact z
      · exact absurd (Or.inr (by rw [f2, show n = 24 by omega]; rfl)) nd'
    have tmn : tm 100 nr = nr := by unfold tm; rw [if_neg (by have := Hx.1; omega)]
    refine c_bestBridge (Hx.cg (fun a i _ _ => fsI_n (by omega))) (by rw [fsI_k (by decide)]; exact f69) hA0 hB0 hh1 hg2 (fun t l b v t2 tf t69 tl tb => ?_)
    have tf' : ∀ a i, (a < 64 ∨ 70 < a) → ¬ (a = 1 ∧ i = 8) → t.1 a i = σ.1 a i := fun a i q1 q2 => by rw [tf a i q1, fsI_n q2]
    refine m_bridge np4 (by rw [tf' _ _ (by omega) (by omega)]; exact b5) (fun q2 => absurd hx q2) (fun p' hp' e q2 => ?_) (fun p' hp' e q2 => ?_)
    · obtain rfl := inj p' hp' e
      rw [tf' _ _ (by omega) (by omega), tf' _ _ (by omega) (by omega)] at q2
      exact absurd q2 nd'
    · obtain rfl := inj p' hp' e
      refine ⟨nr, A, B, hh, wt, g, p0, hu, cn, nd, Hy.cg (fun i _ => tf' _ _ (by omega) (by omega)) (fun a i _ => tf' _ _ (by omega) (by omega)) (fun i _ => tf' _ _ (by omega) (by omega)), hh1, hg2, (by have := Hx.sg 100; rw [tmn] at this; exact this), fun u l' b' v' u2 uf u14 ul ub => ?_⟩
      have ev := lc_one (fun r hr => by unfold tk; rw [if_pos (by have := tm_le (b := 100) (nr := nr); have := Hx.1; omega)]) tl ul
      subst ev
      refine ⟨(bf_one 36 tb ub).2, inv_see (n := n + 1) h (by rw [u2, t2]; rfl) (fun a i z1 z2 z3 z4 z5 => by rw [uf a i (by omega) z4 z5, tf' a i z1 z3]) (by rw [uf _ _ (by omega) (by omega) (by omega)]; exact t69) (by omega) (by rw [uf _ _ (by omega) (by omega) (by omega), tf _ _ (by omega), fsI_s, f1, nI_1]) (by rw [u14, tf' _ _ (by omega) (by omega), f2, nI_1])⟩
  · obtain rfl := inj p' hp' e
    exact absurd dn q2
end OB
