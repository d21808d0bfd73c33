/-! months: the reference, and both -/
section PSM
variable {E : am_E} {d c : Nat} {σ : FH} {Q : Int32 → FH → Prop} {QV : FH → Prop}
theorem c_mMonths {np nr m : Nat} {x3 : Int32} {R : Nat → Nat → Int32} (hp4 : np ≤ 4) (hm : m ≤ 60) (h0 : nr ≠ 0) (h8 : nr ≤ 8) (h1 : σ.1 78 6 = nI nr) (h2 : σ.1 78 11 = nI np) (hR : ∀ r, r < nr → ps_RK R r) (hr : ∀ r j, r < nr → j < 5 → σ.1 81 (5 * r + j) = R r (j + 1)) (ok : ∀ p, p < np → ps_OK (ps_m σ p))
    (k : ∀ σ', σ'.2 = σ.2 → (∀ a i, a ≠ 82 → a ≠ 83 → ¬ (a = 78 ∧ i = 24) → σ'.1 a i = σ.1 a i) → ps_M σ' np = (ps_L R (σ.1 78 7) nr np (ps_M σ np, σ.1 78 24) m).1 → σ'.1 78 24 = (ps_L R (σ.1 78 7) nr np (ps_M σ np, σ.1 78 24) m).2 → h_X7_months_71 E (d + 3) (nI m) x3 (nI m) σ' Q) : h_X7_months_71 E (d + 3) (nI m) x3 0 σ Q := by
  have ok0 : ∀ q, q < np → ps_OK ((((ps_M σ np, σ.1 78 24) : (Nat → Nat → Int32) × Int32).1) q) := by
    intro q hq
    show ps_OK (ps_M σ np q)
    unfold ps_M
    rw [if_pos hq]
    exact ok q hq
  have okL := ps_L_ok (R := R) (n := σ.1 78 7) h0 h8 hR ok0
  generalize hS : ps_M σ np = S0 at ok0 okL k
  generalize hx : σ.1 78 24 = x at ok0 okL k
  have key2 : ∀ i, i < m → (∀ s, s.2 = σ.2 → (∀ a j, a ≠ 82 → a ≠ 83 → ¬ (a = 78 ∧ j = 24) → s.1 a j = σ.1 a j) → ps_M s np = (ps_L R (σ.1 78 7) nr np (S0, x) (i + 1)).1 → s.1 78 24 = (ps_L R (σ.1 78 7) nr np (S0, x) (i + 1)).2 → h_X7_months_71 E (d + 3) (nI m) x3 (nI (i + 1)) s Q) → ∀ n p s, p + n = np → s.2 = σ.2 → (∀ a j, a ≠ 82 → a ≠ 83 → ¬ (a = 78 ∧ j = 24) → s.1 a j = σ.1 a j) → ps_M s np = (ps_A R (σ.1 78 7) nr (ps_L R (σ.1 78 7) nr np (S0, x) i) p).1 → s.1 78 24 = (ps_A R (σ.1 78 7) nr (ps_L R (σ.1 78 7) nr np (S0, x) i) p).2 → h_X7_months_80 E (d + 3) (nI m) x3 (nI i) (nI p) s Q := by
    intro i him kk n
    induction n with
    | zero =>
      intro p s hp s2 sf sv sx
      refine v_X7_months_80 ?_
      unfold t_X7_months_80
      rw [show p = np by omega] at sv sx ⊢
      rw [sf 78 11 (by omega) (by omega) (by omega), h2, nI_1 i]
      exact ⟨fun _ => kk s s2 sf sv sx, fun h => absurd (nI_le (Nat.le_refl np) (by omega)) h⟩
    | succ n ih =>
      intro p s hp s2 sf sv sx
      refine v_X7_months_80 ?_
      unfold t_X7_months_80
      rw [sf 78 11 (by omega) (by omega) (by omega), h2, nI_1 p]
      have okp := ps_A_ok (R := R) (n := σ.1 78 7) h0 h8 hR (okL i) p (by omega) p (by omega)
      have ih' := ih (p + 1)
      rw [ps_A] at ih'
      generalize ps_A R (σ.1 78 7) nr (ps_L R (σ.1 78 7) nr np (S0, x) i) p = S at *
      have sp : S.1 p = ps_m s p := by rw [← sv]; exact if_pos (by omega)
      have s4 : S.1 p 4 = s.1 82 (5 * p + 3) := by rw [sp]; rfl
      rw [sp] at okp
      obtain ⟨o0, o1, o4⟩ := okp
      rw [ps_m0] at o0
      rw [ps_m1] at o1
      rw [ps_m4] at o4
      refine ⟨fun h => absurd h (nI_ge (by omega) (by omega)), fun _ => c_isIn (by omega) ?_⟩
      simp only [bi0, Classical.not_not]
      refine ⟨fun hl => ?_, fun hl => ?_⟩
      · have e : ps_P R (σ.1 78 7) nr S p = S := if_neg (by rw [s4, hl]; decide)
        rw [e] at ih'
        exact ih' s (by omega) s2 sf sv sx
      · have e : ps_P R (σ.1 78 7) nr S p = ((fun q => if q = p then ps_Mo R (σ.1 78 7) (ps_R (ps_N S.2) (nI nr)).toNatClampNeg (S.1 p) else S.1 q), ps_N S.2) := if_pos (by rw [s4]; exact (n01 (vp_b o4)).mpr hl)
        rw [e] at ih'
        obtain ⟨r, hrr, er⟩ := ps_R_n S.2 h0 h8
        rw [er, nI_clamp (by omega)] at ih'
        have fin : ∀ t : FH, t.2 = s.2 → (∀ a j, ¬ (a = 82 ∧ 5 * p ≤ j ∧ j < 5 * p + 5) → ¬ (a = 83 ∧ 8 * p ≤ j ∧ j < 8 * p + 8) → ¬ (a = 78 ∧ j = 24) → t.1 a j = s.1 a j) → t.1 78 24 = ps_N S.2 → ps_m t p = ps_Mo R (σ.1 78 7) r (ps_m s p) → h_X7_months_80 E (d + 3) (nI m) x3 (nI i) (nI (p + 1)) t Q := by
          intro t t2 tf t24 tv
          refine ih' t (by omega) (t2.trans s2) (fun a j q1 q2 q3 => by rw [tf a j (by omega) (by omega) q3]; exact sf a j q1 q2 q3) ?_ t24
          funext q
          show ps_M t np q = if q = p then _ else S.1 q
          by_cases eq : q = p
          · subst eq
            rw [if_pos rfl, sp, ← tv]
            exact if_pos (by omega)
          · rw [if_neg eq, ← sv]
            unfold ps_M
            split
            · refine ps_m_ext (fun j hj => ?_) ?_ ?_ (fun j hj => ?_) (fun j hj => ps_mo hj)
              · rw [ps_ml hj, tf _ _ (by omega) (by omega) (by omega)]
              · rw [ps_m4, tf _ _ (by omega) (by omega) (by omega)]
              · rw [ps_m3, tf _ _ (by omega) (by omega) (by omega)]
              · rw [ps_mk hj, tf _ _ (by omega) (by omega) (by omega)]
            · rfl
        rw [sf 78 6 (by omega) (by omega) (by omega), h1]
        refine c_draw h0 h8 ?_
        rw [sx, er]
        have uf : ∀ a j, ¬ (a = 78 ∧ j = 24) → (fsI s 78 24 (ps_N S.2)).1 a j = s.1 a j := fun a j q => fsI_n q
        have u1 : (fsI s 78 24 (ps_N S.2)).1 78 24 = ps_N S.2 := fsI_s
        have u2 : (fsI s 78 24 (ps_N S.2)).2 = s.2 := rfl
        generalize fsI s 78 24 (ps_N S.2) = u at uf u1 u2
        have um : ps_m u p = ps_m s p := ps_m_ext (fun j hj => by rw [ps_ml hj, uf _ _ (by omega)]) (by rw [ps_m4, uf _ _ (by omega)]) (by rw [ps_m3, uf _ _ (by omega)]) (fun j hj => by rw [ps_mk hj, uf _ _ (by omega)]) (fun j hj => ps_mo hj)
        have u81 : ∀ j, j < 5 → u.1 81 (5 * r + j) = R r (j + 1) := fun j hj => by rw [uf _ _ (by omega), sf _ _ (by omega) (by omega) (by omega)]; exact hr r j hrr hj
        have u810 : u.1 81 (5 * r) = R r 1 := u81 0 (by omega)
        obtain ⟨g1, g2, g3, g4, g5⟩ := hR r hrr
        rw [n5_3, nI_clamp (by omega)]
        refine ⟨vp_in_nI (by omega) (by decide), c_mayWalk (by omega) (by omega) ?_⟩
        simp only [bi0, Classical.not_not]
        have c0 : (¬ u.1 82 (5 * p + 3) = 1 ∧ ¬ oE (u.1 81 (5 * r + 1)) (u.1 81 (5 * r + 2)) (u.1 82 (5 * p)) = -1 ∧ ¬ 99 < u.1 82 (5 * p + 1) + u.1 81 (5 * r + 3)) ↔ (ps_m s p 4 = 0 ∧ (ps_m s p 0 = R r 2 ∨ ps_m s p 0 = R r 3) ∧ ¬ 99 < ps_m s p 1 + R r 4) := by
          rw [u81 1 (by omega), u81 2 (by omega), u81 3 (by omega), oE_n g2 g3, ps_m0, ps_m1, ps_m4, uf _ _ (by omega), uf _ _ (by omega), uf _ _ (by omega), n01 (vp_b o4)]
        refine ⟨fun hmy => c_restsS (by omega) (fun v v2 vf vv => c_asksS (by omega) (fun t t2 tf tv => fin t (by rw [t2, v2, u2]) (fun a j q1 q2 q3 => by rw [tf _ _ q1, vf _ _ q1, uf _ _ q3]) (by rw [tf _ _ (by omega), vf _ _ (by omega), u1]) ?_)), fun hmy => ⟨vp_in_nI (by omega) (by decide), c_worthOf (by omega) (by rw [u810]; exact g1) (by rw [u81 4 (by omega)]; exact g5) (c_goesS (by omega) (by omega) (by rw [u81 1 (by omega)]; exact g2) (by rw [u81 2 (by omega)]; exact g3) ?_ (fun v v2 vf vv => c_asksS (by omega) (fun t t2 tf tv => fin t (by rw [t2, v2, u2]) (fun a j q1 q2 q3 => by rw [tf _ _ q1, vf _ _ q1 q2, uf _ _ q3]) (by rw [tf _ _ (by omega), vf _ _ (by omega) (by omega), u1]) ?_)))⟩⟩
        · rw [tv, vv, um, vf _ _ (by omega), uf _ _ (by omega), sf _ _ (by omega) (by omega) (by omega)]
          unfold ps_Mo
          rw [if_neg (fun z => hmy (c0.mpr z))]
        · have := (c0.mp hmy).2.1
          rw [ps_m0] at this
          rw [u81 1 (by omega), u81 2 (by omega), uf _ _ (by omega)]
          exact this
        · rw [tv, vv, um, vf 78 7 (by omega) (by omega), uf 78 7 (by omega), sf 78 7 (by omega) (by omega) (by omega), u810, u81 1 (by omega), u81 2 (by omega), u81 3 (by omega), u81 4 (by omega)]
          unfold ps_Mo
          rw [if_pos (c0.mp hmy)]
  have key1 : ∀ n i s, i + n = m → s.2 = σ.2 → (∀ a j, a ≠ 82 → a ≠ 83 → ¬ (a = 78 ∧ j = 24) → s.1 a j = σ.1 a j) → ps_M s np = (ps_L R (σ.1 78 7) nr np (S0, x) i).1 → s.1 78 24 = (ps_L R (σ.1 78 7) nr np (S0, x) i).2 → h_X7_months_71 E (d + 3) (nI m) x3 (nI i) s Q := by
    intro n
    induction n with
    | zero =>
      intro i s hi s2 sf sv sx
      rw [show i = m by omega] at *
      exact k s s2 sf sv sx
    | succ n ih =>
      intro i s hi s2 sf sv sx
      refine v_X7_months_71 ?_
      unfold t_X7_months_71
      exact ⟨fun h => absurd h (nI_ge (by omega) (by omega)), fun _ => key2 i (by omega) (fun t t2 tf tv tx => ih (i + 1) t (by omega) t2 tf tv tx) np 0 s (by omega) s2 sf sv sx⟩
  exact key1 m 0 σ (by omega) rfl (fun _ _ _ _ _ => rfl) hS hx
theorem c_copyM {s : FH} {np nr nl c : Nat} (P : FH → Prop) (k : ∀ z, z.2 = s.2 → (∀ a i, ¬ (a = 82 ∧ i < 20) → ¬ (a = 83 ∧ i < 32) → z.1 a i = s.1 a i) → (∀ i, i < 20 → z.1 82 i = s.1 90 i) → (∀ i, i < 32 → z.1 83 i = s.1 91 i) → P z) : fMv E (d + 1) mX7_copy [.ref 90, .ref 82] s (fun σ20 => fMv E (d + 1) mX7_copy [.ref 91, .ref 83] σ20 P) := by
  refine c_copy (n0 := 20) (n1 := 20) ⟨by decide, by decide, rfl⟩ ⟨by decide, by decide, rfl⟩ (by decide) (by decide) (by decide) (fun u u2 uf uv => ?_)
  refine c_copy (n0 := 32) (n1 := 32) ⟨by decide, by decide, rfl⟩ ⟨by decide, by decide, rfl⟩ (by decide) (by decide) (by decide) (fun v v2 vf vv => ?_)
  refine k v (v2.trans u2) (fun a i h1 h2 => by rw [vf _ _ h2, uf _ _ h1]) (fun i hi => by rw [vf _ _ (by omega)]; exact uv i hi) (fun i hi => by rw [vv i hi]; exact uf _ _ (by omega))
theorem i_lt {a b : Int32} : (a < b) ↔ a.toInt < b.toInt := fa_lt a b
theorem op_months {x y v : Int32} (h : inv c σ) : fMi E (d + 5) mX6_months [.ref 1, .int x, .int y, .int v] σ (fun a σ1 => fMi E (d + 5) mX7_months [.ref 78, .int x, .int y, .int v] σ1 (fun b σ2 => a = b ∧ inv (c + 1) σ2)) := by
  have h0 := h.up (Nat.le_succ c)
  obtain ⟨iP, iF, iN, nr, np, nl, iW, iK, iR⟩ := h
  obtain ⟨w0, w1, b4, b5, b6, b7, b8⟩ := id iW
  obtain ⟨a1, a2, a3, a4, a5, a6, a7, a8, a9, a10⟩ := id w0
  obtain ⟨b1, b2, b3⟩ := id w1
  have mo : ¬ ((1 ≤ x ∧ x ≤ 60) ∧ ¬ y < 0 ∧ 0 ≤ v ∧ v ≤ 3) → fMi E (d + 5) mX7_months [.ref 78, .int x, .int y, .int v] σ (fun b σ2 => -102 = b ∧ inv (c + 1) σ2) := by
    intro q
    refine v_X7_months ?_
    unfold t_X7_months
    refine c_in32 1 60 (by decide) (by decide) ?_
    simp only [bi0, Classical.not_not]
    refine ⟨fun _ => ⟨trivial, h0⟩, fun q1 => ⟨fun _ => ⟨trivial, h0⟩, fun q2 => c_in32 0 3 (by decide) (by decide) ?_⟩⟩
    simp only [bi0, Classical.not_not]
    exact ⟨fun q3 => absurd ⟨q1, q2, q3⟩ q, fun _ => ⟨trivial, h0⟩⟩
  refine v_X6_months ?_
  unfold t_X6_months
  refine ⟨fun q => mo (fun z => absurd z.1.1 (by rw [fa_le]; rw [fa_lt] at q; omega)), fun q1 => ⟨fun q => mo (fun z => absurd z.1.2 (by rw [fa_le]; rw [fa_lt] at q; omega)), fun q2 => ⟨fun q => mo (fun z => z.2.1 q), fun q3 => ⟨fun q => mo (fun z => absurd z.2.2.1 (by rw [fa_le]; rw [fa_lt] at q; omega)), fun q4 => ⟨fun q5 => ?_, fun q => mo (fun z => q z.2.2.2)⟩⟩⟩⟩⟩
  obtain ⟨m, hm1, hm2, em⟩ := i_rng (y := x) (a := 1) (b := 60) (by decide) (by decide) ⟨fa_of_nlt q1, fa_of_nlt q2⟩
  have hv0 : 0 ≤ v := fa_of_nlt q4
  subst em
  have m60 : (1 : Int32) ≤ nI m ∧ nI m ≤ 60 := ⟨fa_of_nlt q1, fa_of_nlt q2⟩
  rw [a4, nI_z (by omega)]
  refine ⟨fun hr => ?_, fun hr => ?_⟩
  · refine c_wBecome (Or.inr (Or.inr rfl)) (Or.inl rfl) (by decide) a1 a2 a4 a5 (fun i hi => (a7 i hi).2.2.2.2.2) (fun p hp => (a8 p hp).2.2.2.1) ?_
    intro s s2 sf s0 sw sl sr sp sk
    have hR : ∀ r, r < nr → ps_RK (fun i j => σ.1 (8 + i) j) r := fun r hrr => by
      obtain ⟨g1, g2, g3, _, g4, g5⟩ := a7 r hrr
      rw [show 4 + 4 + r = 8 + r by omega] at g1 g2 g3 g4 g5
      exact ⟨g1, g2, g3, g4, g5⟩
    have cc : ps_C s 44 np = ps_C σ 4 np := by
      funext p
      unfold ps_C
      split
      · next hp =>
        exact ps_c_ext (fun j hj => by rw [ps_cl hj]; exact sp p j hp hj) (fun i hi => by rw [ps_ck hi]; exact sk p i hp hi) (fun j hj => ps_co hj)
      · rfl
    have cm : ps_M σ np = ps_C σ 4 np := by
      funext p
      unfold ps_M ps_C
      split
      · next hp =>
        obtain ⟨g0, g1, g2, g3, g4, g5⟩ := b2 p hp
        exact ps_m_ext (fun j hj => by rw [ps_cl (by omega)]; rcases (show j = 0 ∨ j = 1 ∨ j = 2 by omega) with rfl | rfl | rfl <;> assumption) g3 g4 (fun i hi => by rw [ps_ck hi]; exact g5 i hi) (fun j hj => ps_co hj)
      · rfl
    have okc : ∀ p, p < np → ps_OK (ps_c σ (4 + 12 + 2 * p)) := fun p hp => ⟨(a8 p hp).1, (a8 p hp).2.1, (a8 p hp).2.2.2.1⟩
    have cp : ∀ p, p < np → ps_c s (44 + 12 + 2 * p) = ps_c σ (4 + 12 + 2 * p) := fun p hp => by
      have := congrFun cc p
      unfold ps_C at this
      rwa [if_pos hp, if_pos hp] at this
    have mp : ∀ p, p < np → ps_m σ p = ps_c σ (4 + 12 + 2 * p) := fun p hp => by
      have := congrFun cm p
      unfold ps_C ps_M at this
      rwa [if_pos hp, if_pos hp] at this
    refine c_live (R := fun i j => σ.1 (8 + i) j) (Or.inr (Or.inr rfl)) a2 (by omega) hr a1 (by rw [sw 1 (by omega)]; exact a4) (by rw [sw 2 (by omega)]; exact a5) hR (fun r j g1 g2 g3 => by rw [sr r j g1 g2 g3, show 4 + 4 + r = 8 + r by omega]) (fun r hrr => by rw [s0 r hrr]; exact iN 44 (Or.inr (Or.inr rfl)) r hrr) (fun p hp => by rw [cp p hp]; exact okc p hp) ?_
    rw [cc, sw 0 (by omega)]
    intro t t2 tf tv
    generalize hL : ps_L (fun i j => σ.1 (8 + i) j) (σ.1 4 0) nr np (ps_C σ 4 np, y) m = L at tv
    have ft : ∀ a i, ¬ (44 ≤ a ∧ a < 64) → t.1 a i = σ.1 a i := fun a i q => by rw [tf _ _ (by omega), sf _ _ (by omega)]
    have ftn : ∀ k, 48 ≤ k → k ≤ 55 → t.1 k 0 = σ.1 k 0 := fun k g1 g2 => by
      rw [tf _ _ (by omega)]
      have := s0 (k - 48) (by omega)
      rwa [show 44 + 4 + (k - 48) = k by omega] at this
    -- the reference
    have rest : ∀ a : Int32, (v = 0 → a = smI (fun p => L.1 p 4) np) → (v = 1 → a = smI (fun p => L.1 p 1) np) → (v = 2 → a = smI (fun p => L.1 p 2) np) → (¬ v = 0 → ¬ v = 1 → ¬ v = 2 → a = L.2) → fMi E (d + 5) mX7_months [.ref 78, .int (nI m), .int y, .int v] t (fun b σ2 => a = b ∧ inv (c + 1) σ2) := by
      intro a ha0 ha1 ha2 ha3
      refine v_X7_months ?_
      unfold t_X7_months
      refine c_in32 1 60 (by decide) (by decide) ?_
      refine ⟨fun q => absurd m60 (bi0.mp q), fun _ => ⟨fun q => absurd q q3, fun _ => c_in32 0 3 (by decide) (by decide) ⟨fun _ => c_lacks ⟨fun _ => ?_, fun q => ?_⟩, fun q => absurd ⟨hv0, q5⟩ (bi0.mp q)⟩⟩⟩
      · refine c_copy (n0 := 20) (n1 := 20) ⟨by decide, by decide, rfl⟩ ⟨by decide, by decide, rfl⟩ (by decide) (by decide) (by decide) (fun u u2 uf uv => ?_)
        refine c_copy (n0 := 32) (n1 := 32) ⟨by decide, by decide, rfl⟩ ⟨by decide, by decide, rfl⟩ (by decide) (by decide) (by decide) (fun w ww2 wf wv => ?_)
        rintro _ rfl
        have z2 : (fsI w 78 24 y).2 = σ.2 := by rw [fsI_2, ww2, u2, t2, s2]
        have z24 : (fsI w 78 24 y).1 78 24 = y := fsI_s
        have zf : ∀ a i, ¬ (44 ≤ a ∧ a < 64) → ¬ (a = 90 ∧ i < 20) → ¬ (a = 91 ∧ i < 32) → ¬ (a = 78 ∧ i = 24) → (fsI w 78 24 y).1 a i = σ.1 a i := fun a i g1 g2 g3 g4 => by rw [fsI_n g4, wf _ _ g3, uf _ _ g2, ft _ _ g1]
        have z90 : ∀ i, i < 20 → (fsI w 78 24 y).1 90 i = σ.1 82 i := fun i hi => by rw [fsI_k (by decide), wf _ _ (by omega), uv i hi, ft _ _ (by omega)]
        have z91 : ∀ i, i < 32 → (fsI w 78 24 y).1 91 i = σ.1 83 i := fun i hi => by rw [fsI_k (by decide), wv i hi, uf _ _ (by omega), ft _ _ (by omega)]
        have zn : ∀ k, 48 ≤ k → k ≤ 55 → (fsI w 78 24 y).1 k 0 = σ.1 k 0 := fun k g1 g2 => by rw [fsI_n (by omega), wf _ _ (by omega), uf _ _ (by omega), ftn k g1 g2]
        generalize fsI w 78 24 y = z at z2 z24 zf z90 z91 zn
        have zm : ∀ p, p < 4 → ps_m z p = ps_m σ p := fun p hp => ps_m_ext (fun j hj => by rw [ps_ml hj, zf _ _ (by omega) (by omega) (by omega) (by omega)]) (by rw [ps_m4, zf _ _ (by omega) (by omega) (by omega) (by omega)]) (by rw [ps_m3, zf _ _ (by omega) (by omega) (by omega) (by omega)]) (fun i hi => by rw [ps_mk hi, zf _ _ (by omega) (by omega) (by omega) (by omega)]) (fun j hj => ps_mo hj)
        have zM : ps_M z np = ps_C σ 4 np := by
          rw [← cm]
          funext p
          unfold ps_M
          split
          · exact zm p (by omega)
          · rfl
        refine c_mMonths (R := fun i j => σ.1 (8 + i) j) a2 (by omega) hr a1 (by rw [zf _ _ (by omega) (by omega) (by omega) (by omega)]; exact b4) (by rw [zf _ _ (by omega) (by omega) (by omega) (by omega)]; exact b5) hR (fun r j g1 g2 => ?_) (fun p hp => by rw [zm p (by omega), mp p hp]; exact okc p hp) ?_
        · rw [zf _ _ (by omega) (by omega) (by omega) (by omega)]
          obtain ⟨r0, r1, r2, r3, r4⟩ := b1 r g1
          rw [show 4 + 4 + r = 8 + r by omega] at r0 r1 r2 r3 r4
          rcases (show j = 0 ∨ j = 1 ∨ j = 2 ∨ j = 3 ∨ j = 4 by omega) with rfl | rfl | rfl | rfl | rfl <;> assumption
        · rw [zM, z24, zf 78 7 (by omega) (by omega) (by omega) (by omega), b7, hL]
          intro g g2 gf gv gx
          have fin : ∀ z', z'.2 = g.2 → (∀ a i, ¬ (a = 82 ∧ i < 20) → ¬ (a = 83 ∧ i < 32) → z'.1 a i = g.1 a i) → (∀ i, i < 20 → z'.1 82 i = g.1 90 i) → (∀ i, i < 32 → z'.1 83 i = g.1 91 i) → inv (c + 1) z' := by
            intro z' e2 ef e82 e83
            have fr : ∀ a i, ¬ (44 ≤ a ∧ a < 64) → a ≠ 82 → a ≠ 83 → a ≠ 90 → a ≠ 91 → ¬ (a = 78 ∧ i = 24) → z'.1 a i = σ.1 a i := fun a i h1 h2 h3 h4 h5 h6 => by rw [ef _ _ (by omega) (by omega), gf _ _ h2 h3 h6, zf _ _ h1 (by omega) (by omega) h6]
            have f82 : ∀ i, i < 20 → z'.1 82 i = σ.1 82 i := fun i hi => by rw [e82 i hi, gf _ _ (by omega) (by omega) (by omega), z90 i hi]
            have f83 : ∀ i, i < 32 → z'.1 83 i = σ.1 83 i := fun i hi => by rw [e83 i hi, gf _ _ (by omega) (by omega) (by omega), z91 i hi]
            have f4 : ∀ a i, 4 ≤ a → a < 24 → z'.1 a i = σ.1 a i := fun a i h1 h2 => fr a i (by omega) (by omega) (by omega) (by omega) (by omega) (by omega)
            obtain ⟨jP, jF, jN, jK⟩ := inv_keep iP iF iN (iK.up (Nat.le_succ c)) (σ' := z') (fun a i q => by
              by_cases e : 48 ≤ a ∧ a ≤ 55
              · have : i = 0 := by omega
                subst this
                rw [ef _ _ (by omega) (by omega), gf _ _ (by omega) (by omega) (by omega), zn a e.1 e.2]
              · exact fr a i (by omega) (by omega) (by omega) (by omega) (by omega) (by omega))
            refine ⟨jP, jF, jN, nr, np, nl, ⟨(w0.up (Nat.le_succ c)).cg (fun k j h1 h2 => f4 k j h1 (by omega)), wRel.tr a1 a2 a3 w1 (fun i hi => f4 _ _ (by omega) (by omega)) (fun i j h1 h2 h3 => f4 _ _ (by omega) (by omega)) (fun p j h1 h2 => f4 _ _ (by omega) (by omega)) (fun p i h1 h2 => f4 _ _ (by omega) (by omega)) (fun j hj => fr _ _ (by omega) (by omega) (by omega) (by omega) (by omega) (by omega)) f82 f83 (fun j hj => fr _ _ (by omega) (by omega) (by omega) (by omega) (by omega) (by omega)), by rw [fr _ _ (by omega) (by omega) (by omega) (by omega) (by omega) (by omega)]; exact b4, by rw [fr _ _ (by omega) (by omega) (by omega) (by omega) (by omega) (by omega)]; exact b5, by rw [fr _ _ (by omega) (by omega) (by omega) (by omega) (by omega) (by omega)]; exact b6, by rw [fr _ _ (by omega) (by omega) (by omega) (by omega) (by omega) (by omega), f4 _ _ (by omega) (by omega)]; exact b7, by rw [fr _ _ (by omega) (by omega) (by omega) (by omega) (by omega) (by omega), f4 _ _ (by omega) (by omega)]; exact b8⟩, jK, iR.cg a1 (by rw [e2, g2, z2]) (fun k j h1 h2 h3 => f4 _ _ (by omega) (by omega)) (fun j => f4 _ _ (by omega) (by omega)) (fun j h1 => fr _ _ (by omega) (by omega) (by omega) (by omega) (by omega) (by omega)) (fun j => fr _ _ (by omega) (by omega) (by omega) (by omega) (by omega) (by omega))⟩
          have g11 : g.1 78 11 = nI np := by rw [gf _ _ (by omega) (by omega) (by omega), zf _ _ (by omega) (by omega) (by omega) (by omega)]; exact b5
          have gp : ∀ p, p < np → ps_m g p = L.1 p := fun p hp => by rw [← gv]; exact (if_pos hp).symm
          refine v_X7_months_71 ?_
          unfold t_X7_months_71
          refine ⟨fun _ => ⟨fun n0 => ⟨fun n1 => ⟨fun n2 => ?_, fun n2 => ?_⟩, fun n1 => ?_⟩, fun n0 => ?_⟩, fun q => absurd (nI_le (Nat.le_refl m) (by omega)) q⟩
          · refine c_copyM (np := 0) (nr := 0) (nl := 0) (c := 0) _ (fun z' e2 ef e82 e83 => ⟨?_, fin z' e2 ef e82 e83⟩)
            rw [ha3 n0 n1 n2, gx]
          · refine c_sumOf (j := 2) (by omega) a2 g11 (c_copyM (np := 0) (nr := 0) (nl := 0) (c := 0) _ (fun z' e2 ef e82 e83 => ⟨?_, fin z' e2 ef e82 e83⟩))
            rw [ha2 n2]
            exact smI_cg np (fun p hp => by rw [← gp p hp]; rfl)
          · refine c_sumOf (j := 1) (by omega) a2 g11 (c_copyM (np := 0) (nr := 0) (nl := 0) (c := 0) _ (fun z' e2 ef e82 e83 => ⟨?_, fin z' e2 ef e82 e83⟩))
            rw [ha1 n1]
            exact smI_cg np (fun p hp => by rw [← gp p hp]; rfl)
          · refine c_sumOf (j := 3) (by omega) a2 g11 (c_copyM (np := 0) (nr := 0) (nl := 0) (c := 0) _ (fun z' e2 ef e82 e83 => ⟨?_, fin z' e2 ef e82 e83⟩))
            rw [ha0 n0]
            exact smI_cg np (fun p hp => by rw [← gp p hp]; rfl)
      · rw [ft 78 6 (by omega), b4] at q
        exact absurd (bi0.mpr (fun z => hr ((nI_z (by omega)).mp z))) q
    -- the class's answer
    have tp : ∀ p, p < np → ps_c t (44 + 12 + 2 * p) = L.1 p := fun p hp => by rw [← tv]; exact (if_pos hp).symm
    have t442 : t.1 44 2 = nI np := by rw [tf _ _ (by omega), sw 2 (by omega)]; exact a5
    have okL := ps_L_ok (R := fun i j => σ.1 (8 + i) j) (n := σ.1 4 0) (np := np) (S := (ps_C σ 4 np, y)) hr a1 hR (fun q hq => by show ps_OK (ps_C σ 4 np q); unfold ps_C; rw [if_pos hq]; exact okc q hq) m
    rw [hL] at okL
    refine ⟨fun e => c_letInCount (Or.inr (Or.inr rfl)) a2 t442 (fun p hp => ?_) (rest _ (fun _ => smI_cg np (fun p hp => by rw [← tp p hp]; rfl)) (fun e' => absurd (e ▸ e') (by decide)) (fun e' => absurd (e ▸ e') (by decide)) (fun n => absurd e n)), fun e => c_hurtOfAll (Or.inr (Or.inr rfl)) a2 t442 (rest _ (fun e' => absurd (e ▸ e') (by decide)) (fun _ => smI_cg np (fun p hp => by rw [← tp p hp]; rfl)) (fun e' => absurd (e ▸ e') (by decide)) (fun _ n => absurd e n)), fun e => c_countedByAll (Or.inr (Or.inr rfl)) a2 t442 (rest _ (fun e' => absurd (e ▸ e') (by decide)) (fun e' => absurd (e ▸ e') (by decide)) (fun _ => smI_cg np (fun p hp => by rw [← tp p hp]; rfl)) (fun _ _ n => absurd e n)), fun n0 n1 n2 => rest _ (fun e => absurd e n0) (fun e => absurd e n1) (fun e => absurd e n2) (fun _ _ _ => rfl)⟩
    have := (okL p hp).2.2
    rw [← tp p hp] at this
    exact this
  · refine v_X7_months ?_
    unfold t_X7_months
    refine c_in32 1 60 (by decide) (by decide) ?_
    refine ⟨fun q => absurd m60 (bi0.mp q), fun _ => ⟨fun q => absurd q q3, fun _ => c_in32 0 3 (by decide) (by decide) ⟨fun _ => c_lacks ?_, fun q => absurd ⟨hv0, q5⟩ (bi0.mp q)⟩⟩⟩
    rw [b4, hr]
    exact ⟨fun q => absurd q (by decide), fun _ => ⟨rfl, h0⟩⟩
end PSM
