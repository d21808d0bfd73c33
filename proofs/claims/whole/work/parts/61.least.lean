/-! Search: leastWay, leastBar, mostCounted -/
def sv_x (nr p : Nat) (A B h wt g : Nat → Nat) (p0 hu cn nd : Nat) (σ : FH) : Prop :=
  nr ≤ 8 ∧ p < 4 ∧ σ.1 4 1 = nI nr ∧ (∀ r, r < 8 → σ.1 (8 + r) 0 = nI r) ∧ (∀ r, r < nr → σ.1 (8 + r) 2 = nI (A r) ∧ σ.1 (8 + r) 3 = nI (B r) ∧ σ.1 (8 + r) 4 = nI (h r) ∧ wt r ≤ 4 ∧ wrt (σ.1 (8 + r) 1) (σ.1 (8 + r) 5) = nI (wt r)) ∧ (∀ r, r < nr → g r = if ¬ σ.1 (8 + r) 4 ≤ σ.1 (17 + 2 * p) r then wt r else 0) ∧ (∀ r, r < nr → A r < 6 ∧ B r < 6 ∧ h r ≤ 9 ∧ 1 ≤ h r) ∧ σ.1 (16 + 2 * p) 0 = nI p0 ∧ p0 < 6 ∧ σ.1 (16 + 2 * p) 1 = nI hu ∧ hu ≤ 99 ∧ σ.1 (16 + 2 * p) 2 = nI cn ∧ cn < 2 ^ 20 ∧ σ.1 4 0 = nI nd ∧ nd ≤ 60
theorem sv_x.cg {nr p : Nat} {A B h wt g : Nat → Nat} {p0 hu cn nd : Nat} {σ σ' : FH} (H : sv_x nr p A B h wt g p0 hu cn nd σ) (hf : ∀ a i, 4 ≤ a → a < 24 → σ'.1 a i = σ.1 a i) : sv_x nr p A B h wt g p0 hu cn nd σ' := by
  obtain ⟨h1, h2, h3, h4, h5, h6, h7, h8, h9, h10, h11, h12, h13, h14, h15⟩ := H
  refine ⟨h1, h2, by rw [hf _ _ (by omega) (by omega)]; exact h3, fun r q => by rw [hf _ _ (by omega) (by omega)]; exact h4 r q, fun r q => ?_, fun r q => ?_, h7, by rw [hf _ _ (by omega) (by omega)]; exact h8, h9, by rw [hf _ _ (by omega) (by omega)]; exact h10, h11, by rw [hf _ _ (by omega) (by omega)]; exact h12, h13, by rw [hf _ _ (by omega) (by omega)]; exact h14, h15⟩
  · rw [hf _ _ (by omega) (by omega), hf _ _ (by omega) (by omega), hf _ _ (by omega) (by omega), hf _ _ (by omega) (by omega), hf _ _ (by omega) (by omega)]
    exact h5 r q
  · rw [hf _ _ (by omega) (by omega), hf _ _ (by omega) (by omega)]
    exact h6 r q
def tm (b nr : Nat) : Nat := if b < nr then nr - 1 else nr
theorem tk_lt {b nr j : Nat} (h : j < tm b nr) : tk b j < nr := by
  unfold tm at h
  unfold tk
  by_cases q : b < nr
  · rw [if_pos q] at h
    split <;> omega
  · rw [if_neg q] at h
    rw [if_pos (by omega)]
    exact h
theorem tm_le {b nr : Nat} : tm b nr ≤ nr := by unfold tm; split <;> omega
theorem sv_x.sg {nr p : Nat} {A B h wt g : Nat → Nat} {p0 hu cn nd : Nat} {σ : FH} (H : sv_x nr p A B h wt g p0 hu cn nd σ) (b : Nat) : sg_R (tm b nr) (fun j => A (tk b j)) (fun j => B (tk b j)) (fun j => h (tk b j)) (fun j => g (tk b j)) := by
  obtain ⟨h1, h2, h3, h4, h5, h6, h7, -⟩ := H
  intro r q
  have q2 := tk_lt q
  obtain ⟨a1, a2, a3, a4⟩ := h7 _ q2
  refine ⟨a1, a2, a3, ?_, a4⟩
  show g (tk b r) ≤ 4
  rw [h6 _ q2]
  have := (h5 _ q2).2.2.2.1
  split <;> omega
theorem rc_h0 {g : Nat → Nat} : ∀ n, rc_h g n 0 = 0
  | 0 => rfl
  | n + 1 => by
    have e : rc_h g (n + 1) 0 = rc_h g n 0 + (if 0 < g n ∧ (0 : Nat).testBit (rc_k g n) = true then g n else 0) := rfl
    rw [e, rc_h0 n, Nat.zero_testBit]
    simp
theorem rwH0 {g : Nat → Nat} (n : Nat) : rwH n g [] = 0 := by
  rw [← rc_h_q]
  exact rc_h0 n
section SB
variable {E : am_E} {d : Nat} {σ : FH} {Q : Int32 → FH → Prop} {QV : FH → Prop} {A B h wt g : Nat → Nat} {nr p p0 hu cn nd : Nat}
theorem c_takeR {b : Nat} {x : Int32} (H : sv_x nr p A B h wt g p0 hu cn nd σ) (h69 : σ.1 69 0 = 0) (hx : ∀ i, i < nr → (nI i = x ↔ i = b)) (k : ∀ σ', σ'.2 = σ.2 → (∀ a i, ¬ (a = 64 ∧ (i = 6 ∨ i = 7)) → ¬ (65 ≤ a ∧ a ≤ 69) → σ'.1 a i = σ.1 a i) → sr_R (tm b nr) (fun j => A (tk b j)) (fun j => B (tk b j)) (fun j => h (tk b j)) (fun j => g (tk b j)) σ' → QV σ') : fMv E (d + 2) mX4_takeRoads [.ref 64, .ref 4, .ref (16 + 2 * p), .int x] σ QV := by
  obtain ⟨h1, h2, h3, h4, h5, h6, -⟩ := H
  exact c_takeRoads h1 h2 h3 hx h4 h5 h6 k h69
theorem sr_R.z {m : Nat} (hR : sr_R m A B h g σ) : σ.1 69 0 = 0 := by
  have := hR.2.2.2 0 (Nat.two_pow_pos _)
  rw [rc_h0] at this
  exact this
theorem c_leastWay {b : Nat} {x : Int32} (H : sv_x nr p A B h wt g p0 hu cn nd σ) (h69 : σ.1 69 0 = 0) (hx : ∀ i, i < nr → (nI i = x ↔ i = b))
    (k : ∀ σ' v, σ'.2 = σ.2 → (∀ a i, (a < 64 ∨ 70 < a) → σ'.1 a i = σ.1 a i) → σ'.1 64 8 = nI (99 - hu) → sr_R (tm b nr) (fun j => A (tk b j)) (fun j => B (tk b j)) (fun j => h (tk b j)) (fun j => g (tk b j)) σ' → (v = 1000000000 ∨ v < 2 ^ 20) → lc (tm b nr) (fun j => A (tk b j)) (fun j => B (tk b j)) (fun j => h (tk b j)) (fun j => g (tk b j)) (fun r => r) p0 cn nd (99 - hu) v → Q (nI v) σ') : fMi E (d + 5) mX4_leastWay [.ref 64, .ref 4, .ref (16 + 2 * p), .int x] σ Q := by
  have hsg := H.sg b
  obtain ⟨h1, h2, h3, h4, h5, h6, h7, h8, h9, h10, h11, h12, h13, h14, h15⟩ := id H
  have hpg : isPg (16 + 2 * p) := ⟨4, p, Or.inl rfl, h2, by omega⟩
  refine v_X4_leastWay (Or.inl rfl) hpg ?_
  unfold t_X4_leastWay
  refine c_takeR H h69 hx (fun t t2 tf tR => ?_)
  rintro _ rfl
  rw [tf _ _ (by omega) (by omega), h10, show (99 : Int32) = nI 99 from rfl, pk_sub h11, fsI_k (by omega), tf _ _ (by omega) (by omega), h8, fsI_k (by omega), tf _ _ (by omega) (by omega), h14, fsI_k (by omega), tf _ _ (by omega) (by omega), h12]
  have le := tm_le (b := b) (nr := nr)
  have uR : sr_R (tm b nr) (fun j => A (tk b j)) (fun j => B (tk b j)) (fun j => h (tk b j)) (fun j => g (tk b j)) (fsI t 64 8 (nI (99 - hu))) := tR.cg (fun a i q => by rw [fsI_n (by omega)])
  refine c_leastCost (lim := 99 - hu) (by omega) h9 uR hsg (by omega) fsI_s h13 (by omega) rfl (fun u v u2 uf vb ul => ?_)
  refine k u v (by rw [u2]; exact t2) (fun a i q => by rw [uf _ _ (by omega), fsI_n (by omega), tf _ _ (by omega) (by omega)]) (by rw [uf _ _ (by omega)]; exact fsI_s) (uR.cg (fun a i q => uf _ _ (by omega))) vb ul
/-- there is a way without road b -/
def zw (nr : Nat) (A B h g : Nat → Nat) (p0 cn nd lim b : Nat) : Prop := ∃ w, wy (tm b nr) (fun j => A (tk b j)) (fun j => B (tk b j)) (fun j => h (tk b j)) (fun j => g (tk b j)) p0 cn nd lim w
theorem lc_zw {m p0 cn nd lim v : Nat} {A B h g ρ : Nat → Nat} (H : lc m A B h g ρ p0 cn nd lim v) (hv : v = 1000000000 ∨ v < 2 ^ 20) (hb : ∀ w, wy m A B h g p0 cn nd lim w → xn h ρ w < 2 ^ 20) : (v = 1000000000) ↔ ¬ ∃ w, wy m A B h g p0 cn nd lim w := by
  rcases H with ⟨e, h1⟩ | ⟨w, h1, h2, h3⟩
  · exact ⟨fun _ ⟨w, q⟩ => h1 w q, fun _ => e⟩
  · refine ⟨fun q => ?_, fun q => absurd ⟨w, h1⟩ q⟩
    have := hb w h1
    omega
def brs (nr : Nat) (A B h g : Nat → Nat) (p0 cn nd lim : Nat) (v : Int32) : Prop := (¬ zw nr A B h g p0 cn nd lim 100 ∧ v = -1) ∨ (zw nr A B h g p0 cn nd lim 100 ∧ ((∃ i, i < nr ∧ ¬ zw nr A B h g p0 cn nd lim i ∧ (∀ j, j < i → zw nr A B h g p0 cn nd lim j) ∧ v = nI i) ∨ ((∀ i, i < nr → zw nr A B h g p0 cn nd lim i) ∧ v = -1)))
theorem brs_one {lim : Nat} {v v' : Int32} (H : brs nr A B h g p0 cn nd lim v) (H' : brs nr A B h g p0 cn nd lim v') : v = v' := by
  rcases H with ⟨a, b⟩ | ⟨a, b⟩ <;> rcases H' with ⟨a', b'⟩ | ⟨a', b'⟩
  · rw [b, b']
  · exact absurd a' a
  · exact absurd a a'
  · rcases b with ⟨i, i1, i2, i3, i4⟩ | ⟨i1, i2⟩ <;> rcases b' with ⟨j, j1, j2, j3, j4⟩ | ⟨j1, j2⟩
    · have : i = j := by
        rcases Nat.lt_trichotomy i j with q | q | q
        · exact absurd (j3 i q) i2
        · exact q
        · exact absurd (i3 j q) j2
      rw [i4, j4, this]
    · exact absurd (j1 i i1) i2
    · exact absurd (i1 j j1) j2
    · rw [i2, j2]
theorem wy_b {m : Nat} {lim : Nat} {A B h g ρ : Nat → Nat} {p0 cn nd : Nat} (hr : sg_R m A B h g) (hρ : ∀ r, r < m → ρ r < 16) (hl : lim ≤ 99) : ∀ w, wy m A B h g p0 cn nd lim w → xn h ρ w < 2 ^ 20 := by
  intro w q
  exact (xn_parts (ρ := ρ) (fun r z => (hr.s r z).2.2) hρ q.1 (by have := q.2.2.2; omega)).2.2.2
theorem nI_far {v : Nat} (hv : v = 1000000000 ∨ v < 2 ^ 20) : (nI v = 1000000000) ↔ v = 1000000000 := nI_eq (b := 1000000000) (by omega) (by decide)
theorem x_none {b : Nat} (hn : nr ≤ 8) (hb : 8 ≤ b) : ∀ i, i < nr → (nI i = (-1 : Int32) ↔ i = b) := by
  intro i hi
  refine ⟨fun q => ?_, fun q => by omega⟩
  have := nI_pos (n := i) (by omega)
  rw [q] at this
  exact absurd (by decide) this
theorem c_leastBar (H : sv_x nr p A B h wt g p0 hu cn nd σ) (h69 : σ.1 69 0 = 0) (k : ∀ σ' v, σ'.2 = σ.2 → (∀ a i, (a < 64 ∨ 70 < a) → σ'.1 a i = σ.1 a i) → σ'.1 69 0 = 0 → brs nr A B h g p0 cn nd (99 - hu) v → Q v σ') : fMi E (d + 6) mX4_leastBar [.ref 64, .ref 4, .ref (16 + 2 * p)] σ Q := by
  have h1 := H.1
  have h2 := H.2.1
  have h3 := H.2.2.1
  have hpg : isPg (16 + 2 * p) := ⟨4, p, Or.inl rfl, h2, by omega⟩
  have bd : ∀ b w, wy (tm b nr) (fun j => A (tk b j)) (fun j => B (tk b j)) (fun j => h (tk b j)) (fun j => g (tk b j)) p0 cn nd (99 - hu) w → xn (fun j => h (tk b j)) (fun r => r) w < 2 ^ 20 := fun b => wy_b (H.sg b) (fun r q => by have := tm_le (b := b) (nr := nr); show r < 16; omega) (by omega)
  refine v_X4_leastBar (Or.inl rfl) hpg ?_
  unfold t_X4_leastBar
  refine c_leastWay (b := 100) H h69 (x_none h1 (by decide)) (fun t v t2 tf t8 tR vb tl => ?_)
  have z0 := lc_zw tl vb (bd 100)
  rw [nI_far vb]
  refine ⟨fun q => ?_, fun q => k t (-1) t2 tf tR.z (Or.inl ⟨z0.mp q, rfl⟩)⟩
  have Z : zw nr A B h g p0 cn nd (99 - hu) 100 := Classical.not_not.mp (fun z => q (z0.mpr z))
  have key : ∀ l i s, i + l = nr → s.2 = σ.2 → (∀ a i, (a < 64 ∨ 70 < a) → s.1 a i = σ.1 a i) → s.1 69 0 = 0 → (∀ j, j < i → zw nr A B h g p0 cn nd (99 - hu) j) → h_X4_leastBar_16 E (d + 5) 4 (16 + 2 * p) (nI i) s Q := by
    intro l
    induction l with
    | zero =>
      intro i s hi s2 sf s69 sz
      refine v_X4_leastBar_16 (Or.inl rfl) hpg ?_
      unfold t_X4_leastBar_16
      rw [show i = nr by omega] at *
      rw [sf 4 1 (by omega), h3]
      exact ⟨fun _ => k s (-1) s2 sf s69 (Or.inr ⟨Z, Or.inr ⟨sz, rfl⟩⟩), fun q => absurd (nI_le (Nat.le_refl nr) (by omega)) q⟩
    | succ l ih =>
      intro i s hi s2 sf s69 sz
      refine v_X4_leastBar_16 (Or.inl rfl) hpg ?_
      unfold t_X4_leastBar_16
      rw [sf 4 1 (by omega), h3, nI_1 i]
      refine ⟨fun q => absurd q (nI_ge (by omega) (by omega)), fun _ => ?_⟩
      refine c_leastWay (b := i) (H.cg (fun a j q1 q2 => sf a j (by omega))) s69 (fun j hj => nI_eq (by omega) (by omega)) (fun u v u2 uf u8 uR vb ul => ?_)
      have z1 := lc_zw ul vb (bd i)
      rw [nI_far vb]
      refine ⟨fun q => ih (i + 1) u (by omega) (u2.trans s2) (fun a j q => by rw [uf _ _ q, sf _ _ q]) uR.z (fun j hj => ?_), fun q => k u (nI i) (u2.trans s2) (fun a j q => by rw [uf _ _ q, sf _ _ q]) uR.z (Or.inr ⟨Z, Or.inl ⟨i, by omega, z1.mp q, sz, rfl⟩⟩)⟩
      by_cases e : j = i
      · subst e; exact Classical.not_not.mp (fun z => q (z1.mpr z))
      · exact sz j (by omega)
  exact key nr 0 t (by omega) t2 tf tR.z (fun j q => absurd q (by omega))
/-- the most that can be counted -/
def mo (n : Nat) (A B h g : Nat → Nat) (p0 lim M : Nat) : Prop := (∃ w, sw_v n A B p0 w ∧ sw_h h w ≤ lim ∧ rwH n g w = M) ∧ ∀ w, sw_v n A B p0 w → sw_h h w ≤ lim → rwH n g w ≤ M
theorem mo_one {n lim M M' : Nat} (H : mo n A B h g p0 lim M) (H' : mo n A B h g p0 lim M') : M = M' := by
  obtain ⟨⟨w, w1, w2, w3⟩, h1⟩ := H
  obtain ⟨⟨w', w1', w2', w3'⟩, h1'⟩ := H'
  have a := h1 w' w1' w2'
  have b := h1' w w1 w2
  omega
theorem c_mostCounted {x : Nat} (hx : x ≤ 60) (H : sv_x nr p A B h wt g p0 hu cn nd σ) (h69 : σ.1 69 0 = 0) (k : ∀ σ' M, σ'.2 = σ.2 → (∀ a i, (a < 64 ∨ 70 < a) → σ'.1 a i = σ.1 a i) → σ'.1 69 0 = 0 → mo (tm 100 nr) (fun j => A (tk 100 j)) (fun j => B (tk 100 j)) (fun j => h (tk 100 j)) (fun j => g (tk 100 j)) p0 (if 99 - hu < x then 99 - hu else x) M → Q (nI (cn + M)) σ') : fMi E (d + 5) mX4_mostCounted [.ref 64, .ref 4, .ref (16 + 2 * p), .int (nI x)] σ Q := by
  have hsg := H.sg 100
  obtain ⟨h1, h2, h3, h4, h5, h6, h7, h8, h9, h10, h11, h12, h13, h14, h15⟩ := id H
  have hpg : isPg (16 + 2 * p) := ⟨4, p, Or.inl rfl, h2, by omega⟩
  refine v_X4_mostCounted (Or.inl rfl) hpg ?_
  unfold t_X4_mostCounted
  refine c_takeR (b := 100) H h69 (x_none h1 (by decide)) (fun t t2 tf tR => ?_)
  rintro _ rfl
  have eL : (if (99 - t.1 (16 + 2 * p) 1) < nI x then (99 - t.1 (16 + 2 * p) 1) else nI x) = nI (if 99 - hu < x then 99 - hu else x) := by
    rw [tf _ _ (by omega) (by omega), h10, show (99 : Int32) = nI 99 from rfl, pk_sub h11]
    by_cases q : 99 - hu < x
    · rw [if_pos q, if_pos (nI_lt q (by omega))]
    · rw [if_neg q, if_neg (nI_nlt (by omega) (by omega))]
  rw [eL, fsI_k (by omega), tf _ _ (by omega) (by omega), h8]
  have hl : (if 99 - hu < x then 99 - hu else x) ≤ 99 := by split <;> omega
  generalize (if 99 - hu < x then 99 - hu else x) = lim at *
  have le := tm_le (b := 100) (nr := nr)
  have uR : sr_R (tm 100 nr) (fun j => A (tk 100 j)) (fun j => B (tk 100 j)) (fun j => h (tk 100 j)) (fun j => g (tk 100 j)) (fsI t 64 8 (nI lim)) := tR.cg (fun a i q => by rw [fsI_n (by omega)])
  generalize tm 100 nr = n at *
  generalize (fun j => A (tk 100 j)) = A' at *
  generalize (fun j => B (tk 100 j)) = B' at *
  generalize (fun j => h (tk 100 j)) = h' at *
  generalize (fun j => g (tk 100 j)) = g' at *
  have kl := rc_k_le g' n
  have pw : 2 ^ rc_k g' n ≤ 512 := Nat.le_trans (Nat.pow_le_pow_right (by decide) (show rc_k g' n ≤ 9 by omega)) (by decide)
  refine c_spread (lim := lim) (mg := 1000000000) (by omega) h9 uR hsg hl fsI_s (by decide) (fun u C u2 uf uv uI => ?_)
  have wR := uR.cg (fun a i q => uf a i (by omega))
  have ff : ∀ a i, (a < 64 ∨ 70 < a) → u.1 a i = σ.1 a i := fun a i q => by rw [uf _ _ (by omega), fsI_n (by omega), tf _ _ (by omega) (by omega)]
  have fin : ∀ M, (M = 0 ∨ ∃ s, s < 2 ^ rc_k g' n ∧ rc_h g' n s = M ∧ ∃ p, p < 6 ∧ C (s * 6 + p) ≠ 1000000000) → (∀ s, s < 2 ^ rc_k g' n → (∃ p, p < 6 ∧ C (s * 6 + p) ≠ 1000000000) → rc_h g' n s ≤ M) → Q (nI (cn + M)) u := by
    intro M m1 m2
    refine k u M (by rw [u2]; exact t2) ff wR.z ⟨?_, fun w w1 w2 => ?_⟩
    · rcases m1 with e | ⟨s, s1, s2, q, q6, q1⟩
      · exact ⟨[], trivial, Nat.zero_le _, by rw [rwH0, e]⟩
      · obtain ⟨w, w1, w2, w3, w4⟩ := uI.2.1 _ q1
        have h6 := sw_p6 h9 (fun r q => (hsg.s r q).1) (fun r q => (hsg.s r q).2.1) w w1
        unfold sf at w2
        have es : rc_s g' w = s := by omega
        exact ⟨w, w1, w4, by rw [← rc_h_q, es]; exact s2⟩
    · have c36 := rc_h36 (n := n) (s := rc_s g' w) (by omega) (fun r q => (hsg r q).2.2.2.1)
      have e36 := rc_h_q (wt := g') (nr := n) w
      have a := sp_all (by omega) hsg.s h9 hl uI w w1 (by omega) w2
      have lt := rc_s_lt (wt := g') (nr := n) w (sw_v_mem w w1)
      have h6 := sw_p6 h9 (fun r q => (hsg.s r q).1) (fun r q => (hsg.s r q).2.1) w w1
      have p := xn_parts (ρ := fun r => r) (fun r z => (hsg.s r z).2.2) (fun r z => by show r < 16; omega) w1 (by omega)
      have := m2 _ lt ⟨sw_p A' B' p0 w, h6, by unfold sf at a; omega⟩
      omega
  have key : ∀ l i M, i + l = 2 ^ rc_k g' n → (M = 0 ∨ ∃ s, s < i ∧ rc_h g' n s = M ∧ ∃ p, p < 6 ∧ C (s * 6 + p) ≠ 1000000000) → (∀ s, s < i → (∃ p, p < 6 ∧ C (s * 6 + p) ≠ 1000000000) → rc_h g' n s ≤ M) → M ≤ 36 → h_X4_mostCounted_38 E (d + 4) (16 + 2 * p) (nI M) (nI i) u Q := by
    intro l
    induction l with
    | zero =>
      intro i M hi m1 m2 m3
      refine v_X4_mostCounted_38 hpg ?_
      unfold t_X4_mostCounted_38
      rw [show i = 2 ^ rc_k g' n by omega] at *
      rw [wR.2.1, ff _ _ (by omega), h12, nI_add]
      exact ⟨fun _ => fin M m1 m2, fun q => absurd (nI_le (Nat.le_refl _) (by omega)) q⟩
    | succ l ih =>
      intro i M hi m1 m2 m3
      refine v_X4_mostCounted_38 hpg ?_
      unfold t_X4_mostCounted_38
      have c36 := rc_h36 (n := n) (s := i) (g := g') (by omega) (fun r q => (hsg r q).2.2.2.1)
      rw [wR.2.1, nI_clamp (show i < 2 ^ 31 by omega), wR.2.2.2 i (by omega), nI_leI (a := rc_h g' n i) (b := M) (by omega) (by omega), nI_1 i]
      have up : ∀ M', M ≤ M' → (M = 0 ∨ ∃ s, s < i ∧ rc_h g' n s = M ∧ ∃ p, p < 6 ∧ C (s * 6 + p) ≠ 1000000000) → M = M' → (M' = 0 ∨ ∃ s, s < i + 1 ∧ rc_h g' n s = M' ∧ ∃ p, p < 6 ∧ C (s * 6 + p) ≠ 1000000000) := by
        rintro M' - q rfl
        exact q.imp (fun z => z) (fun ⟨s, s1, s2⟩ => ⟨s, by omega, s2⟩)
      refine ⟨fun q => absurd q (nI_ge (by omega) (by omega)), fun _ => ⟨vp_in_nI (by omega) (by decide), fun q => ih (i + 1) M (by omega) (up M (Nat.le_refl _) m1 rfl) (fun s hs hz => ?_) m3, fun q => c_isReached (C := C) (by omega) (fun p hp' => ⟨by have := uI.1 (i * 6 + p); omega, uv _ (by omega)⟩) (fun q2 => ⟨fun _ => ?_, fun z => absurd rfl z⟩) (fun q2 => ⟨fun z => absurd z (by decide), fun _ => ⟨vp_in_nI (by omega) (by decide), ?_⟩⟩)⟩⟩
      · by_cases e : s = i
        · subst e; exact q
        · exact m2 s (by omega) hz
      · refine ih (i + 1) M (by omega) (up M (Nat.le_refl _) m1 rfl) (fun s hs hz => ?_) m3
        by_cases e : s = i
        · subst e
          obtain ⟨p', p6, z⟩ := hz
          exact absurd (q2 p' p6) z
        · exact m2 s (by omega) hz
      · rw [wR.2.2.2 i (by omega)]
        refine ih (i + 1) _ (by omega) (Or.inr ⟨i, by omega, rfl, q2⟩) (fun s hs hz => ?_) c36
        by_cases e : s = i
        · subst e; exact Nat.le_refl _
        · have := m2 s (by omega) hz
          omega
  exact key (2 ^ rc_k g' n) 0 0 (by omega) (Or.inl rfl) (fun s q => absurd q (by omega)) (by omega)
end SB
