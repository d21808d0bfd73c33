/-! Search: six rounds of settling close a set -/
theorem rx_to {h : Nat → Nat} {lim i x y : Nat} {C : Nat → Nat} (hx : C x ≠ 1000000000) (hl : sw_e h (C x) i / 2048 ≤ lim) : rx h lim C i x y y ≤ sw_e h (C x) i := by
  unfold rx
  split
  · show (if y = y then _ else C y) ≤ _
    rw [if_pos rfl]
    exact Nat.le_refl _
  · next q =>
    have : ¬ sw_e h (C x) i < C y := fun z => q ⟨hx, z, hl⟩
    omega
theorem rx_o {h : Nat → Nat} {lim i x y z : Nat} {C : Nat → Nat} (hz : z ≠ y) : rx h lim C i x y z = C z := by
  unfold rx
  split
  · show (if z = y then _ else C z) = C z
    rw [if_neg hz]
  · rfl
theorem rx_no {h : Nat → Nat} {lim i x y : Nat} {C : Nat → Nat} (hc : C x ≠ 1000000000 → sw_e h (C x) i / 2048 ≤ lim → C y ≤ sw_e h (C x) i) : rx h lim C i x y = C := by
  unfold rx
  rw [if_neg]
  rintro ⟨q1, q2, q3⟩
  have := hc q1 q3
  omega
/-- against the costs C at a round's start: those up to μ stand, the others stay above it -/
def st_I (C D : Nat → Nat) (b μ : Nat) : Prop := ∀ p, p < 6 → (C (b + p) ≤ μ → D (b + p) = C (b + p)) ∧ (μ < C (b + p) → μ < D (b + p)) ∧ D (b + p) ≤ C (b + p)
theorem st_rx {h : Nat → Nat} {lim i b μ t p q : Nat} {C D : Nat → Nat} (hI : st_I C D b μ) (hp : p < 6) (hq : q < 6) (h1 : 1 ≤ h i) (hK : C (b + p) < t → sw_e h (C (b + p)) i / 2048 ≤ lim → C (b + q) ≤ sw_e h (C (b + p)) i) (hm : C (b + p) < t ∨ μ ≤ C (b + p)) : st_I C (rx h lim D i (b + p) (b + q)) b μ := by
  intro z hz
  have Iz := hI z hz
  have Ip := hI p hp
  by_cases e : z = q
  · subst e
    unfold rx
    split
    · next c =>
      obtain ⟨c1, c2, c3⟩ := c
      show (C (b + z) ≤ μ → (if b + z = b + z then _ else D (b + z)) = C (b + z)) ∧ (μ < C (b + z) → μ < (if b + z = b + z then _ else D (b + z))) ∧ (if b + z = b + z then _ else D (b + z)) ≤ C (b + z)
      rw [if_pos rfl]
      have g := sw_e_ge (c := D (b + p)) h1
      have key : μ < sw_e h (D (b + p)) i := by
        rcases Nat.lt_or_ge μ (C (b + p)) with q1 | q1
        · have := Ip.2.1 q1
          omega
        · have e1 := Ip.1 q1
          rcases hm with q2 | q2
          · rw [e1] at c2 c3
            have := hK q2 c3
            have := Iz.2.2
            omega
          · omega
      have := Iz.2.2
      exact ⟨fun q2 => by omega, fun _ => key, by omega⟩
    · exact Iz
  · rw [rx_o (by omega)]
    exact Iz
/-- closed below t within a set -/
def st_K (n : Nat) (A B h g : Nat → Nat) (lim s : Nat) (C : Nat → Nat) (t : Nat) : Prop := ∀ r, r < n → rc_c g (s * 6) r = false → (C (s * 6 + A r) < t → sw_e h (C (s * 6 + A r)) r / 2048 ≤ lim → C (s * 6 + B r) ≤ sw_e h (C (s * 6 + A r)) r) ∧ (C (s * 6 + B r) < t → sw_e h (C (s * 6 + B r)) r / 2048 ≤ lim → C (s * 6 + A r) ≤ sw_e h (C (s * 6 + B r)) r)
section SX
variable {n : Nat} {A B h g : Nat → Nat} {lim s : Nat} {C : Nat → Nat}
theorem st_rs {t μ : Nat} (hr : ∀ r, r < n → A r < 6 ∧ B r < 6 ∧ 1 ≤ h r) (hK : st_K n A B h g lim s C t) (hm : ∀ p, p < 6 → C (s * 6 + p) < t ∨ μ ≤ C (s * 6 + p)) (hf : μ < 1000000000) : ∀ i, i ≤ n → st_I C (rs A B h g lim s C i) (s * 6) μ ∧ ∀ r, r < i → rc_c g (s * 6) r = false → (C (s * 6 + A r) ≤ μ → sw_e h (C (s * 6 + A r)) r / 2048 ≤ lim → rs A B h g lim s C i (s * 6 + B r) ≤ sw_e h (C (s * 6 + A r)) r) ∧ (C (s * 6 + B r) ≤ μ → sw_e h (C (s * 6 + B r)) r / 2048 ≤ lim → rs A B h g lim s C i (s * 6 + A r) ≤ sw_e h (C (s * 6 + B r)) r)
  | 0, _ => ⟨fun p _ => ⟨fun _ => rfl, fun q => q, Nat.le_refl _⟩, fun r q => absurd q (by omega)⟩
  | i + 1, hi => by
    obtain ⟨ih1, ih2⟩ := st_rs hr hK hm hf i (by omega)
    obtain ⟨a6, b6, h1⟩ := hr i (by omega)
    rw [rs]
    by_cases hb : rc_c g (s * 6) i = false
    · rw [if_pos hb]
      obtain ⟨k1, k2⟩ := hK i (by omega) hb
      have j1 := st_rx (lim := lim) ih1 a6 b6 h1 k1 (hm _ a6)
      have j2 := st_rx (lim := lim) j1 b6 a6 h1 k2 (hm _ b6)
      refine ⟨j2, fun r hr' hb' => ?_⟩
      by_cases e : r = i
      · subst e
        refine ⟨fun q1 q2 => ?_, fun q1 q2 => ?_⟩
        · have e1 := (ih1 _ a6).1 q1
          refine Nat.le_trans (rx_le _) ?_
          have := rx_to (h := h) (lim := lim) (C := rs A B h g lim s C r) (i := r) (x := s * 6 + A r) (y := s * 6 + B r) (by rw [e1]; omega) (by rw [e1]; exact q2)
          rw [e1] at this
          exact this
        · have e1 := (j1 _ b6).1 q1
          have := rx_to (h := h) (lim := lim) (C := rx h lim (rs A B h g lim s C r) r (s * 6 + A r) (s * 6 + B r)) (i := r) (x := s * 6 + B r) (y := s * 6 + A r) (by rw [e1]; omega) (by rw [e1]; exact q2)
          rw [e1] at this
          exact this
      · obtain ⟨m1, m2⟩ := ih2 r (by omega) hb'
        exact ⟨fun q1 q2 => Nat.le_trans (Nat.le_trans (rx_le _) (rx_le _)) (m1 q1 q2), fun q1 q2 => Nat.le_trans (Nat.le_trans (rx_le _) (rx_le _)) (m2 q1 q2)⟩
    · rw [if_neg hb]
      refine ⟨ih1, fun r hr' hb' => ?_⟩
      by_cases e : r = i
      · subst e; exact absurd hb' hb
      · exact ih2 r (by omega) hb'
theorem st_fix (hC : rx_b C) (hK : st_K n A B h g lim s C 1000000000) : ∀ i, i ≤ n → rs A B h g lim s C i = C
  | 0, _ => rfl
  | i + 1, hi => by
    rw [rs, st_fix hC hK i (by omega)]
    split
    · next hb =>
      obtain ⟨k1, k2⟩ := hK i (by omega) hb
      have f : ∀ z, C z ≠ 1000000000 → C z < 1000000000 := fun z q => by have := hC z; omega
      rw [rx_no (fun q => k1 (f _ q)), rx_no (fun q => k2 (f _ q))]
    · rfl
def st_N (C : Nat → Nat) (s t : Nat) : Nat := fb_ct (fun p => decide (C (s * 6 + p) < t)) 6
theorem st_round {m t : Nat} (hr : ∀ r, r < n → A r < 6 ∧ B r < 6 ∧ 1 ≤ h r) (hC : rx_b C) (hK : st_K n A B h g lim s C t) (hN : m ≤ st_N C s t) : st_K n A B h g lim s (rs A B h g lim s C n) 1000000000 ∨ ∃ t', st_K n A B h g lim s (rs A B h g lim s C n) t' ∧ m + 1 ≤ st_N (rs A B h g lim s C n) s t' := by
  obtain ⟨i, hi, hmin, -⟩ := fb_low (fun p => if C (s * 6 + p) < t then (1000000000 : Int) else (C (s * 6 + p) : Int)) (n := 6) (by decide)
  by_cases hx : C (s * 6 + i) < t ∨ 1000000000 ≤ C (s * 6 + i)
  · have all : ∀ p, p < 6 → C (s * 6 + p) < t ∨ 1000000000 ≤ C (s * 6 + p) := by
      intro p hp
      rcases Nat.lt_or_ge (C (s * 6 + p)) t with q | q
      · exact Or.inl q
      · have := hmin p hp
        rw [if_neg (show ¬ C (s * 6 + p) < t by omega)] at this
        rcases hx with hx | hx
        · rw [if_pos hx] at this; exact Or.inr (by omega)
        · by_cases h2 : C (s * 6 + i) < t
          · rw [if_pos h2] at this; exact Or.inr (by omega)
          · rw [if_neg h2] at this; exact Or.inr (by omega)
    have hK' : st_K n A B h g lim s C 1000000000 := by
      intro r hr' hb
      obtain ⟨a6, b6, h1⟩ := hr r hr'
      obtain ⟨k1, k2⟩ := hK r hr' hb
      exact ⟨fun q => k1 ((all _ a6).resolve_right (by omega)), fun q => k2 ((all _ b6).resolve_right (by omega))⟩
    left
    rw [st_fix hC hK' n (Nat.le_refl n)]
    exact hK'
  · right
    have hx1 : t ≤ C (s * 6 + i) := by omega
    have hx2 : C (s * 6 + i) < 1000000000 := by omega
    have hm : ∀ p, p < 6 → C (s * 6 + p) < t ∨ C (s * 6 + i) ≤ C (s * 6 + p) := by
      intro p hp
      rcases Nat.lt_or_ge (C (s * 6 + p)) t with q | q
      · exact Or.inl q
      · have := hmin p hp
        rw [if_neg (show ¬ C (s * 6 + p) < t by omega), if_neg (show ¬ C (s * 6 + i) < t by omega)] at this
        exact Or.inr (by omega)
    obtain ⟨j1, j2⟩ := st_rs hr hK hm hx2 n (Nat.le_refl n)
    refine ⟨C (s * 6 + i) + 1, fun r hr' hb => ?_, ?_⟩
    · obtain ⟨a6, b6, h1⟩ := hr r hr'
      obtain ⟨k1, k2⟩ := j2 r hr' hb
      refine ⟨fun q1 q2 => ?_, fun q1 q2 => ?_⟩
      · have c1 : C (s * 6 + A r) ≤ C (s * 6 + i) := by
          rcases Nat.lt_or_ge (C (s * 6 + i)) (C (s * 6 + A r)) with q | q
          · have := (j1 _ a6).2.1 q; omega
          · exact q
        have e := (j1 _ a6).1 c1
        rw [e] at q2 ⊢
        exact k1 c1 q2
      · have c1 : C (s * 6 + B r) ≤ C (s * 6 + i) := by
          rcases Nat.lt_or_ge (C (s * 6 + i)) (C (s * 6 + B r)) with q | q
          · have := (j1 _ b6).2.1 q; omega
          · exact q
        have e := (j1 _ b6).1 c1
        rw [e] at q2 ⊢
        exact k2 c1 q2
    · have u := fb_ct_upd (fun p => decide (C (s * 6 + p) < t)) true (i := i) (n := 6) hi
      have v := fb_ct_sub (p := fun k => if k = i then true else decide (C (s * 6 + k) < t)) (q := fun p => decide (rs A B h g lim s C n (s * 6 + p) < C (s * 6 + i) + 1)) (n := 6) (fun k hk q => by
        have jk := j1 k hk
        apply decide_eq_true
        by_cases e : k = i
        · subst e
          rw [jk.1 (Nat.le_refl _)]
          omega
        · simp only [e, if_false, decide_eq_true_eq] at q
          rw [jk.1 (by omega)]
          omega)
      have e0 : ¬ C (s * 6 + i) < t := by omega
      simp only [e0, decide_false, if_true] at u
      unfold st_N at hN ⊢
      have : fb_ct (fun k => if k = i then true else decide (C (s * 6 + k) < t)) 6 = fb_ct (fun p => decide (C (s * 6 + p) < t)) 6 + 1 := by simpa using u
      omega
theorem st_six (hr : ∀ r, r < n → A r < 6 ∧ B r < 6 ∧ 1 ≤ h r) (hl : lim ≤ 99) (hC : rx_b C) : ∀ m, st_K n A B h g lim s (rs_i A B h g lim s n C m) 1000000000 ∨ ∃ t, st_K n A B h g lim s (rs_i A B h g lim s n C m) t ∧ m ≤ st_N (rs_i A B h g lim s n C m) s t
  | 0 => Or.inr ⟨0, fun r _ _ => ⟨fun q => absurd q (by omega), fun q => absurd q (by omega)⟩, Nat.zero_le _⟩
  | m + 1 => by
    rw [rs_i]
    have ok := rs_i_ok (A := A) (B := B) (h := h) (g := g) (s := s) (n := n) hl hC m
    rcases st_six hr hl hC m with k | ⟨t, k1, k2⟩
    · left
      rw [st_fix ok k n (Nat.le_refl n)]
      exact k
    · exact st_round hr ok k1 k2
/-- what settle leaves is closed within the set -/
theorem st_done {m : Nat} (hr : ∀ r, r < n → A r < 6 ∧ B r < 6 ∧ 1 ≤ h r) (hl : lim ≤ 99) (hC : rx_b C) (hm : m = 6 ∨ rs A B h g lim s (rs_i A B h g lim s n C m) n = rs_i A B h g lim s n C m) : st_K n A B h g lim s (rs_i A B h g lim s n C m) 1000000000 := by
  have ok := rs_i_ok (A := A) (B := B) (h := h) (g := g) (s := s) (n := n) hl hC m
  rcases hm with e | e
  · subst e
    rcases st_six (g := g) (s := s) hr hl hC 6 with k | ⟨t, k1, k2⟩
    · exact k
    · have le := fb_ct_le (fun p => decide (rs_i A B h g lim s n C 6 (s * 6 + p) < t)) 6
      have all := fb_ct_all.mp (show fb_ct (fun p => decide (rs_i A B h g lim s n C 6 (s * 6 + p) < t)) 6 = 6 by unfold st_N at k2; omega)
      intro r hr' hb
      obtain ⟨a6, b6, h1⟩ := hr r hr'
      obtain ⟨q1, q2⟩ := k1 r hr' hb
      exact ⟨fun _ => q1 (of_decide_eq_true (all _ a6)), fun _ => q2 (of_decide_eq_true (all _ b6))⟩
  · intro r hr' hb
    obtain ⟨q1, q2⟩ := rs_closed hr' e hb
    exact ⟨fun q l => rx_same q1 (by omega) l, fun q l => rx_same q2 (by omega) l⟩
end SX
