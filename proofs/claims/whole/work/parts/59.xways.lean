/-! ways in general: the first road by a number of its own -/
def xe (h ρ : Nat → Nat) (c r : Nat) : Nat := c + h r * 2048 + 16 + (if c = 0 then ρ r else 0)
def xn (h ρ : Nat → Nat) : List Nat → Nat
  | [] => 0
  | r :: w => xe h ρ (xn h ρ w) r
def xf (ρ : Nat → Nat) : List Nat → Nat
  | [] => 0
  | [r] => ρ r
  | _ :: w => xf ρ w
section XW
variable {n : Nat} {A B h ρ : Nat → Nat} {p0 : Nat}
theorem xe_ge {c r : Nat} (h1 : 1 ≤ h r) : c + 2064 ≤ xe h ρ c r := by
  unfold xe
  have : 2048 ≤ h r * 2048 := Nat.le_mul_of_pos_left _ h1
  omega
theorem xe_c {c r : Nat} (h1 : 1 ≤ h r) : sw_c (xe h ρ c r) := Or.inr (by have := xe_ge (ρ := ρ) (c := c) h1; omega)
theorem xe_mono {c c' r : Nat} (hr : ρ r < 16) (h1 : sw_c c) (h2 : sw_c c') (hc : c ≤ c') : xe h ρ c r ≤ xe h ρ c' r := by
  unfold xe
  unfold sw_c at h1 h2
  by_cases e : c = 0
  · rw [if_pos e]
    by_cases e' : c' = 0
    · rw [if_pos e']; omega
    · rw [if_neg e']; omega
  · rw [if_neg e, if_neg (by omega)]; omega
theorem xn_c (hh : ∀ r, r < n → 1 ≤ h r) : ∀ w, sw_v n A B p0 w → sw_c (xn h ρ w)
  | [], _ => Or.inl rfl
  | r :: w, hv => xe_c (hh r hv.2.1)
theorem xn_0 (hh : ∀ r, r < n → 1 ≤ h r) : ∀ w, sw_v n A B p0 w → (xn h ρ w = 0 ↔ w = [])
  | [], _ => ⟨fun _ => rfl, fun _ => rfl⟩
  | r :: w, hv => ⟨fun z => by
      have := xe_ge (ρ := ρ) (c := xn h ρ w) (hh r hv.2.1)
      rw [xn] at z
      omega, fun z => absurd z (by simp)⟩
theorem xn_eq (hh : ∀ r, r < n → 1 ≤ h r) : ∀ w, sw_v n A B p0 w → xn h ρ w = sw_h h w * 2048 + w.length * 16 + xf ρ w
  | [], _ => by simp [xn, sw_h, xf]
  | [r], hv => by
    show xe h ρ 0 r = (0 + h r) * 2048 + 1 * 16 + ρ r
    unfold xe
    rw [if_pos rfl]
    omega
  | r :: s :: w, hv => by
    have ih := xn_eq hh (s :: w) hv.1
    have nz : ¬ xn h ρ (s :: w) = 0 := fun z => absurd ((xn_0 hh (s :: w) hv.1).mp z) (by simp)
    show xe h ρ (xn h ρ (s :: w)) r = (sw_h h (s :: w) + h r) * 2048 + ((s :: w).length + 1) * 16 + xf ρ (s :: w)
    unfold xe
    rw [if_neg nz, ih]
    omega
theorem xf_lt (hρ : ∀ r, r < n → ρ r < 16) : ∀ w, sw_v n A B p0 w → xf ρ w < 16
  | [], _ => by show 0 < 16; omega
  | [r], hv => hρ r hv.2.1
  | _ :: s :: w, hv => xf_lt hρ (s :: w) hv.1
theorem xn_parts (hh : ∀ r, r < n → 1 ≤ h r) (hρ : ∀ r, r < n → ρ r < 16) {w : List Nat} (hv : sw_v n A B p0 w) (hl : sw_h h w ≤ 99) : xn h ρ w / 2048 = sw_h h w ∧ xn h ρ w / 16 % 128 = w.length ∧ xn h ρ w % 16 = xf ρ w ∧ xn h ρ w < 2 ^ 20 := by
  have e := xn_eq (ρ := ρ) hh w hv
  have l := sw_len hh w hv
  have f := xf_lt hρ w hv
  omega
theorem xn_h (hh : ∀ r, r < n → 1 ≤ h r) {w : List Nat} {lim : Nat} (hv : sw_v n A B p0 w) (hl : xn h ρ w / 2048 ≤ lim) : sw_h h w ≤ lim := by
  have e := xn_eq (ρ := ρ) hh w hv
  omega
theorem xn_sw : ∀ w, sw_n h w = xn h (fun r => r) w
  | [] => rfl
  | r :: w => by rw [sw_n, xn, xn_sw w]; rfl
theorem sw_v_mem : ∀ w, sw_v n A B p0 w → ∀ r, r ∈ w → r < n
  | [], _, r, hr => absurd hr (by simp)
  | r' :: w, hv, r, hr => by
    rcases List.mem_cons.mp hr with e | e
    · subst e; exact hv.2.1
    · exact sw_v_mem w hv.1 r e
/-- closed costs are below every walk's -/
theorem x_closed {lim : Nat} {F : List Nat → Nat} {C : Nat → Nat} {Al : List Nat → Prop} (hρ : ∀ r, r < n → ρ r < 16) (hh : ∀ r, r < n → 1 ≤ h r) (hC : ∀ w, sw_v n A B p0 w → C (F w) ≠ 1000000000 → sw_c (C (F w))) (h0 : C (F []) = 0) (hAl : ∀ r w, Al (r :: w) → Al w) (hl9 : lim ≤ 99)
    (hcl : ∀ w r, sw_v n A B p0 (r :: w) → Al (r :: w) → C (F w) ≠ 1000000000 → xe h ρ (C (F w)) r / 2048 ≤ lim → C (F (r :: w)) ≤ xe h ρ (C (F w)) r) : ∀ w, sw_v n A B p0 w → Al w → sw_h h w ≤ lim → C (F w) ≤ xn h ρ w
  | [], _, _, _ => by rw [h0]; exact Nat.zero_le _
  | r :: w, hv, ha, hl => by
    have hr := hh r hv.2.1
    have e1 : sw_h h (r :: w) = sw_h h w + h r := rfl
    have c2 := x_closed hρ hh hC h0 hAl hl9 hcl w hv.1 (hAl r w ha) (by omega)
    have p1 := xn_parts (ρ := ρ) hh hρ hv.1 (by omega)
    have p2 := xn_parts (ρ := ρ) hh hρ hv (by omega)
    have nf : C (F w) ≠ 1000000000 := by omega
    have m := xe_mono (h := h) (ρ := ρ) (r := r) (hρ r hv.2.1) (hC w hv.1 nf) (xn_c (ρ := ρ) hh w hv.1) c2
    have e2 : xn h ρ (r :: w) = xe h ρ (xn h ρ w) r := rfl
    have d := hcl w r hv ha nf (by omega)
    omega
end XW
/-! Search: what the costs say of walks -/
def sf (A B g : Nat → Nat) (p0 : Nat) (w : List Nat) : Nat := rc_s g w * 6 + sw_p A B p0 w
def sp_S (n : Nat) (A B h g : Nat → Nat) (p0 lim : Nat) (C : Nat → Nat) : Prop := ∀ z, C z ≠ 1000000000 → ∃ w, sw_v n A B p0 w ∧ sf A B g p0 w = z ∧ xn h (fun r => r) w = C z ∧ sw_h h w ≤ lim
def sp_C (n : Nat) (A B h g : Nat → Nat) (lim mg : Nat) (C : Nat → Nat) (z : Nat) : Prop := ∀ r, r < n → (z % 6 = A r ∨ z % 6 = B r) → C z ≠ 1000000000 → sw_e h (C z) r / 2048 ≤ lim → (rc_c g z r = true → rc_h g n (z / 6 ||| rc_b g r) ≤ mg) → C (rc_st A B g z r) ≤ sw_e h (C z) r
section SP
variable {n : Nat} {A B h g : Nat → Nat} {p0 lim mg s : Nat} {C : Nat → Nat}
theorem sf_st {r : Nat} {w : List Nat} (h6 : sw_p A B p0 w < 6) : sf A B g p0 (r :: w) = rc_st A B g (sf A B g p0 w) r := by
  have e1 : sf A B g p0 w / 6 = rc_s g w := by unfold sf; omega
  have e2 : sf A B g p0 w % 6 = sw_p A B p0 w := by unfold sf; omega
  unfold rc_st
  rw [e1, e2]
  rfl
theorem rc_in {i : Nat} (hc : rc_c g (s * 6) i = false) : s ||| rc_b g i = s := by
  unfold rc_c at hc
  rw [Nat.mul_div_cancel s (by decide)] at hc
  unfold rc_b
  by_cases q : 0 < g i
  · rw [if_pos q]
    apply Nat.eq_of_testBit_eq
    intro j
    rw [fb_bit_set]
    by_cases e : j = rc_k g i
    · subst e
      simp [q] at hc
      simp [hc]
    · simp [e]
  · rw [if_neg q, Nat.or_zero]
theorem rc_up {i : Nat} (hc : rc_c g (s * 6) i = true) : s < s ||| rc_b g i := by
  unfold rc_c at hc
  rw [Nat.mul_div_cancel s (by decide)] at hc
  simp only [Bool.and_eq_true, decide_eq_true_eq, Bool.not_eq_true'] at hc
  have l : s ≤ s ||| rc_b g i := Nat.left_le_or
  rcases Nat.lt_or_ge s (s ||| rc_b g i) with q | q
  · exact q
  · have e : s ||| rc_b g i = s := by omega
    have t := congrArg (fun x => Nat.testBit x (rc_k g i)) e
    unfold rc_b at t
    rw [if_pos hc.1, fb_bit_set, hc.2] at t
    simp at t
theorem rc_st_A {i : Nat} (a6 : A i < 6) : rc_st A B g (s * 6 + A i) i = (s ||| rc_b g i) * 6 + B i := by
  unfold rc_st rl_x
  rw [show (s * 6 + A i) / 6 = s by omega, show (s * 6 + A i) % 6 = A i by omega, if_pos rfl]
theorem rc_st_B {i : Nat} (b6 : B i < 6) : rc_st A B g (s * 6 + B i) i = (s ||| rc_b g i) * 6 + A i := by
  unfold rc_st rl_x
  rw [show (s * 6 + B i) / 6 = s by omega, show (s * 6 + B i) % 6 = B i by omega]
  split
  · next e => rw [e]
  · rfl
theorem sp_rx {i x y : Nat} (hr : ∀ r, r < n → A r < 6 ∧ B r < 6 ∧ 1 ≤ h r) (hp : p0 < 6) (hi : i < n) (hx : x % 6 = A i ∨ x % 6 = B i) (hy : rc_st A B g x i = y) (hS : sp_S n A B h g p0 lim C) : sp_S n A B h g p0 lim (rx h lim C i x y) := by
  intro z hz
  unfold rx at hz ⊢
  by_cases c : C x ≠ 1000000000 ∧ sw_e h (C x) i < C y ∧ sw_e h (C x) i / 2048 ≤ lim
  · rw [if_pos c] at hz ⊢
    show ∃ w, sw_v n A B p0 w ∧ sf A B g p0 w = z ∧ xn h (fun r => r) w = (if z = y then _ else C z) ∧ _
    replace hz : (if z = y then sw_e h (C x) i else C z) ≠ 1000000000 := hz
    by_cases e : z = y
    · rw [if_pos e]
      obtain ⟨w, w1, w2, w3, w4⟩ := hS x c.1
      have h6 := sw_p6 hp (fun r q => (hr r q).1) (fun r q => (hr r q).2.1) w w1
      have e2 : x % 6 = sw_p A B p0 w := by rw [← w2]; unfold sf; omega
      have v : sw_v n A B p0 (i :: w) := ⟨w1, hi, by rw [← e2]; exact hx⟩
      have e3 : xn h (fun r => r) (i :: w) = sw_e h (C x) i := by rw [xn, w3]; rfl
      refine ⟨i :: w, v, by rw [sf_st h6, w2, hy, e], e3, xn_h (ρ := fun r => r) (fun r q => (hr r q).2.2) v (by rw [e3]; exact c.2.2)⟩
    · rw [if_neg e] at hz ⊢
      exact hS z hz
  · rw [if_neg c] at hz ⊢
    exact hS z hz
theorem sp_rs (hr : ∀ r, r < n → A r < 6 ∧ B r < 6 ∧ 1 ≤ h r) (hp : p0 < 6) (hS : sp_S n A B h g p0 lim C) : ∀ i, i ≤ n → sp_S n A B h g p0 lim (rs A B h g lim s C i)
  | 0, _ => hS
  | i + 1, hi => by
    obtain ⟨a6, b6, h1⟩ := hr i (by omega)
    rw [rs]
    split
    · next hb =>
      refine sp_rx hr hp (by omega) (Or.inr (by omega)) ?_ (sp_rx hr hp (by omega) (Or.inl (by omega)) ?_ (sp_rs hr hp hS i (by omega)))
      · rw [rc_st_B b6, rc_in hb]
      · rw [rc_st_A a6, rc_in hb]
    · exact sp_rs hr hp hS i (by omega)
theorem sp_rsi (hr : ∀ r, r < n → A r < 6 ∧ B r < 6 ∧ 1 ≤ h r) (hp : p0 < 6) (hS : sp_S n A B h g p0 lim C) : ∀ m, sp_S n A B h g p0 lim (rs_i A B h g lim s n C m)
  | 0 => hS
  | m + 1 => sp_rs hr hp (sp_rsi hr hp hS m) n (Nat.le_refl n)
theorem sp_lv (hr : ∀ r, r < n → A r < 6 ∧ B r < 6 ∧ 1 ≤ h r) (hp : p0 < 6) (hS : sp_S n A B h g p0 lim C) : ∀ i, i ≤ n → sp_S n A B h g p0 lim (lv A B h g lim n mg s C i)
  | 0, _ => hS
  | i + 1, hi => by
    obtain ⟨a6, b6, h1⟩ := hr i (by omega)
    rw [lv]
    split
    · next hb =>
      exact sp_rx hr hp (by omega) (Or.inr (by omega)) (rc_st_B b6) (sp_rx hr hp (by omega) (Or.inl (by omega)) (rc_st_A a6) (sp_lv hr hp hS i (by omega)))
    · exact sp_lv hr hp hS i (by omega)
theorem rs_fr {z : Nat} (hr : ∀ r, r < n → A r < 6 ∧ B r < 6 ∧ 1 ≤ h r) (hz : z / 6 ≠ s) : ∀ i, i ≤ n → rs A B h g lim s C i z = C z
  | 0, _ => rfl
  | i + 1, hi => by
    obtain ⟨a6, b6, h1⟩ := hr i (by omega)
    rw [rs]
    split
    · rw [rx_o (by omega), rx_o (by omega), rs_fr hr hz i (by omega)]
    · exact rs_fr hr hz i (by omega)
theorem rsi_fr {z : Nat} (hr : ∀ r, r < n → A r < 6 ∧ B r < 6 ∧ 1 ≤ h r) (hz : z / 6 ≠ s) : ∀ m, rs_i A B h g lim s n C m z = C z
  | 0 => rfl
  | m + 1 => by rw [rs_i, rs_fr hr hz n (Nat.le_refl n), rsi_fr hr hz m]
theorem rsi_le {z : Nat} : ∀ m, rs_i A B h g lim s n C m z ≤ C z
  | 0 => Nat.le_refl _
  | m + 1 => by
    have := rs_le (A := A) (B := B) (h := h) (g := g) (lim := lim) (s := s) (C := rs_i A B h g lim s n C m) 0 z n
    rw [Nat.zero_add] at this
    exact Nat.le_trans this (rsi_le m)
theorem lv_fr {z : Nat} (hr : ∀ r, r < n → A r < 6 ∧ B r < 6 ∧ 1 ≤ h r) (hz : z / 6 ≤ s) : ∀ i, i ≤ n → lv A B h g lim n mg s C i z = C z
  | 0, _ => rfl
  | i + 1, hi => by
    obtain ⟨a6, b6, h1⟩ := hr i (by omega)
    rw [lv]
    split
    · next hb =>
      have := rc_up hb.1
      rw [rx_o (by omega), rx_o (by omega), lv_fr hr hz i (by omega)]
    · exact lv_fr hr hz i (by omega)
theorem lv_le1 (i z : Nat) : lv A B h g lim n mg s C (i + 1) z ≤ lv A B h g lim n mg s C i z := by
  rw [lv]
  split
  · exact Nat.le_trans (rx_le z) (rx_le z)
  · exact Nat.le_refl _
theorem lv_le (i z : Nat) : ∀ m, lv A B h g lim n mg s C (i + m) z ≤ lv A B h g lim n mg s C i z
  | 0 => Nat.le_refl _
  | m + 1 => Nat.le_trans (lv_le1 (i + m) z) (lv_le i z m)
theorem lv_to {r : Nat} (hr : ∀ r, r < n → A r < 6 ∧ B r < 6 ∧ 1 ≤ h r) (hrn : r < n) (hb : rc_c g (s * 6) r = true ∧ rc_h g n (s ||| rc_b g r) ≤ mg) : (C (s * 6 + A r) ≠ 1000000000 → sw_e h (C (s * 6 + A r)) r / 2048 ≤ lim → lv A B h g lim n mg s C n ((s ||| rc_b g r) * 6 + B r) ≤ sw_e h (C (s * 6 + A r)) r) ∧ (C (s * 6 + B r) ≠ 1000000000 → sw_e h (C (s * 6 + B r)) r / 2048 ≤ lim → lv A B h g lim n mg s C n ((s ||| rc_b g r) * 6 + A r) ≤ sw_e h (C (s * 6 + B r)) r) := by
  obtain ⟨a6, b6, h1⟩ := hr r hrn
  have le := fun z => lv_le (A := A) (B := B) (h := h) (g := g) (lim := lim) (n := n) (mg := mg) (s := s) (C := C) (r + 1) z (n - (r + 1))
  rw [show r + 1 + (n - (r + 1)) = n by omega] at le
  have e : lv A B h g lim n mg s C (r + 1) = rx h lim (rx h lim (lv A B h g lim n mg s C r) r (s * 6 + A r) ((s ||| rc_b g r) * 6 + B r)) r (s * 6 + B r) ((s ||| rc_b g r) * 6 + A r) := by rw [lv, if_pos hb]
  have up := rc_up hb.1
  have ea := lv_fr (lim := lim) (mg := mg) (g := g) (s := s) (C := C) (z := s * 6 + A r) hr (by omega) r (by omega)
  have eb := lv_fr (lim := lim) (mg := mg) (g := g) (s := s) (C := C) (z := s * 6 + B r) hr (by omega) r (by omega)
  refine ⟨fun q1 q2 => Nat.le_trans (le _) ?_, fun q1 q2 => Nat.le_trans (le _) ?_⟩
  · rw [e]
    refine Nat.le_trans (rx_le _) ?_
    have := rx_to (h := h) (lim := lim) (C := lv A B h g lim n mg s C r) (i := r) (x := s * 6 + A r) (y := (s ||| rc_b g r) * 6 + B r) (by rw [ea]; exact q1) (by rw [ea]; exact q2)
    rw [ea] at this
    exact this
  · rw [e]
    have e1 : rx h lim (lv A B h g lim n mg s C r) r (s * 6 + A r) ((s ||| rc_b g r) * 6 + B r) (s * 6 + B r) = C (s * 6 + B r) := by rw [rx_o (by omega)]; exact eb
    have := rx_to (h := h) (lim := lim) (C := rx h lim (lv A B h g lim n mg s C r) r (s * 6 + A r) ((s ||| rc_b g r) * 6 + B r)) (i := r) (x := s * 6 + B r) (y := (s ||| rc_b g r) * 6 + A r) (by rw [e1]; exact q1) (by rw [e1]; exact q2)
    rw [e1] at this
    exact this
/-- the sets below s are done -/
def sp_I (n : Nat) (A B h g : Nat → Nat) (p0 lim mg : Nat) (C : Nat → Nat) (s : Nat) : Prop := rx_b C ∧ sp_S n A B h g p0 lim C ∧ C p0 = 0 ∧ ∀ z, z / 6 < s → sp_C n A B h g lim mg C z
theorem sp_skip (hI : sp_I n A B h g p0 lim mg C s) (hf : ∀ p, p < 6 → C (s * 6 + p) = 1000000000) : sp_I n A B h g p0 lim mg C (s + 1) := by
  refine ⟨hI.1, hI.2.1, hI.2.2.1, fun z hz => ?_⟩
  by_cases e : z / 6 = s
  · intro r _ _ q
    have := hf (z % 6) (by omega)
    rw [show s * 6 + z % 6 = z by omega] at this
    exact absurd this q
  · exact hI.2.2.2 z (by omega)
theorem sp_step {m : Nat} (hr : ∀ r, r < n → A r < 6 ∧ B r < 6 ∧ 1 ≤ h r) (hp : p0 < 6) (hl : lim ≤ 99) (hI : sp_I n A B h g p0 lim mg C s) (hm : m = 6 ∨ rs A B h g lim s (rs_i A B h g lim s n C m) n = rs_i A B h g lim s n C m) : sp_I n A B h g p0 lim mg (lv A B h g lim n mg s (rs_i A B h g lim s n C m) n) (s + 1) := by
  obtain ⟨i1, i2, i3, i4⟩ := hI
  have hK := st_done (g := g) (s := s) hr hl i1 hm
  have ok := rs_i_ok (A := A) (B := B) (h := h) (g := g) (s := s) (n := n) hl i1 m
  have fr := fun z hz => rsi_fr (A := A) (B := B) (g := g) (lim := lim) (s := s) (C := C) (z := z) hr hz m
  have le1 := fun z => rsi_le (A := A) (B := B) (h := h) (g := g) (lim := lim) (s := s) (n := n) (C := C) (z := z) m
  have S1 := sp_rsi (g := g) (s := s) hr hp i2 m
  generalize rs_i A B h g lim s n C m = C1 at *
  have le2 := fun z => lv_le (A := A) (B := B) (h := h) (g := g) (lim := lim) (n := n) (mg := mg) (s := s) (C := C1) 0 z n
  simp only [Nat.zero_add] at le2
  have e0 : lv A B h g lim n mg s C1 0 = C1 := rfl
  simp only [e0] at le2
  have fr2 := fun z hz => lv_fr (A := A) (B := B) (g := g) (lim := lim) (mg := mg) (s := s) (C := C1) (z := z) hr hz n (Nat.le_refl n)
  refine ⟨lv_ok hl ok n, sp_lv hr hp S1 n (Nat.le_refl n), ?_, fun z hz => ?_⟩
  · have := le2 p0
    have := le1 p0
    omega
  · by_cases e : z / 6 = s
    · intro r hrn ht hf hl2 hg
      obtain ⟨a6, b6, h1⟩ := hr r hrn
      rw [fr2 z (by omega)] at hf hl2 ⊢
      have zs : s * 6 + z % 6 = z := by omega
      have lt : C1 z < 1000000000 := by have := ok z; omega
      have ec : rc_c g (s * 6) r = rc_c g z r := by unfold rc_c; rw [Nat.mul_div_cancel s (by decide), e]
      cases hb : rc_c g z r
      · rw [hb] at ec
        obtain ⟨k1, k2⟩ := hK r hrn ec
        rcases ht with q | q
        · rw [q] at zs
          rw [← zs] at lt hl2 ⊢
          rw [rc_st_A a6, rc_in ec]
          exact Nat.le_trans (le2 _) (k1 lt hl2)
        · rw [q] at zs
          rw [← zs] at lt hl2 ⊢
          rw [rc_st_B b6, rc_in ec]
          exact Nat.le_trans (le2 _) (k2 lt hl2)
      · rw [hb] at ec
        have hg' := hg hb
        rw [e] at hg'
        obtain ⟨k1, k2⟩ := lv_to (lim := lim) (C := C1) hr hrn ⟨ec, hg'⟩
        rcases ht with q | q
        · rw [q] at zs
          rw [← zs] at hf hl2 ⊢
          rw [rc_st_A a6]
          exact k1 hf hl2
        · rw [q] at zs
          rw [← zs] at hf hl2 ⊢
          rw [rc_st_B b6]
          exact k2 hf hl2
    · intro r hrn ht hf hl2 hg
      have ez : lv A B h g lim n mg s C1 n z = C z := by rw [fr2 z (by omega), fr z (by omega)]
      rw [ez] at hf hl2 ⊢
      exact Nat.le_trans (le2 _) (Nat.le_trans (le1 _) (i4 z (by omega) r hrn ht hf hl2 hg))
theorem rc_h_or {b : Nat} : rc_h g n s ≤ rc_h g n (s ||| b) := by
  unfold rc_h
  refine fb_sm_le (fun r _ => ?_)
  by_cases q : 0 < g r ∧ s.testBit (rc_k g r) = true
  · rw [if_pos q, if_pos ⟨q.1, by rw [Nat.testBit_or, q.2]; rfl⟩]
    exact Nat.le_refl _
  · rw [if_neg q]
    exact Nat.zero_le _
/-- all sets done: the least cost of a walk -/
theorem sp_all (hn : n ≤ 9) (hr : ∀ r, r < n → A r < 6 ∧ B r < 6 ∧ 1 ≤ h r) (hp : p0 < 6) (hl : lim ≤ 99) (hI : sp_I n A B h g p0 lim mg C (2 ^ rc_k g n)) (w : List Nat) (hv : sw_v n A B p0 w) (hg : rwH n g w ≤ mg) (hw : sw_h h w ≤ lim) : C (sf A B g p0 w) ≤ xn h (fun r => r) w := by
  obtain ⟨i1, i2, i3, i4⟩ := hI
  have hh : ∀ r, r < n → 1 ≤ h r := fun r q => (hr r q).2.2
  refine x_closed (F := sf A B g p0) (C := C) (Al := fun w => rc_h g n (rc_s g w) ≤ mg) (ρ := fun r => r) (fun r q => by show r < 16; omega) hh ?_ ?_ ?_ hl ?_ w hv (by rw [rc_h_q]; exact hg) hw
  · intro w' hv' hf
    obtain ⟨w2, v1, v2, v3, v4⟩ := i2 _ hf
    rw [← v3]
    exact xn_c hh w2 v1
  · show C (0 * 6 + p0) = 0
    rw [Nat.zero_mul, Nat.zero_add]
    exact i3
  · intro r w' q
    exact Nat.le_trans rc_h_or q
  · intro w' r hv' ha hf hx
    have h6 := sw_p6 hp (fun r q => (hr r q).1) (fun r q => (hr r q).2.1) w' hv'.1
    have ed : sf A B g p0 w' / 6 = rc_s g w' := by unfold sf; omega
    have em' : sf A B g p0 w' % 6 = sw_p A B p0 w' := by unfold sf; omega
    have lt := rc_s_lt (wt := g) (nr := n) w' (sw_v_mem w' hv'.1)
    rw [sf_st h6]
    refine i4 (sf A B g p0 w') (by omega) r hv'.2.1 (by rw [em']; exact hv'.2.2) hf hx (fun _ => ?_)
    rw [ed]
    exact ha
end SP
