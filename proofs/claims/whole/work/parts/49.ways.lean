/-! ways: walks over roads and what they cost -/
def sw_p (A B : Nat → Nat) (p0 : Nat) : List Nat → Nat
  | [] => p0
  | r :: w => rl_x A B (sw_p A B p0 w) r
def sw_v (n : Nat) (A B : Nat → Nat) (p0 : Nat) : List Nat → Prop
  | [] => True
  | r :: w => sw_v n A B p0 w ∧ r < n ∧ (sw_p A B p0 w = A r ∨ sw_p A B p0 w = B r)
/-- the cost behind one more road -/
def sw_e (h : Nat → Nat) (c r : Nat) : Nat := c + h r * 2048 + 16 + (if c = 0 then r else 0)
def sw_n (h : Nat → Nat) : List Nat → Nat
  | [] => 0
  | r :: w => sw_e h (sw_n h w) r
def sw_c (c : Nat) : Prop := c = 0 ∨ 2064 ≤ c
section SW
variable {n : Nat} {A B h : Nat → Nat} {p0 : Nat}
theorem sw_e_ge {c r : Nat} (h1 : 1 ≤ h r) : c + 2064 ≤ sw_e h c r := by
  unfold sw_e
  have : 2048 ≤ h r * 2048 := Nat.le_mul_of_pos_left _ h1
  omega
theorem sw_e_c {c r : Nat} (h1 : 1 ≤ h r) : sw_c (sw_e h c r) := Or.inr (by have := sw_e_ge (c := c) h1; omega)
theorem sw_e_mono {c c' r : Nat} (hr : r < 16) (h1 : sw_c c) (h2 : sw_c c') (hc : c ≤ c') : sw_e h c r ≤ sw_e h c' r := by
  unfold sw_e
  unfold sw_c at h1 h2
  by_cases e : c = 0
  · rw [if_pos e]
    by_cases e' : c' = 0
    · rw [if_pos e']; omega
    · rw [if_neg e']; omega
  · rw [if_neg e, if_neg (by omega)]; omega
theorem sw_n_c (hh : ∀ r, r < n → 1 ≤ h r) : ∀ w, sw_v n A B p0 w → sw_c (sw_n h w)
  | [], _ => Or.inl rfl
  | r :: w, hv => sw_e_c (hh r hv.2.1)
theorem sw_n_0 (hh : ∀ r, r < n → 1 ≤ h r) : ∀ w, sw_v n A B p0 w → (sw_n h w = 0 ↔ w = [])
  | [], _ => ⟨fun _ => rfl, fun _ => rfl⟩
  | r :: w, hv => ⟨fun z => by
      have := sw_e_ge (c := sw_n h w) (hh r hv.2.1)
      rw [sw_n] at z
      omega, fun z => absurd z (by simp)⟩
theorem sw_p6 (hp : p0 < 6) (hA : ∀ r, r < n → A r < 6) (hB : ∀ r, r < n → B r < 6) : ∀ w, sw_v n A B p0 w → sw_p A B p0 w < 6
  | [], _ => hp
  | r :: w, hv => rl_x6 (hA r hv.2.1) (hB r hv.2.1)
/-- closed costs are below every walk's -/
theorem sw_closed {lim : Nat} {F : List Nat → Nat} {C : Nat → Option Nat} {Al : List Nat → Prop} (hn : n ≤ 16) (hh : ∀ r, r < n → 1 ≤ h r) (hC : ∀ x c, C x = some c → sw_c c) (h0 : C (F []) = some 0) (hAl : ∀ r w, Al (r :: w) → Al w)
    (hcl : ∀ w r c, sw_v n A B p0 (r :: w) → Al (r :: w) → C (F w) = some c → sw_e h c r / 2048 ≤ lim → ∃ c', C (F (r :: w)) = some c' ∧ c' ≤ sw_e h c r) : ∀ w, sw_v n A B p0 w → Al w → sw_n h w / 2048 ≤ lim → ∃ c, C (F w) = some c ∧ c ≤ sw_n h w
  | [], _, _, _ => ⟨0, h0, Nat.le_refl _⟩
  | r :: w, hv, ha, hl => by
    have hr := hh r hv.2.1
    have g := sw_e_ge (c := sw_n h w) hr
    rw [sw_n] at hl
    obtain ⟨c, c1, c2⟩ := sw_closed hn hh hC h0 hAl hcl w hv.1 (hAl r w ha) (by omega)
    have m := sw_e_mono (h := h) (r := r) (by have := hv.2.1; omega) (hC _ _ c1) (sw_n_c hh w hv.1) c2
    obtain ⟨c', d1, d2⟩ := hcl w r c hv ha c1 (by omega)
    exact ⟨c', d1, by rw [sw_n]; omega⟩
/-- harm, walks and first road of a cost -/
def sw_h (h : Nat → Nat) : List Nat → Nat
  | [] => 0
  | r :: w => sw_h h w + h r
def sw_f : List Nat → Nat
  | [] => 0
  | [r] => r
  | _ :: w => sw_f w
theorem sw_n_eq (hh : ∀ r, r < n → 1 ≤ h r) : ∀ w, sw_v n A B p0 w → sw_n h w = sw_h h w * 2048 + w.length * 16 + sw_f w
  | [], _ => by simp [sw_n, sw_h, sw_f]
  | [r], hv => by
    show sw_e h 0 r = (0 + h r) * 2048 + 1 * 16 + r
    unfold sw_e
    rw [if_pos rfl]
    omega
  | r :: s :: w, hv => by
    have ih := sw_n_eq hh (s :: w) hv.1
    have nz : ¬ sw_n h (s :: w) = 0 := fun z => absurd ((sw_n_0 hh (s :: w) hv.1).mp z) (by simp)
    show sw_e h (sw_n h (s :: w)) r = (sw_h h (s :: w) + h r) * 2048 + ((s :: w).length + 1) * 16 + sw_f (s :: w)
    unfold sw_e
    rw [if_neg nz, ih]
    omega
theorem sw_f_lt (hn : 0 < n) : ∀ w, sw_v n A B p0 w → sw_f w < n
  | [], _ => hn
  | [r], hv => hv.2.1
  | _ :: s :: w, hv => sw_f_lt hn (s :: w) hv.1
theorem sw_len (hh : ∀ r, r < n → 1 ≤ h r) : ∀ w, sw_v n A B p0 w → w.length ≤ sw_h h w
  | [], _ => Nat.le_refl _
  | r :: w, hv => by
    have := sw_len hh w hv.1
    have := hh r hv.2.1
    show w.length + 1 ≤ sw_h h w + h r
    omega
end SW
