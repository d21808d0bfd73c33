/-! Search: what a round that changes nothing says -/
section CL
variable {A B h g : Nat → Nat} {lim s : Nat} {C : Nat → Nat}
theorem rs_le1 (i z : Nat) : rs A B h g lim s C (i + 1) z ≤ rs A B h g lim s C i z := by
  rw [rs]
  split
  · exact Nat.le_trans (rx_le z) (rx_le z)
  · exact Nat.le_refl _
theorem rs_le (i z : Nat) : ∀ m, rs A B h g lim s C (i + m) z ≤ rs A B h g lim s C i z
  | 0 => Nat.le_refl _
  | m + 1 => Nat.le_trans (rs_le1 (i + m) z) (rs_le i z m)
theorem rs_same {n i : Nat} (hi : i ≤ n) (e : rs A B h g lim s C n = C) : rs A B h g lim s C i = C := by
  funext z
  have h1 := rs_le (A := A) (B := B) (h := h) (g := g) (lim := lim) (s := s) (C := C) i z (n - i)
  rw [show i + (n - i) = n by omega, e] at h1
  have h2 := rs_le (A := A) (B := B) (h := h) (g := g) (lim := lim) (s := s) (C := C) 0 z i
  rw [Nat.zero_add] at h2
  have h3 : rs A B h g lim s C 0 z = C z := rfl
  omega
/-- an edge that changes nothing -/
theorem rx_same {i x y : Nat} (e : rx h lim C i x y = C) (hx : C x ≠ 1000000000) (hl : sw_e h (C x) i / 2048 ≤ lim) : C y ≤ sw_e h (C x) i := by
  rcases Nat.lt_or_ge (sw_e h (C x) i) (C y) with q | q
  · unfold rx at e
    rw [if_pos ⟨hx, q, hl⟩] at e
    have := congrFun e y
    simp only [if_true] at this
    omega
  · exact q
theorem rs_closed {n i : Nat} (hi : i < n) (e : rs A B h g lim s C n = C) (hb : rc_c g (s * 6) i = false) : rx h lim C i (s * 6 + A i) (s * 6 + B i) = C ∧ rx h lim C i (s * 6 + B i) (s * 6 + A i) = C := by
  have e1 := rs_same (i := i + 1) hi e
  have e0 := rs_same (i := i) (by omega) e
  rw [rs, if_pos hb, e0] at e1
  have h1 : rx h lim C i (s * 6 + A i) (s * 6 + B i) = C := by
    funext z
    have a := rx_le (h := h) (lim := lim) (C := rx h lim C i (s * 6 + A i) (s * 6 + B i)) (i := i) (x := s * 6 + B i) (y := s * 6 + A i) z
    rw [e1] at a
    have b := rx_le (h := h) (lim := lim) (C := C) (i := i) (x := s * 6 + A i) (y := s * 6 + B i) z
    omega
  rw [h1] at e1
  exact ⟨h1, e1⟩
end CL
