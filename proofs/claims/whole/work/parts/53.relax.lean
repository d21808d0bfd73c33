/-! Search: an edge as a function of all costs -/
def rx (h : Nat → Nat) (lim : Nat) (C : Nat → Nat) (i x y : Nat) : Nat → Nat := if C x ≠ 1000000000 ∧ sw_e h (C x) i < C y ∧ sw_e h (C x) i / 2048 ≤ lim then (fun z => if z = y then sw_e h (C x) i else C z) else C
/-- costs are far, or small -/
def rx_b (C : Nat → Nat) : Prop := ∀ z, C z = 1000000000 ∨ C z < 2 ^ 20
theorem rx_ok {h : Nat → Nat} {lim i x y : Nat} {C : Nat → Nat} (hl : lim ≤ 99) (hC : rx_b C) : rx_b (rx h lim C i x y) := by
  intro z
  unfold rx
  split
  · next q =>
    show (if z = y then _ else C z) = 1000000000 ∨ (if z = y then _ else C z) < 2 ^ 20
    split
    · exact Or.inr (by omega)
    · exact hC z
  · exact hC z
theorem rx_le {h : Nat → Nat} {lim i x y : Nat} {C : Nat → Nat} (z : Nat) : rx h lim C i x y z ≤ C z := by
  unfold rx
  split
  · next q =>
    show (if z = y then _ else C z) ≤ C z
    split
    · next e => subst e; omega
    · exact Nat.le_refl _
  · exact Nat.le_refl _
section SI2
variable {E : am_E} {d : Nat} {σ : FH} {Q : Int32 → FH → Prop} {QV : FH → Prop}
theorem c_relax {h : Nat → Nat} {i x y lim N : Nat} {C : Nat → Nat} (hN : N ≤ 3072) (hi9 : i < 9) (hx : x < N) (hy : y < N) (h9 : h i ≤ 9) (h67 : σ.1 67 i = nI (h i)) (hC : rx_b C) (cc : ∀ z, z < N → σ.1 70 z = nI (C z)) (hl : lim ≤ 99) (h8 : σ.1 64 8 = nI lim)
    (k : ∀ σ' (f : Int32), σ'.2 = σ.2 → (∀ a j, a ≠ 70 → σ'.1 a j = σ.1 a j) → (∀ z, z < N → σ'.1 70 z = nI (rx h lim C i x y z)) → (f = 0 ∨ f = 1) → (f = 0 → rx h lim C i x y = C) → Q f σ') : fMi E (d + 1) mX4_improve [.ref 64, .int (nI i), .int (nI x), .int (nI y)] σ Q := by
  have e : ∀ c, sw_e (fun _ => h i) c i = sw_e h c i := fun c => rfl
  refine c_improve (hi := h i) (lim := lim) hi9 (by omega) (by omega) h9 h67 (cc x hx) (cc y hy) (hC x) (by have := hC y; omega) (by omega) h8 (fun q => ?_) (fun q1 q2 q3 => ?_)
  · have : rx h lim C i x y = C := by
      unfold rx
      rw [if_neg]
      intro z
      rw [e] at q
      omega
    refine k σ 0 rfl (fun _ _ _ => rfl) (fun z hz => by rw [this]; exact cc z hz) (Or.inl rfl) (fun _ => this)
  · rw [e] at q2 q3 ⊢
    refine k _ 1 rfl (fun a j q => fsI_k q) (fun z hz => ?_) (Or.inr rfl) (fun q => absurd q (by decide))
    unfold rx
    rw [if_pos ⟨by omega, q2, q3⟩]
    show _ = nI (if z = y then _ else C z)
    by_cases ez : z = y
    · subst ez; rw [if_pos rfl]; exact fsI_s
    · rw [if_neg ez, fsI_j ez]; exact cc z hz
end SI2
