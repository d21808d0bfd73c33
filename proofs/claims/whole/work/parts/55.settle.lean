/-! Search: settling, as many rounds as there are places at most -/
def rs_i (A B h g : Nat → Nat) (lim s n : Nat) (C : Nat → Nat) : Nat → Nat → Nat
  | 0 => C
  | m + 1 => rs A B h g lim s (rs_i A B h g lim s n C m) n
theorem rs_i_ok {A B h g : Nat → Nat} {lim s n : Nat} {C : Nat → Nat} (hl : lim ≤ 99) (hC : rx_b C) : ∀ m, rx_b (rs_i A B h g lim s n C m)
  | 0 => hC
  | m + 1 => rs_ok hl (rs_i_ok hl hC m) n
section SS2
variable {E : am_E} {d : Nat} {σ : FH} {Q : Int32 → FH → Prop} {QV : FH → Prop} {A B h g : Nat → Nat}
theorem c_settle {n s lim : Nat} {C : Nat → Nat} (hn : n ≤ 9) (hs : s < 2 ^ rc_k g n) (hR : sr_R n A B h g σ) (hr : ∀ r, r < n → A r < 6 ∧ B r < 6 ∧ h r ≤ 9) (hC : rx_b C) (cc : ∀ z, z < 2 ^ rc_k g n * 6 → σ.1 70 z = nI (C z)) (hl : lim ≤ 99) (h8 : σ.1 64 8 = nI lim)
    (k : ∀ σ' m, m ≤ 6 → σ'.2 = σ.2 → (∀ a j, a ≠ 70 → σ'.1 a j = σ.1 a j) → (∀ z, z < 2 ^ rc_k g n * 6 → σ'.1 70 z = nI (rs_i A B h g lim s n C m z)) → (m = 6 ∨ rs A B h g lim s (rs_i A B h g lim s n C m) n = rs_i A B h g lim s n C m) → QV σ') : fMv E (d + 2) mX4_settle [.ref 64, .int (nI s)] σ QV := by
  refine v_X4_settle ?_
  unfold t_X4_settle
  rw [show (6 : Int32) = nI 6 from rfl, pk_mul]
  have key : ∀ l m t (f : Int32), m + l = 6 → t.2 = σ.2 → (∀ a j, a ≠ 70 → t.1 a j = σ.1 a j) → (∀ z, z < 2 ^ rc_k g n * 6 → t.1 70 z = nI (rs_i A B h g lim s n C m z)) → (f = 0 → rs A B h g lim s (rs_i A B h g lim s n C m) n = rs_i A B h g lim s n C m) → h_X4_settle_10 E (d + 1) (nI s) (nI (s * 6)) f (nI m) t QV := by
    intro l
    induction l with
    | zero =>
      intro m t f hm t2 tf tv tf0
      refine v_X4_settle_10 ?_
      unfold t_X4_settle_10
      rw [show m = 6 by omega] at *
      exact ⟨fun _ => k t 6 (Nat.le_refl _) t2 tf tv (Or.inl rfl), fun q => absurd (by decide) q⟩
    | succ l ih =>
      intro m t f hm t2 tf tv tf0
      refine v_X4_settle_10 ?_
      unfold t_X4_settle_10
      refine ⟨fun q => absurd q (nI_ge (b := 6) (by omega) (by omega)), fun _ => ⟨fun q => k t m (by omega) t2 tf tv (Or.inr (tf0 q)), fun _ => ?_⟩⟩
      refine c_round (lim := lim) hn hs (hR.cg (fun a i q => tf _ _ (by omega))) hr (rs_i_ok hl hC m) tv hl (by rw [tf _ _ (by omega)]; exact h8) (fun u f' u2 uf uv u01 u0 => ?_)
      rw [nI_1 m]
      refine ih (m + 1) u f' (by omega) (u2.trans t2) (fun a j q => by rw [uf _ _ q, tf _ _ q]) uv (fun z => ?_)
      have e := u0 z
      show rs A B h g lim s (rs A B h g lim s (rs_i A B h g lim s n C m) n) n = rs A B h g lim s (rs_i A B h g lim s n C m) n
      rw [e, e]
  exact key 6 0 σ 1 (by omega) rfl (fun _ _ _ => rfl) cc (fun q => absurd q (by decide))
end SS2
