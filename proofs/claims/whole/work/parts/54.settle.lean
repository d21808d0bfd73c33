/-! Search: a round of settling -/
theorem rc_and' {wt : Nat → Nat} {s r : Nat} (hr : r < 16) : (nI (rc_b wt r) &&& (nI s ^^^ (-1)) = 0) ↔ rc_c wt (s * 6) r = false := by
  have kl := rc_k_le wt r
  rw [show (-1 : Int32) = nI (2 ^ 32 - 1) by decide, fb_xorI, fa_and]
  unfold rc_b rc_c
  rw [Nat.mul_div_cancel s (by decide)]
  by_cases h : 0 < wt r
  · rw [if_pos h, Nat.and_comm]
    have lt : (s ^^^ (2 ^ 32 - 1)) &&& 2 ^ rc_k wt r < 2 ^ 31 := by
      refine Nat.lt_of_le_of_lt (Nat.and_le_right) ?_
      exact Nat.pow_lt_pow_right (by decide) (by omega)
    rw [show (nI ((s ^^^ (2 ^ 32 - 1)) &&& 2 ^ rc_k wt r) = 0) ↔ ((s ^^^ (2 ^ 32 - 1)) &&& 2 ^ rc_k wt r) = 0 from nI_eq (b := 0) lt (by decide), fb_bit_nat, Nat.testBit_xor, Nat.testBit_two_pow_sub_one]
    have : decide (rc_k wt r < 32) = true := decide_eq_true (by omega)
    rw [this]
    simp [h]
  · rw [if_neg h]
    simp [h]
    rfl
/-- the roads below i of one round, from a set's costs -/
def rs (A B h g : Nat → Nat) (lim s : Nat) (C : Nat → Nat) : Nat → Nat → Nat
  | 0 => C
  | i + 1 => if rc_c g (s * 6) i = false then rx h lim (rx h lim (rs A B h g lim s C i) i (s * 6 + A i) (s * 6 + B i)) i (s * 6 + B i) (s * 6 + A i) else rs A B h g lim s C i
theorem rs_ok {A B h g : Nat → Nat} {lim s : Nat} {C : Nat → Nat} (hl : lim ≤ 99) (hC : rx_b C) : ∀ i, rx_b (rs A B h g lim s C i)
  | 0 => hC
  | i + 1 => by
    rw [rs]
    split
    · exact rx_ok hl (rx_ok hl (rs_ok hl hC i))
    · exact rs_ok hl hC i
section SS
variable {E : am_E} {d : Nat} {σ : FH} {Q : Int32 → FH → Prop} {QV : FH → Prop} {A B h g : Nat → Nat}
theorem c_round {n s lim : Nat} {C : Nat → Nat} {x4 : Int32} (hn : n ≤ 9) (hs : s < 2 ^ rc_k g n) (hR : sr_R n A B h g σ) (hr : ∀ r, r < n → A r < 6 ∧ B r < 6 ∧ h r ≤ 9) (hC : rx_b C) (cc : ∀ z, z < 2 ^ rc_k g n * 6 → σ.1 70 z = nI (C z)) (hl : lim ≤ 99) (h8 : σ.1 64 8 = nI lim)
    (k : ∀ σ' (f : Int32), σ'.2 = σ.2 → (∀ a j, a ≠ 70 → σ'.1 a j = σ.1 a j) → (∀ z, z < 2 ^ rc_k g n * 6 → σ'.1 70 z = nI (rs A B h g lim s C n z)) → (f = 0 ∨ f = 1) → (f = 0 → rs A B h g lim s C n = C) → h_X4_settle_10 E (d + 1) (nI s) (nI (s * 6)) f (x4 + 1) σ' QV) : h_X4_settle_26 E (d + 1) (nI s) (nI (s * 6)) 0 x4 0 σ QV := by
  have kl := rc_k_le g n
  have pw : 2 ^ rc_k g n ≤ 512 := Nat.le_trans (Nat.pow_le_pow_right (by decide) (show rc_k g n ≤ 9 by omega)) (by decide)
  have or01 : ∀ a b : Int32, (a = 0 ∨ a = 1) → (b = 0 ∨ b = 1) → ((a ||| b = 0 ∨ a ||| b = 1) ∧ (a ||| b = 0 → a = 0 ∧ b = 0)) := by
    intro a b ha hb
    rcases ha with rfl | rfl <;> rcases hb with rfl | rfl <;> decide
  have key : ∀ l i t (f : Int32), i + l = n → t.2 = σ.2 → (∀ a j, a ≠ 70 → t.1 a j = σ.1 a j) → (∀ z, z < 2 ^ rc_k g n * 6 → t.1 70 z = nI (rs A B h g lim s C i z)) → (f = 0 ∨ f = 1) → (f = 0 → rs A B h g lim s C i = C) → h_X4_settle_26 E (d + 1) (nI s) (nI (s * 6)) f x4 (nI i) t QV := by
    intro l
    induction l with
    | zero =>
      intro i t f hi t2 tf tv tf1 tf0
      refine v_X4_settle_26 ?_
      unfold t_X4_settle_26
      rw [show i = n by omega] at *
      rw [tf 64 6 (by omega), hR.1]
      exact ⟨fun _ => k t f t2 tf tv tf1 tf0, fun q => absurd (nI_le (Nat.le_refl n) (by omega)) q⟩
    | succ l ih =>
      intro i t f hi t2 tf tv tf1 tf0
      refine v_X4_settle_26 ?_
      unfold t_X4_settle_26
      obtain ⟨r1, r2, r3, r4⟩ := hR.2.2.1 i (by omega)
      obtain ⟨q1, q2, q3⟩ := hr i (by omega)
      rw [tf 64 6 (by omega), hR.1, nI_clamp (by omega), tf 68 i (by omega), r4, rc_and' (by omega), nI_1 i, tf 65 i (by omega), tf 66 i (by omega), r1, r2, nI_add, nI_add]
      have ok := rs_ok (A := A) (B := B) (h := h) (g := g) (s := s) hl hC i
      have est : rs A B h g lim s C (i + 1) = if rc_c g (s * 6) i = false then rx h lim (rx h lim (rs A B h g lim s C i) i (s * 6 + A i) (s * 6 + B i)) i (s * 6 + B i) (s * 6 + A i) else rs A B h g lim s C i := rfl
      refine ⟨fun q => absurd q (nI_ge (by omega) (by omega)), fun _ => ⟨vp_in_nI (by omega) (by decide), fun hb => ?_, fun hb => ⟨vp_in_nI (by omega) (by decide), vp_in_nI (by omega) (by decide), c_relax (h := h) (lim := lim) (N := 2 ^ rc_k g n * 6) (by omega) (by omega) (by omega) (by omega) q3 (by rw [tf _ _ (by omega)]; exact r3) ok tv hl (by rw [tf _ _ (by omega)]; exact h8) (fun u f1 u2 uf uv u01 u0 => ⟨vp_in_nI (by omega) (by decide), vp_in_nI (by omega) (by decide), ?_⟩)⟩⟩⟩
      · rw [if_neg hb] at est
        exact ih (i + 1) t f (by omega) t2 tf (by rw [est]; exact tv) tf1 (by rw [est]; exact tf0)
      · rw [if_pos hb] at est
        rw [uf 65 i (by omega), uf 66 i (by omega), tf 65 i (by omega), tf 66 i (by omega), r1, r2, nI_add, nI_add]
        refine c_relax (h := h) (lim := lim) (N := 2 ^ rc_k g n * 6) (by omega) (by omega) (by omega) (by omega) q3 (by rw [uf _ _ (by omega), tf _ _ (by omega)]; exact r3) (rx_ok hl ok) uv hl (by rw [uf _ _ (by omega), tf _ _ (by omega)]; exact h8) (fun w f2 w2 wf wv w01 w0 => ?_)
        obtain ⟨o1, o2⟩ := or01 f f1 tf1 u01
        obtain ⟨o3, o4⟩ := or01 (f ||| f1) f2 o1 w01
        refine ih (i + 1) w _ (by omega) (by rw [w2, u2, t2]) (fun a j q => by rw [wf _ _ q, uf _ _ q, tf _ _ q]) (by rw [est]; exact wv) o3 (fun z => ?_)
        obtain ⟨z1, z2⟩ := o4 z
        obtain ⟨z3, z4⟩ := o2 z1
        rw [est, w0 z2, u0 z4, tf0 z3]
  exact key n 0 σ 0 (by omega) rfl (fun _ _ _ => rfl) cc (Or.inl rfl) (fun _ => rfl)
end SS
