/-! Search: leaving a set -/
def lv (A B h g : Nat → Nat) (lim n mg s : Nat) (C : Nat → Nat) : Nat → Nat → Nat
  | 0 => C
  | i + 1 => if rc_c g (s * 6) i = true ∧ rc_h g n (s ||| rc_b g i) ≤ mg then rx h lim (rx h lim (lv A B h g lim n mg s C i) i (s * 6 + A i) ((s ||| rc_b g i) * 6 + B i)) i (s * 6 + B i) ((s ||| rc_b g i) * 6 + A i) else lv A B h g lim n mg s C i
theorem lv_ok {A B h g : Nat → Nat} {lim n mg s : Nat} {C : Nat → Nat} (hl : lim ≤ 99) (hC : rx_b C) : ∀ i, rx_b (lv A B h g lim n mg s C i)
  | 0 => hC
  | i + 1 => by
    rw [lv]
    split
    · exact rx_ok hl (rx_ok hl (lv_ok hl hC i))
    · exact lv_ok hl hC i
section SL
variable {E : am_E} {d : Nat} {σ : FH} {Q : Int32 → FH → Prop} {QV : FH → Prop} {A B h g : Nat → Nat}
theorem c_leave {n s lim mg : Nat} {C : Nat → Nat} (hn : n ≤ 9) (hs : s < 2 ^ rc_k g n) (hmg : mg < 2 ^ 31) (hR : sr_R n A B h g σ) (hr : ∀ r, r < n → A r < 6 ∧ B r < 6 ∧ h r ≤ 9 ∧ g r ≤ 4) (hC : rx_b C) (cc : ∀ z, z < 2 ^ rc_k g n * 6 → σ.1 70 z = nI (C z)) (hl : lim ≤ 99) (h8 : σ.1 64 8 = nI lim)
    (k : ∀ σ', σ'.2 = σ.2 → (∀ a j, a ≠ 70 → σ'.1 a j = σ.1 a j) → (∀ z, z < 2 ^ rc_k g n * 6 → σ'.1 70 z = nI (lv A B h g lim n mg s C n z)) → QV σ') : fMv E (d + 2) mX4_leave [.ref 64, .int (nI s), .int (nI mg)] σ QV := by
  have kl := rc_k_le g n
  have pw : 2 ^ rc_k g n ≤ 512 := Nat.le_trans (Nat.pow_le_pow_right (by decide) (show rc_k g n ≤ 9 by omega)) (by decide)
  refine v_X4_leave ?_
  unfold t_X4_leave
  rw [show (6 : Int32) = nI 6 from rfl, pk_mul]
  have key : ∀ l i t, i + l = n → t.2 = σ.2 → (∀ a j, a ≠ 70 → t.1 a j = σ.1 a j) → (∀ z, z < 2 ^ rc_k g n * 6 → t.1 70 z = nI (lv A B h g lim n mg s C i z)) → h_X4_leave_8 E (d + 1) (nI s) (nI mg) (nI (s * 6)) (nI i) t QV := by
    intro l
    induction l with
    | zero =>
      intro i t hi t2 tf tv
      refine v_X4_leave_8 ?_
      unfold t_X4_leave_8
      rw [show i = n by omega] at *
      rw [tf 64 6 (by omega), hR.1]
      exact ⟨fun _ => k t t2 tf tv, fun q => absurd (nI_le (Nat.le_refl n) (by omega)) q⟩
    | succ l ih =>
      intro i t hi t2 tf tv
      refine v_X4_leave_8 ?_
      unfold t_X4_leave_8
      obtain ⟨r1, r2, r3, r4⟩ := hR.2.2.1 i (by omega)
      obtain ⟨q1, q2, q3, q4⟩ := hr i (by omega)
      have sl : s ||| rc_b g i < 2 ^ rc_k g n := Nat.or_lt_two_pow hs (rc_b_lt (by omega))
      have gl : rc_h g n (s ||| rc_b g i) ≤ 36 := by
        have := fb_sm_bound (f := fun r => if 0 < g r ∧ (s ||| rc_b g i).testBit (rc_k g r) = true then g r else 0) (c := 4) (n := n) (fun k hk => by
          show (if _ then g k else 0) ≤ 4
          split
          · exact (hr k hk).2.2.2
          · omega)
        unfold rc_h
        omega
      rw [tf 64 6 (by omega), hR.1, nI_clamp (show i < 2 ^ 31 by omega), tf 68 i (by omega), r4, rc_and' (by omega), nI_1 i, tf 65 i (by omega), tf 66 i (by omega), r1, r2, fa_or, nI_clamp (show s ||| rc_b g i < 2 ^ 31 by omega), tf 69 _ (by omega), hR.2.2.2 _ sl, nI_ltI hmg (by omega)]
      have ok := lv_ok (A := A) (B := B) (h := h) (g := g) (n := n) (mg := mg) (s := s) hl hC i
      have est : lv A B h g lim n mg s C (i + 1) = if rc_c g (s * 6) i = true ∧ rc_h g n (s ||| rc_b g i) ≤ mg then rx h lim (rx h lim (lv A B h g lim n mg s C i) i (s * 6 + A i) ((s ||| rc_b g i) * 6 + B i)) i (s * 6 + B i) ((s ||| rc_b g i) * 6 + A i) else lv A B h g lim n mg s C i := rfl
      refine ⟨fun q => absurd q (nI_ge (by omega) (by omega)), fun _ => ⟨vp_in_nI (by omega) (by decide), fun hb => ?_, fun hb => ⟨vp_in_nI (by omega) (by decide), vp_in_nI (by omega) (by decide), fun hg => ?_, fun hg => ⟨vp_in_nI (by omega) (by decide), ?_⟩⟩⟩⟩
      · rw [if_neg (fun z => absurd z.1 (by rw [hb]; decide))] at est
        exact ih (i + 1) t (by omega) t2 tf (by rw [est]; exact tv)
      · rw [if_neg (fun z => by omega)] at est
        exact ih (i + 1) t (by omega) t2 tf (by rw [est]; exact tv)
      · have hb' : rc_c g (s * 6) i = true := by
          cases z : rc_c g (s * 6) i
          · exact absurd z hb
          · rfl
        rw [if_pos ⟨hb', by omega⟩] at est
        rintro _ rfl
        rw [show (6 : Int32) = nI 6 from rfl, pk_mul, nI_add, nI_add]
        refine ⟨vp_in_nI (by omega) (by decide), vp_in_nI (by omega) (by decide), c_relax (h := h) (lim := lim) (N := 2 ^ rc_k g n * 6) (by omega) (by omega) (by omega) (by omega) q3 (by rw [tf _ _ (by omega)]; exact r3) ok tv hl (by rw [tf _ _ (by omega)]; exact h8) (fun u f1 u2 uf uv u01 u0 => ⟨vp_in_nI (by omega) (by decide), vp_in_nI (by omega) (by decide), ?_⟩)⟩
        rw [uf 65 i (by omega), uf 66 i (by omega), tf 65 i (by omega), tf 66 i (by omega), r1, r2, nI_add, nI_add]
        refine c_relax (h := h) (lim := lim) (N := 2 ^ rc_k g n * 6) (by omega) (by omega) (by omega) (by omega) q3 (by rw [uf _ _ (by omega), tf _ _ (by omega)]; exact r3) (rx_ok hl ok) uv hl (by rw [uf _ _ (by omega), tf _ _ (by omega)]; exact h8) (fun w f2 w2 wf wv w01 w0 => ?_)
        exact ih (i + 1) w (by omega) (by rw [w2, u2, t2]) (fun a j q => by rw [wf _ _ q, uf _ _ q, tf _ _ q]) (by rw [est]; exact wv)
  exact key n 0 σ (by omega) rfl (fun _ _ _ => rfl) cc
end SL
