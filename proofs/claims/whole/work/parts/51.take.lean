/-! Search: the roads that it takes -/
def sr_R (m : Nat) (A B h g : Nat → Nat) (σ : FH) : Prop := σ.1 64 6 = nI m ∧ σ.1 64 7 = nI (2 ^ rc_k g m) ∧ (∀ r, r < m → σ.1 65 r = nI (A r) ∧ σ.1 66 r = nI (B r) ∧ σ.1 67 r = nI (h r) ∧ σ.1 68 r = nI (rc_b g r)) ∧ ∀ s, s < 2 ^ rc_k g m → σ.1 69 s = nI (rc_h g m s)
theorem sr_R.cg {m : Nat} {A B h g : Nat → Nat} {σ σ' : FH} (hR : sr_R m A B h g σ) (hf : ∀ a i, (a = 64 ∧ (i = 6 ∨ i = 7)) ∨ (65 ≤ a ∧ a ≤ 69) → σ'.1 a i = σ.1 a i) : sr_R m A B h g σ' := by
  obtain ⟨h1, h2, h3, h4⟩ := hR
  refine ⟨by rw [hf _ _ (by omega)]; exact h1, by rw [hf _ _ (by omega)]; exact h2, fun r hr => ?_, fun s hs => by rw [hf _ _ (by omega)]; exact h4 s hs⟩
  rw [hf _ _ (by omega), hf _ _ (by omega), hf _ _ (by omega), hf _ _ (by omega)]
  exact h3 r hr
theorem rc_h_lo {g : Nat → Nat} {m s : Nat} (hs : s < 2 ^ rc_k g m) : rc_h g (m + 1) s = rc_h g m s := by
  have e : rc_h g (m + 1) s = rc_h g m s + (if 0 < g m ∧ s.testBit (rc_k g m) = true then g m else 0) := rfl
  rw [e, if_neg (fun z => absurd z.2 (by rw [Nat.testBit_lt_two_pow hs]; decide)), Nat.add_zero]
theorem rc_h_hi {g : Nat → Nat} {m s : Nat} (hg : 0 < g m) (hs : s < 2 ^ rc_k g m) : rc_h g (m + 1) (2 ^ rc_k g m + s) = rc_h g m s + g m := by
  have e : rc_h g (m + 1) (2 ^ rc_k g m + s) = rc_h g m (2 ^ rc_k g m + s) + (if 0 < g m ∧ (2 ^ rc_k g m + s).testBit (rc_k g m) = true then g m else 0) := rfl
  have t1 : (2 ^ rc_k g m + s).testBit (rc_k g m) = true := by
    rw [Nat.testBit_two_pow_add_eq, Nat.testBit_lt_two_pow hs]; rfl
  rw [e, if_pos ⟨hg, t1⟩]
  congr 1
  unfold rc_h
  refine fb_sm_cong (fun r hr => ?_)
  by_cases hw : 0 < g r
  · have k1 : rc_k g (r + 1) ≤ rc_k g m := fb_ct_mono _ (by omega)
    have k2 := rc_k_succ g r
    rw [if_pos hw] at k2
    rw [Nat.testBit_two_pow_add_gt (by omega)]
  · simp [hw]
section ST
variable {E : am_E} {d : Nat} {σ : FH} {Q : Int32 → FH → Prop} {QV : FH → Prop} {A B h g : Nat → Nat}
theorem c_addRoad {m : Nat} (hm : m < 9) (hR : sr_R m A B h g σ) (hg : g m ≤ 4) (k : ∀ σ', σ'.2 = σ.2 → (∀ a i, ¬ (a = 64 ∧ (i = 6 ∨ i = 7)) → ¬ (65 ≤ a ∧ a ≤ 69) → σ'.1 a i = σ.1 a i) → sr_R (m + 1) A B h g σ' → QV σ') : fMv E (d + 1) mX4_addRoad [.ref 64, .int (nI (A m)), .int (nI (B m)), .int (nI (h m)), .int (nI (g m))] σ QV := by
  obtain ⟨h6, h7, hr, hs⟩ := hR
  have kl := rc_k_le g m
  have pw : 2 ^ rc_k g m ≤ 256 := Nat.le_trans (Nat.pow_le_pow_right (by decide) (show rc_k g m ≤ 8 by omega)) (by decide)
  refine v_X4_addRoad ?_
  unfold t_X4_addRoad
  rw [h6, nI_clamp (by omega)]
  refine ⟨fun _ => ⟨vp_in_nI hm (by decide), ?_⟩, fun q => absurd (nI_lt (b := 9) hm (by decide)) q⟩
  rintro _ rfl
  rw [fsI_k (show (64 : Nat) ≠ 65 by decide), h6, nI_clamp (by omega)]
  refine ⟨vp_in_nI hm (by decide), ?_⟩
  rintro _ rfl
  rw [fsI_k (show (64 : Nat) ≠ 66 by decide), fsI_k (show (64 : Nat) ≠ 65 by decide), h6, nI_clamp (by omega)]
  refine ⟨vp_in_nI hm (by decide), ?_⟩
  rintro _ rfl
  rw [fsI_k (show (64 : Nat) ≠ 67 by decide), fsI_k (show (64 : Nat) ≠ 66 by decide), fsI_k (show (64 : Nat) ≠ 65 by decide), h6, nI_clamp (by omega)]
  refine ⟨vp_in_nI hm (by decide), ?_⟩
  rintro _ rfl
  have tf : ∀ a i, ¬ ((a = 65 ∨ a = 66 ∨ a = 67 ∨ a = 68) ∧ i = m) → (fsI (fsI (fsI (fsI σ 65 m (nI (A m))) 66 m (nI (B m))) 67 m (nI (h m))) 68 m 0).1 a i = σ.1 a i := fun a i q => by repeat rw [fsI_n (by omega)]
  have t5 : (fsI (fsI (fsI (fsI σ 65 m (nI (A m))) 66 m (nI (B m))) 67 m (nI (h m))) 68 m 0).1 65 m = nI (A m) := by simp [fsI_at]
  have t6 : (fsI (fsI (fsI (fsI σ 65 m (nI (A m))) 66 m (nI (B m))) 67 m (nI (h m))) 68 m 0).1 66 m = nI (B m) := by simp [fsI_at]
  have t7 : (fsI (fsI (fsI (fsI σ 65 m (nI (A m))) 66 m (nI (B m))) 67 m (nI (h m))) 68 m 0).1 67 m = nI (h m) := by simp [fsI_at]
  have t8 : (fsI (fsI (fsI (fsI σ 65 m (nI (A m))) 66 m (nI (B m))) 67 m (nI (h m))) 68 m 0).1 68 m = 0 := fsI_s
  have t2 : (fsI (fsI (fsI (fsI σ 65 m (nI (A m))) 66 m (nI (B m))) 67 m (nI (h m))) 68 m 0).2 = σ.2 := rfl
  generalize fsI (fsI (fsI (fsI σ 65 m (nI (A m))) 66 m (nI (B m))) 67 m (nI (h m))) 68 m 0 = t at tf t5 t6 t7 t8 t2
  rw [tf 64 6 (by omega), tf 64 7 (by omega), h6, h7, nI_clamp (by omega)]
  have ks := rc_k_succ g m
  refine ⟨fun hz => ?_, fun hz => ⟨fun q => absurd q (nI_ge (b := 512) (by omega) (by omega)), fun _ => ⟨vp_in_nI hm (by decide), ?_⟩⟩⟩
  · have g0 : ¬ 0 < g m := fun z => absurd hz (nI_nle z (by omega))
    rw [if_neg g0, Nat.add_zero] at ks
    rintro _ rfl
    refine k _ (by rw [fsI_2]; exact t2) (fun a i q1 q2 => by rw [fsI_n (by omega), tf _ _ (by omega)]) ⟨by rw [fsI_s, nI_1], by rw [fsI_j (by decide), tf _ _ (by omega), ks]; exact h7, fun r hr' => ?_, fun s hs' => ?_⟩
    · rw [fsI_k (by decide), fsI_k (by decide), fsI_k (by decide), fsI_k (by decide)]
      by_cases e : r = m
      · subst e
        refine ⟨t5, t6, t7, ?_⟩
        rw [t8]; unfold rc_b; rw [if_neg g0]; rfl
      · rw [tf _ _ (by omega), tf _ _ (by omega), tf _ _ (by omega), tf _ _ (by omega)]
        exact hr r (by omega)
    · rw [ks] at hs'
      rw [fsI_k (by decide), tf _ _ (by omega), rc_h_lo hs']
      exact hs s hs'
  · have g0 : 0 < g m := by
      rcases Nat.eq_zero_or_pos (g m) with z | z
      · exact absurd (by rw [z]; decide) hz
      · exact z
    rw [if_pos g0] at ks
    rintro _ rfl
    have uf : ∀ a i, ¬ ((a = 65 ∨ a = 66 ∨ a = 67 ∨ a = 68) ∧ i = m) → (fsI t 68 m (nI (2 ^ rc_k g m))).1 a i = σ.1 a i := fun a i q => by rw [fsI_n (by omega)]; exact tf a i q
    have u5 : (fsI t 68 m (nI (2 ^ rc_k g m))).1 65 m = nI (A m) := by rw [fsI_k (by decide)]; exact t5
    have u6 : (fsI t 68 m (nI (2 ^ rc_k g m))).1 66 m = nI (B m) := by rw [fsI_k (by decide)]; exact t6
    have u7 : (fsI t 68 m (nI (2 ^ rc_k g m))).1 67 m = nI (h m) := by rw [fsI_k (by decide)]; exact t7
    have u8 : (fsI t 68 m (nI (2 ^ rc_k g m))).1 68 m = nI (rc_b g m) := by rw [fsI_s]; unfold rc_b; rw [if_pos g0]
    have u2 : (fsI t 68 m (nI (2 ^ rc_k g m))).2 = σ.2 := t2
    generalize fsI t 68 m (nI (2 ^ rc_k g m)) = u at uf u5 u6 u7 u8 u2
    have key : ∀ l i v, i + l = 2 ^ rc_k g m → v.2 = σ.2 → (∀ a j, ¬ (a = 69 ∧ 2 ^ rc_k g m ≤ j ∧ j < 2 ^ rc_k g m + i) → v.1 a j = u.1 a j) → (∀ j, j < i → v.1 69 (2 ^ rc_k g m + j) = nI (rc_h g m j + g m)) → h_X4_addRoad_81 E d (nI (g m)) (nI i) v QV := by
      intro l
      induction l with
      | zero =>
        intro i v hi v2 vf vv
        refine v_X4_addRoad_81 ?_
        unfold t_X4_addRoad_81
        rw [show i = 2 ^ rc_k g m by omega] at *
        rw [vf 64 7 (by omega), uf 64 7 (by omega), h7]
        refine ⟨fun _ => ?_, fun q => absurd (nI_le (Nat.le_refl _) (by omega)) q⟩
        rintro _ rfl _ rfl
        have e6 : (fsI v 64 7 (nI (2 ^ rc_k g m) + nI (2 ^ rc_k g m))).1 64 6 = nI m := by rw [fsI_j (by decide), vf _ _ (by omega), uf _ _ (by omega)]; exact h6
        rw [e6, nI_1, nI_add]
        have e2 : 2 ^ rc_k g m + 2 ^ rc_k g m = 2 ^ rc_k g (m + 1) := by rw [ks, Nat.pow_succ]; omega
        refine k _ (by rw [fsI_2, fsI_2]; exact v2) (fun a j q1 q2 => by rw [fsI_n (by omega), fsI_n (by omega), vf _ _ (by omega), uf _ _ (by omega)]) ⟨fsI_s, by rw [fsI_j (by decide), fsI_s, e2], fun r hr' => ?_, fun s hs' => ?_⟩
        · rw [fsI_k (by decide), fsI_k (by decide), fsI_k (by decide), fsI_k (by decide), fsI_k (by decide), fsI_k (by decide), fsI_k (by decide), fsI_k (by decide), vf _ _ (by omega), vf _ _ (by omega), vf _ _ (by omega), vf _ _ (by omega)]
          by_cases e : r = m
          · subst e; exact ⟨u5, u6, u7, u8⟩
          · rw [uf _ _ (by omega), uf _ _ (by omega), uf _ _ (by omega), uf _ _ (by omega)]
            exact hr r (by omega)
        · rw [fsI_k (by decide), fsI_k (by decide)]
          rw [← e2] at hs'
          rcases Nat.lt_or_ge s (2 ^ rc_k g m) with z | z
          · rw [vf _ _ (by omega), uf _ _ (by omega), rc_h_lo z]
            exact hs s z
          · have := vv (s - 2 ^ rc_k g m) (by omega)
            rw [show 2 ^ rc_k g m + (s - 2 ^ rc_k g m) = s by omega] at this
            rw [this]
            have e3 := rc_h_hi (s := s - 2 ^ rc_k g m) g0 (by omega)
            rw [show 2 ^ rc_k g m + (s - 2 ^ rc_k g m) = s by omega] at e3
            rw [e3]
      | succ l ih =>
        intro i v hi v2 vf vv
        refine v_X4_addRoad_81 ?_
        unfold t_X4_addRoad_81
        rw [vf 64 7 (by omega), uf 64 7 (by omega), h7, nI_add _ i, nI_clamp (show i < 2 ^ 31 by omega), nI_clamp (show 2 ^ rc_k g m + i < 2 ^ 31 by omega), nI_1 i, vf 69 i (by omega), uf 69 i (by omega), hs i (by omega), nI_add]
        refine ⟨fun q => absurd q (nI_ge (by omega) (by omega)), fun _ => ⟨vp_in_nI (by omega) (by decide), vp_in_nI (by omega) (by decide), ?_⟩⟩
        rintro _ rfl
        refine ih (i + 1) _ (by omega) (by rw [fsI_2]; exact v2) (fun a j q => by rw [fsI_n (by omega)]; exact vf a j (by omega)) (fun j hj => ?_)
        by_cases e : j = i
        · subst e; rw [fsI_s, nI_add]
        · rw [fsI_j (by omega)]; exact vv j (by omega)
    exact key (2 ^ rc_k g m) 0 u (by omega) u2 (fun _ _ _ => rfl) (fun j q => absurd q (by omega))
end ST
