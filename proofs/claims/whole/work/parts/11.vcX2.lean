/-! the verification conditions of CountedTrials$Road (printed by wip/gen/vc.py): t_.. is what is to be shown, v_.. that it is enough -/
def t_X2_lay (E : am_E) (d : Nat) (k0 : Nat) (x1 : Int32) (x2 : Int32) (x3 : Int32) (x4 : Int32) (σ : FH) (Q : FH → Prop) : Prop :=
  (∀ σ1 : FH, σ1 = fsI σ k0 1 x1 → (∀ σ2 : FH, σ2 = fsI σ1 k0 2 x2 → (∀ σ3 : FH, σ3 = fsI σ2 k0 3 x3 → (∀ σ4 : FH, σ4 = fsI σ3 k0 4 x4 → (∀ σ5 : FH, σ5 = fsI σ4 k0 5 1 → Q σ5)))))
set_option maxRecDepth 100000 in
set_option maxHeartbeats 4000000 in
theorem v_X2_lay {E : am_E} {d : Nat} {σ : FH} {Q : FH → Prop} {k0 : Nat} {x1 : Int32} {x2 : Int32} {x3 : Int32} {x4 : Int32} (hk0 : isRd k0) (t : t_X2_lay E d k0 x1 x2 x3 x4 σ Q) : fMv E (d + 1) mX2_lay [.ref k0, .int x1, .int x2, .int x3, .int x4] σ Q := by
  refine fr_ofG [some (.ref k0), some (.int x1), some (.int x2), some (.int x3), some (.int x4)] (by decide) rfl (Nat.le_of_ble_eq_true rfl) ?_
  unfold t_X2_lay at t
  refine ar_aload_n (i := 0) dX2_lay_0 rfl rfl ?_
  refine ar_iload_n (i := 1) dX2_lay_1 rfl rfl ?_
  refine fr_putI (t := 2) (j := 1) dX2_lay_2 fq_X2_9 hk0.o rfl (Or.inl rfl) ?_
  have t := t _ rfl
  refine ar_aload_n (i := 0) dX2_lay_5 rfl rfl ?_
  refine ar_iload_n (i := 2) dX2_lay_6 rfl rfl ?_
  refine fr_putI (t := 2) (j := 2) dX2_lay_7 fq_X2_13 hk0.o rfl (Or.inl rfl) ?_
  have t := t _ rfl
  refine ar_aload_n (i := 0) dX2_lay_10 rfl rfl ?_
  refine ar_iload_n (i := 3) dX2_lay_11 rfl rfl ?_
  refine fr_putI (t := 2) (j := 3) dX2_lay_12 fq_X2_16 hk0.o rfl (Or.inl rfl) ?_
  have t := t _ rfl
  refine ar_aload_n (i := 0) dX2_lay_15 rfl rfl ?_
  refine ar_iload (i := 4) dX2_lay_16 rfl ?_
  refine fr_putI (t := 2) (j := 4) dX2_lay_18 fq_X2_19 hk0.o rfl (Or.inl rfl) ?_
  have t := t _ rfl
  refine ar_aload_n (i := 0) dX2_lay_21 rfl rfl ?_
  refine ar_iconst (v := 1) dX2_lay_22 (by decide) ?_
  refine fr_putI (t := 2) (j := 5) dX2_lay_23 fq_X2_22 hk0.o rfl (Or.inr (Or.inr rfl)) ?_
  have t := t _ rfl
  exact fr_vret dX2_lay_26 rfl (Nat.le_refl _) (Nat.le_refl _) t

def t_X2_become (E : am_E) (d : Nat) (k0 : Nat) (k1 : Nat) (σ : FH) (Q : FH → Prop) : Prop :=
  fMv E d mX2_lay [.ref k0, .int (σ.1 k1 1), .int (σ.1 k1 2), .int (σ.1 k1 3), .int (σ.1 k1 4)] σ (fun σ1 => (((σ1.1 k1 5) = 0 ∨ (σ1.1 k1 5) = 1) ∧ (∀ σ3 : FH, σ3 = fsI σ1 k0 5 (σ1.1 k1 5) → Q σ3)))
set_option maxRecDepth 100000 in
set_option maxHeartbeats 4000000 in
theorem v_X2_become {E : am_E} {d : Nat} {σ : FH} {Q : FH → Prop} {k0 : Nat} {k1 : Nat} (hk0 : isRd k0) (hk1 : isRd k1) (t : t_X2_become E d k0 k1 σ Q) : fMv E (d + 1) mX2_become [.ref k0, .ref k1] σ Q := by
  refine fr_ofG [some (.ref k0), some (.ref k1)] (by decide) rfl (Nat.le_of_ble_eq_true rfl) ?_
  unfold t_X2_become at t
  refine ar_aload_n (i := 0) dX2_become_0 rfl rfl ?_
  refine ar_aload_n (i := 1) dX2_become_1 rfl rfl ?_
  refine fr_getI (t := 2) (j := 1) dX2_become_2 fs_X2_9 hk1.o rfl ?_
  refine ar_aload_n (i := 1) dX2_become_5 rfl rfl ?_
  refine fr_getI (t := 2) (j := 2) dX2_become_6 fs_X2_13 hk1.o rfl ?_
  refine ar_aload_n (i := 1) dX2_become_9 rfl rfl ?_
  refine fr_getI (t := 2) (j := 3) dX2_become_10 fs_X2_16 hk1.o rfl ?_
  refine ar_aload_n (i := 1) dX2_become_13 rfl rfl ?_
  refine fr_getI (t := 2) (j := 4) dX2_become_14 fs_X2_19 hk1.o rfl ?_
  refine fr_callVv (M' := mX2_lay) [_, _, _, _] dX2_become_17 ml_X2_29 mv_X2_lay rfl rfl hk0.o rfl rfl (Nat.le_of_ble_eq_true rfl) ⟨Nat.le_refl _, Nat.le_refl _⟩ t (fun σ1 t => ?_)
  try dsimp only at t
  refine ar_aload_n (i := 0) dX2_become_20 rfl rfl ?_
  refine ar_aload_n (i := 1) dX2_become_21 rfl rfl ?_
  refine fr_getI (t := 2) (j := 5) dX2_become_22 fs_X2_22 hk1.o rfl ?_
  obtain ⟨h4, t⟩ := t
  refine fr_putI (t := 2) (j := 5) dX2_become_25 fq_X2_22 hk0.o rfl (Or.inr h4) ?_
  have t := t _ rfl
  exact fr_vret dX2_become_28 rfl (Nat.le_refl _) (Nat.le_refl _) t

def t_X2_worth (E : am_E) (d : Nat) (k0 : Nat) (σ : FH) (Q : Int32 → FH → Prop) : Prop :=
  (((σ.1 k0 1) = 1 → Q 0 σ) ∧
  (((σ.1 k0 1) = 2 → Q 1 σ) ∧
  (((σ.1 k0 1) = 3 → Q 4 σ) ∧
  (((σ.1 k0 1) = 4 → (((σ.1 k0 5) = 0 → Q 0 σ) ∧
    (¬ (σ.1 k0 5) = 0 → Q 4 σ))) ∧
  (¬ (σ.1 k0 1) = 1 → ¬ (σ.1 k0 1) = 2 → ¬ (σ.1 k0 1) = 3 → ¬ (σ.1 k0 1) = 4 → Q 2 σ)))))
set_option maxRecDepth 100000 in
set_option maxHeartbeats 4000000 in
theorem v_X2_worth {E : am_E} {d : Nat} {σ : FH} {Q : Int32 → FH → Prop} {k0 : Nat} (hk0 : isRd k0) (t : t_X2_worth E d k0 σ Q) : fMi E (d + 1) mX2_worth [.ref k0] σ Q := by
  refine fr_ofG [some (.ref k0)] (by decide) rfl (Nat.le_of_ble_eq_true rfl) ?_
  unfold t_X2_worth at t
  refine ar_aload_n (i := 0) dX2_worth_0 rfl rfl ?_
  refine fr_getI (t := 2) (j := 1) dX2_worth_1 fs_X2_9 hk0.o rfl ?_
  by_cases h1 : (σ.1 k0 1) = 1
  · have t := t.1 h1
    refine ar_tableIn (tgt := 36) dX2_worth_4 (by rw [h1]; decide) (by rw [h1]; decide) (by rw [h1]; rfl) (by decide) ?_
    refine ar_iconst (v := 0) dX2_worth_36 (by decide) ?_
    exact fr_iret dX2_worth_37 rfl (Nat.le_refl _) (Nat.le_refl _) t
  have t := t.2
  by_cases h2 : (σ.1 k0 1) = 2
  · have t := t.1 h2
    refine ar_tableIn (tgt := 38) dX2_worth_4 (by rw [h2]; decide) (by rw [h2]; decide) (by rw [h2]; rfl) (by decide) ?_
    refine ar_iconst (v := 1) dX2_worth_38 (by decide) ?_
    exact fr_iret dX2_worth_39 rfl (Nat.le_refl _) (Nat.le_refl _) t
  have t := t.2
  by_cases h3 : (σ.1 k0 1) = 3
  · have t := t.1 h3
    refine ar_tableIn (tgt := 40) dX2_worth_4 (by rw [h3]; decide) (by rw [h3]; decide) (by rw [h3]; rfl) (by decide) ?_
    refine ar_iconst (v := 4) dX2_worth_40 (by decide) ?_
    exact fr_iret dX2_worth_41 rfl (Nat.le_refl _) (Nat.le_refl _) t
  have t := t.2
  by_cases h4 : (σ.1 k0 1) = 4
  · have t := t.1 h4
    refine ar_tableIn (tgt := 42) dX2_worth_4 (by rw [h4]; decide) (by rw [h4]; decide) (by rw [h4]; rfl) (by decide) ?_
    refine ar_aload_n (i := 0) dX2_worth_42 rfl rfl ?_
    refine fr_getI (t := 2) (j := 5) dX2_worth_43 fs_X2_22 hk0.o rfl ?_
    refine ar_if_eq (tgt := 53) dX2_worth_46 (by decide) (fun h5 => ?_) (fun h5 => ?_)
    · have t := t.1 h5
      refine ar_iconst (v := 0) dX2_worth_53 (by decide) ?_
      exact fr_iret dX2_worth_54 rfl (Nat.le_refl _) (Nat.le_refl _) t
    · have t := t.2 h5
      refine ar_iconst (v := 4) dX2_worth_49 (by decide) ?_
      refine ar_goto (tgt := 54) dX2_worth_50 (by decide) ?_
      exact fr_iret dX2_worth_54 rfl (Nat.le_refl _) (Nat.le_refl _) t
  have t := t.2
  have t := t h1 h2 h3 h4
  refine ar_tableOut (tgt := 55) dX2_worth_4 (by have q0 := sw_ne h1 (n := 1) (by decide); have q1 := sw_ne h2 (n := 2) (by decide); have q2 := sw_ne h3 (n := 3) (by decide); have q3 := sw_ne h4 (n := 4) (by decide); omega) (by decide) ?_
  refine ar_iconst (v := 2) dX2_worth_55 (by decide) ?_
  exact fr_iret dX2_worth_56 rfl (Nat.le_refl _) (Nat.le_refl _) t

def t_X2_isOfKind (E : am_E) (d : Nat) (k0 : Nat) (x1 : Int32) (σ : FH) (Q : Int32 → FH → Prop) : Prop :=
  ((x1 = 0 → Q 1 σ) ∧
  (¬ x1 = 0 → ((x1 = (σ.1 k0 1) → Q 1 σ) ∧
    (¬ x1 = (σ.1 k0 1) → ((¬ x1 = 3 → Q 0 σ) ∧
      (x1 = 3 → ((¬ (σ.1 k0 1) = 4 → Q 0 σ) ∧
        ((σ.1 k0 1) = 4 → Q 1 σ))))))))
set_option maxRecDepth 100000 in
set_option maxHeartbeats 4000000 in
theorem v_X2_isOfKind {E : am_E} {d : Nat} {σ : FH} {Q : Int32 → FH → Prop} {k0 : Nat} {x1 : Int32} (hk0 : isRd k0) (t : t_X2_isOfKind E d k0 x1 σ Q) : fMi E (d + 1) mX2_isOfKind [.ref k0, .int x1] σ Q := by
  refine fr_ofG [some (.ref k0), some (.int x1)] (by decide) rfl (Nat.le_of_ble_eq_true rfl) ?_
  unfold t_X2_isOfKind at t
  refine ar_iload_n (i := 1) dX2_isOfKind_0 rfl rfl ?_
  refine ar_if_eq (tgt := 25) dX2_isOfKind_1 (by decide) (fun h1 => ?_) (fun h1 => ?_)
  · have t := t.1 h1
    refine ar_iconst (v := 1) dX2_isOfKind_25 (by decide) ?_
    refine ar_goto (tgt := 30) dX2_isOfKind_26 (by decide) ?_
    exact fr_zret dX2_isOfKind_30 rfl (Nat.le_refl _) (Nat.le_refl _) (Or.inr rfl) t
  · have t := t.2 h1
    refine ar_iload_n (i := 1) dX2_isOfKind_4 rfl rfl ?_
    refine ar_aload_n (i := 0) dX2_isOfKind_5 rfl rfl ?_
    refine fr_getI (t := 2) (j := 1) dX2_isOfKind_6 fs_X2_9 hk0.o rfl ?_
    refine ar_icmp_eq (tgt := 25) dX2_isOfKind_9 (by decide) (fun h2 => ?_) (fun h2 => ?_)
    · have t := t.1 h2
      refine ar_iconst (v := 1) dX2_isOfKind_25 (by decide) ?_
      refine ar_goto (tgt := 30) dX2_isOfKind_26 (by decide) ?_
      exact fr_zret dX2_isOfKind_30 rfl (Nat.le_refl _) (Nat.le_refl _) (Or.inr rfl) t
    · have t := t.2 h2
      refine ar_iload_n (i := 1) dX2_isOfKind_12 rfl rfl ?_
      refine ar_iconst (v := 3) dX2_isOfKind_13 (by decide) ?_
      refine ar_icmp_ne (tgt := 29) dX2_isOfKind_14 (by decide) (fun h3 => ?_) (fun h3 => ?_)
      · have t := t.1 h3
        refine ar_iconst (v := 0) dX2_isOfKind_29 (by decide) ?_
        exact fr_zret dX2_isOfKind_30 rfl (Nat.le_refl _) (Nat.le_refl _) (Or.inl rfl) t
      · have t := t.2 h3
        refine ar_aload_n (i := 0) dX2_isOfKind_17 rfl rfl ?_
        refine fr_getI (t := 2) (j := 1) dX2_isOfKind_18 fs_X2_9 hk0.o rfl ?_
        refine ar_iconst (v := 4) dX2_isOfKind_21 (by decide) ?_
        refine ar_icmp_ne (tgt := 29) dX2_isOfKind_22 (by decide) (fun h4 => ?_) (fun h4 => ?_)
        · have t := t.1 h4
          refine ar_iconst (v := 0) dX2_isOfKind_29 (by decide) ?_
          exact fr_zret dX2_isOfKind_30 rfl (Nat.le_refl _) (Nat.le_refl _) (Or.inl rfl) t
        · have t := t.2 h4
          refine ar_iconst (v := 1) dX2_isOfKind_25 (by decide) ?_
          refine ar_goto (tgt := 30) dX2_isOfKind_26 (by decide) ?_
          exact fr_zret dX2_isOfKind_30 rfl (Nat.le_refl _) (Nat.le_refl _) (Or.inr rfl) t

def t_X2_touches (E : am_E) (d : Nat) (k0 : Nat) (x1 : Int32) (σ : FH) (Q : Int32 → FH → Prop) : Prop :=
  ((x1 = (σ.1 k0 2) → Q 1 σ) ∧
  (¬ x1 = (σ.1 k0 2) → ((¬ x1 = (σ.1 k0 3) → Q 0 σ) ∧
    (x1 = (σ.1 k0 3) → Q 1 σ))))
set_option maxRecDepth 100000 in
set_option maxHeartbeats 4000000 in
theorem v_X2_touches {E : am_E} {d : Nat} {σ : FH} {Q : Int32 → FH → Prop} {k0 : Nat} {x1 : Int32} (hk0 : isRd k0) (t : t_X2_touches E d k0 x1 σ Q) : fMi E (d + 1) mX2_touches [.ref k0, .int x1] σ Q := by
  refine fr_ofG [some (.ref k0), some (.int x1)] (by decide) rfl (Nat.le_of_ble_eq_true rfl) ?_
  unfold t_X2_touches at t
  refine ar_iload_n (i := 1) dX2_touches_0 rfl rfl ?_
  refine ar_aload_n (i := 0) dX2_touches_1 rfl rfl ?_
  refine fr_getI (t := 2) (j := 2) dX2_touches_2 fs_X2_13 hk0.o rfl ?_
  refine ar_icmp_eq (tgt := 16) dX2_touches_5 (by decide) (fun h1 => ?_) (fun h1 => ?_)
  · have t := t.1 h1
    refine ar_iconst (v := 1) dX2_touches_16 (by decide) ?_
    refine ar_goto (tgt := 21) dX2_touches_17 (by decide) ?_
    exact fr_zret dX2_touches_21 rfl (Nat.le_refl _) (Nat.le_refl _) (Or.inr rfl) t
  · have t := t.2 h1
    refine ar_iload_n (i := 1) dX2_touches_8 rfl rfl ?_
    refine ar_aload_n (i := 0) dX2_touches_9 rfl rfl ?_
    refine fr_getI (t := 2) (j := 3) dX2_touches_10 fs_X2_16 hk0.o rfl ?_
    refine ar_icmp_ne (tgt := 20) dX2_touches_13 (by decide) (fun h2 => ?_) (fun h2 => ?_)
    · have t := t.1 h2
      refine ar_iconst (v := 0) dX2_touches_20 (by decide) ?_
      exact fr_zret dX2_touches_21 rfl (Nat.le_refl _) (Nat.le_refl _) (Or.inl rfl) t
    · have t := t.2 h2
      refine ar_iconst (v := 1) dX2_touches_16 (by decide) ?_
      refine ar_goto (tgt := 21) dX2_touches_17 (by decide) ?_
      exact fr_zret dX2_touches_21 rfl (Nat.le_refl _) (Nat.le_refl _) (Or.inr rfl) t

def t_X2_across (E : am_E) (d : Nat) (k0 : Nat) (x1 : Int32) (σ : FH) (Q : Int32 → FH → Prop) : Prop :=
  ((¬ x1 = (σ.1 k0 2) → Q (σ.1 k0 2) σ) ∧
  (x1 = (σ.1 k0 2) → Q (σ.1 k0 3) σ))
set_option maxRecDepth 100000 in
set_option maxHeartbeats 4000000 in
theorem v_X2_across {E : am_E} {d : Nat} {σ : FH} {Q : Int32 → FH → Prop} {k0 : Nat} {x1 : Int32} (hk0 : isRd k0) (t : t_X2_across E d k0 x1 σ Q) : fMi E (d + 1) mX2_across [.ref k0, .int x1] σ Q := by
  refine fr_ofG [some (.ref k0), some (.int x1)] (by decide) rfl (Nat.le_of_ble_eq_true rfl) ?_
  unfold t_X2_across at t
  refine ar_iload_n (i := 1) dX2_across_0 rfl rfl ?_
  refine ar_aload_n (i := 0) dX2_across_1 rfl rfl ?_
  refine fr_getI (t := 2) (j := 2) dX2_across_2 fs_X2_13 hk0.o rfl ?_
  refine ar_icmp_ne (tgt := 15) dX2_across_5 (by decide) (fun h1 => ?_) (fun h1 => ?_)
  · have t := t.1 h1
    refine ar_aload_n (i := 0) dX2_across_15 rfl rfl ?_
    refine fr_getI (t := 2) (j := 2) dX2_across_16 fs_X2_13 hk0.o rfl ?_
    exact fr_iret dX2_across_19 rfl (Nat.le_refl _) (Nat.le_refl _) t
  · have t := t.2 h1
    refine ar_aload_n (i := 0) dX2_across_8 rfl rfl ?_
    refine fr_getI (t := 2) (j := 3) dX2_across_9 fs_X2_16 hk0.o rfl ?_
    refine ar_goto (tgt := 19) dX2_across_12 (by decide) ?_
    exact fr_iret dX2_across_19 rfl (Nat.le_refl _) (Nat.le_refl _) t

