/-! the verification conditions of CountedTrials$Pilgrim (printed by wip/gen/vc.py): t_.. is what is to be shown, v_.. that it is enough -/
/-- X1.startAnew: the machine at the loop head 27 -/
def h_X1_startAnew_27 (E : am_E) (d : Nat) (k0 : Nat) (x1 : Int32) (σ : FH) (Q : FH → Prop) : Prop := fG E (d + 1) mX1_startAnew 27 [some (.ref k0), some (.int x1)] [] σ (qv Q)
def t_X1_startAnew_27 (E : am_E) (d : Nat) (k0 : Nat) (x1 : Int32) (σ : FH) (Q : FH → Prop) : Prop :=
  ((8 ≤ x1 → Q σ) ∧
  (¬ 8 ≤ x1 → (vp_in x1 8 ∧ (∀ σ8 : FH, σ8 = fsI σ (k0 + 1) x1.toNatClampNeg 0 → h_X1_startAnew_27 E d k0 (x1 + 1) σ8 Q))))
set_option maxRecDepth 100000 in
set_option maxHeartbeats 4000000 in
theorem v_X1_startAnew_27 {E : am_E} {d : Nat} {σ : FH} {Q : FH → Prop} {k0 : Nat} {x1 : Int32} (hk0 : isPg k0) (t : t_X1_startAnew_27 E d k0 x1 σ Q) : h_X1_startAnew_27 E d k0 x1 σ Q := by
  unfold h_X1_startAnew_27
  unfold t_X1_startAnew_27 at t
  refine ar_iload_n (i := 1) dX1_startAnew_27 rfl rfl ?_
  refine ar_bipush (v := 8) dX1_startAnew_28 (by decide) ?_
  refine ar_icmp_ge (tgt := 46) dX1_startAnew_30 (by decide) (fun h6 => ?_) (fun h6 => ?_)
  · have t := t.1 h6
    exact fr_vret dX1_startAnew_46 rfl (Nat.le_refl _) (Nat.le_refl _) t
  · have t := t.2 h6
    refine ar_aload_n (i := 0) dX1_startAnew_33 rfl rfl ?_
    refine fr_getR (t := 1) (j := 5) dX1_startAnew_34 fs_X1_28 hk0.f.1 rfl (frf_c hk0.f.2.2.2 hk0.f.2.1) (Nat.succ_ne_zero _) ?_
    refine ar_iload_n (i := 1) dX1_startAnew_37 rfl rfl ?_
    refine ar_iconst (v := 0) dX1_startAnew_38 (by decide) ?_
    obtain ⟨h7, t⟩ := t
    refine fr_iast (n := 8) dX1_startAnew_39 hk0.f.2.2.1 h7 ?_
    have t := t _ rfl
    refine ar_iinc (i := 1) (v := _ + 1) (lo2 := [_, _]) dX1_startAnew_40 rfl (ii_1 _) (Nat.le_of_ble_eq_true rfl) rfl rfl ?_
    refine ar_goto (tgt := 27) dX1_startAnew_43 (by decide) ?_
    exact t
def t_X1_startAnew (E : am_E) (d : Nat) (k0 : Nat) (σ : FH) (Q : FH → Prop) : Prop :=
  (∀ σ1 : FH, σ1 = fsI σ k0 0 0 → (∀ σ2 : FH, σ2 = fsI σ1 k0 1 0 → (∀ σ3 : FH, σ3 = fsI σ2 k0 2 0 → (∀ σ4 : FH, σ4 = fsI σ3 k0 3 0 → (∀ σ5 : FH, σ5 = fsI σ4 k0 4 0 → h_X1_startAnew_27 E d k0 0 σ5 Q)))))
set_option maxRecDepth 100000 in
set_option maxHeartbeats 4000000 in
theorem v_X1_startAnew {E : am_E} {d : Nat} {σ : FH} {Q : FH → Prop} {k0 : Nat} (hk0 : isPg k0) (t : t_X1_startAnew E d k0 σ Q) : fMv E (d + 1) mX1_startAnew [.ref k0] σ Q := by
  refine fr_ofG [some (.ref k0), none] (by decide) rfl (Nat.le_of_ble_eq_true rfl) ?_
  unfold t_X1_startAnew at t
  refine ar_aload_n (i := 0) dX1_startAnew_0 rfl rfl ?_
  refine ar_iconst (v := 0) dX1_startAnew_1 (by decide) ?_
  refine fr_putI (t := 1) (j := 0) dX1_startAnew_2 fq_X1_9 hk0.f.1 rfl (Or.inl rfl) ?_
  have t := t _ rfl
  refine ar_aload_n (i := 0) dX1_startAnew_5 rfl rfl ?_
  refine ar_iconst (v := 0) dX1_startAnew_6 (by decide) ?_
  refine fr_putI (t := 1) (j := 1) dX1_startAnew_7 fq_X1_15 hk0.f.1 rfl (Or.inl rfl) ?_
  have t := t _ rfl
  refine ar_aload_n (i := 0) dX1_startAnew_10 rfl rfl ?_
  refine ar_iconst (v := 0) dX1_startAnew_11 (by decide) ?_
  refine fr_putI (t := 1) (j := 2) dX1_startAnew_12 fq_X1_18 hk0.f.1 rfl (Or.inl rfl) ?_
  have t := t _ rfl
  refine ar_aload_n (i := 0) dX1_startAnew_15 rfl rfl ?_
  refine ar_iconst (v := 0) dX1_startAnew_16 (by decide) ?_
  refine fr_putI (t := 1) (j := 3) dX1_startAnew_17 fq_X1_21 hk0.f.1 rfl (Or.inl rfl) ?_
  have t := t _ rfl
  refine ar_aload_n (i := 0) dX1_startAnew_20 rfl rfl ?_
  refine ar_iconst (v := 0) dX1_startAnew_21 (by decide) ?_
  refine fr_putI (t := 1) (j := 4) dX1_startAnew_22 fq_X1_24 hk0.f.1 rfl (Or.inr (Or.inl rfl)) ?_
  have t := t _ rfl
  refine ar_iconst (v := 0) dX1_startAnew_25 (by decide) ?_
  refine ar_istore_n (i := 1) (lo2 := [_, _]) dX1_startAnew_26 rfl (Nat.le_of_ble_eq_true rfl) rfl rfl ?_
  exact t

/-- X1.become: the machine at the loop head 42 -/
def h_X1_become_42 (E : am_E) (d : Nat) (k0 : Nat) (k1 : Nat) (x2 : Int32) (σ : FH) (Q : FH → Prop) : Prop := fG E (d + 1) mX1_become 42 [some (.ref k0), some (.ref k1), some (.int x2)] [] σ (qv Q)
def t_X1_become_42 (E : am_E) (d : Nat) (k0 : Nat) (k1 : Nat) (x2 : Int32) (σ : FH) (Q : FH → Prop) : Prop :=
  ((8 ≤ x2 → Q σ) ∧
  (¬ 8 ≤ x2 → (vp_in x2 8 ∧ (vp_in x2 8 ∧ (∀ σ10 : FH, σ10 = fsI σ (k0 + 1) x2.toNatClampNeg (σ.1 (k1 + 1) x2.toNatClampNeg) → h_X1_become_42 E d k0 k1 (x2 + 1) σ10 Q)))))
set_option maxRecDepth 100000 in
set_option maxHeartbeats 4000000 in
theorem v_X1_become_42 {E : am_E} {d : Nat} {σ : FH} {Q : FH → Prop} {k0 : Nat} {k1 : Nat} {x2 : Int32} (hk0 : isPg k0) (hk1 : isPg k1) (t : t_X1_become_42 E d k0 k1 x2 σ Q) : h_X1_become_42 E d k0 k1 x2 σ Q := by
  unfold h_X1_become_42
  unfold t_X1_become_42 at t
  refine ar_iload_n (i := 2) dX1_become_42 rfl rfl ?_
  refine ar_bipush (v := 8) dX1_become_43 (by decide) ?_
  refine ar_icmp_ge (tgt := 66) dX1_become_45 (by decide) (fun h7 => ?_) (fun h7 => ?_)
  · have t := t.1 h7
    exact fr_vret dX1_become_66 rfl (Nat.le_refl _) (Nat.le_refl _) t
  · have t := t.2 h7
    refine ar_aload_n (i := 0) dX1_become_48 rfl rfl ?_
    refine fr_getR (t := 1) (j := 5) dX1_become_49 fs_X1_28 hk0.f.1 rfl (frf_c hk0.f.2.2.2 hk0.f.2.1) (Nat.succ_ne_zero _) ?_
    refine ar_iload_n (i := 2) dX1_become_52 rfl rfl ?_
    refine ar_aload_n (i := 1) dX1_become_53 rfl rfl ?_
    refine fr_getR (t := 1) (j := 5) dX1_become_54 fs_X1_28 hk1.f.1 rfl (frf_c hk1.f.2.2.2 hk1.f.2.1) (Nat.succ_ne_zero _) ?_
    refine ar_iload_n (i := 2) dX1_become_57 rfl rfl ?_
    obtain ⟨h8, t⟩ := t
    refine fr_iald (n := 8) dX1_become_58 hk1.f.2.2.1 h8 ?_
    obtain ⟨h9, t⟩ := t
    refine fr_iast (n := 8) dX1_become_59 hk0.f.2.2.1 h9 ?_
    have t := t _ rfl
    refine ar_iinc (i := 2) (v := _ + 1) (lo2 := [_, _, _]) dX1_become_60 rfl (ii_1 _) (Nat.le_of_ble_eq_true rfl) rfl rfl ?_
    refine ar_goto (tgt := 42) dX1_become_63 (by decide) ?_
    exact t
def t_X1_become (E : am_E) (d : Nat) (k0 : Nat) (k1 : Nat) (σ : FH) (Q : FH → Prop) : Prop :=
  (∀ σ1 : FH, σ1 = fsI σ k0 0 (σ.1 k1 0) → (∀ σ2 : FH, σ2 = fsI σ1 k0 1 (σ1.1 k1 1) → (∀ σ3 : FH, σ3 = fsI σ2 k0 2 (σ2.1 k1 2) → (∀ σ4 : FH, σ4 = fsI σ3 k0 3 (σ3.1 k1 3) → (((σ4.1 k1 4) = 0 ∨ (σ4.1 k1 4) = 1) ∧ (∀ σ5 : FH, σ5 = fsI σ4 k0 4 (σ4.1 k1 4) → h_X1_become_42 E d k0 k1 0 σ5 Q))))))
set_option maxRecDepth 100000 in
set_option maxHeartbeats 4000000 in
theorem v_X1_become {E : am_E} {d : Nat} {σ : FH} {Q : FH → Prop} {k0 : Nat} {k1 : Nat} (hk0 : isPg k0) (hk1 : isPg k1) (t : t_X1_become E d k0 k1 σ Q) : fMv E (d + 1) mX1_become [.ref k0, .ref k1] σ Q := by
  refine fr_ofG [some (.ref k0), some (.ref k1), none] (by decide) rfl (Nat.le_of_ble_eq_true rfl) ?_
  unfold t_X1_become at t
  refine ar_aload_n (i := 0) dX1_become_0 rfl rfl ?_
  refine ar_aload_n (i := 1) dX1_become_1 rfl rfl ?_
  refine fr_getI (t := 1) (j := 0) dX1_become_2 fs_X1_9 hk1.f.1 rfl ?_
  refine fr_putI (t := 1) (j := 0) dX1_become_5 fq_X1_9 hk0.f.1 rfl (Or.inl rfl) ?_
  have t := t _ rfl
  refine ar_aload_n (i := 0) dX1_become_8 rfl rfl ?_
  refine ar_aload_n (i := 1) dX1_become_9 rfl rfl ?_
  refine fr_getI (t := 1) (j := 1) dX1_become_10 fs_X1_15 hk1.f.1 rfl ?_
  refine fr_putI (t := 1) (j := 1) dX1_become_13 fq_X1_15 hk0.f.1 rfl (Or.inl rfl) ?_
  have t := t _ rfl
  refine ar_aload_n (i := 0) dX1_become_16 rfl rfl ?_
  refine ar_aload_n (i := 1) dX1_become_17 rfl rfl ?_
  refine fr_getI (t := 1) (j := 2) dX1_become_18 fs_X1_18 hk1.f.1 rfl ?_
  refine fr_putI (t := 1) (j := 2) dX1_become_21 fq_X1_18 hk0.f.1 rfl (Or.inl rfl) ?_
  have t := t _ rfl
  refine ar_aload_n (i := 0) dX1_become_24 rfl rfl ?_
  refine ar_aload_n (i := 1) dX1_become_25 rfl rfl ?_
  refine fr_getI (t := 1) (j := 3) dX1_become_26 fs_X1_21 hk1.f.1 rfl ?_
  refine fr_putI (t := 1) (j := 3) dX1_become_29 fq_X1_21 hk0.f.1 rfl (Or.inl rfl) ?_
  have t := t _ rfl
  refine ar_aload_n (i := 0) dX1_become_32 rfl rfl ?_
  refine ar_aload_n (i := 1) dX1_become_33 rfl rfl ?_
  refine fr_getI (t := 1) (j := 4) dX1_become_34 fs_X1_24 hk1.f.1 rfl ?_
  obtain ⟨h6, t⟩ := t
  refine fr_putI (t := 1) (j := 4) dX1_become_37 fq_X1_24 hk0.f.1 rfl (Or.inr h6) ?_
  have t := t _ rfl
  refine ar_iconst (v := 0) dX1_become_40 (by decide) ?_
  refine ar_istore_n (i := 2) (lo2 := [_, _, _]) dX1_become_41 rfl (Nat.le_of_ble_eq_true rfl) rfl rfl ?_
  exact t

def t_X1_may (E : am_E) (d : Nat) (k0 : Nat) (k1 : Nat) (x2 : Int32) (σ : FH) (Q : Int32 → FH → Prop) : Prop :=
  ((¬ (σ.1 k0 4) = 0 → Q 0 σ) ∧
  ((σ.1 k0 4) = 0 → fMi E d mX2_touches [.ref k1, .int (σ.1 k0 0)] σ (fun r3 σ2 => ((r3 = 0 → Q 0 σ2) ∧
    (¬ r3 = 0 → ((99 < ((σ2.1 k0 1) + x2) → Q 0 σ2) ∧
      (¬ 99 < ((σ2.1 k0 1) + x2) → Q 1 σ2)))))))
set_option maxRecDepth 100000 in
set_option maxHeartbeats 4000000 in
theorem v_X1_may {E : am_E} {d : Nat} {σ : FH} {Q : Int32 → FH → Prop} {k0 : Nat} {k1 : Nat} {x2 : Int32} (hk0 : isPg k0) (hk1 : isRd k1) (t : t_X1_may E d k0 k1 x2 σ Q) : fMi E (d + 1) mX1_may [.ref k0, .ref k1, .int x2] σ Q := by
  refine fr_ofG [some (.ref k0), some (.ref k1), some (.int x2)] (by decide) rfl (Nat.le_of_ble_eq_true rfl) ?_
  unfold t_X1_may at t
  refine ar_aload_n (i := 0) dX1_may_0 rfl rfl ?_
  refine fr_getI (t := 1) (j := 4) dX1_may_1 fs_X1_24 hk0.f.1 rfl ?_
  refine ar_if_ne (tgt := 33) dX1_may_4 (by decide) (fun h1 => ?_) (fun h1 => ?_)
  · have t := t.1 h1
    refine ar_iconst (v := 0) dX1_may_33 (by decide) ?_
    exact fr_zret dX1_may_34 rfl (Nat.le_refl _) (Nat.le_refl _) (Or.inl rfl) t
  · have t := t.2 h1
    refine ar_aload_n (i := 1) dX1_may_7 rfl rfl ?_
    refine ar_aload_n (i := 0) dX1_may_8 rfl rfl ?_
    refine fr_getI (t := 1) (j := 0) dX1_may_9 fs_X1_9 hk0.f.1 rfl ?_
    refine fr_callVi (M' := mX2_touches) [_] dX1_may_12 ml_X1_32 mv_X2_touches rfl rfl hk1.o rfl rfl (Nat.le_of_ble_eq_true rfl) ⟨Nat.le_refl _, Nat.le_refl _⟩ t (fun r3 σ2 t => ?_)
    try dsimp only at t
    refine ar_if_eq (tgt := 33) dX1_may_15 (by decide) (fun h4 => ?_) (fun h4 => ?_)
    · have t := t.1 h4
      refine ar_iconst (v := 0) dX1_may_33 (by decide) ?_
      exact fr_zret dX1_may_34 rfl (Nat.le_refl _) (Nat.le_refl _) (Or.inl rfl) t
    · have t := t.2 h4
      refine ar_aload_n (i := 0) dX1_may_18 rfl rfl ?_
      refine fr_getI (t := 1) (j := 1) dX1_may_19 fs_X1_15 hk0.f.1 rfl ?_
      refine ar_iload_n (i := 2) dX1_may_22 rfl rfl ?_
      refine ar_iadd dX1_may_23 ?_
      refine ar_bipush (v := 99) dX1_may_24 (by decide) ?_
      refine ar_icmp_gt (tgt := 33) dX1_may_26 (by decide) (fun h5 => ?_) (fun h5 => ?_)
      · have t := t.1 h5
        refine ar_iconst (v := 0) dX1_may_33 (by decide) ?_
        exact fr_zret dX1_may_34 rfl (Nat.le_refl _) (Nat.le_refl _) (Or.inl rfl) t
      · have t := t.2 h5
        refine ar_iconst (v := 1) dX1_may_29 (by decide) ?_
        refine ar_goto (tgt := 34) dX1_may_30 (by decide) ?_
        exact fr_zret dX1_may_34 rfl (Nat.le_refl _) (Nat.le_refl _) (Or.inr rfl) t

def t_X1_go (E : am_E) (d : Nat) (k0 : Nat) (k1 : Nat) (x2 : Int32) (x3 : Int32) (σ : FH) (Q : FH → Prop) : Prop :=
  (∀ σ1 : FH, σ1 = fsI σ k0 1 ((σ.1 k0 1) + x2) → fMi E d mX2_across [.ref k1, .int (σ1.1 k0 0)] σ1 (fun r3 σ2 => (∀ σ4 : FH, σ4 = fsI σ2 k0 0 r3 → (∀ σ5 : FH, σ5 = fsI σ4 k0 3 ((σ4.1 k0 3) + 1) → fMi E d mX1_wouldCount [.ref k0, .ref k1] σ5 (fun r7 σ6 => ((r7 = 0 → Q σ6) ∧
  (¬ r7 = 0 → (∀ σ9 : FH, σ9 = fsI σ6 k0 2 ((σ6.1 k0 2) + x3) → (vp_in (σ9.1 k1 0) 8 ∧ (∀ σ11 : FH, σ11 = fsI σ9 (k0 + 1) (σ9.1 k1 0).toNatClampNeg (σ9.1 k1 4) → Q σ11))))))))))
set_option maxRecDepth 100000 in
set_option maxHeartbeats 4000000 in
theorem v_X1_go {E : am_E} {d : Nat} {σ : FH} {Q : FH → Prop} {k0 : Nat} {k1 : Nat} {x2 : Int32} {x3 : Int32} (hk0 : isPg k0) (hk1 : isRd k1) (t : t_X1_go E d k0 k1 x2 x3 σ Q) : fMv E (d + 1) mX1_go [.ref k0, .ref k1, .int x2, .int x3] σ Q := by
  refine fr_ofG [some (.ref k0), some (.ref k1), some (.int x2), some (.int x3)] (by decide) rfl (Nat.le_of_ble_eq_true rfl) ?_
  unfold t_X1_go at t
  refine ar_aload_n (i := 0) dX1_go_0 rfl rfl ?_
  refine ar_dup dX1_go_1 rfl ?_
  refine fr_getI (t := 1) (j := 1) dX1_go_2 fs_X1_15 hk0.f.1 rfl ?_
  refine ar_iload_n (i := 2) dX1_go_5 rfl rfl ?_
  refine ar_iadd dX1_go_6 ?_
  refine fr_putI (t := 1) (j := 1) dX1_go_7 fq_X1_15 hk0.f.1 rfl (Or.inl rfl) ?_
  have t := t _ rfl
  refine ar_aload_n (i := 0) dX1_go_10 rfl rfl ?_
  refine ar_aload_n (i := 1) dX1_go_11 rfl rfl ?_
  refine ar_aload_n (i := 0) dX1_go_12 rfl rfl ?_
  refine fr_getI (t := 1) (j := 0) dX1_go_13 fs_X1_9 hk0.f.1 rfl ?_
  refine fr_callVi (M' := mX2_across) [_] dX1_go_16 ml_X1_38 mv_X2_across rfl rfl hk1.o rfl rfl (Nat.le_of_ble_eq_true rfl) ⟨Nat.le_refl _, Nat.le_refl _⟩ t (fun r3 σ2 t => ?_)
  try dsimp only at t
  refine fr_putI (t := 1) (j := 0) dX1_go_19 fq_X1_9 hk0.f.1 rfl (Or.inl rfl) ?_
  have t := t _ rfl
  refine ar_aload_n (i := 0) dX1_go_22 rfl rfl ?_
  refine ar_dup dX1_go_23 rfl ?_
  refine fr_getI (t := 1) (j := 3) dX1_go_24 fs_X1_21 hk0.f.1 rfl ?_
  refine ar_iconst (v := 1) dX1_go_27 (by decide) ?_
  refine ar_iadd dX1_go_28 ?_
  refine fr_putI (t := 1) (j := 3) dX1_go_29 fq_X1_21 hk0.f.1 rfl (Or.inl rfl) ?_
  have t := t _ rfl
  refine ar_aload_n (i := 0) dX1_go_32 rfl rfl ?_
  refine ar_aload_n (i := 1) dX1_go_33 rfl rfl ?_
  refine fr_callVi (M' := mX1_wouldCount) [_] dX1_go_34 ml_X1_42 mv_X1_wouldCount rfl rfl hk0.f.1 rfl rfl (Nat.le_of_ble_eq_true rfl) ⟨Nat.le_refl _, Nat.le_refl _⟩ t (fun r7 σ6 t => ?_)
  try dsimp only at t
  refine ar_if_eq (tgt := 63) dX1_go_37 (by decide) (fun h8 => ?_) (fun h8 => ?_)
  · have t := t.1 h8
    exact fr_vret dX1_go_63 rfl (Nat.le_refl _) (Nat.le_refl _) t
  · have t := t.2 h8
    refine ar_aload_n (i := 0) dX1_go_40 rfl rfl ?_
    refine ar_dup dX1_go_41 rfl ?_
    refine fr_getI (t := 1) (j := 2) dX1_go_42 fs_X1_18 hk0.f.1 rfl ?_
    refine ar_iload_n (i := 3) dX1_go_45 rfl rfl ?_
    refine ar_iadd dX1_go_46 ?_
    refine fr_putI (t := 1) (j := 2) dX1_go_47 fq_X1_18 hk0.f.1 rfl (Or.inl rfl) ?_
    have t := t _ rfl
    refine ar_aload_n (i := 0) dX1_go_50 rfl rfl ?_
    refine fr_getR (t := 1) (j := 5) dX1_go_51 fs_X1_28 hk0.f.1 rfl (frf_c hk0.f.2.2.2 hk0.f.2.1) (Nat.succ_ne_zero _) ?_
    refine ar_aload_n (i := 1) dX1_go_54 rfl rfl ?_
    refine fr_getI (t := 2) (j := 0) dX1_go_55 fs_X1_46 hk1.o rfl ?_
    refine ar_aload_n (i := 1) dX1_go_58 rfl rfl ?_
    refine fr_getI (t := 2) (j := 4) dX1_go_59 fs_X1_49 hk1.o rfl ?_
    obtain ⟨h10, t⟩ := t
    refine fr_iast (n := 8) dX1_go_62 hk0.f.2.2.1 h10 ?_
    have t := t _ rfl
    exact fr_vret dX1_go_63 rfl (Nat.le_refl _) (Nat.le_refl _) t

def t_X1_wouldCount (E : am_E) (d : Nat) (k0 : Nat) (k1 : Nat) (σ : FH) (Q : Int32 → FH → Prop) : Prop :=
  (vp_in (σ.1 k1 0) 8 ∧ (((σ.1 k1 4) ≤ (σ.1 (k0 + 1) (σ.1 k1 0).toNatClampNeg) → Q 0 σ) ∧
  (¬ (σ.1 k1 4) ≤ (σ.1 (k0 + 1) (σ.1 k1 0).toNatClampNeg) → Q 1 σ)))
set_option maxRecDepth 100000 in
set_option maxHeartbeats 4000000 in
theorem v_X1_wouldCount {E : am_E} {d : Nat} {σ : FH} {Q : Int32 → FH → Prop} {k0 : Nat} {k1 : Nat} (hk0 : isPg k0) (hk1 : isRd k1) (t : t_X1_wouldCount E d k0 k1 σ Q) : fMi E (d + 1) mX1_wouldCount [.ref k0, .ref k1] σ Q := by
  refine fr_ofG [some (.ref k0), some (.ref k1)] (by decide) rfl (Nat.le_of_ble_eq_true rfl) ?_
  unfold t_X1_wouldCount at t
  refine ar_aload_n (i := 1) dX1_wouldCount_0 rfl rfl ?_
  refine fr_getI (t := 2) (j := 4) dX1_wouldCount_1 fs_X1_49 hk1.o rfl ?_
  refine ar_aload_n (i := 0) dX1_wouldCount_4 rfl rfl ?_
  refine fr_getR (t := 1) (j := 5) dX1_wouldCount_5 fs_X1_28 hk0.f.1 rfl (frf_c hk0.f.2.2.2 hk0.f.2.1) (Nat.succ_ne_zero _) ?_
  refine ar_aload_n (i := 1) dX1_wouldCount_8 rfl rfl ?_
  refine fr_getI (t := 2) (j := 0) dX1_wouldCount_9 fs_X1_46 hk1.o rfl ?_
  obtain ⟨h1, t⟩ := t
  refine fr_iald (n := 8) dX1_wouldCount_12 hk0.f.2.2.1 h1 ?_
  refine ar_icmp_le (tgt := 20) dX1_wouldCount_13 (by decide) (fun h2 => ?_) (fun h2 => ?_)
  · have t := t.1 h2
    refine ar_iconst (v := 0) dX1_wouldCount_20 (by decide) ?_
    exact fr_zret dX1_wouldCount_21 rfl (Nat.le_refl _) (Nat.le_refl _) (Or.inl rfl) t
  · have t := t.2 h2
    refine ar_iconst (v := 1) dX1_wouldCount_16 (by decide) ?_
    refine ar_goto (tgt := 21) dX1_wouldCount_17 (by decide) ?_
    exact fr_zret dX1_wouldCount_21 rfl (Nat.le_refl _) (Nat.le_refl _) (Or.inr rfl) t

def t_X1_recover (E : am_E) (d : Nat) (k0 : Nat) (σ : FH) (Q : FH → Prop) : Prop :=
  (∀ σ1 : FH, σ1 = fsI σ k0 1 (if 0 < ((σ.1 k0 1) - 5) then ((σ.1 k0 1) - 5) else 0) → Q σ1)
set_option maxRecDepth 100000 in
set_option maxHeartbeats 4000000 in
theorem v_X1_recover {E : am_E} {d : Nat} {σ : FH} {Q : FH → Prop} {k0 : Nat} (hk0 : isPg k0) (t : t_X1_recover E d k0 σ Q) : fMv E (d + 1) mX1_recover [.ref k0] σ Q := by
  refine fr_ofG [some (.ref k0)] (by decide) rfl (Nat.le_of_ble_eq_true rfl) ?_
  unfold t_X1_recover at t
  refine ar_aload_n (i := 0) dX1_recover_0 rfl rfl ?_
  refine ar_iconst (v := 0) dX1_recover_1 (by decide) ?_
  refine ar_aload_n (i := 0) dX1_recover_2 rfl rfl ?_
  refine fr_getI (t := 1) (j := 1) dX1_recover_3 fs_X1_15 hk0.f.1 rfl ?_
  refine ar_iconst (v := 5) dX1_recover_6 (by decide) ?_
  refine ar_isub dX1_recover_7 ?_
  refine ar_max dX1_recover_8 ml_X1_52 jm_max.1 jm_max.2.1 jm_max.2.2 (Nat.le_of_ble_eq_true rfl) (Nat.le_refl _) (Nat.le_refl _) ?_
  refine fr_putI (t := 1) (j := 1) dX1_recover_11 fq_X1_15 hk0.f.1 rfl (Or.inl rfl) ?_
  have t := t _ rfl
  exact fr_vret dX1_recover_14 rfl (Nat.le_refl _) (Nat.le_refl _) t

def t_X1_ask (E : am_E) (d : Nat) (k0 : Nat) (x1 : Int32) (σ : FH) (Q : FH → Prop) : Prop :=
  ((¬ (σ.1 k0 0) = 5 → Q σ) ∧
  ((σ.1 k0 0) = 5 → ((¬ (σ.1 k0 2) = x1 → Q σ) ∧
    ((σ.1 k0 2) = x1 → (∀ σ3 : FH, σ3 = fsI σ k0 4 1 → Q σ3)))))
set_option maxRecDepth 100000 in
set_option maxHeartbeats 4000000 in
theorem v_X1_ask {E : am_E} {d : Nat} {σ : FH} {Q : FH → Prop} {k0 : Nat} {x1 : Int32} (hk0 : isPg k0) (t : t_X1_ask E d k0 x1 σ Q) : fMv E (d + 1) mX1_ask [.ref k0, .int x1] σ Q := by
  refine fr_ofG [some (.ref k0), some (.int x1)] (by decide) rfl (Nat.le_of_ble_eq_true rfl) ?_
  unfold t_X1_ask at t
  refine ar_aload_n (i := 0) dX1_ask_0 rfl rfl ?_
  refine fr_getI (t := 1) (j := 0) dX1_ask_1 fs_X1_9 hk0.f.1 rfl ?_
  refine ar_iconst (v := 5) dX1_ask_4 (by decide) ?_
  refine ar_icmp_ne (tgt := 21) dX1_ask_5 (by decide) (fun h1 => ?_) (fun h1 => ?_)
  · have t := t.1 h1
    exact fr_vret dX1_ask_21 rfl (Nat.le_refl _) (Nat.le_refl _) t
  · have t := t.2 h1
    refine ar_aload_n (i := 0) dX1_ask_8 rfl rfl ?_
    refine fr_getI (t := 1) (j := 2) dX1_ask_9 fs_X1_18 hk0.f.1 rfl ?_
    refine ar_iload_n (i := 1) dX1_ask_12 rfl rfl ?_
    refine ar_icmp_ne (tgt := 21) dX1_ask_13 (by decide) (fun h2 => ?_) (fun h2 => ?_)
    · have t := t.1 h2
      exact fr_vret dX1_ask_21 rfl (Nat.le_refl _) (Nat.le_refl _) t
    · have t := t.2 h2
      refine ar_aload_n (i := 0) dX1_ask_16 rfl rfl ?_
      refine ar_iconst (v := 1) dX1_ask_17 (by decide) ?_
      refine fr_putI (t := 1) (j := 4) dX1_ask_18 fq_X1_24 hk0.f.1 rfl (Or.inr (Or.inr rfl)) ?_
      have t := t _ rfl
      exact fr_vret dX1_ask_21 rfl (Nat.le_refl _) (Nat.le_refl _) t

