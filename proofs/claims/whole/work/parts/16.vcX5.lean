/-! the verification conditions of CountedTrials$World (printed by wip/gen/vc.py): t_.. is what is to be shown, v_.. that it is enough -/
def t_X5_startAnew (E : am_E) (d : Nat) (k0 : Nat) (σ : FH) (Q : FH → Prop) : Prop :=
  (∀ σ1 : FH, σ1 = fsI σ k0 2 0 → (∀ σ2 : FH, σ2 = fsI σ1 k0 3 0 → (∀ σ3 : FH, σ3 = fsI σ2 k0 4 0 → Q σ3)))
set_option maxRecDepth 100000 in
set_option maxHeartbeats 4000000 in
theorem v_X5_startAnew {E : am_E} {d : Nat} {σ : FH} {Q : FH → Prop} {k0 : Nat} (hk0 : isWd k0) (t : t_X5_startAnew E d k0 σ Q) : fMv E (d + 1) mX5_startAnew [.ref k0] σ Q := by
  refine fr_ofG [some (.ref k0)] (by decide) rfl (Nat.le_of_ble_eq_true rfl) ?_
  unfold t_X5_startAnew at t
  refine ar_aload_n (i := 0) dX5_startAnew_0 rfl rfl ?_
  refine ar_iconst (v := 0) dX5_startAnew_1 (by decide) ?_
  refine fr_putI (t := 5) (j := 2) dX5_startAnew_2 fq_X5_18 hk0.o rfl (Or.inl rfl) ?_
  have t := t _ rfl
  refine ar_aload_n (i := 0) dX5_startAnew_5 rfl rfl ?_
  refine ar_iconst (v := 0) dX5_startAnew_6 (by decide) ?_
  refine fr_putI (t := 5) (j := 3) dX5_startAnew_7 fq_X5_21 hk0.o rfl (Or.inl rfl) ?_
  have t := t _ rfl
  refine ar_aload_n (i := 0) dX5_startAnew_10 rfl rfl ?_
  refine ar_iconst (v := 0) dX5_startAnew_11 (by decide) ?_
  refine fr_putI (t := 5) (j := 4) dX5_startAnew_12 fq_X5_24 hk0.o rfl (Or.inl rfl) ?_
  have t := t _ rfl
  exact fr_vret dX5_startAnew_15 rfl (Nat.le_refl _) (Nat.le_refl _) t

/-- X5.become: the machine at the loop head 42 -/
def h_X5_become_42 (E : am_E) (d : Nat) (k0 : Nat) (k1 : Nat) (x2 : Int32) (σ : FH) (Q : FH → Prop) : Prop := fG E (d + 1) mX5_become 42 [some (.ref k0), some (.ref k1), some (.int x2)] [] σ (qv Q)
/-- X5.become: the machine at the loop head 68 -/
def h_X5_become_68 (E : am_E) (d : Nat) (k0 : Nat) (k1 : Nat) (x2 : Int32) (σ : FH) (Q : FH → Prop) : Prop := fG E (d + 1) mX5_become 68 [some (.ref k0), some (.ref k1), some (.int x2)] [] σ (qv Q)
/-- X5.become: the machine at the loop head 99 -/
def h_X5_become_99 (E : am_E) (d : Nat) (k0 : Nat) (k1 : Nat) (x2 : Int32) (σ : FH) (Q : FH → Prop) : Prop := fG E (d + 1) mX5_become 99 [some (.ref k0), some (.ref k1), some (.int x2)] [] σ (qv Q)
def t_X5_become_99 (E : am_E) (d : Nat) (k0 : Nat) (k1 : Nat) (x2 : Int32) (σ : FH) (Q : FH → Prop) : Prop :=
  (((σ.1 k0 2) ≤ x2 → Q σ) ∧
  (¬ (σ.1 k0 2) ≤ x2 → (vp_in x2 4 ∧ (vp_in x2 4 ∧ fMv E d mX1_become [.ref (k0 + 12 + 2 * x2.toNatClampNeg), .ref (k1 + 12 + 2 * x2.toNatClampNeg)] σ (fun σ11 => h_X5_become_99 E d k0 k1 (x2 + 1) σ11 Q)))))
set_option maxRecDepth 100000 in
set_option maxHeartbeats 4000000 in
theorem v_X5_become_99 {E : am_E} {d : Nat} {σ : FH} {Q : FH → Prop} {k0 : Nat} {k1 : Nat} {x2 : Int32} (hk0 : isWd k0) (hk1 : isWd k1) (t : t_X5_become_99 E d k0 k1 x2 σ Q) : h_X5_become_99 E d k0 k1 x2 σ Q := by
  unfold h_X5_become_99
  unfold t_X5_become_99 at t
  refine ar_iload_n (i := 2) dX5_become_99 rfl rfl ?_
  refine ar_aload_n (i := 0) dX5_become_100 rfl rfl ?_
  refine fr_getI (t := 5) (j := 2) dX5_become_101 fs_X5_18 hk0.o rfl ?_
  refine ar_icmp_ge (tgt := 128) dX5_become_104 (by decide) (fun h8 => ?_) (fun h8 => ?_)
  · have t := t.1 h8
    exact fr_vret dX5_become_128 rfl (Nat.le_refl _) (Nat.le_refl _) t
  · have t := t.2 h8
    refine ar_aload_n (i := 0) dX5_become_107 rfl rfl ?_
    refine fr_getR (t := 5) (j := 7) dX5_become_108 fs_X5_39 hk0.o rfl (frf_c hk0.ne.1 hk0.r7) (Nat.succ_ne_zero _) ?_
    refine ar_iload_n (i := 2) dX5_become_111 rfl rfl ?_
    obtain ⟨h9, t⟩ := t
    refine fr_aaldP (w := k0) dX5_become_112 hk0 h9 ?_
    refine ar_aload_n (i := 1) dX5_become_113 rfl rfl ?_
    refine fr_getR (t := 5) (j := 7) dX5_become_114 fs_X5_39 hk1.o rfl (frf_c hk1.ne.1 hk1.r7) (Nat.succ_ne_zero _) ?_
    refine ar_iload_n (i := 2) dX5_become_117 rfl rfl ?_
    obtain ⟨h10, t⟩ := t
    refine fr_aaldP (w := k1) dX5_become_118 hk1 h10 ?_
    refine fr_callVv (M' := mX1_become) [_] dX5_become_119 ml_X5_51 mv_X1_become rfl rfl (hk0.pg h9).f.1 rfl rfl (Nat.le_of_ble_eq_true rfl) ⟨Nat.le_refl _, Nat.le_refl _⟩ t (fun σ11 t => ?_)
    try dsimp only at t
    refine ar_iinc (i := 2) (v := _ + 1) (lo2 := [_, _, _]) dX5_become_122 rfl (ii_1 _) (Nat.le_of_ble_eq_true rfl) rfl rfl ?_
    refine ar_goto (tgt := 99) dX5_become_125 (by decide) ?_
    exact t
def t_X5_become_68 (E : am_E) (d : Nat) (k0 : Nat) (k1 : Nat) (x2 : Int32) (σ : FH) (Q : FH → Prop) : Prop :=
  (((σ.1 k0 1) ≤ x2 → h_X5_become_99 E d k0 k1 0 σ Q) ∧
  (¬ (σ.1 k0 1) ≤ x2 → (vp_in x2 8 ∧ (vp_in x2 8 ∧ fMv E d mX2_become [.ref (k0 + 4 + x2.toNatClampNeg), .ref (k1 + 4 + x2.toNatClampNeg)] σ (fun σ15 => h_X5_become_68 E d k0 k1 (x2 + 1) σ15 Q)))))
set_option maxRecDepth 100000 in
set_option maxHeartbeats 4000000 in
theorem v_X5_become_68 {E : am_E} {d : Nat} {σ : FH} {Q : FH → Prop} {k0 : Nat} {k1 : Nat} {x2 : Int32} (hk0 : isWd k0) (hk1 : isWd k1) (t : t_X5_become_68 E d k0 k1 x2 σ Q) : h_X5_become_68 E d k0 k1 x2 σ Q := by
  unfold h_X5_become_68
  unfold t_X5_become_68 at t
  refine ar_iload_n (i := 2) dX5_become_68 rfl rfl ?_
  refine ar_aload_n (i := 0) dX5_become_69 rfl rfl ?_
  refine fr_getI (t := 5) (j := 1) dX5_become_70 fs_X5_15 hk0.o rfl ?_
  refine ar_icmp_ge (tgt := 97) dX5_become_73 (by decide) (fun h7 => ?_) (fun h7 => ?_)
  · have t := t.1 h7
    refine ar_iconst (v := 0) dX5_become_97 (by decide) ?_
    refine ar_istore_n (i := 2) (lo2 := [_, _, _]) dX5_become_98 rfl (Nat.le_of_ble_eq_true rfl) rfl rfl ?_
    exact t
  · have t := t.2 h7
    refine ar_aload_n (i := 0) dX5_become_76 rfl rfl ?_
    refine fr_getR (t := 5) (j := 6) dX5_become_77 fs_X5_33 hk0.o rfl (frf_c hk0.ne.1 hk0.r6) (Nat.succ_ne_zero _) ?_
    refine ar_iload_n (i := 2) dX5_become_80 rfl rfl ?_
    obtain ⟨h13, t⟩ := t
    refine fr_aaldR (w := k0) dX5_become_81 hk0 h13 ?_
    refine ar_aload_n (i := 1) dX5_become_82 rfl rfl ?_
    refine fr_getR (t := 5) (j := 6) dX5_become_83 fs_X5_33 hk1.o rfl (frf_c hk1.ne.1 hk1.r6) (Nat.succ_ne_zero _) ?_
    refine ar_iload_n (i := 2) dX5_become_86 rfl rfl ?_
    obtain ⟨h14, t⟩ := t
    refine fr_aaldR (w := k1) dX5_become_87 hk1 h14 ?_
    refine fr_callVv (M' := mX2_become) [_] dX5_become_88 ml_X5_47 mv_X2_become rfl rfl (hk0.rd h13).o rfl rfl (Nat.le_of_ble_eq_true rfl) ⟨Nat.le_refl _, Nat.le_refl _⟩ t (fun σ15 t => ?_)
    try dsimp only at t
    refine ar_iinc (i := 2) (v := _ + 1) (lo2 := [_, _, _]) dX5_become_91 rfl (ii_1 _) (Nat.le_of_ble_eq_true rfl) rfl rfl ?_
    refine ar_goto (tgt := 68) dX5_become_94 (by decide) ?_
    exact t
def t_X5_become_42 (E : am_E) (d : Nat) (k0 : Nat) (k1 : Nat) (x2 : Int32) (σ : FH) (Q : FH → Prop) : Prop :=
  ((7 ≤ x2 → h_X5_become_68 E d k0 k1 0 σ Q) ∧
  (¬ 7 ≤ x2 → (vp_in x2 7 ∧ (vp_in x2 7 ∧ (∀ σ19 : FH, σ19 = fsI σ (k0 + 1) x2.toNatClampNeg (σ.1 (k1 + 1) x2.toNatClampNeg) → h_X5_become_42 E d k0 k1 (x2 + 1) σ19 Q)))))
set_option maxRecDepth 100000 in
set_option maxHeartbeats 4000000 in
theorem v_X5_become_42 {E : am_E} {d : Nat} {σ : FH} {Q : FH → Prop} {k0 : Nat} {k1 : Nat} {x2 : Int32} (hk0 : isWd k0) (hk1 : isWd k1) (t : t_X5_become_42 E d k0 k1 x2 σ Q) : h_X5_become_42 E d k0 k1 x2 σ Q := by
  unfold h_X5_become_42
  unfold t_X5_become_42 at t
  refine ar_iload_n (i := 2) dX5_become_42 rfl rfl ?_
  refine ar_bipush (v := 7) dX5_become_43 (by decide) ?_
  refine ar_icmp_ge (tgt := 66) dX5_become_45 (by decide) (fun h6 => ?_) (fun h6 => ?_)
  · have t := t.1 h6
    refine ar_iconst (v := 0) dX5_become_66 (by decide) ?_
    refine ar_istore_n (i := 2) (lo2 := [_, _, _]) dX5_become_67 rfl (Nat.le_of_ble_eq_true rfl) rfl rfl ?_
    exact t
  · have t := t.2 h6
    refine ar_aload_n (i := 0) dX5_become_48 rfl rfl ?_
    refine fr_getR (t := 5) (j := 5) dX5_become_49 fs_X5_27 hk0.o rfl (frf_c hk0.ne.1 hk0.r5) (Nat.succ_ne_zero _) ?_
    refine ar_iload_n (i := 2) dX5_become_52 rfl rfl ?_
    refine ar_aload_n (i := 1) dX5_become_53 rfl rfl ?_
    refine fr_getR (t := 5) (j := 5) dX5_become_54 fs_X5_27 hk1.o rfl (frf_c hk1.ne.1 hk1.r5) (Nat.succ_ne_zero _) ?_
    refine ar_iload_n (i := 2) dX5_become_57 rfl rfl ?_
    obtain ⟨h17, t⟩ := t
    refine fr_iald (n := 7) dX5_become_58 hk1.a1 h17 ?_
    obtain ⟨h18, t⟩ := t
    refine fr_iast (n := 7) dX5_become_59 hk0.a1 h18 ?_
    have t := t _ rfl
    refine ar_iinc (i := 2) (v := _ + 1) (lo2 := [_, _, _]) dX5_become_60 rfl (ii_1 _) (Nat.le_of_ble_eq_true rfl) rfl rfl ?_
    refine ar_goto (tgt := 42) dX5_become_63 (by decide) ?_
    exact t
def t_X5_become (E : am_E) (d : Nat) (k0 : Nat) (k1 : Nat) (σ : FH) (Q : FH → Prop) : Prop :=
  (∀ σ1 : FH, σ1 = fsI σ k0 0 (σ.1 k1 0) → (∀ σ2 : FH, σ2 = fsI σ1 k0 1 (σ1.1 k1 1) → (∀ σ3 : FH, σ3 = fsI σ2 k0 2 (σ2.1 k1 2) → (∀ σ4 : FH, σ4 = fsI σ3 k0 3 (σ3.1 k1 3) → (∀ σ5 : FH, σ5 = fsI σ4 k0 4 (σ4.1 k1 4) → h_X5_become_42 E d k0 k1 0 σ5 Q)))))
set_option maxRecDepth 100000 in
set_option maxHeartbeats 4000000 in
theorem v_X5_become {E : am_E} {d : Nat} {σ : FH} {Q : FH → Prop} {k0 : Nat} {k1 : Nat} (hk0 : isWd k0) (hk1 : isWd k1) (t : t_X5_become E d k0 k1 σ Q) : fMv E (d + 1) mX5_become [.ref k0, .ref k1] σ Q := by
  refine fr_ofG [some (.ref k0), some (.ref k1), none] (by decide) rfl (Nat.le_of_ble_eq_true rfl) ?_
  unfold t_X5_become at t
  refine ar_aload_n (i := 0) dX5_become_0 rfl rfl ?_
  refine ar_aload_n (i := 1) dX5_become_1 rfl rfl ?_
  refine fr_getI (t := 5) (j := 0) dX5_become_2 fs_X5_9 hk1.o rfl ?_
  refine fr_putI (t := 5) (j := 0) dX5_become_5 fq_X5_9 hk0.o rfl (Or.inl rfl) ?_
  have t := t _ rfl
  refine ar_aload_n (i := 0) dX5_become_8 rfl rfl ?_
  refine ar_aload_n (i := 1) dX5_become_9 rfl rfl ?_
  refine fr_getI (t := 5) (j := 1) dX5_become_10 fs_X5_15 hk1.o rfl ?_
  refine fr_putI (t := 5) (j := 1) dX5_become_13 fq_X5_15 hk0.o rfl (Or.inl rfl) ?_
  have t := t _ rfl
  refine ar_aload_n (i := 0) dX5_become_16 rfl rfl ?_
  refine ar_aload_n (i := 1) dX5_become_17 rfl rfl ?_
  refine fr_getI (t := 5) (j := 2) dX5_become_18 fs_X5_18 hk1.o rfl ?_
  refine fr_putI (t := 5) (j := 2) dX5_become_21 fq_X5_18 hk0.o rfl (Or.inl rfl) ?_
  have t := t _ rfl
  refine ar_aload_n (i := 0) dX5_become_24 rfl rfl ?_
  refine ar_aload_n (i := 1) dX5_become_25 rfl rfl ?_
  refine fr_getI (t := 5) (j := 3) dX5_become_26 fs_X5_21 hk1.o rfl ?_
  refine fr_putI (t := 5) (j := 3) dX5_become_29 fq_X5_21 hk0.o rfl (Or.inl rfl) ?_
  have t := t _ rfl
  refine ar_aload_n (i := 0) dX5_become_32 rfl rfl ?_
  refine ar_aload_n (i := 1) dX5_become_33 rfl rfl ?_
  refine fr_getI (t := 5) (j := 4) dX5_become_34 fs_X5_24 hk1.o rfl ?_
  refine fr_putI (t := 5) (j := 4) dX5_become_37 fq_X5_24 hk0.o rfl (Or.inl rfl) ?_
  have t := t _ rfl
  refine ar_iconst (v := 0) dX5_become_40 (by decide) ?_
  refine ar_istore_n (i := 2) (lo2 := [_, _, _]) dX5_become_41 rfl (Nat.le_of_ble_eq_true rfl) rfl rfl ?_
  exact t

/-- X5.live: the machine at the loop head 5 -/
def h_X5_live_5 (E : am_E) (d : Nat) (k0 : Nat) (x1 : Int32) (x3 : Int32) (x4 : Int32) (σ : FH) (Q : Int32 → FH → Prop) : Prop := fG E (d + 1) mX5_live 5 [some (.ref k0), some (.int x1), none, some (.int x3), some (.int x4), none] [] σ (qi Q)
/-- X5.live: the machine at the loop head 14 -/
def h_X5_live_14 (E : am_E) (d : Nat) (k0 : Nat) (x1 : Int32) (x3 : Int32) (x4 : Int32) (x5 : Int32) (σ : FH) (Q : Int32 → FH → Prop) : Prop := fG E (d + 1) mX5_live 14 [some (.ref k0), some (.int x1), none, some (.int x3), some (.int x4), some (.int x5)] [] σ (qi Q)
def t_X5_live_14 (E : am_E) (d : Nat) (k0 : Nat) (x1 : Int32) (x3 : Int32) (x4 : Int32) (x5 : Int32) (σ : FH) (Q : Int32 → FH → Prop) : Prop :=
  (((σ.1 k0 2) ≤ x5 → h_X5_live_5 E d k0 x1 x3 (x4 + 1) σ Q) ∧
  (¬ (σ.1 k0 2) ≤ x5 → (vp_in x5 4 ∧ ((¬ (σ.1 (k0 + 12 + 2 * x5.toNatClampNeg) 4) = 0 → h_X5_live_14 E d k0 x1 x3 x4 (x5 + 1) σ Q) ∧
    ((σ.1 (k0 + 12 + 2 * x5.toNatClampNeg) 4) = 0 → fMi E d mX5_nextSeed [.int x3] σ (fun r6 σ5 => (vp_in x5 4 ∧ fMv E d mX5_passMonth [.ref k0, .ref (k0 + 12 + 2 * x5.toNatClampNeg), .int r6] σ5 (fun σ8 => h_X5_live_14 E d k0 x1 r6 x4 (x5 + 1) σ8 Q))))))))
set_option maxRecDepth 100000 in
set_option maxHeartbeats 4000000 in
theorem v_X5_live_14 {E : am_E} {d : Nat} {σ : FH} {Q : Int32 → FH → Prop} {k0 : Nat} {x1 : Int32} {x3 : Int32} {x4 : Int32} {x5 : Int32} (hk0 : isWd k0) (t : t_X5_live_14 E d k0 x1 x3 x4 x5 σ Q) : h_X5_live_14 E d k0 x1 x3 x4 x5 σ Q := by
  unfold h_X5_live_14
  unfold t_X5_live_14 at t
  refine ar_iload (i := 5) dX5_live_14 rfl ?_
  refine ar_aload_n (i := 0) dX5_live_16 rfl rfl ?_
  refine fr_getI (t := 5) (j := 2) dX5_live_17 fs_X5_18 hk0.o rfl ?_
  refine ar_icmp_ge (tgt := 59) dX5_live_20 (by decide) (fun h2 => ?_) (fun h2 => ?_)
  · have t := t.1 h2
    refine ar_iinc (i := 4) (v := _ + 1) (lo2 := [_, _, none, _, _, _]) dX5_live_59 rfl (ii_1 _) (Nat.le_of_ble_eq_true rfl) rfl rfl ?_
    refine ar_goto (tgt := 5) dX5_live_62 (by decide) ?_
    refine ar_drop 5 (lo2 := [_, _, none, _, _, none]) rfl ?_
    exact t
  · have t := t.2 h2
    refine ar_aload_n (i := 0) dX5_live_23 rfl rfl ?_
    refine fr_getR (t := 5) (j := 7) dX5_live_24 fs_X5_39 hk0.o rfl (frf_c hk0.ne.1 hk0.r7) (Nat.succ_ne_zero _) ?_
    refine ar_iload (i := 5) dX5_live_27 rfl ?_
    obtain ⟨h3, t⟩ := t
    refine fr_aaldP (w := k0) dX5_live_29 hk0 h3 ?_
    refine fr_getI (t := 1) (j := 4) dX5_live_30 fs_X5_54 (hk0.pg h3).f.1 rfl ?_
    refine ar_if_ne (tgt := 53) dX5_live_33 (by decide) (fun h4 => ?_) (fun h4 => ?_)
    · have t := t.1 h4
      refine ar_iinc (i := 5) (v := _ + 1) (lo2 := [_, _, none, _, _, _]) dX5_live_53 rfl (ii_1 _) (Nat.le_of_ble_eq_true rfl) rfl rfl ?_
      refine ar_goto (tgt := 14) dX5_live_56 (by decide) ?_
      exact t
    · have t := t.2 h4
      refine ar_iload_n (i := 3) dX5_live_36 rfl rfl ?_
      refine fr_callSi (M' := mX5_nextSeed) [_] dX5_live_37 ml_X5_58 mv_X5_nextSeed rfl rfl (Nat.le_of_ble_eq_true rfl) ⟨Nat.le_refl _, Nat.le_refl _⟩ t (fun r6 σ5 t => ?_)
      try dsimp only at t
      refine ar_istore_n (i := 3) (lo2 := [_, _, none, _, _, _]) dX5_live_40 rfl (Nat.le_of_ble_eq_true rfl) rfl rfl ?_
      refine ar_aload_n (i := 0) dX5_live_41 rfl rfl ?_
      refine ar_aload_n (i := 0) dX5_live_42 rfl rfl ?_
      refine fr_getR (t := 5) (j := 7) dX5_live_43 fs_X5_39 hk0.o rfl (frf_c hk0.ne.1 hk0.r7) (Nat.succ_ne_zero _) ?_
      refine ar_iload (i := 5) dX5_live_46 rfl ?_
      obtain ⟨h7, t⟩ := t
      refine fr_aaldP (w := k0) dX5_live_48 hk0 h7 ?_
      refine ar_iload_n (i := 3) dX5_live_49 rfl rfl ?_
      refine fr_callVv (M' := mX5_passMonth) [_, _] dX5_live_50 ml_X5_62 mv_X5_passMonth rfl rfl hk0.o rfl rfl (Nat.le_of_ble_eq_true rfl) ⟨Nat.le_refl _, Nat.le_refl _⟩ t (fun σ8 t => ?_)
      try dsimp only at t
      refine ar_iinc (i := 5) (v := _ + 1) (lo2 := [_, _, none, _, _, _]) dX5_live_53 rfl (ii_1 _) (Nat.le_of_ble_eq_true rfl) rfl rfl ?_
      refine ar_goto (tgt := 14) dX5_live_56 (by decide) ?_
      exact t
def t_X5_live_5 (E : am_E) (d : Nat) (k0 : Nat) (x1 : Int32) (x3 : Int32) (x4 : Int32) (σ : FH) (Q : Int32 → FH → Prop) : Prop :=
  ((x1 ≤ x4 → Q x3 σ) ∧
  (¬ x1 ≤ x4 → h_X5_live_14 E d k0 x1 x3 x4 0 σ Q))
set_option maxRecDepth 100000 in
set_option maxHeartbeats 4000000 in
theorem v_X5_live_5 {E : am_E} {d : Nat} {σ : FH} {Q : Int32 → FH → Prop} {k0 : Nat} {x1 : Int32} {x3 : Int32} {x4 : Int32} (hk0 : isWd k0) (t : t_X5_live_5 E d k0 x1 x3 x4 σ Q) : h_X5_live_5 E d k0 x1 x3 x4 σ Q := by
  unfold h_X5_live_5
  unfold t_X5_live_5 at t
  refine ar_iload (i := 4) dX5_live_5 rfl ?_
  refine ar_iload_n (i := 1) dX5_live_7 rfl rfl ?_
  refine ar_icmp_ge (tgt := 65) dX5_live_8 (by decide) (fun h1 => ?_) (fun h1 => ?_)
  · have t := t.1 h1
    refine ar_iload_n (i := 3) dX5_live_65 rfl rfl ?_
    exact fr_iret dX5_live_66 rfl (Nat.le_refl _) (Nat.le_refl _) t
  · have t := t.2 h1
    refine ar_iconst (v := 0) dX5_live_11 (by decide) ?_
    refine ar_istore (i := 5) (lo2 := [_, _, none, _, _, _]) dX5_live_12 (Nat.le_of_ble_eq_true rfl) rfl rfl ?_
    exact t
def t_X5_live (E : am_E) (d : Nat) (k0 : Nat) (x1 : Int32) (x2 : Int32) (σ : FH) (Q : Int32 → FH → Prop) : Prop :=
  h_X5_live_5 E d k0 x1 x2 0 σ Q
set_option maxRecDepth 100000 in
set_option maxHeartbeats 4000000 in
theorem v_X5_live {E : am_E} {d : Nat} {σ : FH} {Q : Int32 → FH → Prop} {k0 : Nat} {x1 : Int32} {x2 : Int32} (hk0 : isWd k0) (t : t_X5_live E d k0 x1 x2 σ Q) : fMi E (d + 1) mX5_live [.ref k0, .int x1, .int x2] σ Q := by
  refine fr_ofG [some (.ref k0), some (.int x1), some (.int x2), none, none, none] (by decide) rfl (Nat.le_of_ble_eq_true rfl) ?_
  unfold t_X5_live at t
  refine ar_iload_n (i := 2) dX5_live_0 rfl rfl ?_
  refine ar_istore_n (i := 3) (lo2 := [_, _, _, _, none, none]) dX5_live_1 rfl (Nat.le_of_ble_eq_true rfl) rfl rfl ?_
  refine ar_iconst (v := 0) dX5_live_2 (by decide) ?_
  refine ar_istore (i := 4) (lo2 := [_, _, _, _, _, none]) dX5_live_3 (Nat.le_of_ble_eq_true rfl) rfl rfl ?_
  refine ar_drop 2 (lo2 := [_, _, none, _, _, none]) rfl ?_
  exact t

def t_X5_passMonth (E : am_E) (d : Nat) (k0 : Nat) (k1 : Nat) (x2 : Int32) (σ : FH) (Q : FH → Prop) : Prop :=
  ((¬ (σ.1 k0 1) = 0 → (¬ (σ.1 k0 1) = 0 ∧ (vp_in ((x2 / 65536) - (x2 / 65536) / (σ.1 k0 1) * (σ.1 k0 1)) 8 ∧ fMi E d mX1_may [.ref k1, .ref (k0 + 4 + ((x2 / 65536) - (x2 / 65536) / (σ.1 k0 1) * (σ.1 k0 1)).toNatClampNeg), .int (σ.1 (k0 + 4 + ((x2 / 65536) - (x2 / 65536) / (σ.1 k0 1) * (σ.1 k0 1)).toNatClampNeg) 4)] σ (fun r5 σ4 => ((r5 = 0 → fMv E d mX1_recover [.ref k1] σ4 (fun σ7 => fMv E d mX1_ask [.ref k1, .int (σ7.1 k0 0)] σ7 (fun σ9 => Q σ9))) ∧
    (¬ r5 = 0 → fMi E d mX2_worth [.ref (k0 + 4 + ((x2 / 65536) - (x2 / 65536) / (σ.1 k0 1) * (σ.1 k0 1)).toNatClampNeg)] σ4 (fun r12 σ11 => fMv E d mX1_go [.ref k1, .ref (k0 + 4 + ((x2 / 65536) - (x2 / 65536) / (σ.1 k0 1) * (σ.1 k0 1)).toNatClampNeg), .int (σ4.1 (k0 + 4 + ((x2 / 65536) - (x2 / 65536) / (σ.1 k0 1) * (σ.1 k0 1)).toNatClampNeg) 4), .int r12] σ11 (fun σ13 => fMv E d mX1_ask [.ref k1, .int (σ13.1 k0 0)] σ13 (fun σ15 => Q σ15))))))))) ∧
  ((σ.1 k0 1) = 0 → Q σ))
set_option maxRecDepth 100000 in
set_option maxHeartbeats 4000000 in
theorem v_X5_passMonth {E : am_E} {d : Nat} {σ : FH} {Q : FH → Prop} {k0 : Nat} {k1 : Nat} {x2 : Int32} (hk0 : isWd k0) (hk1 : isPg k1) (t : t_X5_passMonth E d k0 k1 x2 σ Q) : fMv E (d + 1) mX5_passMonth [.ref k0, .ref k1, .int x2] σ Q := by
  refine fr_ofG [some (.ref k0), some (.ref k1), some (.int x2), none] (by decide) rfl (Nat.le_of_ble_eq_true rfl) ?_
  unfold t_X5_passMonth at t
  refine ar_aload_n (i := 0) dX5_passMonth_0 rfl rfl ?_
  refine fr_getI (t := 5) (j := 1) dX5_passMonth_1 fs_X5_15 hk0.o rfl ?_
  refine ar_if_ne (tgt := 8) dX5_passMonth_4 (by decide) (fun h1 => ?_) (fun h1 => ?_)
  · have t := t.1 h1
    refine ar_aload_n (i := 0) dX5_passMonth_8 rfl rfl ?_
    refine fr_getR (t := 5) (j := 6) dX5_passMonth_9 fs_X5_33 hk0.o rfl (frf_c hk0.ne.1 hk0.r6) (Nat.succ_ne_zero _) ?_
    refine ar_iload_n (i := 2) dX5_passMonth_12 rfl rfl ?_
    refine ar_ldc dX5_passMonth_13 ct_X5_66 ?_
    refine ar_idiv dX5_passMonth_15 (by decide) ?_
    refine ar_aload_n (i := 0) dX5_passMonth_16 rfl rfl ?_
    refine fr_getI (t := 5) (j := 1) dX5_passMonth_17 fs_X5_15 hk0.o rfl ?_
    obtain ⟨h2, t⟩ := t
    refine ar_irem dX5_passMonth_20 h2 ?_
    obtain ⟨h3, t⟩ := t
    refine fr_aaldR (w := k0) dX5_passMonth_21 hk0 h3 ?_
    refine ar_astore_n (i := 3) (lo2 := [_, _, _, _]) dX5_passMonth_22 rfl (Nat.le_of_ble_eq_true rfl) rfl rfl ?_
    refine ar_aload_n (i := 1) dX5_passMonth_23 rfl rfl ?_
    refine ar_aload_n (i := 3) dX5_passMonth_24 rfl rfl ?_
    refine ar_aload_n (i := 3) dX5_passMonth_25 rfl rfl ?_
    refine fr_getI (t := 2) (j := 4) dX5_passMonth_26 fs_X5_67 (hk0.rd h3).o rfl ?_
    refine fr_callVi (M' := mX1_may) [_, _] dX5_passMonth_29 ml_X5_70 mv_X1_may rfl rfl hk1.f.1 rfl rfl (Nat.le_of_ble_eq_true rfl) ⟨Nat.le_refl _, Nat.le_refl _⟩ t (fun r5 σ4 t => ?_)
    try dsimp only at t
    refine ar_if_eq (tgt := 51) dX5_passMonth_32 (by decide) (fun h6 => ?_) (fun h6 => ?_)
    · have t := t.1 h6
      refine ar_aload_n (i := 1) dX5_passMonth_51 rfl rfl ?_
      refine fr_callVv (M' := mX1_recover) [] dX5_passMonth_52 ml_X5_82 mv_X1_recover rfl rfl hk1.f.1 rfl rfl (Nat.le_of_ble_eq_true rfl) ⟨Nat.le_refl _, Nat.le_refl _⟩ t (fun σ7 t => ?_)
      try dsimp only at t
      refine ar_aload_n (i := 1) dX5_passMonth_55 rfl rfl ?_
      refine ar_aload_n (i := 0) dX5_passMonth_56 rfl rfl ?_
      refine fr_getI (t := 5) (j := 0) dX5_passMonth_57 fs_X5_9 hk0.o rfl ?_
      refine fr_callVv (M' := mX1_ask) [_] dX5_passMonth_60 ml_X5_85 mv_X1_ask rfl rfl hk1.f.1 rfl rfl (Nat.le_of_ble_eq_true rfl) ⟨Nat.le_refl _, Nat.le_refl _⟩ t (fun σ9 t => ?_)
      try dsimp only at t
      exact fr_vret dX5_passMonth_63 rfl (Nat.le_refl _) (Nat.le_refl _) t
    · have t := t.2 h6
      refine ar_aload_n (i := 1) dX5_passMonth_35 rfl rfl ?_
      refine ar_aload_n (i := 3) dX5_passMonth_36 rfl rfl ?_
      refine ar_aload_n (i := 3) dX5_passMonth_37 rfl rfl ?_
      refine fr_getI (t := 2) (j := 4) dX5_passMonth_38 fs_X5_67 (hk0.rd h3).o rfl ?_
      refine ar_aload_n (i := 3) dX5_passMonth_41 rfl rfl ?_
      refine fr_callVi (M' := mX2_worth) [] dX5_passMonth_42 ml_X5_74 mv_X2_worth rfl rfl (hk0.rd h3).o rfl rfl (Nat.le_of_ble_eq_true rfl) ⟨Nat.le_refl _, Nat.le_refl _⟩ t (fun r12 σ11 t => ?_)
      try dsimp only at t
      refine fr_callVv (M' := mX1_go) [_, _, _] dX5_passMonth_45 ml_X5_78 mv_X1_go rfl rfl hk1.f.1 rfl rfl (Nat.le_of_ble_eq_true rfl) ⟨Nat.le_refl _, Nat.le_refl _⟩ t (fun σ13 t => ?_)
      try dsimp only at t
      refine ar_goto (tgt := 55) dX5_passMonth_48 (by decide) ?_
      refine ar_aload_n (i := 1) dX5_passMonth_55 rfl rfl ?_
      refine ar_aload_n (i := 0) dX5_passMonth_56 rfl rfl ?_
      refine fr_getI (t := 5) (j := 0) dX5_passMonth_57 fs_X5_9 hk0.o rfl ?_
      refine fr_callVv (M' := mX1_ask) [_] dX5_passMonth_60 ml_X5_85 mv_X1_ask rfl rfl hk1.f.1 rfl rfl (Nat.le_of_ble_eq_true rfl) ⟨Nat.le_refl _, Nat.le_refl _⟩ t (fun σ15 t => ?_)
      try dsimp only at t
      exact fr_vret dX5_passMonth_63 rfl (Nat.le_refl _) (Nat.le_refl _) t
  · have t := t.2 h1
    exact fr_vret dX5_passMonth_7 rfl (Nat.le_refl _) (Nat.le_refl _) t

def t_X5_nextSeed (E : am_E) (d : Nat) (x0 : Int32) (σ : FH) (Q : Int32 → FH → Prop) : Prop :=
  Q ((((1103515245 * x0.toInt64) + 12345) &&& 2147483647).toInt32) σ
set_option maxRecDepth 100000 in
set_option maxHeartbeats 4000000 in
theorem v_X5_nextSeed {E : am_E} {d : Nat} {σ : FH} {Q : Int32 → FH → Prop} {x0 : Int32} (t : t_X5_nextSeed E d x0 σ Q) : fMi E (d + 1) mX5_nextSeed [.int x0] σ Q := by
  refine fr_ofG [some (.int x0)] (by decide) rfl (Nat.le_of_ble_eq_true rfl) ?_
  unfold t_X5_nextSeed at t
  refine ar_ldc2 dX5_nextSeed_0 ct_X5_88 ?_
  refine ar_iload_n (i := 0) dX5_nextSeed_3 rfl rfl ?_
  refine ar_i2l dX5_nextSeed_4 ?_
  refine ar_lmul dX5_nextSeed_5 ?_
  refine ar_ldc2 dX5_nextSeed_6 ct_X5_90 ?_
  refine ar_ladd dX5_nextSeed_9 ?_
  refine ar_ldc2 dX5_nextSeed_10 ct_X5_92 ?_
  refine ar_land dX5_nextSeed_13 ?_
  refine ar_l2i dX5_nextSeed_14 ?_
  exact fr_iret dX5_nextSeed_15 rfl (Nat.le_refl _) (Nat.le_refl _) t

/-- X5.letInCount: the machine at the loop head 4 -/
def h_X5_letInCount_4 (E : am_E) (d : Nat) (k0 : Nat) (x1 : Int32) (x2 : Int32) (σ : FH) (Q : Int32 → FH → Prop) : Prop := fG E (d + 1) mX5_letInCount 4 [some (.ref k0), some (.int x1), some (.int x2)] [] σ (qi Q)
def t_X5_letInCount_4 (E : am_E) (d : Nat) (k0 : Nat) (x1 : Int32) (x2 : Int32) (σ : FH) (Q : Int32 → FH → Prop) : Prop :=
  (((σ.1 k0 2) ≤ x2 → Q x1 σ) ∧
  (¬ (σ.1 k0 2) ≤ x2 → (vp_in x2 4 ∧ (((σ.1 (k0 + 12 + 2 * x2.toNatClampNeg) 4) = 0 → h_X5_letInCount_4 E d k0 (x1 + 0) (x2 + 1) σ Q) ∧
    (¬ (σ.1 (k0 + 12 + 2 * x2.toNatClampNeg) 4) = 0 → h_X5_letInCount_4 E d k0 (x1 + 1) (x2 + 1) σ Q)))))
set_option maxRecDepth 100000 in
set_option maxHeartbeats 4000000 in
theorem v_X5_letInCount_4 {E : am_E} {d : Nat} {σ : FH} {Q : Int32 → FH → Prop} {k0 : Nat} {x1 : Int32} {x2 : Int32} (hk0 : isWd k0) (t : t_X5_letInCount_4 E d k0 x1 x2 σ Q) : h_X5_letInCount_4 E d k0 x1 x2 σ Q := by
  unfold h_X5_letInCount_4
  unfold t_X5_letInCount_4 at t
  refine ar_iload_n (i := 2) dX5_letInCount_4 rfl rfl ?_
  refine ar_aload_n (i := 0) dX5_letInCount_5 rfl rfl ?_
  refine fr_getI (t := 5) (j := 2) dX5_letInCount_6 fs_X5_18 hk0.o rfl ?_
  refine ar_icmp_ge (tgt := 38) dX5_letInCount_9 (by decide) (fun h1 => ?_) (fun h1 => ?_)
  · have t := t.1 h1
    refine ar_iload_n (i := 1) dX5_letInCount_38 rfl rfl ?_
    exact fr_iret dX5_letInCount_39 rfl (Nat.le_refl _) (Nat.le_refl _) t
  · have t := t.2 h1
    refine ar_iload_n (i := 1) dX5_letInCount_12 rfl rfl ?_
    refine ar_aload_n (i := 0) dX5_letInCount_13 rfl rfl ?_
    refine fr_getR (t := 5) (j := 7) dX5_letInCount_14 fs_X5_39 hk0.o rfl (frf_c hk0.ne.1 hk0.r7) (Nat.succ_ne_zero _) ?_
    refine ar_iload_n (i := 2) dX5_letInCount_17 rfl rfl ?_
    obtain ⟨h2, t⟩ := t
    refine fr_aaldP (w := k0) dX5_letInCount_18 hk0 h2 ?_
    refine fr_getI (t := 1) (j := 4) dX5_letInCount_19 fs_X5_54 (hk0.pg h2).f.1 rfl ?_
    refine ar_if_eq (tgt := 29) dX5_letInCount_22 (by decide) (fun h3 => ?_) (fun h3 => ?_)
    · have t := t.1 h3
      refine ar_iconst (v := 0) dX5_letInCount_29 (by decide) ?_
      refine ar_iadd dX5_letInCount_30 ?_
      refine ar_istore_n (i := 1) (lo2 := [_, _, _]) dX5_letInCount_31 rfl (Nat.le_of_ble_eq_true rfl) rfl rfl ?_
      refine ar_iinc (i := 2) (v := _ + 1) (lo2 := [_, _, _]) dX5_letInCount_32 rfl (ii_1 _) (Nat.le_of_ble_eq_true rfl) rfl rfl ?_
      refine ar_goto (tgt := 4) dX5_letInCount_35 (by decide) ?_
      exact t
    · have t := t.2 h3
      refine ar_iconst (v := 1) dX5_letInCount_25 (by decide) ?_
      refine ar_goto (tgt := 30) dX5_letInCount_26 (by decide) ?_
      refine ar_iadd dX5_letInCount_30 ?_
      refine ar_istore_n (i := 1) (lo2 := [_, _, _]) dX5_letInCount_31 rfl (Nat.le_of_ble_eq_true rfl) rfl rfl ?_
      refine ar_iinc (i := 2) (v := _ + 1) (lo2 := [_, _, _]) dX5_letInCount_32 rfl (ii_1 _) (Nat.le_of_ble_eq_true rfl) rfl rfl ?_
      refine ar_goto (tgt := 4) dX5_letInCount_35 (by decide) ?_
      exact t
def t_X5_letInCount (E : am_E) (d : Nat) (k0 : Nat) (σ : FH) (Q : Int32 → FH → Prop) : Prop :=
  h_X5_letInCount_4 E d k0 0 0 σ Q
set_option maxRecDepth 100000 in
set_option maxHeartbeats 4000000 in
theorem v_X5_letInCount {E : am_E} {d : Nat} {σ : FH} {Q : Int32 → FH → Prop} {k0 : Nat} (hk0 : isWd k0) (t : t_X5_letInCount E d k0 σ Q) : fMi E (d + 1) mX5_letInCount [.ref k0] σ Q := by
  refine fr_ofG [some (.ref k0), none, none] (by decide) rfl (Nat.le_of_ble_eq_true rfl) ?_
  unfold t_X5_letInCount at t
  refine ar_iconst (v := 0) dX5_letInCount_0 (by decide) ?_
  refine ar_istore_n (i := 1) (lo2 := [_, _, none]) dX5_letInCount_1 rfl (Nat.le_of_ble_eq_true rfl) rfl rfl ?_
  refine ar_iconst (v := 0) dX5_letInCount_2 (by decide) ?_
  refine ar_istore_n (i := 2) (lo2 := [_, _, _]) dX5_letInCount_3 rfl (Nat.le_of_ble_eq_true rfl) rfl rfl ?_
  exact t

/-- X5.hurtOfAll: the machine at the loop head 4 -/
def h_X5_hurtOfAll_4 (E : am_E) (d : Nat) (k0 : Nat) (x1 : Int32) (x2 : Int32) (σ : FH) (Q : Int32 → FH → Prop) : Prop := fG E (d + 1) mX5_hurtOfAll 4 [some (.ref k0), some (.int x1), some (.int x2)] [] σ (qi Q)
def t_X5_hurtOfAll_4 (E : am_E) (d : Nat) (k0 : Nat) (x1 : Int32) (x2 : Int32) (σ : FH) (Q : Int32 → FH → Prop) : Prop :=
  (((σ.1 k0 2) ≤ x2 → Q x1 σ) ∧
  (¬ (σ.1 k0 2) ≤ x2 → (vp_in x2 4 ∧ (∀ v3 : Int32, v3 = x1 + (σ.1 (k0 + 12 + 2 * x2.toNatClampNeg) 1) → h_X5_hurtOfAll_4 E d k0 v3 (x2 + 1) σ Q))))
set_option maxRecDepth 100000 in
set_option maxHeartbeats 4000000 in
theorem v_X5_hurtOfAll_4 {E : am_E} {d : Nat} {σ : FH} {Q : Int32 → FH → Prop} {k0 : Nat} {x1 : Int32} {x2 : Int32} (hk0 : isWd k0) (t : t_X5_hurtOfAll_4 E d k0 x1 x2 σ Q) : h_X5_hurtOfAll_4 E d k0 x1 x2 σ Q := by
  unfold h_X5_hurtOfAll_4
  unfold t_X5_hurtOfAll_4 at t
  refine ar_iload_n (i := 2) dX5_hurtOfAll_4 rfl rfl ?_
  refine ar_aload_n (i := 0) dX5_hurtOfAll_5 rfl rfl ?_
  refine fr_getI (t := 5) (j := 2) dX5_hurtOfAll_6 fs_X5_18 hk0.o rfl ?_
  refine ar_icmp_ge (tgt := 30) dX5_hurtOfAll_9 (by decide) (fun h1 => ?_) (fun h1 => ?_)
  · have t := t.1 h1
    refine ar_iload_n (i := 1) dX5_hurtOfAll_30 rfl rfl ?_
    exact fr_iret dX5_hurtOfAll_31 rfl (Nat.le_refl _) (Nat.le_refl _) t
  · have t := t.2 h1
    refine ar_iload_n (i := 1) dX5_hurtOfAll_12 rfl rfl ?_
    refine ar_aload_n (i := 0) dX5_hurtOfAll_13 rfl rfl ?_
    refine fr_getR (t := 5) (j := 7) dX5_hurtOfAll_14 fs_X5_39 hk0.o rfl (frf_c hk0.ne.1 hk0.r7) (Nat.succ_ne_zero _) ?_
    refine ar_iload_n (i := 2) dX5_hurtOfAll_17 rfl rfl ?_
    obtain ⟨h2, t⟩ := t
    refine fr_aaldP (w := k0) dX5_hurtOfAll_18 hk0 h2 ?_
    refine fr_getI (t := 1) (j := 1) dX5_hurtOfAll_19 fs_X5_94 (hk0.pg h2).f.1 rfl ?_
    refine ar_iadd dX5_hurtOfAll_22 ?_
    refine ar_istore_n (i := 1) (lo2 := [_, _, _]) dX5_hurtOfAll_23 rfl (Nat.le_of_ble_eq_true rfl) rfl rfl ?_
    have t := t _ rfl
    refine ar_iinc (i := 2) (v := _ + 1) (lo2 := [_, _, _]) dX5_hurtOfAll_24 rfl (ii_1 _) (Nat.le_of_ble_eq_true rfl) rfl rfl ?_
    refine ar_goto (tgt := 4) dX5_hurtOfAll_27 (by decide) ?_
    exact t
def t_X5_hurtOfAll (E : am_E) (d : Nat) (k0 : Nat) (σ : FH) (Q : Int32 → FH → Prop) : Prop :=
  h_X5_hurtOfAll_4 E d k0 0 0 σ Q
set_option maxRecDepth 100000 in
set_option maxHeartbeats 4000000 in
theorem v_X5_hurtOfAll {E : am_E} {d : Nat} {σ : FH} {Q : Int32 → FH → Prop} {k0 : Nat} (hk0 : isWd k0) (t : t_X5_hurtOfAll E d k0 σ Q) : fMi E (d + 1) mX5_hurtOfAll [.ref k0] σ Q := by
  refine fr_ofG [some (.ref k0), none, none] (by decide) rfl (Nat.le_of_ble_eq_true rfl) ?_
  unfold t_X5_hurtOfAll at t
  refine ar_iconst (v := 0) dX5_hurtOfAll_0 (by decide) ?_
  refine ar_istore_n (i := 1) (lo2 := [_, _, none]) dX5_hurtOfAll_1 rfl (Nat.le_of_ble_eq_true rfl) rfl rfl ?_
  refine ar_iconst (v := 0) dX5_hurtOfAll_2 (by decide) ?_
  refine ar_istore_n (i := 2) (lo2 := [_, _, _]) dX5_hurtOfAll_3 rfl (Nat.le_of_ble_eq_true rfl) rfl rfl ?_
  exact t

/-- X5.countedByAll: the machine at the loop head 4 -/
def h_X5_countedByAll_4 (E : am_E) (d : Nat) (k0 : Nat) (x1 : Int32) (x2 : Int32) (σ : FH) (Q : Int32 → FH → Prop) : Prop := fG E (d + 1) mX5_countedByAll 4 [some (.ref k0), some (.int x1), some (.int x2)] [] σ (qi Q)
def t_X5_countedByAll_4 (E : am_E) (d : Nat) (k0 : Nat) (x1 : Int32) (x2 : Int32) (σ : FH) (Q : Int32 → FH → Prop) : Prop :=
  (((σ.1 k0 2) ≤ x2 → Q x1 σ) ∧
  (¬ (σ.1 k0 2) ≤ x2 → (vp_in x2 4 ∧ (∀ v3 : Int32, v3 = x1 + (σ.1 (k0 + 12 + 2 * x2.toNatClampNeg) 2) → h_X5_countedByAll_4 E d k0 v3 (x2 + 1) σ Q))))
set_option maxRecDepth 100000 in
set_option maxHeartbeats 4000000 in
theorem v_X5_countedByAll_4 {E : am_E} {d : Nat} {σ : FH} {Q : Int32 → FH → Prop} {k0 : Nat} {x1 : Int32} {x2 : Int32} (hk0 : isWd k0) (t : t_X5_countedByAll_4 E d k0 x1 x2 σ Q) : h_X5_countedByAll_4 E d k0 x1 x2 σ Q := by
  unfold h_X5_countedByAll_4
  unfold t_X5_countedByAll_4 at t
  refine ar_iload_n (i := 2) dX5_countedByAll_4 rfl rfl ?_
  refine ar_aload_n (i := 0) dX5_countedByAll_5 rfl rfl ?_
  refine fr_getI (t := 5) (j := 2) dX5_countedByAll_6 fs_X5_18 hk0.o rfl ?_
  refine ar_icmp_ge (tgt := 30) dX5_countedByAll_9 (by decide) (fun h1 => ?_) (fun h1 => ?_)
  · have t := t.1 h1
    refine ar_iload_n (i := 1) dX5_countedByAll_30 rfl rfl ?_
    exact fr_iret dX5_countedByAll_31 rfl (Nat.le_refl _) (Nat.le_refl _) t
  · have t := t.2 h1
    refine ar_iload_n (i := 1) dX5_countedByAll_12 rfl rfl ?_
    refine ar_aload_n (i := 0) dX5_countedByAll_13 rfl rfl ?_
    refine fr_getR (t := 5) (j := 7) dX5_countedByAll_14 fs_X5_39 hk0.o rfl (frf_c hk0.ne.1 hk0.r7) (Nat.succ_ne_zero _) ?_
    refine ar_iload_n (i := 2) dX5_countedByAll_17 rfl rfl ?_
    obtain ⟨h2, t⟩ := t
    refine fr_aaldP (w := k0) dX5_countedByAll_18 hk0 h2 ?_
    refine fr_getI (t := 1) (j := 2) dX5_countedByAll_19 fs_X5_97 (hk0.pg h2).f.1 rfl ?_
    refine ar_iadd dX5_countedByAll_22 ?_
    refine ar_istore_n (i := 1) (lo2 := [_, _, _]) dX5_countedByAll_23 rfl (Nat.le_of_ble_eq_true rfl) rfl rfl ?_
    have t := t _ rfl
    refine ar_iinc (i := 2) (v := _ + 1) (lo2 := [_, _, _]) dX5_countedByAll_24 rfl (ii_1 _) (Nat.le_of_ble_eq_true rfl) rfl rfl ?_
    refine ar_goto (tgt := 4) dX5_countedByAll_27 (by decide) ?_
    exact t
def t_X5_countedByAll (E : am_E) (d : Nat) (k0 : Nat) (σ : FH) (Q : Int32 → FH → Prop) : Prop :=
  h_X5_countedByAll_4 E d k0 0 0 σ Q
set_option maxRecDepth 100000 in
set_option maxHeartbeats 4000000 in
theorem v_X5_countedByAll {E : am_E} {d : Nat} {σ : FH} {Q : Int32 → FH → Prop} {k0 : Nat} (hk0 : isWd k0) (t : t_X5_countedByAll E d k0 σ Q) : fMi E (d + 1) mX5_countedByAll [.ref k0] σ Q := by
  refine fr_ofG [some (.ref k0), none, none] (by decide) rfl (Nat.le_of_ble_eq_true rfl) ?_
  unfold t_X5_countedByAll at t
  refine ar_iconst (v := 0) dX5_countedByAll_0 (by decide) ?_
  refine ar_istore_n (i := 1) (lo2 := [_, _, none]) dX5_countedByAll_1 rfl (Nat.le_of_ble_eq_true rfl) rfl rfl ?_
  refine ar_iconst (v := 0) dX5_countedByAll_2 (by decide) ?_
  refine ar_istore_n (i := 2) (lo2 := [_, _, _]) dX5_countedByAll_3 rfl (Nat.le_of_ble_eq_true rfl) rfl rfl ?_
  exact t

