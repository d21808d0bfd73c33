/-! the verification conditions of CountedTrials$Rows (printed by wip/gen/vc.py): t_.. is what is to be shown, v_.. that it is enough -/
def t_X3_outdate (E : am_E) (d : Nat) (σ : FH) (Q : FH → Prop) : Prop :=
  (∀ σ1 : FH, σ1 = fsI σ 71 9 0 → Q σ1)
set_option maxRecDepth 100000 in
set_option maxHeartbeats 4000000 in
theorem v_X3_outdate {E : am_E} {d : Nat} {σ : FH} {Q : FH → Prop} (t : t_X3_outdate E d σ Q) : fMv E (d + 1) mX3_outdate [.ref 71] σ Q := by
  refine fr_ofG [some (.ref 71)] (by decide) rfl (Nat.le_of_ble_eq_true rfl) ?_
  unfold t_X3_outdate at t
  refine ar_aload_n (i := 0) dX3_outdate_0 rfl rfl ?_
  refine ar_iconst (v := 0) dX3_outdate_1 (by decide) ?_
  refine fr_putI (t := 3) (j := 9) dX3_outdate_2 fq_X3_40 o_71 rfl (Or.inr (Or.inl rfl)) ?_
  have t := t _ rfl
  exact fr_vret dX3_outdate_5 rfl (Nat.le_refl _) (Nat.le_refl _) t

/-- X3.tally: the machine at the loop head 39 -/
def h_X3_tally_39 (E : am_E) (d : Nat) (k1 : Nat) (x2 : Int32) (σ : FH) (Q : FH → Prop) : Prop := fG E (d + 1) mX3_tally 39 [some (.ref 71), some (.ref k1), some (.int x2)] [] σ (qv Q)
def t_X3_tally_39 (E : am_E) (d : Nat) (k1 : Nat) (x2 : Int32) (σ : FH) (Q : FH → Prop) : Prop :=
  (((σ.1 k1 4) ≤ x2 → fMv E d mX3_sumUp [.ref 71, .ref k1] σ (fun σ15 => (∀ σ17 : FH, σ17 = fsI σ15 71 9 1 → Q σ17))) ∧
  (¬ (σ.1 k1 4) ≤ x2 → fMv E d mX3_clearThen [.ref 71] σ (fun σ18 => (vp_in x2 7 ∧ fMv E d mX3_passMonth [.ref 71, .ref k1, .int (σ18.1 (k1 + 1) x2.toNatClampNeg)] σ18 (fun σ21 => fMv E d mX3_swap [.ref 71] σ21 (fun σ23 => h_X3_tally_39 E d k1 (x2 + 1) σ23 Q))))))
set_option maxRecDepth 100000 in
set_option maxHeartbeats 4000000 in
theorem v_X3_tally_39 {E : am_E} {d : Nat} {σ : FH} {Q : FH → Prop} {k1 : Nat} {x2 : Int32} (hk1 : isWd k1) (t : t_X3_tally_39 E d k1 x2 σ Q) : h_X3_tally_39 E d k1 x2 σ Q := by
  unfold h_X3_tally_39
  unfold t_X3_tally_39 at t
  refine ar_iload_n (i := 2) dX3_tally_39 rfl rfl ?_
  refine ar_aload_n (i := 1) dX3_tally_40 rfl rfl ?_
  refine fr_getI (t := 5) (j := 4) dX3_tally_41 fs_X3_54 hk1.o rfl ?_
  refine ar_icmp_ge (tgt := 72) dX3_tally_44 (by decide) (fun h14 => ?_) (fun h14 => ?_)
  · have t := t.1 h14
    refine ar_aload_n (i := 0) dX3_tally_72 rfl rfl ?_
    refine ar_aload_n (i := 1) dX3_tally_73 rfl rfl ?_
    refine fr_callVv (M' := mX3_sumUp) [_] dX3_tally_74 ml_X3_66 mv_X3_sumUp rfl rfl o_71 rfl rfl (Nat.le_of_ble_eq_true rfl) ⟨Nat.le_refl _, Nat.le_refl _⟩ t (fun σ15 t => ?_)
    try dsimp only at t
    refine ar_aload_n (i := 0) dX3_tally_77 rfl rfl ?_
    refine ar_iconst (v := 1) dX3_tally_78 (by decide) ?_
    refine fr_putI (t := 3) (j := 9) dX3_tally_79 fq_X3_40 o_71 rfl (Or.inr (Or.inr rfl)) ?_
    have t := t _ rfl
    exact fr_vret dX3_tally_82 rfl (Nat.le_refl _) (Nat.le_refl _) t
  · have t := t.2 h14
    refine ar_aload_n (i := 0) dX3_tally_47 rfl rfl ?_
    refine fr_callVv (M' := mX3_clearThen) [] dX3_tally_48 ml_X3_48 mv_X3_clearThen rfl rfl o_71 rfl rfl (Nat.le_of_ble_eq_true rfl) ⟨Nat.le_refl _, Nat.le_refl _⟩ t (fun σ18 t => ?_)
    try dsimp only at t
    refine ar_aload_n (i := 0) dX3_tally_51 rfl rfl ?_
    refine ar_aload_n (i := 1) dX3_tally_52 rfl rfl ?_
    refine ar_aload_n (i := 1) dX3_tally_53 rfl rfl ?_
    refine fr_getR (t := 5) (j := 5) dX3_tally_54 fs_X3_59 hk1.o rfl (frf_c hk1.ne.1 hk1.r5) (Nat.succ_ne_zero _) ?_
    refine ar_iload_n (i := 2) dX3_tally_57 rfl rfl ?_
    obtain ⟨h20, t⟩ := t
    refine fr_iald (n := 7) dX3_tally_58 hk1.a1 h20 ?_
    refine fr_callVv (M' := mX3_passMonth) [_, _] dX3_tally_59 ml_X3_62 mv_X3_passMonth rfl rfl o_71 rfl rfl (Nat.le_of_ble_eq_true rfl) ⟨Nat.le_refl _, Nat.le_refl _⟩ t (fun σ21 t => ?_)
    try dsimp only at t
    refine ar_aload_n (i := 0) dX3_tally_62 rfl rfl ?_
    refine fr_callVv (M' := mX3_swap) [] dX3_tally_63 ml_X3_51 mv_X3_swap rfl rfl o_71 rfl rfl (Nat.le_of_ble_eq_true rfl) ⟨Nat.le_refl _, Nat.le_refl _⟩ t (fun σ23 t => ?_)
    try dsimp only at t
    refine ar_iinc (i := 2) (v := _ + 1) (lo2 := [_, _, _]) dX3_tally_66 rfl (ii_1 _) (Nat.le_of_ble_eq_true rfl) rfl rfl ?_
    refine ar_goto (tgt := 39) dX3_tally_69 (by decide) ?_
    exact t
def t_X3_tally (E : am_E) (d : Nat) (k1 : Nat) (σ : FH) (Q : FH → Prop) : Prop :=
  (((σ.1 71 9) = 0 → fMv E d mX3_giveBits [.ref 71, .ref k1] σ (fun σ2 => fMv E d mX3_clearThen [.ref 71] σ2 (fun σ4 => (fA (σ4.2.1 5) 1536 ∧ (vp_in 0 1536 ∧ (∀ σ8 : FH, σ8 = fsI σ4 (σ4.2.1 5) 0 1 → (fA (σ8.2.1 7) 1536 ∧ (vp_in 0 1536 ∧ (∀ σ11 : FH, σ11 = fsI σ8 (σ8.2.1 7) 0 256 → fMv E d mX3_swap [.ref 71] σ11 (fun σ12 => h_X3_tally_39 E d k1 0 σ12 Q)))))))))) ∧
  (¬ (σ.1 71 9) = 0 → Q σ))
set_option maxRecDepth 100000 in
set_option maxHeartbeats 4000000 in
theorem v_X3_tally {E : am_E} {d : Nat} {σ : FH} {Q : FH → Prop} {k1 : Nat} (hk1 : isWd k1) (t : t_X3_tally E d k1 σ Q) : fMv E (d + 1) mX3_tally [.ref 71, .ref k1] σ Q := by
  refine fr_ofG [some (.ref 71), some (.ref k1), none] (by decide) rfl (Nat.le_of_ble_eq_true rfl) ?_
  unfold t_X3_tally at t
  refine ar_aload_n (i := 0) dX3_tally_0 rfl rfl ?_
  refine fr_getI (t := 3) (j := 9) dX3_tally_1 fs_X3_40 o_71 rfl ?_
  refine ar_if_eq (tgt := 8) dX3_tally_4 (by decide) (fun h1 => ?_) (fun h1 => ?_)
  · have t := t.1 h1
    refine ar_aload_n (i := 0) dX3_tally_8 rfl rfl ?_
    refine ar_aload_n (i := 1) dX3_tally_9 rfl rfl ?_
    refine fr_callVv (M' := mX3_giveBits) [_] dX3_tally_10 ml_X3_44 mv_X3_giveBits rfl rfl o_71 rfl rfl (Nat.le_of_ble_eq_true rfl) ⟨Nat.le_refl _, Nat.le_refl _⟩ t (fun σ2 t => ?_)
    try dsimp only at t
    refine ar_aload_n (i := 0) dX3_tally_13 rfl rfl ?_
    refine fr_callVv (M' := mX3_clearThen) [] dX3_tally_14 ml_X3_48 mv_X3_clearThen rfl rfl o_71 rfl rfl (Nat.le_of_ble_eq_true rfl) ⟨Nat.le_refl _, Nat.le_refl _⟩ t (fun σ4 t => ?_)
    try dsimp only at t
    refine ar_aload_n (i := 0) dX3_tally_17 rfl rfl ?_
    obtain ⟨h6, t⟩ := t
    refine fr_getR (t := 3) (j := 5) dX3_tally_18 fs_X3_28 o_71 rfl rfl (fne h6) ?_
    refine ar_iconst (v := 0) dX3_tally_21 (by decide) ?_
    refine ar_iconst (v := 1) dX3_tally_22 (by decide) ?_
    obtain ⟨h7, t⟩ := t
    refine fr_iast (n := 1536) dX3_tally_23 h6 h7 ?_
    have t := t _ rfl
    refine ar_aload_n (i := 0) dX3_tally_24 rfl rfl ?_
    obtain ⟨h9, t⟩ := t
    refine fr_getR (t := 3) (j := 7) dX3_tally_25 fs_X3_34 o_71 rfl rfl (fne h9) ?_
    refine ar_iconst (v := 0) dX3_tally_28 (by decide) ?_
    refine ar_sipush (v := 256) dX3_tally_29 (by decide) ?_
    obtain ⟨h10, t⟩ := t
    refine fr_iast (n := 1536) dX3_tally_32 h9 h10 ?_
    have t := t _ rfl
    refine ar_aload_n (i := 0) dX3_tally_33 rfl rfl ?_
    refine fr_callVv (M' := mX3_swap) [] dX3_tally_34 ml_X3_51 mv_X3_swap rfl rfl o_71 rfl rfl (Nat.le_of_ble_eq_true rfl) ⟨Nat.le_refl _, Nat.le_refl _⟩ t (fun σ12 t => ?_)
    try dsimp only at t
    refine ar_iconst (v := 0) dX3_tally_37 (by decide) ?_
    refine ar_istore_n (i := 2) (lo2 := [_, _, _]) dX3_tally_38 rfl (Nat.le_of_ble_eq_true rfl) rfl rfl ?_
    exact t
  · have t := t.2 h1
    exact fr_vret dX3_tally_7 rfl (Nat.le_refl _) (Nat.le_refl _) t

/-- X3.giveBits: the machine at the loop head 7 -/
def h_X3_giveBits_7 (E : am_E) (d : Nat) (k1 : Nat) (x2 : Int32) (σ : FH) (Q : FH → Prop) : Prop := fG E (d + 1) mX3_giveBits 7 [some (.ref 71), some (.ref k1), some (.int x2)] [] σ (qv Q)
def t_X3_giveBits_7 (E : am_E) (d : Nat) (k1 : Nat) (x2 : Int32) (σ : FH) (Q : FH → Prop) : Prop :=
  (((σ.1 k1 1) ≤ x2 → Q σ) ∧
  (¬ (σ.1 k1 1) ≤ x2 → (vp_in x2 8 ∧ (∀ σ4 : FH, σ4 = fsI σ 73 x2.toNatClampNeg 0 → (vp_in x2 8 ∧ fMi E d mX2_worth [.ref (k1 + 4 + x2.toNatClampNeg)] σ4 (fun r7 σ6 => ((r7 ≤ 0 → h_X3_giveBits_7 E d k1 (x2 + 1) σ6 Q) ∧
    (¬ r7 ≤ 0 → (vp_in x2 8 ∧ (∀ σ10 : FH, σ10 = fsI σ6 73 x2.toNatClampNeg (σ6.1 71 8) → (∀ σ11 : FH, σ11 = fsI σ10 71 8 ((σ10.1 71 8) + (σ10.1 71 8)) → h_X3_giveBits_7 E d k1 (x2 + 1) σ11 Q)))))))))))
set_option maxRecDepth 100000 in
set_option maxHeartbeats 4000000 in
theorem v_X3_giveBits_7 {E : am_E} {d : Nat} {σ : FH} {Q : FH → Prop} {k1 : Nat} {x2 : Int32} (hk1 : isWd k1) (t : t_X3_giveBits_7 E d k1 x2 σ Q) : h_X3_giveBits_7 E d k1 x2 σ Q := by
  unfold h_X3_giveBits_7
  unfold t_X3_giveBits_7 at t
  refine ar_iload_n (i := 2) dX3_giveBits_7 rfl rfl ?_
  refine ar_aload_n (i := 1) dX3_giveBits_8 rfl rfl ?_
  refine fr_getI (t := 5) (j := 1) dX3_giveBits_9 fs_X3_69 hk1.o rfl ?_
  refine ar_icmp_ge (tgt := 63) dX3_giveBits_12 (by decide) (fun h2 => ?_) (fun h2 => ?_)
  · have t := t.1 h2
    exact fr_vret dX3_giveBits_63 rfl (Nat.le_refl _) (Nat.le_refl _) t
  · have t := t.2 h2
    refine ar_aload_n (i := 0) dX3_giveBits_15 rfl rfl ?_
    refine fr_getR (t := 3) (j := 3) (r := 73) dX3_giveBits_16 fs_X3_22 o_71 rfl rfl (by decide) ?_
    refine ar_iload_n (i := 2) dX3_giveBits_19 rfl rfl ?_
    refine ar_iconst (v := 0) dX3_giveBits_20 (by decide) ?_
    obtain ⟨h3, t⟩ := t
    refine fr_iast (n := 8) dX3_giveBits_21 a_73 h3 ?_
    have t := t _ rfl
    refine ar_aload_n (i := 1) dX3_giveBits_22 rfl rfl ?_
    refine fr_getR (t := 5) (j := 6) dX3_giveBits_23 fs_X3_72 hk1.o rfl (frf_c hk1.ne.1 hk1.r6) (Nat.succ_ne_zero _) ?_
    refine ar_iload_n (i := 2) dX3_giveBits_26 rfl rfl ?_
    obtain ⟨h5, t⟩ := t
    refine fr_aaldR (w := k1) dX3_giveBits_27 hk1 h5 ?_
    refine fr_callVi (M' := mX2_worth) [] dX3_giveBits_28 ml_X3_76 mv_X2_worth rfl rfl (hk1.rd h5).o rfl rfl (Nat.le_of_ble_eq_true rfl) ⟨Nat.le_refl _, Nat.le_refl _⟩ t (fun r7 σ6 t => ?_)
    try dsimp only at t
    refine ar_if_le (tgt := 57) dX3_giveBits_31 (by decide) (fun h8 => ?_) (fun h8 => ?_)
    · have t := t.1 h8
      refine ar_iinc (i := 2) (v := _ + 1) (lo2 := [_, _, _]) dX3_giveBits_57 rfl (ii_1 _) (Nat.le_of_ble_eq_true rfl) rfl rfl ?_
      refine ar_goto (tgt := 7) dX3_giveBits_60 (by decide) ?_
      exact t
    · have t := t.2 h8
      refine ar_aload_n (i := 0) dX3_giveBits_34 rfl rfl ?_
      refine fr_getR (t := 3) (j := 3) (r := 73) dX3_giveBits_35 fs_X3_22 o_71 rfl rfl (by decide) ?_
      refine ar_iload_n (i := 2) dX3_giveBits_38 rfl rfl ?_
      refine ar_aload_n (i := 0) dX3_giveBits_39 rfl rfl ?_
      refine fr_getI (t := 3) (j := 8) dX3_giveBits_40 fs_X3_37 o_71 rfl ?_
      obtain ⟨h9, t⟩ := t
      refine fr_iast (n := 8) dX3_giveBits_43 a_73 h9 ?_
      have t := t _ rfl
      refine ar_aload_n (i := 0) dX3_giveBits_44 rfl rfl ?_
      refine ar_dup dX3_giveBits_45 rfl ?_
      refine fr_getI (t := 3) (j := 8) dX3_giveBits_46 fs_X3_37 o_71 rfl ?_
      refine ar_aload_n (i := 0) dX3_giveBits_49 rfl rfl ?_
      refine fr_getI (t := 3) (j := 8) dX3_giveBits_50 fs_X3_37 o_71 rfl ?_
      refine ar_iadd dX3_giveBits_53 ?_
      refine fr_putI (t := 3) (j := 8) dX3_giveBits_54 fq_X3_37 o_71 rfl (Or.inl rfl) ?_
      have t := t _ rfl
      refine ar_iinc (i := 2) (v := _ + 1) (lo2 := [_, _, _]) dX3_giveBits_57 rfl (ii_1 _) (Nat.le_of_ble_eq_true rfl) rfl rfl ?_
      refine ar_goto (tgt := 7) dX3_giveBits_60 (by decide) ?_
      exact t
def t_X3_giveBits (E : am_E) (d : Nat) (k1 : Nat) (σ : FH) (Q : FH → Prop) : Prop :=
  (∀ σ1 : FH, σ1 = fsI σ 71 8 1 → h_X3_giveBits_7 E d k1 0 σ1 Q)
set_option maxRecDepth 100000 in
set_option maxHeartbeats 4000000 in
theorem v_X3_giveBits {E : am_E} {d : Nat} {σ : FH} {Q : FH → Prop} {k1 : Nat} (hk1 : isWd k1) (t : t_X3_giveBits E d k1 σ Q) : fMv E (d + 1) mX3_giveBits [.ref 71, .ref k1] σ Q := by
  refine fr_ofG [some (.ref 71), some (.ref k1), none] (by decide) rfl (Nat.le_of_ble_eq_true rfl) ?_
  unfold t_X3_giveBits at t
  refine ar_aload_n (i := 0) dX3_giveBits_0 rfl rfl ?_
  refine ar_iconst (v := 1) dX3_giveBits_1 (by decide) ?_
  refine fr_putI (t := 3) (j := 8) dX3_giveBits_2 fq_X3_37 o_71 rfl (Or.inl rfl) ?_
  have t := t _ rfl
  refine ar_iconst (v := 0) dX3_giveBits_5 (by decide) ?_
  refine ar_istore_n (i := 2) (lo2 := [_, _, _]) dX3_giveBits_6 rfl (Nat.le_of_ble_eq_true rfl) rfl rfl ?_
  exact t

/-- X3.clearThen: the machine at the loop head 10 -/
def h_X3_clearThen_10 (E : am_E) (d : Nat) (x1 : Int32) (x2 : Int32) (σ : FH) (Q : FH → Prop) : Prop := fG E (d + 1) mX3_clearThen 10 [some (.ref 71), some (.int x1), some (.int x2)] [] σ (qv Q)
def t_X3_clearThen_10 (E : am_E) (d : Nat) (x1 : Int32) (x2 : Int32) (σ : FH) (Q : FH → Prop) : Prop :=
  ((x1 ≤ x2 → Q σ) ∧
  (¬ x1 ≤ x2 → (fA (σ.2.1 5) 1536 ∧ (vp_in x2 1536 ∧ (∀ σ4 : FH, σ4 = fsI σ (σ.2.1 5) x2.toNatClampNeg 0 → (fA (σ4.2.1 7) 1536 ∧ (vp_in x2 1536 ∧ (∀ σ7 : FH, σ7 = fsI σ4 (σ4.2.1 7) x2.toNatClampNeg 0 → h_X3_clearThen_10 E d x1 (x2 + 1) σ7 Q))))))))
set_option maxRecDepth 100000 in
set_option maxHeartbeats 4000000 in
theorem v_X3_clearThen_10 {E : am_E} {d : Nat} {σ : FH} {Q : FH → Prop} {x1 : Int32} {x2 : Int32} (t : t_X3_clearThen_10 E d x1 x2 σ Q) : h_X3_clearThen_10 E d x1 x2 σ Q := by
  unfold h_X3_clearThen_10
  unfold t_X3_clearThen_10 at t
  refine ar_iload_n (i := 2) dX3_clearThen_10 rfl rfl ?_
  refine ar_iload_n (i := 1) dX3_clearThen_11 rfl rfl ?_
  refine ar_icmp_ge (tgt := 35) dX3_clearThen_12 (by decide) (fun h1 => ?_) (fun h1 => ?_)
  · have t := t.1 h1
    exact fr_vret dX3_clearThen_35 rfl (Nat.le_refl _) (Nat.le_refl _) t
  · have t := t.2 h1
    refine ar_aload_n (i := 0) dX3_clearThen_15 rfl rfl ?_
    obtain ⟨h2, t⟩ := t
    refine fr_getR (t := 3) (j := 5) dX3_clearThen_16 fs_X3_28 o_71 rfl rfl (fne h2) ?_
    refine ar_iload_n (i := 2) dX3_clearThen_19 rfl rfl ?_
    refine ar_iconst (v := 0) dX3_clearThen_20 (by decide) ?_
    obtain ⟨h3, t⟩ := t
    refine fr_iast (n := 1536) dX3_clearThen_21 h2 h3 ?_
    have t := t _ rfl
    refine ar_aload_n (i := 0) dX3_clearThen_22 rfl rfl ?_
    obtain ⟨h5, t⟩ := t
    refine fr_getR (t := 3) (j := 7) dX3_clearThen_23 fs_X3_34 o_71 rfl rfl (fne h5) ?_
    refine ar_iload_n (i := 2) dX3_clearThen_26 rfl rfl ?_
    refine ar_iconst (v := 0) dX3_clearThen_27 (by decide) ?_
    obtain ⟨h6, t⟩ := t
    refine fr_iast (n := 1536) dX3_clearThen_28 h5 h6 ?_
    have t := t _ rfl
    refine ar_iinc (i := 2) (v := _ + 1) (lo2 := [_, _, _]) dX3_clearThen_29 rfl (ii_1 _) (Nat.le_of_ble_eq_true rfl) rfl rfl ?_
    refine ar_goto (tgt := 10) dX3_clearThen_32 (by decide) ?_
    exact t
def t_X3_clearThen (E : am_E) (d : Nat) (σ : FH) (Q : FH → Prop) : Prop :=
  h_X3_clearThen_10 E d ((σ.1 71 8) * 6) 0 σ Q
set_option maxRecDepth 100000 in
set_option maxHeartbeats 4000000 in
theorem v_X3_clearThen {E : am_E} {d : Nat} {σ : FH} {Q : FH → Prop} (t : t_X3_clearThen E d σ Q) : fMv E (d + 1) mX3_clearThen [.ref 71] σ Q := by
  refine fr_ofG [some (.ref 71), none, none] (by decide) rfl (Nat.le_of_ble_eq_true rfl) ?_
  unfold t_X3_clearThen at t
  refine ar_aload_n (i := 0) dX3_clearThen_0 rfl rfl ?_
  refine fr_getI (t := 3) (j := 8) dX3_clearThen_1 fs_X3_37 o_71 rfl ?_
  refine ar_bipush (v := 6) dX3_clearThen_4 (by decide) ?_
  refine ar_imul dX3_clearThen_6 ?_
  refine ar_istore_n (i := 1) (lo2 := [_, _, none]) dX3_clearThen_7 rfl (Nat.le_of_ble_eq_true rfl) rfl rfl ?_
  refine ar_iconst (v := 0) dX3_clearThen_8 (by decide) ?_
  refine ar_istore_n (i := 2) (lo2 := [_, _, _]) dX3_clearThen_9 rfl (Nat.le_of_ble_eq_true rfl) rfl rfl ?_
  exact t

def t_X3_swap (E : am_E) (d : Nat) (σ : FH) (Q : FH → Prop) : Prop :=
  (fA (σ.2.1 4) 1536 ∧ (fA (σ.2.1 6) 1536 ∧ (fA (σ.2.1 5) 1536 ∧ (∀ σ4 : FH, σ4 = fsR σ 4 (σ.2.1 5) → (fA (σ4.2.1 7) 1536 ∧ (∀ σ6 : FH, σ6 = fsR σ4 6 (σ4.2.1 7) → (∀ σ7 : FH, σ7 = fsR σ6 5 (σ.2.1 4) → (∀ σ8 : FH, σ8 = fsR σ7 7 (σ.2.1 6) → Q σ8))))))))
set_option maxRecDepth 100000 in
set_option maxHeartbeats 4000000 in
theorem v_X3_swap {E : am_E} {d : Nat} {σ : FH} {Q : FH → Prop} (t : t_X3_swap E d σ Q) : fMv E (d + 1) mX3_swap [.ref 71] σ Q := by
  refine fr_ofG [some (.ref 71), none, none] (by decide) rfl (Nat.le_of_ble_eq_true rfl) ?_
  unfold t_X3_swap at t
  refine ar_aload_n (i := 0) dX3_swap_0 rfl rfl ?_
  obtain ⟨h1, t⟩ := t
  refine fr_getR (t := 3) (j := 4) dX3_swap_1 fs_X3_25 o_71 rfl rfl (fne h1) ?_
  refine ar_astore_n (i := 1) (lo2 := [_, _, none]) dX3_swap_4 rfl (Nat.le_of_ble_eq_true rfl) rfl rfl ?_
  refine ar_aload_n (i := 0) dX3_swap_5 rfl rfl ?_
  obtain ⟨h2, t⟩ := t
  refine fr_getR (t := 3) (j := 6) dX3_swap_6 fs_X3_31 o_71 rfl rfl (fne h2) ?_
  refine ar_astore_n (i := 2) (lo2 := [_, _, _]) dX3_swap_9 rfl (Nat.le_of_ble_eq_true rfl) rfl rfl ?_
  refine ar_aload_n (i := 0) dX3_swap_10 rfl rfl ?_
  refine ar_aload_n (i := 0) dX3_swap_11 rfl rfl ?_
  obtain ⟨h3, t⟩ := t
  refine fr_getR (t := 3) (j := 5) dX3_swap_12 fs_X3_28 o_71 rfl rfl (fne h3) ?_
  refine fr_putR (j := 4) dX3_swap_15 fq_X3_25 (by decide) (fne h3) ?_
  have t := t _ rfl
  refine ar_aload_n (i := 0) dX3_swap_18 rfl rfl ?_
  refine ar_aload_n (i := 0) dX3_swap_19 rfl rfl ?_
  obtain ⟨h5, t⟩ := t
  refine fr_getR (t := 3) (j := 7) dX3_swap_20 fs_X3_34 o_71 rfl rfl (fne h5) ?_
  refine fr_putR (j := 6) dX3_swap_23 fq_X3_31 (by decide) (fne h5) ?_
  have t := t _ rfl
  refine ar_aload_n (i := 0) dX3_swap_26 rfl rfl ?_
  refine ar_aload_n (i := 1) dX3_swap_27 rfl rfl ?_
  refine fr_putR (j := 5) dX3_swap_28 fq_X3_28 (by decide) (fne h1) ?_
  have t := t _ rfl
  refine ar_aload_n (i := 0) dX3_swap_31 rfl rfl ?_
  refine ar_aload_n (i := 2) dX3_swap_32 rfl rfl ?_
  refine fr_putR (j := 7) dX3_swap_33 fq_X3_34 (by decide) (fne h2) ?_
  have t := t _ rfl
  exact fr_vret dX3_swap_36 rfl (Nat.le_refl _) (Nat.le_refl _) t

/-- X3.passMonth: the machine at the loop head 2 -/
def h_X3_passMonth_2 (E : am_E) (d : Nat) (k1 : Nat) (x2 : Int32) (x3 : Int32) (σ : FH) (Q : FH → Prop) : Prop := fG E (d + 1) mX3_passMonth 2 [some (.ref 71), some (.ref k1), some (.int x2), some (.int x3), none] [] σ (qv Q)
/-- X3.passMonth: the machine at the loop head 13 -/
def h_X3_passMonth_13 (E : am_E) (d : Nat) (k1 : Nat) (x2 : Int32) (x3 : Int32) (x4 : Int32) (σ : FH) (Q : FH → Prop) : Prop := fG E (d + 1) mX3_passMonth 13 [some (.ref 71), some (.ref k1), some (.int x2), some (.int x3), some (.int x4)] [] σ (qv Q)
def t_X3_passMonth_13 (E : am_E) (d : Nat) (k1 : Nat) (x2 : Int32) (x3 : Int32) (x4 : Int32) (σ : FH) (Q : FH → Prop) : Prop :=
  ((6 ≤ x4 → h_X3_passMonth_2 E d k1 x2 (x3 + 1) σ Q) ∧
  (¬ 6 ≤ x4 → (fA (σ.2.1 4) 1536 ∧ (vp_in ((x3 * 6) + x4) 1536 ∧ (((σ.1 (σ.2.1 4) ((x3 * 6) + x4).toNatClampNeg) ≤ 0 → h_X3_passMonth_13 E d k1 x2 x3 (x4 + 1) σ Q) ∧
    (¬ (σ.1 (σ.2.1 4) ((x3 * 6) + x4).toNatClampNeg) ≤ 0 → fMv E d mX3_goOn [.ref 71, .ref k1, .int x3, .int x4, .int x2] σ (fun σ6 => h_X3_passMonth_13 E d k1 x2 x3 (x4 + 1) σ6 Q)))))))
set_option maxRecDepth 100000 in
set_option maxHeartbeats 4000000 in
theorem v_X3_passMonth_13 {E : am_E} {d : Nat} {σ : FH} {Q : FH → Prop} {k1 : Nat} {x2 : Int32} {x3 : Int32} {x4 : Int32} (hk1 : isWd k1) (t : t_X3_passMonth_13 E d k1 x2 x3 x4 σ Q) : h_X3_passMonth_13 E d k1 x2 x3 x4 σ Q := by
  unfold h_X3_passMonth_13
  unfold t_X3_passMonth_13 at t
  refine ar_iload (i := 4) dX3_passMonth_13 rfl ?_
  refine ar_bipush (v := 6) dX3_passMonth_15 (by decide) ?_
  refine ar_icmp_ge (tgt := 50) dX3_passMonth_17 (by decide) (fun h2 => ?_) (fun h2 => ?_)
  · have t := t.1 h2
    refine ar_iinc (i := 3) (v := _ + 1) (lo2 := [_, _, _, _, _]) dX3_passMonth_50 rfl (ii_1 _) (Nat.le_of_ble_eq_true rfl) rfl rfl ?_
    refine ar_goto (tgt := 2) dX3_passMonth_53 (by decide) ?_
    refine ar_drop 4 (lo2 := [_, _, _, _, none]) rfl ?_
    exact t
  · have t := t.2 h2
    refine ar_aload_n (i := 0) dX3_passMonth_20 rfl rfl ?_
    obtain ⟨h3, t⟩ := t
    refine fr_getR (t := 3) (j := 4) dX3_passMonth_21 fs_X3_25 o_71 rfl rfl (fne h3) ?_
    refine ar_iload_n (i := 3) dX3_passMonth_24 rfl rfl ?_
    refine ar_bipush (v := 6) dX3_passMonth_25 (by decide) ?_
    refine ar_imul dX3_passMonth_27 ?_
    refine ar_iload (i := 4) dX3_passMonth_28 rfl ?_
    refine ar_iadd dX3_passMonth_30 ?_
    obtain ⟨h4, t⟩ := t
    refine fr_iald (n := 1536) dX3_passMonth_31 h3 h4 ?_
    refine ar_if_le (tgt := 44) dX3_passMonth_32 (by decide) (fun h5 => ?_) (fun h5 => ?_)
    · have t := t.1 h5
      refine ar_iinc (i := 4) (v := _ + 1) (lo2 := [_, _, _, _, _]) dX3_passMonth_44 rfl (ii_1 _) (Nat.le_of_ble_eq_true rfl) rfl rfl ?_
      refine ar_goto (tgt := 13) dX3_passMonth_47 (by decide) ?_
      exact t
    · have t := t.2 h5
      refine ar_aload_n (i := 0) dX3_passMonth_35 rfl rfl ?_
      refine ar_aload_n (i := 1) dX3_passMonth_36 rfl rfl ?_
      refine ar_iload_n (i := 3) dX3_passMonth_37 rfl rfl ?_
      refine ar_iload (i := 4) dX3_passMonth_38 rfl ?_
      refine ar_iload_n (i := 2) dX3_passMonth_40 rfl rfl ?_
      refine fr_callVv (M' := mX3_goOn) [_, _, _, _] dX3_passMonth_41 ml_X3_82 mv_X3_goOn rfl rfl o_71 rfl rfl (Nat.le_of_ble_eq_true rfl) ⟨Nat.le_refl _, Nat.le_refl _⟩ t (fun σ6 t => ?_)
      try dsimp only at t
      refine ar_iinc (i := 4) (v := _ + 1) (lo2 := [_, _, _, _, _]) dX3_passMonth_44 rfl (ii_1 _) (Nat.le_of_ble_eq_true rfl) rfl rfl ?_
      refine ar_goto (tgt := 13) dX3_passMonth_47 (by decide) ?_
      exact t
def t_X3_passMonth_2 (E : am_E) (d : Nat) (k1 : Nat) (x2 : Int32) (x3 : Int32) (σ : FH) (Q : FH → Prop) : Prop :=
  (((σ.1 71 8) ≤ x3 → Q σ) ∧
  (¬ (σ.1 71 8) ≤ x3 → h_X3_passMonth_13 E d k1 x2 x3 0 σ Q))
set_option maxRecDepth 100000 in
set_option maxHeartbeats 4000000 in
theorem v_X3_passMonth_2 {E : am_E} {d : Nat} {σ : FH} {Q : FH → Prop} {k1 : Nat} {x2 : Int32} {x3 : Int32} (hk1 : isWd k1) (t : t_X3_passMonth_2 E d k1 x2 x3 σ Q) : h_X3_passMonth_2 E d k1 x2 x3 σ Q := by
  unfold h_X3_passMonth_2
  unfold t_X3_passMonth_2 at t
  refine ar_iload_n (i := 3) dX3_passMonth_2 rfl rfl ?_
  refine ar_aload_n (i := 0) dX3_passMonth_3 rfl rfl ?_
  refine fr_getI (t := 3) (j := 8) dX3_passMonth_4 fs_X3_37 o_71 rfl ?_
  refine ar_icmp_ge (tgt := 56) dX3_passMonth_7 (by decide) (fun h1 => ?_) (fun h1 => ?_)
  · have t := t.1 h1
    exact fr_vret dX3_passMonth_56 rfl (Nat.le_refl _) (Nat.le_refl _) t
  · have t := t.2 h1
    refine ar_iconst (v := 0) dX3_passMonth_10 (by decide) ?_
    refine ar_istore (i := 4) (lo2 := [_, _, _, _, _]) dX3_passMonth_11 (Nat.le_of_ble_eq_true rfl) rfl rfl ?_
    exact t
def t_X3_passMonth (E : am_E) (d : Nat) (k1 : Nat) (x2 : Int32) (σ : FH) (Q : FH → Prop) : Prop :=
  h_X3_passMonth_2 E d k1 x2 0 σ Q
set_option maxRecDepth 100000 in
set_option maxHeartbeats 4000000 in
theorem v_X3_passMonth {E : am_E} {d : Nat} {σ : FH} {Q : FH → Prop} {k1 : Nat} {x2 : Int32} (hk1 : isWd k1) (t : t_X3_passMonth E d k1 x2 σ Q) : fMv E (d + 1) mX3_passMonth [.ref 71, .ref k1, .int x2] σ Q := by
  refine fr_ofG [some (.ref 71), some (.ref k1), some (.int x2), none, none] (by decide) rfl (Nat.le_of_ble_eq_true rfl) ?_
  unfold t_X3_passMonth at t
  refine ar_iconst (v := 0) dX3_passMonth_0 (by decide) ?_
  refine ar_istore_n (i := 3) (lo2 := [_, _, _, _, none]) dX3_passMonth_1 rfl (Nat.le_of_ble_eq_true rfl) rfl rfl ?_
  exact t

/-- X3.goOn: the machine at the loop head 11 -/
def h_X3_goOn_11 (E : am_E) (d : Nat) (k1 : Nat) (x2 : Int32) (x3 : Int32) (x4 : Int32) (x5 : Int32) (x6 : Int32) (σ : FH) (Q : FH → Prop) : Prop := fG E (d + 1) mX3_goOn 11 [some (.ref 71), some (.ref k1), some (.int x2), some (.int x3), some (.int x4), some (.int x5), some (.int x6), none, none, none, none] [] σ (qv Q)
def t_X3_goOn_78 (E : am_E) (d : Nat) (k1 : Nat) (x2 : Int32) (x3 : Int32) (x4 : Int32) (x5 : Int32) (x6 : Int32) (x8 : Int32) (xs0 : Int32) (σ : FH) (Q : FH → Prop) : Prop :=
  (vp_in x6 8 ∧ (∀ v12 : Int32, v12 = ((x2 ||| (σ.1 73 x6.toNatClampNeg)) * 6) + x8 → (fA (σ.2.1 5) 1536 ∧ (vp_in v12 1536 ∧ (fA (σ.2.1 4) 1536 ∧ (vp_in x5 1536 ∧ (vp_in v12 1536 ∧ (∀ σ18 : FH, σ18 = fsI σ (σ.2.1 5) v12.toNatClampNeg ((σ.1 (σ.2.1 5) v12.toNatClampNeg) + (σ.1 (σ.2.1 4) x5.toNatClampNeg)) → (fA (σ18.2.1 7) 1536 ∧ (vp_in v12 1536 ∧ ((xs0 = 0 → (fA (σ18.2.1 6) 1536 ∧ (vp_in x5 1536 ∧ (vp_in v12 1536 ∧ (∀ σ25 : FH, σ25 = fsI σ18 (σ18.2.1 7) v12.toNatClampNeg ((σ18.1 (σ18.2.1 7) v12.toNatClampNeg) ||| (σ18.1 (σ18.2.1 6) x5.toNatClampNeg)) → h_X3_goOn_11 E d k1 x2 x3 x4 x5 (x6 + 1) σ25 Q))))) ∧
  (¬ xs0 = 0 → (vp_in v12 1536 ∧ (∀ σ27 : FH, σ27 = fsI σ18 (σ18.2.1 7) v12.toNatClampNeg ((σ18.1 (σ18.2.1 7) v12.toNatClampNeg) ||| ((1 : Int32) <<< (x6 &&& 31))) → h_X3_goOn_11 E d k1 x2 x3 x4 x5 (x6 + 1) σ27 Q))))))))))))))
set_option maxRecDepth 100000 in
set_option maxHeartbeats 4000000 in
theorem v_X3_goOn_78 {E : am_E} {d : Nat} {σ : FH} {Q : FH → Prop} {k1 : Nat} {x2 : Int32} {x3 : Int32} {x4 : Int32} {x5 : Int32} {x6 : Int32} {x8 : Int32} {xs0 : Int32} (hk1 : isWd k1) (t : t_X3_goOn_78 E d k1 x2 x3 x4 x5 x6 x8 xs0 σ Q) : fG E (d + 1) mX3_goOn 78 [some (.ref 71), some (.ref k1), some (.int x2), some (.int x3), some (.int x4), some (.int x5), some (.int x6), none, some (.int x8), none, none] [.int xs0] σ (qv Q) := by
  unfold t_X3_goOn_78 at t
  refine ar_istore (i := 9) (lo2 := [_, _, _, _, _, _, _, none, _, _, none]) dX3_goOn_78 (Nat.le_of_ble_eq_true rfl) rfl rfl ?_
  refine ar_iload_n (i := 2) dX3_goOn_80 rfl rfl ?_
  refine ar_aload_n (i := 0) dX3_goOn_81 rfl rfl ?_
  refine fr_getR (t := 3) (j := 3) (r := 73) dX3_goOn_82 fs_X3_22 o_71 rfl rfl (by decide) ?_
  refine ar_iload (i := 6) dX3_goOn_85 rfl ?_
  obtain ⟨h11, t⟩ := t
  refine fr_iald (n := 8) dX3_goOn_87 a_73 h11 ?_
  refine ar_ior dX3_goOn_88 ?_
  refine ar_bipush (v := 6) dX3_goOn_89 (by decide) ?_
  refine ar_imul dX3_goOn_91 ?_
  refine ar_iload (i := 8) dX3_goOn_92 rfl ?_
  refine ar_iadd dX3_goOn_94 ?_
  refine ar_istore (i := 10) (lo2 := [_, _, _, _, _, _, _, none, _, _, _]) dX3_goOn_95 (Nat.le_of_ble_eq_true rfl) rfl rfl ?_
  have t := t _ rfl
  refine ar_aload_n (i := 0) dX3_goOn_97 rfl rfl ?_
  obtain ⟨h13, t⟩ := t
  refine fr_getR (t := 3) (j := 5) dX3_goOn_98 fs_X3_28 o_71 rfl rfl (fne h13) ?_
  refine ar_iload (i := 10) dX3_goOn_101 rfl ?_
  refine ar_dup2 dX3_goOn_103 rfl rfl ?_
  obtain ⟨h14, t⟩ := t
  refine fr_iald (n := 1536) dX3_goOn_104 h13 h14 ?_
  refine ar_aload_n (i := 0) dX3_goOn_105 rfl rfl ?_
  obtain ⟨h15, t⟩ := t
  refine fr_getR (t := 3) (j := 4) dX3_goOn_106 fs_X3_25 o_71 rfl rfl (fne h15) ?_
  refine ar_iload (i := 5) dX3_goOn_109 rfl ?_
  obtain ⟨h16, t⟩ := t
  refine fr_iald (n := 1536) dX3_goOn_111 h15 h16 ?_
  refine ar_iadd dX3_goOn_112 ?_
  obtain ⟨h17, t⟩ := t
  refine fr_iast (n := 1536) dX3_goOn_113 h13 h17 ?_
  have t := t _ rfl
  refine ar_aload_n (i := 0) dX3_goOn_114 rfl rfl ?_
  obtain ⟨h19, t⟩ := t
  refine fr_getR (t := 3) (j := 7) dX3_goOn_115 fs_X3_34 o_71 rfl rfl (fne h19) ?_
  refine ar_iload (i := 10) dX3_goOn_118 rfl ?_
  refine ar_dup2 dX3_goOn_120 rfl rfl ?_
  obtain ⟨h20, t⟩ := t
  refine fr_iald (n := 1536) dX3_goOn_121 h19 h20 ?_
  refine ar_iload (i := 9) dX3_goOn_122 rfl ?_
  refine ar_if_eq (tgt := 134) dX3_goOn_124 (by decide) (fun h21 => ?_) (fun h21 => ?_)
  · have t := t.1 h21
    refine ar_aload_n (i := 0) dX3_goOn_134 rfl rfl ?_
    obtain ⟨h22, t⟩ := t
    refine fr_getR (t := 3) (j := 6) dX3_goOn_135 fs_X3_31 o_71 rfl rfl (fne h22) ?_
    refine ar_iload (i := 5) dX3_goOn_138 rfl ?_
    obtain ⟨h23, t⟩ := t
    refine fr_iald (n := 1536) dX3_goOn_140 h22 h23 ?_
    refine ar_ior dX3_goOn_141 ?_
    obtain ⟨h24, t⟩ := t
    refine fr_iast (n := 1536) dX3_goOn_142 h19 h24 ?_
    have t := t _ rfl
    refine ar_iinc (i := 6) (v := _ + 1) (lo2 := [_, _, _, _, _, _, _, none, _, _, _]) dX3_goOn_143 rfl (ii_1 _) (Nat.le_of_ble_eq_true rfl) rfl rfl ?_
    refine ar_goto (tgt := 11) dX3_goOn_146 (by decide) ?_
    refine ar_drop 8 (lo2 := [_, _, _, _, _, _, _, none, none, _, _]) rfl ?_
    refine ar_drop 9 (lo2 := [_, _, _, _, _, _, _, none, none, none, _]) rfl ?_
    refine ar_drop 10 (lo2 := [_, _, _, _, _, _, _, none, none, none, none]) rfl ?_
    exact t
  · have t := t.2 h21
    refine ar_iconst (v := 1) dX3_goOn_127 (by decide) ?_
    refine ar_iload (i := 6) dX3_goOn_128 rfl ?_
    refine ar_ishl dX3_goOn_130 ?_
    refine ar_goto (tgt := 141) dX3_goOn_131 (by decide) ?_
    refine ar_ior dX3_goOn_141 ?_
    obtain ⟨h26, t⟩ := t
    refine fr_iast (n := 1536) dX3_goOn_142 h19 h26 ?_
    have t := t _ rfl
    refine ar_iinc (i := 6) (v := _ + 1) (lo2 := [_, _, _, _, _, _, _, none, _, _, _]) dX3_goOn_143 rfl (ii_1 _) (Nat.le_of_ble_eq_true rfl) rfl rfl ?_
    refine ar_goto (tgt := 11) dX3_goOn_146 (by decide) ?_
    refine ar_drop 8 (lo2 := [_, _, _, _, _, _, _, none, none, _, _]) rfl ?_
    refine ar_drop 9 (lo2 := [_, _, _, _, _, _, _, none, none, none, _]) rfl ?_
    refine ar_drop 10 (lo2 := [_, _, _, _, _, _, _, none, none, none, none]) rfl ?_
    exact t
def t_X3_goOn_59 (E : am_E) (d : Nat) (k1 : Nat) (x2 : Int32) (x3 : Int32) (x4 : Int32) (x5 : Int32) (x6 : Int32) (x8 : Int32) (σ : FH) (Q : FH → Prop) : Prop :=
  (vp_in x6 8 ∧ ((((σ.1 73 x6.toNatClampNeg) &&& (x2 ^^^ (-1))) = 0 → t_X3_goOn_78 E d k1 x2 x3 x4 x5 x6 x8 0 σ Q) ∧
  (¬ ((σ.1 73 x6.toNatClampNeg) &&& (x2 ^^^ (-1))) = 0 → t_X3_goOn_78 E d k1 x2 x3 x4 x5 x6 x8 1 σ Q)))
set_option maxRecDepth 100000 in
set_option maxHeartbeats 4000000 in
theorem v_X3_goOn_59 {E : am_E} {d : Nat} {σ : FH} {Q : FH → Prop} {k1 : Nat} {x2 : Int32} {x3 : Int32} {x4 : Int32} {x5 : Int32} {x6 : Int32} {x8 : Int32} (hk1 : isWd k1) (t : t_X3_goOn_59 E d k1 x2 x3 x4 x5 x6 x8 σ Q) : fG E (d + 1) mX3_goOn 59 [some (.ref 71), some (.ref k1), some (.int x2), some (.int x3), some (.int x4), some (.int x5), some (.int x6), none, some (.int x8), none, none] [] σ (qv Q) := by
  unfold t_X3_goOn_59 at t
  refine ar_aload_n (i := 0) dX3_goOn_59 rfl rfl ?_
  refine fr_getR (t := 3) (j := 3) (r := 73) dX3_goOn_60 fs_X3_22 o_71 rfl rfl (by decide) ?_
  refine ar_iload (i := 6) dX3_goOn_63 rfl ?_
  obtain ⟨h9, t⟩ := t
  refine fr_iald (n := 8) dX3_goOn_65 a_73 h9 ?_
  refine ar_iload_n (i := 2) dX3_goOn_66 rfl rfl ?_
  refine ar_iconst (v := -1) dX3_goOn_67 (by decide) ?_
  refine ar_ixor dX3_goOn_68 ?_
  refine ar_iand dX3_goOn_69 ?_
  refine ar_if_eq (tgt := 77) dX3_goOn_70 (by decide) (fun h10 => ?_) (fun h10 => ?_)
  · have t := t.1 h10
    refine ar_iconst (v := 0) dX3_goOn_77 (by decide) ?_
    exact v_X3_goOn_78 hk1 t
  · have t := t.2 h10
    refine ar_iconst (v := 1) dX3_goOn_73 (by decide) ?_
    refine ar_goto (tgt := 78) dX3_goOn_74 (by decide) ?_
    exact v_X3_goOn_78 hk1 t
def t_X3_goOn_11 (E : am_E) (d : Nat) (k1 : Nat) (x2 : Int32) (x3 : Int32) (x4 : Int32) (x5 : Int32) (x6 : Int32) (σ : FH) (Q : FH → Prop) : Prop :=
  (((σ.1 k1 1) ≤ x6 → Q σ) ∧
  (¬ (σ.1 k1 1) ≤ x6 → (vp_in x6 8 ∧ fMi E d mX2_across [.ref (k1 + 4 + x6.toNatClampNeg), .int x3] σ (fun r4 σ3 => fMi E d mX2_touches [.ref (k1 + 4 + x6.toNatClampNeg), .int x3] σ3 (fun r6 σ5 => ((r6 = 0 → h_X3_goOn_11 E d k1 x2 x3 x4 x5 (x6 + 1) σ5 Q) ∧
    (¬ r6 = 0 → ((x4 = (-1) → t_X3_goOn_59 E d k1 x2 x3 x4 x5 x6 r4 σ5 Q) ∧
      (¬ x4 = (-1) → ((¬ x4 = r4 → h_X3_goOn_11 E d k1 x2 x3 x4 x5 (x6 + 1) σ5 Q) ∧
        (x4 = r4 → t_X3_goOn_59 E d k1 x2 x3 x4 x5 x6 r4 σ5 Q)))))))))))
set_option maxRecDepth 100000 in
set_option maxHeartbeats 4000000 in
theorem v_X3_goOn_11 {E : am_E} {d : Nat} {σ : FH} {Q : FH → Prop} {k1 : Nat} {x2 : Int32} {x3 : Int32} {x4 : Int32} {x5 : Int32} {x6 : Int32} (hk1 : isWd k1) (t : t_X3_goOn_11 E d k1 x2 x3 x4 x5 x6 σ Q) : h_X3_goOn_11 E d k1 x2 x3 x4 x5 x6 σ Q := by
  unfold h_X3_goOn_11
  unfold t_X3_goOn_11 at t
  refine ar_iload (i := 6) dX3_goOn_11 rfl ?_
  refine ar_aload_n (i := 1) dX3_goOn_13 rfl rfl ?_
  refine fr_getI (t := 5) (j := 1) dX3_goOn_14 fs_X3_69 hk1.o rfl ?_
  refine ar_icmp_ge (tgt := 149) dX3_goOn_17 (by decide) (fun h1 => ?_) (fun h1 => ?_)
  · have t := t.1 h1
    exact fr_vret dX3_goOn_149 rfl (Nat.le_refl _) (Nat.le_refl _) t
  · have t := t.2 h1
    refine ar_aload_n (i := 1) dX3_goOn_20 rfl rfl ?_
    refine fr_getR (t := 5) (j := 6) dX3_goOn_21 fs_X3_72 hk1.o rfl (frf_c hk1.ne.1 hk1.r6) (Nat.succ_ne_zero _) ?_
    refine ar_iload (i := 6) dX3_goOn_24 rfl ?_
    obtain ⟨h2, t⟩ := t
    refine fr_aaldR (w := k1) dX3_goOn_26 hk1 h2 ?_
    refine ar_astore (i := 7) (lo2 := [_, _, _, _, _, _, _, _, none, none, none]) dX3_goOn_27 (Nat.le_of_ble_eq_true rfl) rfl rfl ?_
    refine ar_aload (i := 7) dX3_goOn_29 rfl ?_
    refine ar_iload_n (i := 3) dX3_goOn_31 rfl rfl ?_
    refine fr_callVi (M' := mX2_across) [_] dX3_goOn_32 ml_X3_86 mv_X2_across rfl rfl (hk1.rd h2).o rfl rfl (Nat.le_of_ble_eq_true rfl) ⟨Nat.le_refl _, Nat.le_refl _⟩ t (fun r4 σ3 t => ?_)
    try dsimp only at t
    refine ar_istore (i := 8) (lo2 := [_, _, _, _, _, _, _, _, _, none, none]) dX3_goOn_35 (Nat.le_of_ble_eq_true rfl) rfl rfl ?_
    refine ar_aload (i := 7) dX3_goOn_37 rfl ?_
    refine ar_iload_n (i := 3) dX3_goOn_39 rfl rfl ?_
    refine fr_callVi (M' := mX2_touches) [_] dX3_goOn_40 ml_X3_90 mv_X2_touches rfl rfl (hk1.rd h2).o rfl rfl (Nat.le_of_ble_eq_true rfl) ⟨Nat.le_refl _, Nat.le_refl _⟩ t (fun r6 σ5 t => ?_)
    try dsimp only at t
    refine ar_if_eq (tgt := 143) dX3_goOn_43 (by decide) (fun h7 => ?_) (fun h7 => ?_)
    · have t := t.1 h7
      refine ar_iinc (i := 6) (v := _ + 1) (lo2 := [_, _, _, _, _, _, _, _, _, none, none]) dX3_goOn_143 rfl (ii_1 _) (Nat.le_of_ble_eq_true rfl) rfl rfl ?_
      refine ar_goto (tgt := 11) dX3_goOn_146 (by decide) ?_
      refine ar_drop 7 (lo2 := [_, _, _, _, _, _, _, none, _, none, none]) rfl ?_
      refine ar_drop 8 (lo2 := [_, _, _, _, _, _, _, none, none, none, none]) rfl ?_
      exact t
    · have t := t.2 h7
      refine ar_iload (i := 4) dX3_goOn_46 rfl ?_
      refine ar_iconst (v := -1) dX3_goOn_48 (by decide) ?_
      refine ar_icmp_eq (tgt := 59) dX3_goOn_49 (by decide) (fun h8 => ?_) (fun h8 => ?_)
      · have t := t.1 h8
        refine ar_drop 7 (lo2 := [_, _, _, _, _, _, _, none, _, none, none]) rfl ?_
        exact v_X3_goOn_59 hk1 t
      · have t := t.2 h8
        refine ar_iload (i := 4) dX3_goOn_52 rfl ?_
        refine ar_iload (i := 8) dX3_goOn_54 rfl ?_
        refine ar_icmp_ne (tgt := 143) dX3_goOn_56 (by decide) (fun h28 => ?_) (fun h28 => ?_)
        · have t := t.1 h28
          refine ar_iinc (i := 6) (v := _ + 1) (lo2 := [_, _, _, _, _, _, _, _, _, none, none]) dX3_goOn_143 rfl (ii_1 _) (Nat.le_of_ble_eq_true rfl) rfl rfl ?_
          refine ar_goto (tgt := 11) dX3_goOn_146 (by decide) ?_
          refine ar_drop 7 (lo2 := [_, _, _, _, _, _, _, none, _, none, none]) rfl ?_
          refine ar_drop 8 (lo2 := [_, _, _, _, _, _, _, none, none, none, none]) rfl ?_
          exact t
        · have t := t.2 h28
          refine ar_drop 7 (lo2 := [_, _, _, _, _, _, _, none, _, none, none]) rfl ?_
          exact v_X3_goOn_59 hk1 t
def t_X3_goOn (E : am_E) (d : Nat) (k1 : Nat) (x2 : Int32) (x3 : Int32) (x4 : Int32) (σ : FH) (Q : FH → Prop) : Prop :=
  h_X3_goOn_11 E d k1 x2 x3 x4 ((x2 * 6) + x3) 0 σ Q
set_option maxRecDepth 100000 in
set_option maxHeartbeats 4000000 in
theorem v_X3_goOn {E : am_E} {d : Nat} {σ : FH} {Q : FH → Prop} {k1 : Nat} {x2 : Int32} {x3 : Int32} {x4 : Int32} (hk1 : isWd k1) (t : t_X3_goOn E d k1 x2 x3 x4 σ Q) : fMv E (d + 1) mX3_goOn [.ref 71, .ref k1, .int x2, .int x3, .int x4] σ Q := by
  refine fr_ofG [some (.ref 71), some (.ref k1), some (.int x2), some (.int x3), some (.int x4), none, none, none, none, none, none] (by decide) rfl (Nat.le_of_ble_eq_true rfl) ?_
  unfold t_X3_goOn at t
  refine ar_iload_n (i := 2) dX3_goOn_0 rfl rfl ?_
  refine ar_bipush (v := 6) dX3_goOn_1 (by decide) ?_
  refine ar_imul dX3_goOn_3 ?_
  refine ar_iload_n (i := 3) dX3_goOn_4 rfl rfl ?_
  refine ar_iadd dX3_goOn_5 ?_
  refine ar_istore (i := 5) (lo2 := [_, _, _, _, _, _, none, none, none, none, none]) dX3_goOn_6 (Nat.le_of_ble_eq_true rfl) rfl rfl ?_
  refine ar_iconst (v := 0) dX3_goOn_8 (by decide) ?_
  refine ar_istore (i := 6) (lo2 := [_, _, _, _, _, _, _, none, none, none, none]) dX3_goOn_9 (Nat.le_of_ble_eq_true rfl) rfl rfl ?_
  exact t

/-- X3.sumUp: the machine at the loop head 7 -/
def h_X3_sumUp_7 (E : am_E) (d : Nat) (k1 : Nat) (x2 : Int32) (σ : FH) (Q : FH → Prop) : Prop := fG E (d + 1) mX3_sumUp 7 [some (.ref 71), some (.ref k1), some (.int x2), none, none, none, none] [] σ (qv Q)
/-- X3.sumUp: the machine at the loop head 30 -/
def h_X3_sumUp_30 (E : am_E) (d : Nat) (k1 : Nat) (x2 : Int32) (x3 : Int32) (σ : FH) (Q : FH → Prop) : Prop := fG E (d + 1) mX3_sumUp 30 [some (.ref 71), some (.ref k1), some (.int x2), some (.int x3), none, none, none] [] σ (qv Q)
/-- X3.sumUp: the machine at the loop head 49 -/
def h_X3_sumUp_49 (E : am_E) (d : Nat) (k1 : Nat) (x2 : Int32) (x3 : Int32) (x4 : Int32) (x5 : Int32) (σ : FH) (Q : FH → Prop) : Prop := fG E (d + 1) mX3_sumUp 49 [some (.ref 71), some (.ref k1), some (.int x2), some (.int x3), some (.int x4), some (.int x5), none] [] σ (qv Q)
def t_X3_sumUp_49 (E : am_E) (d : Nat) (k1 : Nat) (x2 : Int32) (x3 : Int32) (x4 : Int32) (x5 : Int32) (σ : FH) (Q : FH → Prop) : Prop :=
  ((6 ≤ x5 → h_X3_sumUp_30 E d k1 x2 (x3 + 1) σ Q) ∧
  (¬ 6 ≤ x5 → (fA (σ.2.1 4) 1536 ∧ (vp_in ((x3 * 6) + x5) 1536 ∧ (∀ σ12 : FH, σ12 = fsI σ 71 0 ((σ.1 71 0) + (σ.1 (σ.2.1 4) ((x3 * 6) + x5).toNatClampNeg)) → (fA (σ12.2.1 6) 1536 ∧ (vp_in ((x3 * 6) + x5) 1536 ∧ (∀ v15 : Int32, v15 = x2 ||| (σ12.1 (σ12.2.1 6) ((x3 * 6) + x5).toNatClampNeg) → ((60 < x4 → h_X3_sumUp_49 E d k1 v15 x3 x4 (x5 + 1) σ12 Q) ∧
    (¬ 60 < x4 → (vp_in x4 61 ∧ (fA (σ12.2.1 4) 1536 ∧ (vp_in ((x3 * 6) + x5) 1536 ∧ (vp_in x4 61 ∧ (∀ σ21 : FH, σ21 = fsI σ12 72 x4.toNatClampNeg ((σ12.1 72 x4.toNatClampNeg) + (σ12.1 (σ12.2.1 4) ((x3 * 6) + x5).toNatClampNeg)) → h_X3_sumUp_49 E d k1 v15 x3 x4 (x5 + 1) σ21 Q)))))))))))))))
set_option maxRecDepth 100000 in
set_option maxHeartbeats 4000000 in
theorem v_X3_sumUp_49 {E : am_E} {d : Nat} {σ : FH} {Q : FH → Prop} {k1 : Nat} {x2 : Int32} {x3 : Int32} {x4 : Int32} {x5 : Int32} (hk1 : isWd k1) (t : t_X3_sumUp_49 E d k1 x2 x3 x4 x5 σ Q) : h_X3_sumUp_49 E d k1 x2 x3 x4 x5 σ Q := by
  unfold h_X3_sumUp_49
  unfold t_X3_sumUp_49 at t
  refine ar_iload (i := 5) dX3_sumUp_49 rfl ?_
  refine ar_bipush (v := 6) dX3_sumUp_51 (by decide) ?_
  refine ar_icmp_ge (tgt := 121) dX3_sumUp_53 (by decide) (fun h9 => ?_) (fun h9 => ?_)
  · have t := t.1 h9
    refine ar_iinc (i := 3) (v := _ + 1) (lo2 := [_, _, _, _, _, _, none]) dX3_sumUp_121 rfl (ii_1 _) (Nat.le_of_ble_eq_true rfl) rfl rfl ?_
    refine ar_goto (tgt := 30) dX3_sumUp_124 (by decide) ?_
    refine ar_drop 4 (lo2 := [_, _, _, _, none, _, none]) rfl ?_
    refine ar_drop 5 (lo2 := [_, _, _, _, none, none, none]) rfl ?_
    exact t
  · have t := t.2 h9
    refine ar_iload_n (i := 3) dX3_sumUp_56 rfl rfl ?_
    refine ar_bipush (v := 6) dX3_sumUp_57 (by decide) ?_
    refine ar_imul dX3_sumUp_59 ?_
    refine ar_iload (i := 5) dX3_sumUp_60 rfl ?_
    refine ar_iadd dX3_sumUp_62 ?_
    refine ar_istore (i := 6) (lo2 := [_, _, _, _, _, _, _]) dX3_sumUp_63 (Nat.le_of_ble_eq_true rfl) rfl rfl ?_
    refine ar_aload_n (i := 0) dX3_sumUp_65 rfl rfl ?_
    refine ar_dup dX3_sumUp_66 rfl ?_
    refine fr_getI (t := 3) (j := 0) dX3_sumUp_67 fs_X3_9 o_71 rfl ?_
    refine ar_aload_n (i := 0) dX3_sumUp_70 rfl rfl ?_
    obtain ⟨h10, t⟩ := t
    refine fr_getR (t := 3) (j := 4) dX3_sumUp_71 fs_X3_25 o_71 rfl rfl (fne h10) ?_
    refine ar_iload (i := 6) dX3_sumUp_74 rfl ?_
    obtain ⟨h11, t⟩ := t
    refine fr_iald (n := 1536) dX3_sumUp_76 h10 h11 ?_
    refine ar_iadd dX3_sumUp_77 ?_
    refine fr_putI (t := 3) (j := 0) dX3_sumUp_78 fq_X3_9 o_71 rfl (Or.inl rfl) ?_
    have t := t _ rfl
    refine ar_iload_n (i := 2) dX3_sumUp_81 rfl rfl ?_
    refine ar_aload_n (i := 0) dX3_sumUp_82 rfl rfl ?_
    obtain ⟨h13, t⟩ := t
    refine fr_getR (t := 3) (j := 6) dX3_sumUp_83 fs_X3_31 o_71 rfl rfl (fne h13) ?_
    refine ar_iload (i := 6) dX3_sumUp_86 rfl ?_
    obtain ⟨h14, t⟩ := t
    refine fr_iald (n := 1536) dX3_sumUp_88 h13 h14 ?_
    refine ar_ior dX3_sumUp_89 ?_
    refine ar_istore_n (i := 2) (lo2 := [_, _, _, _, _, _, _]) dX3_sumUp_90 rfl (Nat.le_of_ble_eq_true rfl) rfl rfl ?_
    have t := t _ rfl
    refine ar_iload (i := 4) dX3_sumUp_91 rfl ?_
    refine ar_bipush (v := 60) dX3_sumUp_93 (by decide) ?_
    refine ar_icmp_gt (tgt := 115) dX3_sumUp_95 (by decide) (fun h16 => ?_) (fun h16 => ?_)
    · have t := t.1 h16
      refine ar_iinc (i := 5) (v := _ + 1) (lo2 := [_, _, _, _, _, _, _]) dX3_sumUp_115 rfl (ii_1 _) (Nat.le_of_ble_eq_true rfl) rfl rfl ?_
      refine ar_goto (tgt := 49) dX3_sumUp_118 (by decide) ?_
      refine ar_drop 6 (lo2 := [_, _, _, _, _, _, none]) rfl ?_
      exact t
    · have t := t.2 h16
      refine ar_aload_n (i := 0) dX3_sumUp_98 rfl rfl ?_
      refine fr_getR (t := 3) (j := 2) (r := 72) dX3_sumUp_99 fs_X3_18 o_71 rfl rfl (by decide) ?_
      refine ar_iload (i := 4) dX3_sumUp_102 rfl ?_
      refine ar_dup2 dX3_sumUp_104 rfl rfl ?_
      obtain ⟨h17, t⟩ := t
      refine fr_iald (n := 61) dX3_sumUp_105 a_72 h17 ?_
      refine ar_aload_n (i := 0) dX3_sumUp_106 rfl rfl ?_
      obtain ⟨h18, t⟩ := t
      refine fr_getR (t := 3) (j := 4) dX3_sumUp_107 fs_X3_25 o_71 rfl rfl (fne h18) ?_
      refine ar_iload (i := 6) dX3_sumUp_110 rfl ?_
      obtain ⟨h19, t⟩ := t
      refine fr_iald (n := 1536) dX3_sumUp_112 h18 h19 ?_
      refine ar_iadd dX3_sumUp_113 ?_
      obtain ⟨h20, t⟩ := t
      refine fr_iast (n := 61) dX3_sumUp_114 a_72 h20 ?_
      have t := t _ rfl
      refine ar_iinc (i := 5) (v := _ + 1) (lo2 := [_, _, _, _, _, _, _]) dX3_sumUp_115 rfl (ii_1 _) (Nat.le_of_ble_eq_true rfl) rfl rfl ?_
      refine ar_goto (tgt := 49) dX3_sumUp_118 (by decide) ?_
      refine ar_drop 6 (lo2 := [_, _, _, _, _, _, none]) rfl ?_
      exact t
def t_X3_sumUp_30 (E : am_E) (d : Nat) (k1 : Nat) (x2 : Int32) (x3 : Int32) (σ : FH) (Q : FH → Prop) : Prop :=
  (((σ.1 71 8) ≤ x3 → fMi E d mX3_onlyRoad [.int x2] σ (fun r5 σ4 => (∀ σ6 : FH, σ6 = fsI σ4 71 1 r5 → Q σ6))) ∧
  (¬ (σ.1 71 8) ≤ x3 → fMi E d mX3_halvesOf [.ref 71, .ref k1, .int x3] σ (fun r8 σ7 => h_X3_sumUp_49 E d k1 x2 x3 r8 0 σ7 Q)))
set_option maxRecDepth 100000 in
set_option maxHeartbeats 4000000 in
theorem v_X3_sumUp_30 {E : am_E} {d : Nat} {σ : FH} {Q : FH → Prop} {k1 : Nat} {x2 : Int32} {x3 : Int32} (hk1 : isWd k1) (t : t_X3_sumUp_30 E d k1 x2 x3 σ Q) : h_X3_sumUp_30 E d k1 x2 x3 σ Q := by
  unfold h_X3_sumUp_30
  unfold t_X3_sumUp_30 at t
  refine ar_iload_n (i := 3) dX3_sumUp_30 rfl rfl ?_
  refine ar_aload_n (i := 0) dX3_sumUp_31 rfl rfl ?_
  refine fr_getI (t := 3) (j := 8) dX3_sumUp_32 fs_X3_37 o_71 rfl ?_
  refine ar_icmp_ge (tgt := 127) dX3_sumUp_35 (by decide) (fun h3 => ?_) (fun h3 => ?_)
  · have t := t.1 h3
    refine ar_aload_n (i := 0) dX3_sumUp_127 rfl rfl ?_
    refine ar_iload_n (i := 2) dX3_sumUp_128 rfl rfl ?_
    refine fr_callSi (M' := mX3_onlyRoad) [_] dX3_sumUp_129 ml_X3_98 mv_X3_onlyRoad rfl rfl (Nat.le_of_ble_eq_true rfl) ⟨Nat.le_refl _, Nat.le_refl _⟩ t (fun r5 σ4 t => ?_)
    try dsimp only at t
    refine fr_putI (t := 3) (j := 1) dX3_sumUp_132 fq_X3_15 o_71 rfl (Or.inl rfl) ?_
    have t := t _ rfl
    exact fr_vret dX3_sumUp_135 rfl (Nat.le_refl _) (Nat.le_refl _) t
  · have t := t.2 h3
    refine ar_aload_n (i := 0) dX3_sumUp_38 rfl rfl ?_
    refine ar_aload_n (i := 1) dX3_sumUp_39 rfl rfl ?_
    refine ar_iload_n (i := 3) dX3_sumUp_40 rfl rfl ?_
    refine fr_callVi (M' := mX3_halvesOf) [_, _] dX3_sumUp_41 ml_X3_94 mv_X3_halvesOf rfl rfl o_71 rfl rfl (Nat.le_of_ble_eq_true rfl) ⟨Nat.le_refl _, Nat.le_refl _⟩ t (fun r8 σ7 t => ?_)
    try dsimp only at t
    refine ar_istore (i := 4) (lo2 := [_, _, _, _, _, none, none]) dX3_sumUp_44 (Nat.le_of_ble_eq_true rfl) rfl rfl ?_
    refine ar_iconst (v := 0) dX3_sumUp_46 (by decide) ?_
    refine ar_istore (i := 5) (lo2 := [_, _, _, _, _, _, none]) dX3_sumUp_47 (Nat.le_of_ble_eq_true rfl) rfl rfl ?_
    exact t
def t_X3_sumUp_7 (E : am_E) (d : Nat) (k1 : Nat) (x2 : Int32) (σ : FH) (Q : FH → Prop) : Prop :=
  ((60 < x2 → h_X3_sumUp_30 E d k1 0 0 σ Q) ∧
  (¬ 60 < x2 → (vp_in x2 61 ∧ (∀ σ23 : FH, σ23 = fsI σ 72 x2.toNatClampNeg 0 → h_X3_sumUp_7 E d k1 (x2 + 1) σ23 Q))))
set_option maxRecDepth 100000 in
set_option maxHeartbeats 4000000 in
theorem v_X3_sumUp_7 {E : am_E} {d : Nat} {σ : FH} {Q : FH → Prop} {k1 : Nat} {x2 : Int32} (hk1 : isWd k1) (t : t_X3_sumUp_7 E d k1 x2 σ Q) : h_X3_sumUp_7 E d k1 x2 σ Q := by
  unfold h_X3_sumUp_7
  unfold t_X3_sumUp_7 at t
  refine ar_iload_n (i := 2) dX3_sumUp_7 rfl rfl ?_
  refine ar_bipush (v := 60) dX3_sumUp_8 (by decide) ?_
  refine ar_icmp_gt (tgt := 26) dX3_sumUp_10 (by decide) (fun h2 => ?_) (fun h2 => ?_)
  · have t := t.1 h2
    refine ar_iconst (v := 0) dX3_sumUp_26 (by decide) ?_
    refine ar_istore_n (i := 2) (lo2 := [_, _, _, none, none, none, none]) dX3_sumUp_27 rfl (Nat.le_of_ble_eq_true rfl) rfl rfl ?_
    refine ar_iconst (v := 0) dX3_sumUp_28 (by decide) ?_
    refine ar_istore_n (i := 3) (lo2 := [_, _, _, _, none, none, none]) dX3_sumUp_29 rfl (Nat.le_of_ble_eq_true rfl) rfl rfl ?_
    exact t
  · have t := t.2 h2
    refine ar_aload_n (i := 0) dX3_sumUp_13 rfl rfl ?_
    refine fr_getR (t := 3) (j := 2) (r := 72) dX3_sumUp_14 fs_X3_18 o_71 rfl rfl (by decide) ?_
    refine ar_iload_n (i := 2) dX3_sumUp_17 rfl rfl ?_
    refine ar_iconst (v := 0) dX3_sumUp_18 (by decide) ?_
    obtain ⟨h22, t⟩ := t
    refine fr_iast (n := 61) dX3_sumUp_19 a_72 h22 ?_
    have t := t _ rfl
    refine ar_iinc (i := 2) (v := _ + 1) (lo2 := [_, _, _, none, none, none, none]) dX3_sumUp_20 rfl (ii_1 _) (Nat.le_of_ble_eq_true rfl) rfl rfl ?_
    refine ar_goto (tgt := 7) dX3_sumUp_23 (by decide) ?_
    exact t
def t_X3_sumUp (E : am_E) (d : Nat) (k1 : Nat) (σ : FH) (Q : FH → Prop) : Prop :=
  (∀ σ1 : FH, σ1 = fsI σ 71 0 0 → h_X3_sumUp_7 E d k1 0 σ1 Q)
set_option maxRecDepth 100000 in
set_option maxHeartbeats 4000000 in
theorem v_X3_sumUp {E : am_E} {d : Nat} {σ : FH} {Q : FH → Prop} {k1 : Nat} (hk1 : isWd k1) (t : t_X3_sumUp E d k1 σ Q) : fMv E (d + 1) mX3_sumUp [.ref 71, .ref k1] σ Q := by
  refine fr_ofG [some (.ref 71), some (.ref k1), none, none, none, none, none] (by decide) rfl (Nat.le_of_ble_eq_true rfl) ?_
  unfold t_X3_sumUp at t
  refine ar_aload_n (i := 0) dX3_sumUp_0 rfl rfl ?_
  refine ar_iconst (v := 0) dX3_sumUp_1 (by decide) ?_
  refine fr_putI (t := 3) (j := 0) dX3_sumUp_2 fq_X3_9 o_71 rfl (Or.inl rfl) ?_
  have t := t _ rfl
  refine ar_iconst (v := 0) dX3_sumUp_5 (by decide) ?_
  refine ar_istore_n (i := 2) (lo2 := [_, _, _, none, none, none, none]) dX3_sumUp_6 rfl (Nat.le_of_ble_eq_true rfl) rfl rfl ?_
  exact t

/-- X3.halvesOf: the machine at the loop head 5 -/
def h_X3_halvesOf_5 (E : am_E) (d : Nat) (k1 : Nat) (x2 : Int32) (x3 : Int32) (x4 : Int32) (σ : FH) (Q : Int32 → FH → Prop) : Prop := fG E (d + 1) mX3_halvesOf 5 [some (.ref 71), some (.ref k1), some (.int x2), some (.int x3), some (.int x4)] [] σ (qi Q)
def t_X3_halvesOf_5 (E : am_E) (d : Nat) (k1 : Nat) (x2 : Int32) (x3 : Int32) (x4 : Int32) (σ : FH) (Q : Int32 → FH → Prop) : Prop :=
  (((σ.1 k1 1) ≤ x4 → Q x3 σ) ∧
  (¬ (σ.1 k1 1) ≤ x4 → (vp_in x4 8 ∧ (((x2 &&& (σ.1 73 x4.toNatClampNeg)) = 0 → h_X3_halvesOf_5 E d k1 x2 x3 (x4 + 1) σ Q) ∧
    (¬ (x2 &&& (σ.1 73 x4.toNatClampNeg)) = 0 → (vp_in x4 8 ∧ fMi E d mX2_worth [.ref (k1 + 4 + x4.toNatClampNeg)] σ (fun r6 σ5 => h_X3_halvesOf_5 E d k1 x2 (x3 + r6) (x4 + 1) σ5 Q)))))))
set_option maxRecDepth 100000 in
set_option maxHeartbeats 4000000 in
theorem v_X3_halvesOf_5 {E : am_E} {d : Nat} {σ : FH} {Q : Int32 → FH → Prop} {k1 : Nat} {x2 : Int32} {x3 : Int32} {x4 : Int32} (hk1 : isWd k1) (t : t_X3_halvesOf_5 E d k1 x2 x3 x4 σ Q) : h_X3_halvesOf_5 E d k1 x2 x3 x4 σ Q := by
  unfold h_X3_halvesOf_5
  unfold t_X3_halvesOf_5 at t
  refine ar_iload (i := 4) dX3_halvesOf_5 rfl ?_
  refine ar_aload_n (i := 1) dX3_halvesOf_7 rfl rfl ?_
  refine fr_getI (t := 5) (j := 1) dX3_halvesOf_8 fs_X3_69 hk1.o rfl ?_
  refine ar_icmp_ge (tgt := 45) dX3_halvesOf_11 (by decide) (fun h1 => ?_) (fun h1 => ?_)
  · have t := t.1 h1
    refine ar_iload_n (i := 3) dX3_halvesOf_45 rfl rfl ?_
    exact fr_iret dX3_halvesOf_46 rfl (Nat.le_refl _) (Nat.le_refl _) t
  · have t := t.2 h1
    refine ar_iload_n (i := 2) dX3_halvesOf_14 rfl rfl ?_
    refine ar_aload_n (i := 0) dX3_halvesOf_15 rfl rfl ?_
    refine fr_getR (t := 3) (j := 3) (r := 73) dX3_halvesOf_16 fs_X3_22 o_71 rfl rfl (by decide) ?_
    refine ar_iload (i := 4) dX3_halvesOf_19 rfl ?_
    obtain ⟨h2, t⟩ := t
    refine fr_iald (n := 8) dX3_halvesOf_21 a_73 h2 ?_
    refine ar_iand dX3_halvesOf_22 ?_
    refine ar_if_eq (tgt := 39) dX3_halvesOf_23 (by decide) (fun h3 => ?_) (fun h3 => ?_)
    · have t := t.1 h3
      refine ar_iinc (i := 4) (v := _ + 1) (lo2 := [_, _, _, _, _]) dX3_halvesOf_39 rfl (ii_1 _) (Nat.le_of_ble_eq_true rfl) rfl rfl ?_
      refine ar_goto (tgt := 5) dX3_halvesOf_42 (by decide) ?_
      exact t
    · have t := t.2 h3
      refine ar_iload_n (i := 3) dX3_halvesOf_26 rfl rfl ?_
      refine ar_aload_n (i := 1) dX3_halvesOf_27 rfl rfl ?_
      refine fr_getR (t := 5) (j := 6) dX3_halvesOf_28 fs_X3_72 hk1.o rfl (frf_c hk1.ne.1 hk1.r6) (Nat.succ_ne_zero _) ?_
      refine ar_iload (i := 4) dX3_halvesOf_31 rfl ?_
      obtain ⟨h4, t⟩ := t
      refine fr_aaldR (w := k1) dX3_halvesOf_33 hk1 h4 ?_
      refine fr_callVi (M' := mX2_worth) [] dX3_halvesOf_34 ml_X3_76 mv_X2_worth rfl rfl (hk1.rd h4).o rfl rfl (Nat.le_of_ble_eq_true rfl) ⟨Nat.le_refl _, Nat.le_refl _⟩ t (fun r6 σ5 t => ?_)
      try dsimp only at t
      refine ar_iadd dX3_halvesOf_37 ?_
      refine ar_istore_n (i := 3) (lo2 := [_, _, _, _, _]) dX3_halvesOf_38 rfl (Nat.le_of_ble_eq_true rfl) rfl rfl ?_
      refine ar_iinc (i := 4) (v := _ + 1) (lo2 := [_, _, _, _, _]) dX3_halvesOf_39 rfl (ii_1 _) (Nat.le_of_ble_eq_true rfl) rfl rfl ?_
      refine ar_goto (tgt := 5) dX3_halvesOf_42 (by decide) ?_
      exact t
def t_X3_halvesOf (E : am_E) (d : Nat) (k1 : Nat) (x2 : Int32) (σ : FH) (Q : Int32 → FH → Prop) : Prop :=
  h_X3_halvesOf_5 E d k1 x2 0 0 σ Q
set_option maxRecDepth 100000 in
set_option maxHeartbeats 4000000 in
theorem v_X3_halvesOf {E : am_E} {d : Nat} {σ : FH} {Q : Int32 → FH → Prop} {k1 : Nat} {x2 : Int32} (hk1 : isWd k1) (t : t_X3_halvesOf E d k1 x2 σ Q) : fMi E (d + 1) mX3_halvesOf [.ref 71, .ref k1, .int x2] σ Q := by
  refine fr_ofG [some (.ref 71), some (.ref k1), some (.int x2), none, none] (by decide) rfl (Nat.le_of_ble_eq_true rfl) ?_
  unfold t_X3_halvesOf at t
  refine ar_iconst (v := 0) dX3_halvesOf_0 (by decide) ?_
  refine ar_istore_n (i := 3) (lo2 := [_, _, _, _, none]) dX3_halvesOf_1 rfl (Nat.le_of_ble_eq_true rfl) rfl rfl ?_
  refine ar_iconst (v := 0) dX3_halvesOf_2 (by decide) ?_
  refine ar_istore (i := 4) (lo2 := [_, _, _, _, _]) dX3_halvesOf_3 (Nat.le_of_ble_eq_true rfl) rfl rfl ?_
  exact t

/-- X3.onlyRoad: the machine at the loop head 2 -/
def h_X3_onlyRoad_2 (E : am_E) (d : Nat) (x0 : Int32) (x1 : Int32) (σ : FH) (Q : Int32 → FH → Prop) : Prop := fG E (d + 1) mX3_onlyRoad 2 [some (.int x0), some (.int x1)] [] σ (qi Q)
def t_X3_onlyRoad_2 (E : am_E) (d : Nat) (x0 : Int32) (x1 : Int32) (σ : FH) (Q : Int32 → FH → Prop) : Prop :=
  ((8 ≤ x1 → Q (-1) σ) ∧
  (¬ 8 ≤ x1 → ((¬ x0 = ((1 : Int32) <<< (x1 &&& 31)) → h_X3_onlyRoad_2 E d x0 (x1 + 1) σ Q) ∧
    (x0 = ((1 : Int32) <<< (x1 &&& 31)) → Q x1 σ))))
set_option maxRecDepth 100000 in
set_option maxHeartbeats 4000000 in
theorem v_X3_onlyRoad_2 {E : am_E} {d : Nat} {σ : FH} {Q : Int32 → FH → Prop} {x0 : Int32} {x1 : Int32} (t : t_X3_onlyRoad_2 E d x0 x1 σ Q) : h_X3_onlyRoad_2 E d x0 x1 σ Q := by
  unfold h_X3_onlyRoad_2
  unfold t_X3_onlyRoad_2 at t
  refine ar_iload_n (i := 1) dX3_onlyRoad_2 rfl rfl ?_
  refine ar_bipush (v := 8) dX3_onlyRoad_3 (by decide) ?_
  refine ar_icmp_ge (tgt := 23) dX3_onlyRoad_5 (by decide) (fun h1 => ?_) (fun h1 => ?_)
  · have t := t.1 h1
    refine ar_iconst (v := -1) dX3_onlyRoad_23 (by decide) ?_
    exact fr_iret dX3_onlyRoad_24 rfl (Nat.le_refl _) (Nat.le_refl _) t
  · have t := t.2 h1
    refine ar_iload_n (i := 0) dX3_onlyRoad_8 rfl rfl ?_
    refine ar_iconst (v := 1) dX3_onlyRoad_9 (by decide) ?_
    refine ar_iload_n (i := 1) dX3_onlyRoad_10 rfl rfl ?_
    refine ar_ishl dX3_onlyRoad_11 ?_
    refine ar_icmp_ne (tgt := 17) dX3_onlyRoad_12 (by decide) (fun h2 => ?_) (fun h2 => ?_)
    · have t := t.1 h2
      refine ar_iinc (i := 1) (v := _ + 1) (lo2 := [_, _]) dX3_onlyRoad_17 rfl (ii_1 _) (Nat.le_of_ble_eq_true rfl) rfl rfl ?_
      refine ar_goto (tgt := 2) dX3_onlyRoad_20 (by decide) ?_
      exact t
    · have t := t.2 h2
      refine ar_iload_n (i := 1) dX3_onlyRoad_15 rfl rfl ?_
      exact fr_iret dX3_onlyRoad_16 rfl (Nat.le_refl _) (Nat.le_refl _) t
def t_X3_onlyRoad (E : am_E) (d : Nat) (x0 : Int32) (σ : FH) (Q : Int32 → FH → Prop) : Prop :=
  h_X3_onlyRoad_2 E d x0 0 σ Q
set_option maxRecDepth 100000 in
set_option maxHeartbeats 4000000 in
theorem v_X3_onlyRoad {E : am_E} {d : Nat} {σ : FH} {Q : Int32 → FH → Prop} {x0 : Int32} (t : t_X3_onlyRoad E d x0 σ Q) : fMi E (d + 1) mX3_onlyRoad [.int x0] σ Q := by
  refine fr_ofG [some (.int x0), none] (by decide) rfl (Nat.le_of_ble_eq_true rfl) ?_
  unfold t_X3_onlyRoad at t
  refine ar_iconst (v := 0) dX3_onlyRoad_0 (by decide) ?_
  refine ar_istore_n (i := 1) (lo2 := [_, _]) dX3_onlyRoad_1 rfl (Nat.le_of_ble_eq_true rfl) rfl rfl ?_
  exact t

