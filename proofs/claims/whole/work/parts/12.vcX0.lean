/-! the verification conditions of CountedTrials$Page (printed by wip/gen/vc.py): t_.. is what is to be shown, v_.. that it is enough -/
def t_X0_append (E : am_E) (d : Nat) (x1 : Int32) (σ : FH) (Q : Int32 → FH → Prop) : Prop :=
  (((σ.1 2 1) < 44 → (vp_in (σ.1 2 1) 44 ∧ (∀ σ3 : FH, σ3 = fsI σ 3 (σ.1 2 1).toNatClampNeg x1 → (∀ σ4 : FH, σ4 = fsI σ3 2 1 ((σ3.1 2 1) + 1) → Q 1 σ4)))) ∧
  (¬ (σ.1 2 1) < 44 → Q 0 σ))
set_option maxRecDepth 100000 in
set_option maxHeartbeats 4000000 in
theorem v_X0_append {E : am_E} {d : Nat} {σ : FH} {Q : Int32 → FH → Prop} {x1 : Int32} (t : t_X0_append E d x1 σ Q) : fMi E (d + 1) mX0_append [.ref 2, .int x1] σ Q := by
  refine fr_ofG [some (.ref 2), some (.int x1)] (by decide) rfl (Nat.le_of_ble_eq_true rfl) ?_
  unfold t_X0_append at t
  refine ar_aload_n (i := 0) dX0_append_0 rfl rfl ?_
  refine fr_getI (t := 0) (j := 1) dX0_append_1 fs_X0_15 o_2 rfl ?_
  refine ar_bipush (v := 44) dX0_append_4 (by decide) ?_
  refine ar_icmp_lt (tgt := 11) dX0_append_6 (by decide) (fun h1 => ?_) (fun h1 => ?_)
  · have t := t.1 h1
    refine ar_aload_n (i := 0) dX0_append_11 rfl rfl ?_
    refine fr_getR (t := 0) (j := 0) (r := 3) dX0_append_12 fs_X0_11 o_2 rfl rfl (by decide) ?_
    refine ar_aload_n (i := 0) dX0_append_15 rfl rfl ?_
    refine fr_getI (t := 0) (j := 1) dX0_append_16 fs_X0_15 o_2 rfl ?_
    refine ar_iload_n (i := 1) dX0_append_19 rfl rfl ?_
    obtain ⟨h2, t⟩ := t
    refine fr_iast (n := 44) dX0_append_20 a_3 h2 ?_
    have t := t _ rfl
    refine ar_aload_n (i := 0) dX0_append_21 rfl rfl ?_
    refine ar_dup dX0_append_22 rfl ?_
    refine fr_getI (t := 0) (j := 1) dX0_append_23 fs_X0_15 o_2 rfl ?_
    refine ar_iconst (v := 1) dX0_append_26 (by decide) ?_
    refine ar_iadd dX0_append_27 ?_
    refine fr_putI (t := 0) (j := 1) dX0_append_28 fq_X0_15 o_2 rfl (Or.inl rfl) ?_
    have t := t _ rfl
    refine ar_iconst (v := 1) dX0_append_31 (by decide) ?_
    exact fr_zret dX0_append_32 rfl (Nat.le_refl _) (Nat.le_refl _) (Or.inr rfl) t
  · have t := t.2 h1
    refine ar_iconst (v := 0) dX0_append_9 (by decide) ?_
    exact fr_zret dX0_append_10 rfl (Nat.le_refl _) (Nat.le_refl _) (Or.inl rfl) t

/-- X0.firstWrong: the machine at the loop head 11 -/
def h_X0_firstWrong_11 (E : am_E) (d : Nat) (x1 : Int32) (x2 : Int32) (x3 : Int32) (σ : FH) (Q : Int32 → FH → Prop) : Prop := fG E (d + 1) mX0_firstWrong 11 [some (.ref 2), some (.int x1), some (.int x2), some (.int x3)] [] σ (qi Q)
def t_X0_firstWrong_11 (E : am_E) (d : Nat) (x1 : Int32) (x2 : Int32) (x3 : Int32) (σ : FH) (Q : Int32 → FH → Prop) : Prop :=
  (((σ.1 2 1) ≤ x3 → Q (σ.1 2 1) σ) ∧
  (¬ (σ.1 2 1) ≤ x3 → ((44 ≤ x3 → Q (σ.1 2 1) σ) ∧
    (¬ 44 ≤ x3 → (vp_in x3 44 ∧ fMi E d mX0_slotBehind [.int (σ.1 2 2), .int (σ.1 3 x3.toNatClampNeg), .int x1, .int x2] σ (fun r6 σ5 => (∀ σ7 : FH, σ7 = fsI σ5 2 2 r6 → ((¬ (σ7.1 2 2) = (-1) → ((¬ (σ7.1 2 2) = 7 → (vp_in x3 44 ∧ h_X0_firstWrong_11 E d (σ7.1 3 x3.toNatClampNeg) x2 (x3 + 1) σ7 Q)) ∧
        ((σ7.1 2 2) = 7 → (vp_in x3 44 ∧ h_X0_firstWrong_11 E d (σ7.1 3 x3.toNatClampNeg) (x2 + 1) (x3 + 1) σ7 Q)))) ∧
      ((σ7.1 2 2) = (-1) → Q x3 σ7)))))))))
set_option maxRecDepth 100000 in
set_option maxHeartbeats 4000000 in
theorem v_X0_firstWrong_11 {E : am_E} {d : Nat} {σ : FH} {Q : Int32 → FH → Prop} {x1 : Int32} {x2 : Int32} {x3 : Int32} (t : t_X0_firstWrong_11 E d x1 x2 x3 σ Q) : h_X0_firstWrong_11 E d x1 x2 x3 σ Q := by
  unfold h_X0_firstWrong_11
  unfold t_X0_firstWrong_11 at t
  refine ar_iload_n (i := 3) dX0_firstWrong_11 rfl rfl ?_
  refine ar_aload_n (i := 0) dX0_firstWrong_12 rfl rfl ?_
  refine fr_getI (t := 0) (j := 1) dX0_firstWrong_13 fs_X0_15 o_2 rfl ?_
  refine ar_icmp_ge (tgt := 79) dX0_firstWrong_16 (by decide) (fun h2 => ?_) (fun h2 => ?_)
  · have t := t.1 h2
    refine ar_aload_n (i := 0) dX0_firstWrong_79 rfl rfl ?_
    refine fr_getI (t := 0) (j := 1) dX0_firstWrong_80 fs_X0_15 o_2 rfl ?_
    exact fr_iret dX0_firstWrong_83 rfl (Nat.le_refl _) (Nat.le_refl _) t
  · have t := t.2 h2
    refine ar_iload_n (i := 3) dX0_firstWrong_19 rfl rfl ?_
    refine ar_bipush (v := 44) dX0_firstWrong_20 (by decide) ?_
    refine ar_icmp_ge (tgt := 79) dX0_firstWrong_22 (by decide) (fun h3 => ?_) (fun h3 => ?_)
    · have t := t.1 h3
      refine ar_aload_n (i := 0) dX0_firstWrong_79 rfl rfl ?_
      refine fr_getI (t := 0) (j := 1) dX0_firstWrong_80 fs_X0_15 o_2 rfl ?_
      exact fr_iret dX0_firstWrong_83 rfl (Nat.le_refl _) (Nat.le_refl _) t
    · have t := t.2 h3
      refine ar_aload_n (i := 0) dX0_firstWrong_25 rfl rfl ?_
      refine ar_aload_n (i := 0) dX0_firstWrong_26 rfl rfl ?_
      refine fr_getI (t := 0) (j := 2) dX0_firstWrong_27 fs_X0_19 o_2 rfl ?_
      refine ar_aload_n (i := 0) dX0_firstWrong_30 rfl rfl ?_
      refine fr_getR (t := 0) (j := 0) (r := 3) dX0_firstWrong_31 fs_X0_11 o_2 rfl rfl (by decide) ?_
      refine ar_iload_n (i := 3) dX0_firstWrong_34 rfl rfl ?_
      obtain ⟨h4, t⟩ := t
      refine fr_iald (n := 44) dX0_firstWrong_35 a_3 h4 ?_
      refine ar_iload_n (i := 1) dX0_firstWrong_36 rfl rfl ?_
      refine ar_iload_n (i := 2) dX0_firstWrong_37 rfl rfl ?_
      refine fr_callSi (M' := mX0_slotBehind) [_, _, _, _] dX0_firstWrong_38 ml_X0_22 mv_X0_slotBehind rfl rfl (Nat.le_of_ble_eq_true rfl) ⟨Nat.le_refl _, Nat.le_refl _⟩ t (fun r6 σ5 t => ?_)
      try dsimp only at t
      refine fr_putI (t := 0) (j := 2) dX0_firstWrong_41 fq_X0_19 o_2 rfl (Or.inl rfl) ?_
      have t := t _ rfl
      refine ar_aload_n (i := 0) dX0_firstWrong_44 rfl rfl ?_
      refine fr_getI (t := 0) (j := 2) dX0_firstWrong_45 fs_X0_19 o_2 rfl ?_
      refine ar_iconst (v := -1) dX0_firstWrong_48 (by decide) ?_
      refine ar_icmp_ne (tgt := 54) dX0_firstWrong_49 (by decide) (fun h8 => ?_) (fun h8 => ?_)
      · have t := t.1 h8
        refine ar_aload_n (i := 0) dX0_firstWrong_54 rfl rfl ?_
        refine fr_getI (t := 0) (j := 2) dX0_firstWrong_55 fs_X0_19 o_2 rfl ?_
        refine ar_bipush (v := 7) dX0_firstWrong_58 (by decide) ?_
        refine ar_icmp_ne (tgt := 66) dX0_firstWrong_60 (by decide) (fun h9 => ?_) (fun h9 => ?_)
        · have t := t.1 h9
          refine ar_aload_n (i := 0) dX0_firstWrong_66 rfl rfl ?_
          refine fr_getR (t := 0) (j := 0) (r := 3) dX0_firstWrong_67 fs_X0_11 o_2 rfl rfl (by decide) ?_
          refine ar_iload_n (i := 3) dX0_firstWrong_70 rfl rfl ?_
          obtain ⟨h10, t⟩ := t
          refine fr_iald (n := 44) dX0_firstWrong_71 a_3 h10 ?_
          refine ar_istore_n (i := 1) (lo2 := [_, _, _, _]) dX0_firstWrong_72 rfl (Nat.le_of_ble_eq_true rfl) rfl rfl ?_
          refine ar_iinc (i := 3) (v := _ + 1) (lo2 := [_, _, _, _]) dX0_firstWrong_73 rfl (ii_1 _) (Nat.le_of_ble_eq_true rfl) rfl rfl ?_
          refine ar_goto (tgt := 11) dX0_firstWrong_76 (by decide) ?_
          exact t
        · have t := t.2 h9
          refine ar_iinc (i := 2) (v := _ + 1) (lo2 := [_, _, _, _]) dX0_firstWrong_63 rfl (ii_1 _) (Nat.le_of_ble_eq_true rfl) rfl rfl ?_
          refine ar_aload_n (i := 0) dX0_firstWrong_66 rfl rfl ?_
          refine fr_getR (t := 0) (j := 0) (r := 3) dX0_firstWrong_67 fs_X0_11 o_2 rfl rfl (by decide) ?_
          refine ar_iload_n (i := 3) dX0_firstWrong_70 rfl rfl ?_
          obtain ⟨h11, t⟩ := t
          refine fr_iald (n := 44) dX0_firstWrong_71 a_3 h11 ?_
          refine ar_istore_n (i := 1) (lo2 := [_, _, _, _]) dX0_firstWrong_72 rfl (Nat.le_of_ble_eq_true rfl) rfl rfl ?_
          refine ar_iinc (i := 3) (v := _ + 1) (lo2 := [_, _, _, _]) dX0_firstWrong_73 rfl (ii_1 _) (Nat.le_of_ble_eq_true rfl) rfl rfl ?_
          refine ar_goto (tgt := 11) dX0_firstWrong_76 (by decide) ?_
          exact t
      · have t := t.2 h8
        refine ar_iload_n (i := 3) dX0_firstWrong_52 rfl rfl ?_
        exact fr_iret dX0_firstWrong_53 rfl (Nat.le_refl _) (Nat.le_refl _) t
def t_X0_firstWrong (E : am_E) (d : Nat) (σ : FH) (Q : Int32 → FH → Prop) : Prop :=
  (∀ σ1 : FH, σ1 = fsI σ 2 2 0 → h_X0_firstWrong_11 E d 0 0 0 σ1 Q)
set_option maxRecDepth 100000 in
set_option maxHeartbeats 4000000 in
theorem v_X0_firstWrong {E : am_E} {d : Nat} {σ : FH} {Q : Int32 → FH → Prop} (t : t_X0_firstWrong E d σ Q) : fMi E (d + 1) mX0_firstWrong [.ref 2] σ Q := by
  refine fr_ofG [some (.ref 2), none, none, none] (by decide) rfl (Nat.le_of_ble_eq_true rfl) ?_
  unfold t_X0_firstWrong at t
  refine ar_iconst (v := 0) dX0_firstWrong_0 (by decide) ?_
  refine ar_istore_n (i := 1) (lo2 := [_, _, none, none]) dX0_firstWrong_1 rfl (Nat.le_of_ble_eq_true rfl) rfl rfl ?_
  refine ar_iconst (v := 0) dX0_firstWrong_2 (by decide) ?_
  refine ar_istore_n (i := 2) (lo2 := [_, _, _, none]) dX0_firstWrong_3 rfl (Nat.le_of_ble_eq_true rfl) rfl rfl ?_
  refine ar_aload_n (i := 0) dX0_firstWrong_4 rfl rfl ?_
  refine ar_iconst (v := 0) dX0_firstWrong_5 (by decide) ?_
  refine fr_putI (t := 0) (j := 2) dX0_firstWrong_6 fq_X0_19 o_2 rfl (Or.inl rfl) ?_
  have t := t _ rfl
  refine ar_iconst (v := 0) dX0_firstWrong_9 (by decide) ?_
  refine ar_istore_n (i := 3) (lo2 := [_, _, _, _]) dX0_firstWrong_10 rfl (Nat.le_of_ble_eq_true rfl) rfl rfl ?_
  exact t

def t_X0_isWhole (E : am_E) (d : Nat) (σ : FH) (Q : Int32 → FH → Prop) : Prop :=
  fMi E d mX0_firstWrong [.ref 2] σ (fun r2 σ1 => ((¬ r2 = (σ1.1 2 1) → Q 0 σ1) ∧
  (r2 = (σ1.1 2 1) → ((¬ (σ1.1 2 2) = 7 → Q 0 σ1) ∧
    ((σ1.1 2 2) = 7 → Q 1 σ1)))))
set_option maxRecDepth 100000 in
set_option maxHeartbeats 4000000 in
theorem v_X0_isWhole {E : am_E} {d : Nat} {σ : FH} {Q : Int32 → FH → Prop} (t : t_X0_isWhole E d σ Q) : fMi E (d + 1) mX0_isWhole [.ref 2] σ Q := by
  refine fr_ofG [some (.ref 2)] (by decide) rfl (Nat.le_of_ble_eq_true rfl) ?_
  unfold t_X0_isWhole at t
  refine ar_aload_n (i := 0) dX0_isWhole_0 rfl rfl ?_
  refine fr_callVi (M' := mX0_firstWrong) [] dX0_isWhole_1 ml_X0_26 mv_X0_firstWrong rfl rfl o_2 rfl rfl (Nat.le_of_ble_eq_true rfl) ⟨Nat.le_refl _, Nat.le_refl _⟩ t (fun r2 σ1 t => ?_)
  try dsimp only at t
  refine ar_aload_n (i := 0) dX0_isWhole_4 rfl rfl ?_
  refine fr_getI (t := 0) (j := 1) dX0_isWhole_5 fs_X0_15 o_2 rfl ?_
  refine ar_icmp_ne (tgt := 24) dX0_isWhole_8 (by decide) (fun h3 => ?_) (fun h3 => ?_)
  · have t := t.1 h3
    refine ar_iconst (v := 0) dX0_isWhole_24 (by decide) ?_
    exact fr_zret dX0_isWhole_25 rfl (Nat.le_refl _) (Nat.le_refl _) (Or.inl rfl) t
  · have t := t.2 h3
    refine ar_aload_n (i := 0) dX0_isWhole_11 rfl rfl ?_
    refine fr_getI (t := 0) (j := 2) dX0_isWhole_12 fs_X0_19 o_2 rfl ?_
    refine ar_bipush (v := 7) dX0_isWhole_15 (by decide) ?_
    refine ar_icmp_ne (tgt := 24) dX0_isWhole_17 (by decide) (fun h4 => ?_) (fun h4 => ?_)
    · have t := t.1 h4
      refine ar_iconst (v := 0) dX0_isWhole_24 (by decide) ?_
      exact fr_zret dX0_isWhole_25 rfl (Nat.le_refl _) (Nat.le_refl _) (Or.inl rfl) t
    · have t := t.2 h4
      refine ar_iconst (v := 1) dX0_isWhole_20 (by decide) ?_
      refine ar_goto (tgt := 25) dX0_isWhole_21 (by decide) ?_
      exact fr_zret dX0_isWhole_25 rfl (Nat.le_refl _) (Nat.le_refl _) (Or.inr rfl) t

/-- X0.layRoads: the machine at the loop head 30 -/
def h_X0_layRoads_30 (E : am_E) (d : Nat) (k1 : Nat) (x2 : Int32) (x3 : Int32) (σ : FH) (Q : FH → Prop) : Prop := fG E (d + 1) mX0_layRoads 30 [some (.ref 2), some (.ref k1), some (.int x2), some (.int x3), none, none] [] σ (qv Q)
def t_X0_layRoads_67 (E : am_E) (d : Nat) (k1 : Nat) (x3 : Int32) (x4 : Int32) (xs0 : Int32) (σ : FH) (Q : FH → Prop) : Prop :=
  ((44 ≤ (xs0 + 2) → h_X0_layRoads_30 E d k1 (xs0 + 4) (x3 + 1) σ Q) ∧
  (¬ 44 ≤ (xs0 + 2) → (vp_in x3 8 ∧ (vp_in xs0 44 ∧ (vp_in (xs0 + 1) 44 ∧ (vp_in (xs0 + 2) 44 ∧ fMv E d mX2_lay [.ref (k1 + 4 + x3.toNatClampNeg), .int x4, .int ((σ.1 3 xs0.toNatClampNeg) - 48), .int ((σ.1 3 (xs0 + 1).toNatClampNeg) - 48), .int ((σ.1 3 (xs0 + 2).toNatClampNeg) - 48)] σ (fun σ17 => h_X0_layRoads_30 E d k1 (xs0 + 4) (x3 + 1) σ17 Q)))))))
set_option maxRecDepth 100000 in
set_option maxHeartbeats 4000000 in
theorem v_X0_layRoads_67 {E : am_E} {d : Nat} {σ : FH} {Q : FH → Prop} {k1 : Nat} {x3 : Int32} {x4 : Int32} {xs0 : Int32} (hk1 : isWd k1) (t : t_X0_layRoads_67 E d k1 x3 x4 xs0 σ Q) : fG E (d + 1) mX0_layRoads 67 [some (.ref 2), some (.ref k1), none, some (.int x3), some (.int x4), none] [.int xs0] σ (qv Q) := by
  unfold t_X0_layRoads_67 at t
  refine ar_istore (i := 5) (lo2 := [_, _, none, _, _, _]) dX0_layRoads_67 (Nat.le_of_ble_eq_true rfl) rfl rfl ?_
  refine ar_iload (i := 5) dX0_layRoads_69 rfl ?_
  refine ar_iconst (v := 2) dX0_layRoads_71 (by decide) ?_
  refine ar_iadd dX0_layRoads_72 ?_
  refine ar_bipush (v := 44) dX0_layRoads_73 (by decide) ?_
  refine ar_icmp_ge (tgt := 123) dX0_layRoads_75 (by decide) (fun h12 => ?_) (fun h12 => ?_)
  · have t := t.1 h12
    refine ar_iinc (i := 3) (v := _ + 1) (lo2 := [_, _, none, _, _, _]) dX0_layRoads_123 rfl (ii_1 _) (Nat.le_of_ble_eq_true rfl) rfl rfl ?_
    refine ar_iload (i := 5) dX0_layRoads_126 rfl ?_
    refine ar_iconst (v := 4) dX0_layRoads_128 (by decide) ?_
    refine ar_iadd dX0_layRoads_129 ?_
    refine ar_istore_n (i := 2) (lo2 := [_, _, _, _, _, _]) dX0_layRoads_130 rfl (Nat.le_of_ble_eq_true rfl) rfl rfl ?_
    refine ar_goto (tgt := 30) dX0_layRoads_131 (by decide) ?_
    refine ar_drop 4 (lo2 := [_, _, _, _, none, _]) rfl ?_
    refine ar_drop 5 (lo2 := [_, _, _, _, none, none]) rfl ?_
    exact t
  · have t := t.2 h12
    refine ar_aload_n (i := 1) dX0_layRoads_78 rfl rfl ?_
    refine fr_getR (t := 5) (j := 6) dX0_layRoads_79 fs_X0_39 hk1.o rfl (frf_c hk1.ne.1 hk1.r6) (Nat.succ_ne_zero _) ?_
    refine ar_iload_n (i := 3) dX0_layRoads_82 rfl rfl ?_
    obtain ⟨h13, t⟩ := t
    refine fr_aaldR (w := k1) dX0_layRoads_83 hk1 h13 ?_
    refine ar_iload (i := 4) dX0_layRoads_84 rfl ?_
    refine ar_aload_n (i := 0) dX0_layRoads_86 rfl rfl ?_
    refine fr_getR (t := 0) (j := 0) (r := 3) dX0_layRoads_87 fs_X0_11 o_2 rfl rfl (by decide) ?_
    refine ar_iload (i := 5) dX0_layRoads_90 rfl ?_
    obtain ⟨h14, t⟩ := t
    refine fr_iald (n := 44) dX0_layRoads_92 a_3 h14 ?_
    refine ar_bipush (v := 48) dX0_layRoads_93 (by decide) ?_
    refine ar_isub dX0_layRoads_95 ?_
    refine ar_aload_n (i := 0) dX0_layRoads_96 rfl rfl ?_
    refine fr_getR (t := 0) (j := 0) (r := 3) dX0_layRoads_97 fs_X0_11 o_2 rfl rfl (by decide) ?_
    refine ar_iload (i := 5) dX0_layRoads_100 rfl ?_
    refine ar_iconst (v := 1) dX0_layRoads_102 (by decide) ?_
    refine ar_iadd dX0_layRoads_103 ?_
    obtain ⟨h15, t⟩ := t
    refine fr_iald (n := 44) dX0_layRoads_104 a_3 h15 ?_
    refine ar_bipush (v := 48) dX0_layRoads_105 (by decide) ?_
    refine ar_isub dX0_layRoads_107 ?_
    refine ar_aload_n (i := 0) dX0_layRoads_108 rfl rfl ?_
    refine fr_getR (t := 0) (j := 0) (r := 3) dX0_layRoads_109 fs_X0_11 o_2 rfl rfl (by decide) ?_
    refine ar_iload (i := 5) dX0_layRoads_112 rfl ?_
    refine ar_iconst (v := 2) dX0_layRoads_114 (by decide) ?_
    refine ar_iadd dX0_layRoads_115 ?_
    obtain ⟨h16, t⟩ := t
    refine fr_iald (n := 44) dX0_layRoads_116 a_3 h16 ?_
    refine ar_bipush (v := 48) dX0_layRoads_117 (by decide) ?_
    refine ar_isub dX0_layRoads_119 ?_
    refine fr_callVv (M' := mX2_lay) [_, _, _, _] dX0_layRoads_120 ml_X0_43 mv_X2_lay rfl rfl (hk1.rd h13).o rfl rfl (Nat.le_of_ble_eq_true rfl) ⟨Nat.le_refl _, Nat.le_refl _⟩ t (fun σ17 t => ?_)
    try dsimp only at t
    refine ar_iinc (i := 3) (v := _ + 1) (lo2 := [_, _, none, _, _, _]) dX0_layRoads_123 rfl (ii_1 _) (Nat.le_of_ble_eq_true rfl) rfl rfl ?_
    refine ar_iload (i := 5) dX0_layRoads_126 rfl ?_
    refine ar_iconst (v := 4) dX0_layRoads_128 (by decide) ?_
    refine ar_iadd dX0_layRoads_129 ?_
    refine ar_istore_n (i := 2) (lo2 := [_, _, _, _, _, _]) dX0_layRoads_130 rfl (Nat.le_of_ble_eq_true rfl) rfl rfl ?_
    refine ar_goto (tgt := 30) dX0_layRoads_131 (by decide) ?_
    refine ar_drop 4 (lo2 := [_, _, _, _, none, _]) rfl ?_
    refine ar_drop 5 (lo2 := [_, _, _, _, none, none]) rfl ?_
    exact t
def t_X0_layRoads_30 (E : am_E) (d : Nat) (k1 : Nat) (x2 : Int32) (x3 : Int32) (σ : FH) (Q : FH → Prop) : Prop :=
  ((8 ≤ x3 → (∀ σ5 : FH, σ5 = fsI σ k1 1 x3 → Q σ5)) ∧
  (¬ 8 ≤ x3 → (((σ.1 2 1) ≤ x2 → (∀ σ7 : FH, σ7 = fsI σ k1 1 x3 → Q σ7)) ∧
    (¬ (σ.1 2 1) ≤ x2 → (vp_in x2 44 ∧ fMi E d mX0_kindOf [.int (σ.1 3 x2.toNatClampNeg)] σ (fun r10 σ9 => ((¬ r10 = 0 → t_X0_layRoads_67 E d k1 x3 r10 (x2 + 1) σ9 Q) ∧
      (r10 = 0 → t_X0_layRoads_67 E d k1 x3 r10 x2 σ9 Q))))))))
set_option maxRecDepth 100000 in
set_option maxHeartbeats 4000000 in
theorem v_X0_layRoads_30 {E : am_E} {d : Nat} {σ : FH} {Q : FH → Prop} {k1 : Nat} {x2 : Int32} {x3 : Int32} (hk1 : isWd k1) (t : t_X0_layRoads_30 E d k1 x2 x3 σ Q) : h_X0_layRoads_30 E d k1 x2 x3 σ Q := by
  unfold h_X0_layRoads_30
  unfold t_X0_layRoads_30 at t
  refine ar_iload_n (i := 3) dX0_layRoads_30 rfl rfl ?_
  refine ar_bipush (v := 8) dX0_layRoads_31 (by decide) ?_
  refine ar_icmp_ge (tgt := 134) dX0_layRoads_33 (by decide) (fun h4 => ?_) (fun h4 => ?_)
  · have t := t.1 h4
    refine ar_aload_n (i := 1) dX0_layRoads_134 rfl rfl ?_
    refine ar_iload_n (i := 3) dX0_layRoads_135 rfl rfl ?_
    refine fr_putI (t := 5) (j := 1) dX0_layRoads_136 fq_X0_49 hk1.o rfl (Or.inl rfl) ?_
    have t := t _ rfl
    exact fr_vret dX0_layRoads_139 rfl (Nat.le_refl _) (Nat.le_refl _) t
  · have t := t.2 h4
    refine ar_iload_n (i := 2) dX0_layRoads_36 rfl rfl ?_
    refine ar_aload_n (i := 0) dX0_layRoads_37 rfl rfl ?_
    refine fr_getI (t := 0) (j := 1) dX0_layRoads_38 fs_X0_15 o_2 rfl ?_
    refine ar_icmp_ge (tgt := 134) dX0_layRoads_41 (by decide) (fun h6 => ?_) (fun h6 => ?_)
    · have t := t.1 h6
      refine ar_aload_n (i := 1) dX0_layRoads_134 rfl rfl ?_
      refine ar_iload_n (i := 3) dX0_layRoads_135 rfl rfl ?_
      refine fr_putI (t := 5) (j := 1) dX0_layRoads_136 fq_X0_49 hk1.o rfl (Or.inl rfl) ?_
      have t := t _ rfl
      exact fr_vret dX0_layRoads_139 rfl (Nat.le_refl _) (Nat.le_refl _) t
    · have t := t.2 h6
      refine ar_aload_n (i := 0) dX0_layRoads_44 rfl rfl ?_
      refine fr_getR (t := 0) (j := 0) (r := 3) dX0_layRoads_45 fs_X0_11 o_2 rfl rfl (by decide) ?_
      refine ar_iload_n (i := 2) dX0_layRoads_48 rfl rfl ?_
      obtain ⟨h8, t⟩ := t
      refine fr_iald (n := 44) dX0_layRoads_49 a_3 h8 ?_
      refine fr_callSi (M' := mX0_kindOf) [_] dX0_layRoads_50 ml_X0_35 mv_X0_kindOf rfl rfl (Nat.le_of_ble_eq_true rfl) ⟨Nat.le_refl _, Nat.le_refl _⟩ t (fun r10 σ9 t => ?_)
      try dsimp only at t
      refine ar_istore (i := 4) (lo2 := [_, _, _, _, _, none]) dX0_layRoads_53 (Nat.le_of_ble_eq_true rfl) rfl rfl ?_
      refine ar_iload (i := 4) dX0_layRoads_55 rfl ?_
      refine ar_if_ne (tgt := 64) dX0_layRoads_57 (by decide) (fun h11 => ?_) (fun h11 => ?_)
      · have t := t.1 h11
        refine ar_iload_n (i := 2) dX0_layRoads_64 rfl rfl ?_
        refine ar_iconst (v := 1) dX0_layRoads_65 (by decide) ?_
        refine ar_iadd dX0_layRoads_66 ?_
        refine ar_drop 2 (lo2 := [_, _, none, _, _, none]) rfl ?_
        exact v_X0_layRoads_67 hk1 t
      · have t := t.2 h11
        refine ar_iload_n (i := 2) dX0_layRoads_60 rfl rfl ?_
        refine ar_goto (tgt := 67) dX0_layRoads_61 (by decide) ?_
        refine ar_drop 2 (lo2 := [_, _, none, _, _, none]) rfl ?_
        exact v_X0_layRoads_67 hk1 t
def t_X0_layRoads (E : am_E) (d : Nat) (k1 : Nat) (σ : FH) (Q : FH → Prop) : Prop :=
  (vp_in 0 44 ∧ (vp_in 1 44 ∧ (∀ σ3 : FH, σ3 = fsI σ k1 0 (((((σ.1 3 0) - 48) * 10) + (σ.1 3 1)) - 48) → h_X0_layRoads_30 E d k1 3 0 σ3 Q)))
set_option maxRecDepth 100000 in
set_option maxHeartbeats 4000000 in
theorem v_X0_layRoads {E : am_E} {d : Nat} {σ : FH} {Q : FH → Prop} {k1 : Nat} (hk1 : isWd k1) (t : t_X0_layRoads E d k1 σ Q) : fMv E (d + 1) mX0_layRoads [.ref 2, .ref k1] σ Q := by
  refine fr_ofG [some (.ref 2), some (.ref k1), none, none, none, none] (by decide) rfl (Nat.le_of_ble_eq_true rfl) ?_
  unfold t_X0_layRoads at t
  refine ar_aload_n (i := 1) dX0_layRoads_0 rfl rfl ?_
  refine ar_aload_n (i := 0) dX0_layRoads_1 rfl rfl ?_
  refine fr_getR (t := 0) (j := 0) (r := 3) dX0_layRoads_2 fs_X0_11 o_2 rfl rfl (by decide) ?_
  refine ar_iconst (v := 0) dX0_layRoads_5 (by decide) ?_
  obtain ⟨h1, t⟩ := t
  refine fr_iald (n := 44) dX0_layRoads_6 a_3 h1 ?_
  refine ar_bipush (v := 48) dX0_layRoads_7 (by decide) ?_
  refine ar_isub dX0_layRoads_9 ?_
  refine ar_bipush (v := 10) dX0_layRoads_10 (by decide) ?_
  refine ar_imul dX0_layRoads_12 ?_
  refine ar_aload_n (i := 0) dX0_layRoads_13 rfl rfl ?_
  refine fr_getR (t := 0) (j := 0) (r := 3) dX0_layRoads_14 fs_X0_11 o_2 rfl rfl (by decide) ?_
  refine ar_iconst (v := 1) dX0_layRoads_17 (by decide) ?_
  obtain ⟨h2, t⟩ := t
  refine fr_iald (n := 44) dX0_layRoads_18 a_3 h2 ?_
  refine ar_iadd dX0_layRoads_19 ?_
  refine ar_bipush (v := 48) dX0_layRoads_20 (by decide) ?_
  refine ar_isub dX0_layRoads_22 ?_
  refine fr_putI (t := 5) (j := 0) dX0_layRoads_23 fq_X0_30 hk1.o rfl (Or.inl rfl) ?_
  have t := t _ rfl
  refine ar_iconst (v := 3) dX0_layRoads_26 (by decide) ?_
  refine ar_istore_n (i := 2) (lo2 := [_, _, _, none, none, none]) dX0_layRoads_27 rfl (Nat.le_of_ble_eq_true rfl) rfl rfl ?_
  refine ar_iconst (v := 0) dX0_layRoads_28 (by decide) ?_
  refine ar_istore_n (i := 3) (lo2 := [_, _, _, _, none, none]) dX0_layRoads_29 rfl (Nat.le_of_ble_eq_true rfl) rfl rfl ?_
  exact t

def t_X0_slotBehind (E : am_E) (d : Nat) (x0 : Int32) (x1 : Int32) (x2 : Int32) (x3 : Int32) (σ : FH) (Q : Int32 → FH → Prop) : Prop :=
  ((x0 = 0 → fMi E d mX0_isDigit [.int x1, .int 0, .int 6] σ (fun r3 σ2 => ((r3 = 0 → Q (-1) σ2) ∧
    (¬ r3 = 0 → Q 1 σ2)))) ∧
  ((x0 = 1 → fMi E d mX0_isOnes [.int x2, .int x1] σ (fun r7 σ6 => ((r7 = 0 → Q (-1) σ6) ∧
    (¬ r7 = 0 → Q 2 σ6)))) ∧
  ((x0 = 2 → ((¬ x1 = 58 → Q (-1) σ) ∧
    (x1 = 58 → Q 3 σ))) ∧
  ((x0 = 3 → fMi E d mX0_kindOf [.int x1] σ (fun r13 σ12 => ((r13 = 0 → fMi E d mX0_isDigit [.int x1, .int 0, .int 5] σ12 (fun r16 σ15 => ((r16 = 0 → Q (-1) σ15) ∧
      (¬ r16 = 0 → Q 5 σ15)))) ∧
    (¬ r13 = 0 → Q 4 σ12)))) ∧
  ((x0 = 4 → fMi E d mX0_isDigit [.int x1, .int 0, .int 5] σ (fun r20 σ19 => ((r20 = 0 → Q (-1) σ19) ∧
    (¬ r20 = 0 → Q 5 σ19)))) ∧
  ((x0 = 5 → fMi E d mX0_isDigit [.int x1, .int 0, .int 5] σ (fun r24 σ23 => ((r24 = 0 → Q (-1) σ23) ∧
    (¬ r24 = 0 → ((x1 = x2 → Q (-1) σ23) ∧
      (¬ x1 = x2 → Q 6 σ23)))))) ∧
  ((x0 = 6 → fMi E d mX0_isDigit [.int x1, .int 1, .int 9] σ (fun r29 σ28 => ((r29 = 0 → Q (-1) σ28) ∧
    (¬ r29 = 0 → Q 7 σ28)))) ∧
  (¬ x0 = 0 → ¬ x0 = 1 → ¬ x0 = 2 → ¬ x0 = 3 → ¬ x0 = 4 → ¬ x0 = 5 → ¬ x0 = 6 → ((¬ x1 = 44 → Q (-1) σ) ∧
  (x1 = 44 → ((8 ≤ x3 → Q (-1) σ) ∧
    (¬ 8 ≤ x3 → Q 3 σ))))))))))))
set_option maxRecDepth 100000 in
set_option maxHeartbeats 4000000 in
theorem v_X0_slotBehind {E : am_E} {d : Nat} {σ : FH} {Q : Int32 → FH → Prop} {x0 : Int32} {x1 : Int32} {x2 : Int32} {x3 : Int32} (t : t_X0_slotBehind E d x0 x1 x2 x3 σ Q) : fMi E (d + 1) mX0_slotBehind [.int x0, .int x1, .int x2, .int x3] σ Q := by
  refine fr_ofG [some (.int x0), some (.int x1), some (.int x2), some (.int x3)] (by decide) rfl (Nat.le_of_ble_eq_true rfl) ?_
  unfold t_X0_slotBehind at t
  refine ar_iload_n (i := 0) dX0_slotBehind_0 rfl rfl ?_
  by_cases h1 : x0 = 0
  · have t := t.1 h1
    refine ar_tableIn (tgt := 44) dX0_slotBehind_1 (by rw [h1]; decide) (by rw [h1]; decide) (by rw [h1]; rfl) (by decide) ?_
    refine ar_iload_n (i := 1) dX0_slotBehind_44 rfl rfl ?_
    refine ar_iconst (v := 0) dX0_slotBehind_45 (by decide) ?_
    refine ar_bipush (v := 6) dX0_slotBehind_46 (by decide) ?_
    refine fr_callSi (M' := mX0_isDigit) [_, _, _] dX0_slotBehind_48 ml_X0_52 mv_X0_isDigit rfl rfl (Nat.le_of_ble_eq_true rfl) ⟨Nat.le_refl _, Nat.le_refl _⟩ t (fun r3 σ2 t => ?_)
    try dsimp only at t
    refine ar_if_eq (tgt := 58) dX0_slotBehind_51 (by decide) (fun h4 => ?_) (fun h4 => ?_)
    · have t := t.1 h4
      refine ar_iconst (v := -1) dX0_slotBehind_58 (by decide) ?_
      exact fr_iret dX0_slotBehind_59 rfl (Nat.le_refl _) (Nat.le_refl _) t
    · have t := t.2 h4
      refine ar_iconst (v := 1) dX0_slotBehind_54 (by decide) ?_
      refine ar_goto (tgt := 59) dX0_slotBehind_55 (by decide) ?_
      exact fr_iret dX0_slotBehind_59 rfl (Nat.le_refl _) (Nat.le_refl _) t
  have t := t.2
  by_cases h5 : x0 = 1
  · have t := t.1 h5
    refine ar_tableIn (tgt := 60) dX0_slotBehind_1 (by rw [h5]; decide) (by rw [h5]; decide) (by rw [h5]; rfl) (by decide) ?_
    refine ar_iload_n (i := 2) dX0_slotBehind_60 rfl rfl ?_
    refine ar_iload_n (i := 1) dX0_slotBehind_61 rfl rfl ?_
    refine fr_callSi (M' := mX0_isOnes) [_, _] dX0_slotBehind_62 ml_X0_56 mv_X0_isOnes rfl rfl (Nat.le_of_ble_eq_true rfl) ⟨Nat.le_refl _, Nat.le_refl _⟩ t (fun r7 σ6 t => ?_)
    try dsimp only at t
    refine ar_if_eq (tgt := 72) dX0_slotBehind_65 (by decide) (fun h8 => ?_) (fun h8 => ?_)
    · have t := t.1 h8
      refine ar_iconst (v := -1) dX0_slotBehind_72 (by decide) ?_
      exact fr_iret dX0_slotBehind_73 rfl (Nat.le_refl _) (Nat.le_refl _) t
    · have t := t.2 h8
      refine ar_iconst (v := 2) dX0_slotBehind_68 (by decide) ?_
      refine ar_goto (tgt := 73) dX0_slotBehind_69 (by decide) ?_
      exact fr_iret dX0_slotBehind_73 rfl (Nat.le_refl _) (Nat.le_refl _) t
  have t := t.2
  by_cases h9 : x0 = 2
  · have t := t.1 h9
    refine ar_tableIn (tgt := 74) dX0_slotBehind_1 (by rw [h9]; decide) (by rw [h9]; decide) (by rw [h9]; rfl) (by decide) ?_
    refine ar_iload_n (i := 1) dX0_slotBehind_74 rfl rfl ?_
    refine ar_bipush (v := 58) dX0_slotBehind_75 (by decide) ?_
    refine ar_icmp_ne (tgt := 84) dX0_slotBehind_77 (by decide) (fun h10 => ?_) (fun h10 => ?_)
    · have t := t.1 h10
      refine ar_iconst (v := -1) dX0_slotBehind_84 (by decide) ?_
      exact fr_iret dX0_slotBehind_85 rfl (Nat.le_refl _) (Nat.le_refl _) t
    · have t := t.2 h10
      refine ar_iconst (v := 3) dX0_slotBehind_80 (by decide) ?_
      refine ar_goto (tgt := 85) dX0_slotBehind_81 (by decide) ?_
      exact fr_iret dX0_slotBehind_85 rfl (Nat.le_refl _) (Nat.le_refl _) t
  have t := t.2
  by_cases h11 : x0 = 3
  · have t := t.1 h11
    refine ar_tableIn (tgt := 86) dX0_slotBehind_1 (by rw [h11]; decide) (by rw [h11]; decide) (by rw [h11]; rfl) (by decide) ?_
    refine ar_iload_n (i := 1) dX0_slotBehind_86 rfl rfl ?_
    refine fr_callSi (M' := mX0_kindOf) [_] dX0_slotBehind_87 ml_X0_35 mv_X0_kindOf rfl rfl (Nat.le_of_ble_eq_true rfl) ⟨Nat.le_refl _, Nat.le_refl _⟩ t (fun r13 σ12 t => ?_)
    try dsimp only at t
    refine ar_if_eq (tgt := 95) dX0_slotBehind_90 (by decide) (fun h14 => ?_) (fun h14 => ?_)
    · have t := t.1 h14
      refine ar_iload_n (i := 1) dX0_slotBehind_95 rfl rfl ?_
      refine ar_iconst (v := 0) dX0_slotBehind_96 (by decide) ?_
      refine ar_iconst (v := 5) dX0_slotBehind_97 (by decide) ?_
      refine fr_callSi (M' := mX0_isDigit) [_, _, _] dX0_slotBehind_98 ml_X0_52 mv_X0_isDigit rfl rfl (Nat.le_of_ble_eq_true rfl) ⟨Nat.le_refl _, Nat.le_refl _⟩ t (fun r16 σ15 t => ?_)
      try dsimp only at t
      refine ar_if_eq (tgt := 108) dX0_slotBehind_101 (by decide) (fun h17 => ?_) (fun h17 => ?_)
      · have t := t.1 h17
        refine ar_iconst (v := -1) dX0_slotBehind_108 (by decide) ?_
        exact fr_iret dX0_slotBehind_109 rfl (Nat.le_refl _) (Nat.le_refl _) t
      · have t := t.2 h17
        refine ar_iconst (v := 5) dX0_slotBehind_104 (by decide) ?_
        refine ar_goto (tgt := 109) dX0_slotBehind_105 (by decide) ?_
        exact fr_iret dX0_slotBehind_109 rfl (Nat.le_refl _) (Nat.le_refl _) t
    · have t := t.2 h14
      refine ar_iconst (v := 4) dX0_slotBehind_93 (by decide) ?_
      exact fr_iret dX0_slotBehind_94 rfl (Nat.le_refl _) (Nat.le_refl _) t
  have t := t.2
  by_cases h18 : x0 = 4
  · have t := t.1 h18
    refine ar_tableIn (tgt := 110) dX0_slotBehind_1 (by rw [h18]; decide) (by rw [h18]; decide) (by rw [h18]; rfl) (by decide) ?_
    refine ar_iload_n (i := 1) dX0_slotBehind_110 rfl rfl ?_
    refine ar_iconst (v := 0) dX0_slotBehind_111 (by decide) ?_
    refine ar_iconst (v := 5) dX0_slotBehind_112 (by decide) ?_
    refine fr_callSi (M' := mX0_isDigit) [_, _, _] dX0_slotBehind_113 ml_X0_52 mv_X0_isDigit rfl rfl (Nat.le_of_ble_eq_true rfl) ⟨Nat.le_refl _, Nat.le_refl _⟩ t (fun r20 σ19 t => ?_)
    try dsimp only at t
    refine ar_if_eq (tgt := 123) dX0_slotBehind_116 (by decide) (fun h21 => ?_) (fun h21 => ?_)
    · have t := t.1 h21
      refine ar_iconst (v := -1) dX0_slotBehind_123 (by decide) ?_
      exact fr_iret dX0_slotBehind_124 rfl (Nat.le_refl _) (Nat.le_refl _) t
    · have t := t.2 h21
      refine ar_iconst (v := 5) dX0_slotBehind_119 (by decide) ?_
      refine ar_goto (tgt := 124) dX0_slotBehind_120 (by decide) ?_
      exact fr_iret dX0_slotBehind_124 rfl (Nat.le_refl _) (Nat.le_refl _) t
  have t := t.2
  by_cases h22 : x0 = 5
  · have t := t.1 h22
    refine ar_tableIn (tgt := 125) dX0_slotBehind_1 (by rw [h22]; decide) (by rw [h22]; decide) (by rw [h22]; rfl) (by decide) ?_
    refine ar_iload_n (i := 1) dX0_slotBehind_125 rfl rfl ?_
    refine ar_iconst (v := 0) dX0_slotBehind_126 (by decide) ?_
    refine ar_iconst (v := 5) dX0_slotBehind_127 (by decide) ?_
    refine fr_callSi (M' := mX0_isDigit) [_, _, _] dX0_slotBehind_128 ml_X0_52 mv_X0_isDigit rfl rfl (Nat.le_of_ble_eq_true rfl) ⟨Nat.le_refl _, Nat.le_refl _⟩ t (fun r24 σ23 t => ?_)
    try dsimp only at t
    refine ar_if_eq (tgt := 144) dX0_slotBehind_131 (by decide) (fun h25 => ?_) (fun h25 => ?_)
    · have t := t.1 h25
      refine ar_iconst (v := -1) dX0_slotBehind_144 (by decide) ?_
      exact fr_iret dX0_slotBehind_145 rfl (Nat.le_refl _) (Nat.le_refl _) t
    · have t := t.2 h25
      refine ar_iload_n (i := 1) dX0_slotBehind_134 rfl rfl ?_
      refine ar_iload_n (i := 2) dX0_slotBehind_135 rfl rfl ?_
      refine ar_icmp_eq (tgt := 144) dX0_slotBehind_136 (by decide) (fun h26 => ?_) (fun h26 => ?_)
      · have t := t.1 h26
        refine ar_iconst (v := -1) dX0_slotBehind_144 (by decide) ?_
        exact fr_iret dX0_slotBehind_145 rfl (Nat.le_refl _) (Nat.le_refl _) t
      · have t := t.2 h26
        refine ar_bipush (v := 6) dX0_slotBehind_139 (by decide) ?_
        refine ar_goto (tgt := 145) dX0_slotBehind_141 (by decide) ?_
        exact fr_iret dX0_slotBehind_145 rfl (Nat.le_refl _) (Nat.le_refl _) t
  have t := t.2
  by_cases h27 : x0 = 6
  · have t := t.1 h27
    refine ar_tableIn (tgt := 146) dX0_slotBehind_1 (by rw [h27]; decide) (by rw [h27]; decide) (by rw [h27]; rfl) (by decide) ?_
    refine ar_iload_n (i := 1) dX0_slotBehind_146 rfl rfl ?_
    refine ar_iconst (v := 1) dX0_slotBehind_147 (by decide) ?_
    refine ar_bipush (v := 9) dX0_slotBehind_148 (by decide) ?_
    refine fr_callSi (M' := mX0_isDigit) [_, _, _] dX0_slotBehind_150 ml_X0_52 mv_X0_isDigit rfl rfl (Nat.le_of_ble_eq_true rfl) ⟨Nat.le_refl _, Nat.le_refl _⟩ t (fun r29 σ28 t => ?_)
    try dsimp only at t
    refine ar_if_eq (tgt := 161) dX0_slotBehind_153 (by decide) (fun h30 => ?_) (fun h30 => ?_)
    · have t := t.1 h30
      refine ar_iconst (v := -1) dX0_slotBehind_161 (by decide) ?_
      exact fr_iret dX0_slotBehind_162 rfl (Nat.le_refl _) (Nat.le_refl _) t
    · have t := t.2 h30
      refine ar_bipush (v := 7) dX0_slotBehind_156 (by decide) ?_
      refine ar_goto (tgt := 162) dX0_slotBehind_158 (by decide) ?_
      exact fr_iret dX0_slotBehind_162 rfl (Nat.le_refl _) (Nat.le_refl _) t
  have t := t.2
  have t := t h1 h5 h9 h11 h18 h22 h27
  refine ar_tableOut (tgt := 163) dX0_slotBehind_1 (by have q0 := sw_ne h1 (n := 0) (by decide); have q1 := sw_ne h5 (n := 1) (by decide); have q2 := sw_ne h9 (n := 2) (by decide); have q3 := sw_ne h11 (n := 3) (by decide); have q4 := sw_ne h18 (n := 4) (by decide); have q5 := sw_ne h22 (n := 5) (by decide); have q6 := sw_ne h27 (n := 6) (by decide); omega) (by decide) ?_
  refine ar_iload_n (i := 1) dX0_slotBehind_163 rfl rfl ?_
  refine ar_bipush (v := 44) dX0_slotBehind_164 (by decide) ?_
  refine ar_icmp_ne (tgt := 179) dX0_slotBehind_166 (by decide) (fun h31 => ?_) (fun h31 => ?_)
  · have t := t.1 h31
    refine ar_iconst (v := -1) dX0_slotBehind_179 (by decide) ?_
    exact fr_iret dX0_slotBehind_180 rfl (Nat.le_refl _) (Nat.le_refl _) t
  · have t := t.2 h31
    refine ar_iload_n (i := 3) dX0_slotBehind_169 rfl rfl ?_
    refine ar_bipush (v := 8) dX0_slotBehind_170 (by decide) ?_
    refine ar_icmp_ge (tgt := 179) dX0_slotBehind_172 (by decide) (fun h32 => ?_) (fun h32 => ?_)
    · have t := t.1 h32
      refine ar_iconst (v := -1) dX0_slotBehind_179 (by decide) ?_
      exact fr_iret dX0_slotBehind_180 rfl (Nat.le_refl _) (Nat.le_refl _) t
    · have t := t.2 h32
      refine ar_iconst (v := 3) dX0_slotBehind_175 (by decide) ?_
      refine ar_goto (tgt := 180) dX0_slotBehind_176 (by decide) ?_
      exact fr_iret dX0_slotBehind_180 rfl (Nat.le_refl _) (Nat.le_refl _) t

def t_X0_isOnes (E : am_E) (d : Nat) (x0 : Int32) (x1 : Int32) (σ : FH) (Q : Int32 → FH → Prop) : Prop :=
  ((¬ x0 = 48 → ((¬ x0 = 54 → fMi E d mX0_isDigit [.int x1, .int 0, .int 9] σ (fun r4 σ3 => ((r4 = 0 ∨ r4 = 1) ∧ Q r4 σ3))) ∧
    (x0 = 54 → fMi E d mX0_isDigit [.int x1, .int 0, .int 0] σ (fun r6 σ5 => ((r6 = 0 ∨ r6 = 1) ∧ Q r6 σ5))))) ∧
  (x0 = 48 → fMi E d mX0_isDigit [.int x1, .int 1, .int 9] σ (fun r8 σ7 => ((r8 = 0 ∨ r8 = 1) ∧ Q r8 σ7))))
set_option maxRecDepth 100000 in
set_option maxHeartbeats 4000000 in
theorem v_X0_isOnes {E : am_E} {d : Nat} {σ : FH} {Q : Int32 → FH → Prop} {x0 : Int32} {x1 : Int32} (t : t_X0_isOnes E d x0 x1 σ Q) : fMi E (d + 1) mX0_isOnes [.int x0, .int x1] σ Q := by
  refine fr_ofG [some (.int x0), some (.int x1)] (by decide) rfl (Nat.le_of_ble_eq_true rfl) ?_
  unfold t_X0_isOnes at t
  refine ar_iload_n (i := 0) dX0_isOnes_0 rfl rfl ?_
  refine ar_bipush (v := 48) dX0_isOnes_1 (by decide) ?_
  refine ar_icmp_ne (tgt := 14) dX0_isOnes_3 (by decide) (fun h1 => ?_) (fun h1 => ?_)
  · have t := t.1 h1
    refine ar_iload_n (i := 1) dX0_isOnes_14 rfl rfl ?_
    refine ar_iconst (v := 0) dX0_isOnes_15 (by decide) ?_
    refine ar_iload_n (i := 0) dX0_isOnes_16 rfl rfl ?_
    refine ar_bipush (v := 54) dX0_isOnes_17 (by decide) ?_
    refine ar_icmp_ne (tgt := 26) dX0_isOnes_19 (by decide) (fun h2 => ?_) (fun h2 => ?_)
    · have t := t.1 h2
      refine ar_bipush (v := 9) dX0_isOnes_26 (by decide) ?_
      refine fr_callSi (M' := mX0_isDigit) [_, _, _] dX0_isOnes_28 ml_X0_52 mv_X0_isDigit rfl rfl (Nat.le_of_ble_eq_true rfl) ⟨Nat.le_refl _, Nat.le_refl _⟩ t (fun r4 σ3 t => ?_)
      try dsimp only at t
      exact fr_zret dX0_isOnes_31 rfl (Nat.le_refl _) (Nat.le_refl _) t.1 t.2
    · have t := t.2 h2
      refine ar_iconst (v := 0) dX0_isOnes_22 (by decide) ?_
      refine ar_goto (tgt := 28) dX0_isOnes_23 (by decide) ?_
      refine fr_callSi (M' := mX0_isDigit) [_, _, _] dX0_isOnes_28 ml_X0_52 mv_X0_isDigit rfl rfl (Nat.le_of_ble_eq_true rfl) ⟨Nat.le_refl _, Nat.le_refl _⟩ t (fun r6 σ5 t => ?_)
      try dsimp only at t
      exact fr_zret dX0_isOnes_31 rfl (Nat.le_refl _) (Nat.le_refl _) t.1 t.2
  · have t := t.2 h1
    refine ar_iload_n (i := 1) dX0_isOnes_6 rfl rfl ?_
    refine ar_iconst (v := 1) dX0_isOnes_7 (by decide) ?_
    refine ar_bipush (v := 9) dX0_isOnes_8 (by decide) ?_
    refine fr_callSi (M' := mX0_isDigit) [_, _, _] dX0_isOnes_10 ml_X0_52 mv_X0_isDigit rfl rfl (Nat.le_of_ble_eq_true rfl) ⟨Nat.le_refl _, Nat.le_refl _⟩ t (fun r8 σ7 t => ?_)
    try dsimp only at t
    exact fr_zret dX0_isOnes_13 rfl (Nat.le_refl _) (Nat.le_refl _) t.1 t.2

def t_X0_isDigit (E : am_E) (d : Nat) (x0 : Int32) (x1 : Int32) (x2 : Int32) (σ : FH) (Q : Int32 → FH → Prop) : Prop :=
  ((x0 < (48 + x1) → Q 0 σ) ∧
  (¬ x0 < (48 + x1) → (((48 + x2) < x0 → Q 0 σ) ∧
    (¬ (48 + x2) < x0 → Q 1 σ))))
set_option maxRecDepth 100000 in
set_option maxHeartbeats 4000000 in
theorem v_X0_isDigit {E : am_E} {d : Nat} {σ : FH} {Q : Int32 → FH → Prop} {x0 : Int32} {x1 : Int32} {x2 : Int32} (t : t_X0_isDigit E d x0 x1 x2 σ Q) : fMi E (d + 1) mX0_isDigit [.int x0, .int x1, .int x2] σ Q := by
  refine fr_ofG [some (.int x0), some (.int x1), some (.int x2)] (by decide) rfl (Nat.le_of_ble_eq_true rfl) ?_
  unfold t_X0_isDigit at t
  refine ar_iload_n (i := 0) dX0_isDigit_0 rfl rfl ?_
  refine ar_bipush (v := 48) dX0_isDigit_1 (by decide) ?_
  refine ar_iload_n (i := 1) dX0_isDigit_3 rfl rfl ?_
  refine ar_iadd dX0_isDigit_4 ?_
  refine ar_icmp_lt (tgt := 20) dX0_isDigit_5 (by decide) (fun h1 => ?_) (fun h1 => ?_)
  · have t := t.1 h1
    refine ar_iconst (v := 0) dX0_isDigit_20 (by decide) ?_
    exact fr_zret dX0_isDigit_21 rfl (Nat.le_refl _) (Nat.le_refl _) (Or.inl rfl) t
  · have t := t.2 h1
    refine ar_iload_n (i := 0) dX0_isDigit_8 rfl rfl ?_
    refine ar_bipush (v := 48) dX0_isDigit_9 (by decide) ?_
    refine ar_iload_n (i := 2) dX0_isDigit_11 rfl rfl ?_
    refine ar_iadd dX0_isDigit_12 ?_
    refine ar_icmp_gt (tgt := 20) dX0_isDigit_13 (by decide) (fun h2 => ?_) (fun h2 => ?_)
    · have t := t.1 h2
      refine ar_iconst (v := 0) dX0_isDigit_20 (by decide) ?_
      exact fr_zret dX0_isDigit_21 rfl (Nat.le_refl _) (Nat.le_refl _) (Or.inl rfl) t
    · have t := t.2 h2
      refine ar_iconst (v := 1) dX0_isDigit_16 (by decide) ?_
      refine ar_goto (tgt := 21) dX0_isDigit_17 (by decide) ?_
      exact fr_zret dX0_isDigit_21 rfl (Nat.le_refl _) (Nat.le_refl _) (Or.inr rfl) t

def t_X0_kindOf (E : am_E) (d : Nat) (x0 : Int32) (σ : FH) (Q : Int32 → FH → Prop) : Prop :=
  ((x0 = 98 → Q 2 σ) ∧
  ((x0 = 100 → Q 3 σ) ∧
  ((x0 = 102 → Q 1 σ) ∧
  ((x0 = 103 → Q 4 σ) ∧
  (¬ x0 = 98 → ¬ x0 = 100 → ¬ x0 = 102 → ¬ x0 = 103 → Q 0 σ)))))
set_option maxRecDepth 100000 in
set_option maxHeartbeats 4000000 in
theorem v_X0_kindOf {E : am_E} {d : Nat} {σ : FH} {Q : Int32 → FH → Prop} {x0 : Int32} (t : t_X0_kindOf E d x0 σ Q) : fMi E (d + 1) mX0_kindOf [.int x0] σ Q := by
  refine fr_ofG [some (.int x0)] (by decide) rfl (Nat.le_of_ble_eq_true rfl) ?_
  unfold t_X0_kindOf at t
  refine ar_iload_n (i := 0) dX0_kindOf_0 rfl rfl ?_
  by_cases h1 : x0 = 98
  · have t := t.1 h1
    refine ar_tableIn (tgt := 42) dX0_kindOf_1 (by rw [h1]; decide) (by rw [h1]; decide) (by rw [h1]; rfl) (by decide) ?_
    refine ar_iconst (v := 2) dX0_kindOf_42 (by decide) ?_
    exact fr_iret dX0_kindOf_43 rfl (Nat.le_refl _) (Nat.le_refl _) t
  have t := t.2
  by_cases h2 : x0 = 100
  · have t := t.1 h2
    refine ar_tableIn (tgt := 44) dX0_kindOf_1 (by rw [h2]; decide) (by rw [h2]; decide) (by rw [h2]; rfl) (by decide) ?_
    refine ar_iconst (v := 3) dX0_kindOf_44 (by decide) ?_
    exact fr_iret dX0_kindOf_45 rfl (Nat.le_refl _) (Nat.le_refl _) t
  have t := t.2
  by_cases h3 : x0 = 102
  · have t := t.1 h3
    refine ar_tableIn (tgt := 40) dX0_kindOf_1 (by rw [h3]; decide) (by rw [h3]; decide) (by rw [h3]; rfl) (by decide) ?_
    refine ar_iconst (v := 1) dX0_kindOf_40 (by decide) ?_
    exact fr_iret dX0_kindOf_41 rfl (Nat.le_refl _) (Nat.le_refl _) t
  have t := t.2
  by_cases h4 : x0 = 103
  · have t := t.1 h4
    refine ar_tableIn (tgt := 46) dX0_kindOf_1 (by rw [h4]; decide) (by rw [h4]; decide) (by rw [h4]; rfl) (by decide) ?_
    refine ar_iconst (v := 4) dX0_kindOf_46 (by decide) ?_
    exact fr_iret dX0_kindOf_47 rfl (Nat.le_refl _) (Nat.le_refl _) t
  have t := t.2
  have t := t h1 h2 h3 h4
  by_cases h5 : x0 = 99
  · refine ar_tableIn (tgt := 48) dX0_kindOf_1 (by rw [h5]; decide) (by rw [h5]; decide) (by rw [h5]; rfl) (by decide) ?_
    refine ar_iconst (v := 0) dX0_kindOf_48 (by decide) ?_
    exact fr_iret dX0_kindOf_49 rfl (Nat.le_refl _) (Nat.le_refl _) t
  by_cases h6 : x0 = 101
  · refine ar_tableIn (tgt := 48) dX0_kindOf_1 (by rw [h6]; decide) (by rw [h6]; decide) (by rw [h6]; rfl) (by decide) ?_
    refine ar_iconst (v := 0) dX0_kindOf_48 (by decide) ?_
    exact fr_iret dX0_kindOf_49 rfl (Nat.le_refl _) (Nat.le_refl _) t
  refine ar_tableOut (tgt := 48) dX0_kindOf_1 (by have q0 := sw_ne h1 (n := 98) (by decide); have q1 := sw_ne h2 (n := 100) (by decide); have q2 := sw_ne h3 (n := 102) (by decide); have q3 := sw_ne h4 (n := 103) (by decide); have q4 := sw_ne h5 (n := 99) (by decide); have q5 := sw_ne h6 (n := 101) (by decide); omega) (by decide) ?_
  refine ar_iconst (v := 0) dX0_kindOf_48 (by decide) ?_
  exact fr_iret dX0_kindOf_49 rfl (Nat.le_refl _) (Nat.le_refl _) t

