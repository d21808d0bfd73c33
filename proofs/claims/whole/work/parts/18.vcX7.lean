/-! the verification conditions of CountedTrialsModel (printed by wip/gen/vc.py): t_.. is what is to be shown, v_.. that it is enough -/
def t_X7_in (E : am_E) (d : Nat) (x0 : Int64) (x2 : Int64) (x4 : Int64) (σ : FH) (Q : Int32 → FH → Prop) : Prop :=
  ((x0 < x2 → Q 0 σ) ∧
  (¬ x0 < x2 → ((x4 < x0 → Q 0 σ) ∧
    (¬ x4 < x0 → Q 1 σ))))
set_option maxRecDepth 100000 in
set_option maxHeartbeats 4000000 in
theorem v_X7_in {E : am_E} {d : Nat} {σ : FH} {Q : Int32 → FH → Prop} {x0 : Int64} {x2 : Int64} {x4 : Int64} (t : t_X7_in E d x0 x2 x4 σ Q) : fMi E (d + 1) mX7_in [.long x0, .long x2, .long x4] σ Q := by
  refine fr_ofG [some (.long x0), none, some (.long x2), none, some (.long x4), none] (by decide) rfl (Nat.le_of_ble_eq_true rfl) ?_
  unfold t_X7_in at t
  refine ar_lload_n (i := 0) dX7_in_0 rfl rfl ?_
  refine ar_lload_n (i := 2) dX7_in_1 rfl rfl ?_
  refine ar_lcmp_lt (tgt := 17) dX7_in_2 dX7_in_3 (by decide) (fun h1 => ?_) (fun h1 => ?_)
  · have t := t.1 h1
    refine ar_iconst (v := 0) dX7_in_17 (by decide) ?_
    exact fr_zret dX7_in_18 rfl (Nat.le_refl _) (Nat.le_refl _) (Or.inl rfl) t
  · have t := t.2 h1
    refine ar_lload_n (i := 0) dX7_in_6 rfl rfl ?_
    refine ar_lload (i := 4) dX7_in_7 rfl ?_
    refine ar_lcmp_gt (tgt := 17) dX7_in_9 dX7_in_10 (by decide) (fun h2 => ?_) (fun h2 => ?_)
    · have t := t.1 h2
      refine ar_iconst (v := 0) dX7_in_17 (by decide) ?_
      exact fr_zret dX7_in_18 rfl (Nat.le_refl _) (Nat.le_refl _) (Or.inl rfl) t
    · have t := t.2 h2
      refine ar_iconst (v := 1) dX7_in_13 (by decide) ?_
      refine ar_goto (tgt := 18) dX7_in_14 (by decide) ?_
      exact fr_zret dX7_in_18 rfl (Nat.le_refl _) (Nat.le_refl _) (Or.inr rfl) t

def t_X7_letter (E : am_E) (d : Nat) (x1 : Int32) (σ : FH) (Q : Int32 → FH → Prop) : Prop :=
  fMi E d mX7_in [.long x1.toInt64, .long 1, .long 126] σ (fun r2 σ1 => ((¬ r2 = 0 → ((¬ (σ1.1 78 1) = 44 → (vp_in (σ1.1 78 1) 44 ∧ (∀ σ6 : FH, σ6 = fsI σ1 79 (σ1.1 78 1).toNatClampNeg x1 → (∀ σ7 : FH, σ7 = fsI σ6 78 1 ((σ6.1 78 1) + 1) → Q (σ7.1 78 1) σ7)))) ∧
    ((σ1.1 78 1) = 44 → Q (-104) σ1))) ∧
  (r2 = 0 → Q (-102) σ1)))
set_option maxRecDepth 100000 in
set_option maxHeartbeats 4000000 in
theorem v_X7_letter {E : am_E} {d : Nat} {σ : FH} {Q : Int32 → FH → Prop} {x1 : Int32} (t : t_X7_letter E d x1 σ Q) : fMi E (d + 1) mX7_letter [.ref 78, .int x1] σ Q := by
  refine fr_ofG [some (.ref 78), some (.int x1)] (by decide) rfl (Nat.le_of_ble_eq_true rfl) ?_
  unfold t_X7_letter at t
  refine ar_iload_n (i := 1) dX7_letter_0 rfl rfl ?_
  refine ar_i2l dX7_letter_1 ?_
  refine ar_lconst (v := 1) dX7_letter_2 (by decide) ?_
  refine ar_ldc2 dX7_letter_3 ct_X7_65 ?_
  refine fr_callSi (M' := mX7_in) [_, _, _] dX7_letter_6 ml_X7_67 mv_X7_in rfl rfl (Nat.le_of_ble_eq_true rfl) ⟨Nat.le_refl _, Nat.le_refl _⟩ t (fun r2 σ1 t => ?_)
  try dsimp only at t
  refine ar_if_ne (tgt := 15) dX7_letter_9 (by decide) (fun h3 => ?_) (fun h3 => ?_)
  · have t := t.1 h3
    refine ar_aload_n (i := 0) dX7_letter_15 rfl rfl ?_
    refine fr_getI (t := 7) (j := 1) dX7_letter_16 fs_X7_71 o_78 rfl ?_
    refine ar_bipush (v := 44) dX7_letter_19 (by decide) ?_
    refine ar_icmp_ne (tgt := 27) dX7_letter_21 (by decide) (fun h4 => ?_) (fun h4 => ?_)
    · have t := t.1 h4
      refine ar_aload_n (i := 0) dX7_letter_27 rfl rfl ?_
      refine fr_getR (t := 7) (j := 0) (r := 79) dX7_letter_28 fs_X7_7 o_78 rfl rfl (by decide) ?_
      refine ar_aload_n (i := 0) dX7_letter_31 rfl rfl ?_
      refine fr_getI (t := 7) (j := 1) dX7_letter_32 fs_X7_71 o_78 rfl ?_
      refine ar_iload_n (i := 1) dX7_letter_35 rfl rfl ?_
      obtain ⟨h5, t⟩ := t
      refine fr_iast (n := 44) dX7_letter_36 a_79 h5 ?_
      have t := t _ rfl
      refine ar_aload_n (i := 0) dX7_letter_37 rfl rfl ?_
      refine ar_dup dX7_letter_38 rfl ?_
      refine fr_getI (t := 7) (j := 1) dX7_letter_39 fs_X7_71 o_78 rfl ?_
      refine ar_iconst (v := 1) dX7_letter_42 (by decide) ?_
      refine ar_iadd dX7_letter_43 ?_
      refine fr_putI (t := 7) (j := 1) dX7_letter_44 fq_X7_71 o_78 rfl (Or.inl rfl) ?_
      have t := t _ rfl
      refine ar_aload_n (i := 0) dX7_letter_47 rfl rfl ?_
      refine fr_getI (t := 7) (j := 1) dX7_letter_48 fs_X7_71 o_78 rfl ?_
      exact fr_iret dX7_letter_51 rfl (Nat.le_refl _) (Nat.le_refl _) t
    · have t := t.2 h4
      refine ar_bipush (v := -104) dX7_letter_24 (by decide) ?_
      exact fr_iret dX7_letter_26 rfl (Nat.le_refl _) (Nat.le_refl _) t
  · have t := t.2 h3
    refine ar_bipush (v := -102) dX7_letter_12 (by decide) ?_
    exact fr_iret dX7_letter_14 rfl (Nat.le_refl _) (Nat.le_refl _) t

def t_X7_blank (E : am_E) (d : Nat) (σ : FH) (Q : Int32 → FH → Prop) : Prop :=
  (∀ σ1 : FH, σ1 = fsI σ 78 1 0 → Q (σ.1 78 1) σ1)
set_option maxRecDepth 100000 in
set_option maxHeartbeats 4000000 in
theorem v_X7_blank {E : am_E} {d : Nat} {σ : FH} {Q : Int32 → FH → Prop} (t : t_X7_blank E d σ Q) : fMi E (d + 1) mX7_blank [.ref 78] σ Q := by
  refine fr_ofG [some (.ref 78), none] (by decide) rfl (Nat.le_of_ble_eq_true rfl) ?_
  unfold t_X7_blank at t
  refine ar_aload_n (i := 0) dX7_blank_0 rfl rfl ?_
  refine fr_getI (t := 7) (j := 1) dX7_blank_1 fs_X7_71 o_78 rfl ?_
  refine ar_istore_n (i := 1) (lo2 := [_, _]) dX7_blank_4 rfl (Nat.le_of_ble_eq_true rfl) rfl rfl ?_
  refine ar_aload_n (i := 0) dX7_blank_5 rfl rfl ?_
  refine ar_iconst (v := 0) dX7_blank_6 (by decide) ?_
  refine fr_putI (t := 7) (j := 1) dX7_blank_7 fq_X7_71 o_78 rfl (Or.inl rfl) ?_
  have t := t _ rfl
  refine ar_iload_n (i := 1) dX7_blank_10 rfl rfl ?_
  exact fr_iret dX7_blank_11 rfl (Nat.le_refl _) (Nat.le_refl _) t

def t_X7_kindBy (E : am_E) (d : Nat) (x0 : Int32) (σ : FH) (Q : Int32 → FH → Prop) : Prop :=
  ((¬ x0 = 102 → ((¬ x0 = 98 → ((¬ x0 = 100 → ((¬ x0 = 103 → Q 0 σ) ∧
        (x0 = 103 → Q 4 σ))) ∧
      (x0 = 100 → Q 3 σ))) ∧
    (x0 = 98 → Q 2 σ))) ∧
  (x0 = 102 → Q 1 σ))
set_option maxRecDepth 100000 in
set_option maxHeartbeats 4000000 in
theorem v_X7_kindBy {E : am_E} {d : Nat} {σ : FH} {Q : Int32 → FH → Prop} {x0 : Int32} (t : t_X7_kindBy E d x0 σ Q) : fMi E (d + 1) mX7_kindBy [.int x0] σ Q := by
  refine fr_ofG [some (.int x0)] (by decide) rfl (Nat.le_of_ble_eq_true rfl) ?_
  unfold t_X7_kindBy at t
  refine ar_iload_n (i := 0) dX7_kindBy_0 rfl rfl ?_
  refine ar_bipush (v := 102) dX7_kindBy_1 (by decide) ?_
  refine ar_icmp_ne (tgt := 10) dX7_kindBy_3 (by decide) (fun h1 => ?_) (fun h1 => ?_)
  · have t := t.1 h1
    refine ar_iload_n (i := 0) dX7_kindBy_10 rfl rfl ?_
    refine ar_bipush (v := 98) dX7_kindBy_11 (by decide) ?_
    refine ar_icmp_ne (tgt := 20) dX7_kindBy_13 (by decide) (fun h2 => ?_) (fun h2 => ?_)
    · have t := t.1 h2
      refine ar_iload_n (i := 0) dX7_kindBy_20 rfl rfl ?_
      refine ar_bipush (v := 100) dX7_kindBy_21 (by decide) ?_
      refine ar_icmp_ne (tgt := 30) dX7_kindBy_23 (by decide) (fun h3 => ?_) (fun h3 => ?_)
      · have t := t.1 h3
        refine ar_iload_n (i := 0) dX7_kindBy_30 rfl rfl ?_
        refine ar_bipush (v := 103) dX7_kindBy_31 (by decide) ?_
        refine ar_icmp_ne (tgt := 40) dX7_kindBy_33 (by decide) (fun h4 => ?_) (fun h4 => ?_)
        · have t := t.1 h4
          refine ar_iconst (v := 0) dX7_kindBy_40 (by decide) ?_
          exact fr_iret dX7_kindBy_41 rfl (Nat.le_refl _) (Nat.le_refl _) t
        · have t := t.2 h4
          refine ar_iconst (v := 4) dX7_kindBy_36 (by decide) ?_
          refine ar_goto (tgt := 41) dX7_kindBy_37 (by decide) ?_
          exact fr_iret dX7_kindBy_41 rfl (Nat.le_refl _) (Nat.le_refl _) t
      · have t := t.2 h3
        refine ar_iconst (v := 3) dX7_kindBy_26 (by decide) ?_
        refine ar_goto (tgt := 41) dX7_kindBy_27 (by decide) ?_
        exact fr_iret dX7_kindBy_41 rfl (Nat.le_refl _) (Nat.le_refl _) t
    · have t := t.2 h2
      refine ar_iconst (v := 2) dX7_kindBy_16 (by decide) ?_
      refine ar_goto (tgt := 41) dX7_kindBy_17 (by decide) ?_
      exact fr_iret dX7_kindBy_41 rfl (Nat.le_refl _) (Nat.le_refl _) t
  · have t := t.2 h1
    refine ar_iconst (v := 1) dX7_kindBy_6 (by decide) ?_
    refine ar_goto (tgt := 41) dX7_kindBy_7 (by decide) ?_
    exact fr_iret dX7_kindBy_41 rfl (Nat.le_refl _) (Nat.le_refl _) t

def t_X7_goRoad_178 (E : am_E) (d : Nat) (x2 : Int32) (x3 : Int32) (σ : FH) (Q : Int32 → FH → Prop) : Prop :=
  (vp_in (x3 + 1) 32 ∧ (∀ σ6 : FH, σ6 = fsI σ 80 (x3 + 1).toNatClampNeg x2 → (∀ σ7 : FH, σ7 = fsI σ6 78 5 5 → fMi E d mX7_in [.long x2.toInt64, .long 0, .long 5] σ7 (fun r9 σ8 => ((r9 = 0 ∨ r9 = 1) ∧ Q r9 σ8)))))
set_option maxRecDepth 100000 in
set_option maxHeartbeats 4000000 in
theorem v_X7_goRoad_178 {E : am_E} {d : Nat} {σ : FH} {Q : Int32 → FH → Prop} {x2 : Int32} {x3 : Int32} (t : t_X7_goRoad_178 E d x2 x3 σ Q) : fG E (d + 1) mX7_goRoad 178 [some (.ref 78), none, some (.int x2), some (.int x3)] [] σ (qi Q) := by
  unfold t_X7_goRoad_178 at t
  refine ar_aload_n (i := 0) dX7_goRoad_178 rfl rfl ?_
  refine fr_getR (t := 7) (j := 2) (r := 80) dX7_goRoad_179 fs_X7_13 o_78 rfl rfl (by decide) ?_
  refine ar_iload_n (i := 3) dX7_goRoad_182 rfl rfl ?_
  refine ar_iconst (v := 1) dX7_goRoad_183 (by decide) ?_
  refine ar_iadd dX7_goRoad_184 ?_
  refine ar_iload_n (i := 2) dX7_goRoad_185 rfl rfl ?_
  obtain ⟨h5, t⟩ := t
  refine fr_iast (n := 32) dX7_goRoad_186 a_80 h5 ?_
  have t := t _ rfl
  refine ar_aload_n (i := 0) dX7_goRoad_187 rfl rfl ?_
  refine ar_iconst (v := 5) dX7_goRoad_188 (by decide) ?_
  refine fr_putI (t := 7) (j := 5) dX7_goRoad_189 fq_X7_77 o_78 rfl (Or.inl rfl) ?_
  have t := t _ rfl
  refine ar_iload_n (i := 2) dX7_goRoad_192 rfl rfl ?_
  refine ar_i2l dX7_goRoad_193 ?_
  refine ar_lconst (v := 0) dX7_goRoad_194 (by decide) ?_
  refine ar_ldc2 dX7_goRoad_195 ct_X7_82 ?_
  refine fr_callSi (M' := mX7_in) [_, _, _] dX7_goRoad_198 ml_X7_67 mv_X7_in rfl rfl (Nat.le_of_ble_eq_true rfl) ⟨Nat.le_refl _, Nat.le_refl _⟩ t (fun r9 σ8 t => ?_)
  try dsimp only at t
  exact fr_zret dX7_goRoad_201 rfl (Nat.le_refl _) (Nat.le_refl _) t.1 t.2
def t_X7_goRoad (E : am_E) (d : Nat) (x1 : Int32) (σ : FH) (Q : Int32 → FH → Prop) : Prop :=
  ((¬ (σ.1 78 5) = 7 → ((¬ (σ.1 78 5) = 6 → ((¬ (σ.1 78 5) = 5 → ((¬ (σ.1 78 5) = 3 → t_X7_goRoad_178 E d (x1 - 48) (4 * (σ.1 78 3)) σ Q) ∧
        ((σ.1 78 5) = 3 → fMi E d mX7_kindBy [.int x1] σ (fun r11 σ10 => (vp_in (4 * (σ.1 78 3)) 32 ∧ (∀ σ13 : FH, σ13 = fsI σ10 80 (4 * (σ.1 78 3)).toNatClampNeg r11 → (vp_in (4 * (σ.1 78 3)) 32 ∧ (((σ13.1 80 (4 * (σ.1 78 3)).toNatClampNeg) ≤ 0 → t_X7_goRoad_178 E d (x1 - 48) (4 * (σ.1 78 3)) σ13 Q) ∧
          (¬ (σ13.1 80 (4 * (σ.1 78 3)).toNatClampNeg) ≤ 0 → (∀ σ16 : FH, σ16 = fsI σ13 78 5 4 → Q 1 σ16)))))))))) ∧
      ((σ.1 78 5) = 5 → (vp_in ((4 * (σ.1 78 3)) + 2) 32 ∧ (∀ σ18 : FH, σ18 = fsI σ 80 ((4 * (σ.1 78 3)) + 2).toNatClampNeg (x1 - 48) → (∀ σ19 : FH, σ19 = fsI σ18 78 5 6 → fMi E d mX7_in [.long ((x1 - 48).toInt64), .long 0, .long 5] σ19 (fun r21 σ20 => ((r21 = 0 → Q 0 σ20) ∧
        (¬ r21 = 0 → (vp_in ((4 * (σ.1 78 3)) + 1) 32 ∧ (((x1 - 48) = (σ20.1 80 ((4 * (σ.1 78 3)) + 1).toNatClampNeg) → Q 0 σ20) ∧
          (¬ (x1 - 48) = (σ20.1 80 ((4 * (σ.1 78 3)) + 1).toNatClampNeg) → Q 1 σ20)))))))))))) ∧
    ((σ.1 78 5) = 6 → (vp_in ((4 * (σ.1 78 3)) + 3) 32 ∧ (∀ σ26 : FH, σ26 = fsI σ 80 ((4 * (σ.1 78 3)) + 3).toNatClampNeg (x1 - 48) → (∀ σ27 : FH, σ27 = fsI σ26 78 3 ((σ26.1 78 3) + 1) → (∀ σ28 : FH, σ28 = fsI σ27 78 5 7 → fMi E d mX7_in [.long ((x1 - 48).toInt64), .long 1, .long 9] σ28 (fun r30 σ29 => ((r30 = 0 ∨ r30 = 1) ∧ Q r30 σ29))))))))) ∧
  ((σ.1 78 5) = 7 → (∀ σ31 : FH, σ31 = fsI σ 78 5 3 → ((¬ x1 = 44 → Q 0 σ31) ∧
    (x1 = 44 → ((8 ≤ (σ31.1 78 3) → Q 0 σ31) ∧
      (¬ 8 ≤ (σ31.1 78 3) → Q 1 σ31)))))))
set_option maxRecDepth 100000 in
set_option maxHeartbeats 4000000 in
theorem v_X7_goRoad {E : am_E} {d : Nat} {σ : FH} {Q : Int32 → FH → Prop} {x1 : Int32} (t : t_X7_goRoad E d x1 σ Q) : fMi E (d + 1) mX7_goRoad [.ref 78, .int x1] σ Q := by
  refine fr_ofG [some (.ref 78), some (.int x1), none, none] (by decide) rfl (Nat.le_of_ble_eq_true rfl) ?_
  unfold t_X7_goRoad at t
  refine ar_iload_n (i := 1) dX7_goRoad_0 rfl rfl ?_
  refine ar_bipush (v := 48) dX7_goRoad_1 (by decide) ?_
  refine ar_isub dX7_goRoad_3 ?_
  refine ar_istore_n (i := 2) (lo2 := [_, _, _, none]) dX7_goRoad_4 rfl (Nat.le_of_ble_eq_true rfl) rfl rfl ?_
  refine ar_iconst (v := 4) dX7_goRoad_5 (by decide) ?_
  refine ar_aload_n (i := 0) dX7_goRoad_6 rfl rfl ?_
  refine fr_getI (t := 7) (j := 3) dX7_goRoad_7 fs_X7_74 o_78 rfl ?_
  refine ar_imul dX7_goRoad_10 ?_
  refine ar_istore_n (i := 3) (lo2 := [_, _, _, _]) dX7_goRoad_11 rfl (Nat.le_of_ble_eq_true rfl) rfl rfl ?_
  refine ar_aload_n (i := 0) dX7_goRoad_12 rfl rfl ?_
  refine fr_getI (t := 7) (j := 5) dX7_goRoad_13 fs_X7_77 o_78 rfl ?_
  refine ar_bipush (v := 7) dX7_goRoad_16 (by decide) ?_
  refine ar_icmp_ne (tgt := 47) dX7_goRoad_18 (by decide) (fun h1 => ?_) (fun h1 => ?_)
  · have t := t.1 h1
    refine ar_aload_n (i := 0) dX7_goRoad_47 rfl rfl ?_
    refine fr_getI (t := 7) (j := 5) dX7_goRoad_48 fs_X7_77 o_78 rfl ?_
    refine ar_bipush (v := 6) dX7_goRoad_51 (by decide) ?_
    refine ar_icmp_ne (tgt := 91) dX7_goRoad_53 (by decide) (fun h2 => ?_) (fun h2 => ?_)
    · have t := t.1 h2
      refine ar_aload_n (i := 0) dX7_goRoad_91 rfl rfl ?_
      refine fr_getI (t := 7) (j := 5) dX7_goRoad_92 fs_X7_77 o_78 rfl ?_
      refine ar_iconst (v := 5) dX7_goRoad_95 (by decide) ?_
      refine ar_icmp_ne (tgt := 144) dX7_goRoad_96 (by decide) (fun h3 => ?_) (fun h3 => ?_)
      · have t := t.1 h3
        refine ar_aload_n (i := 0) dX7_goRoad_144 rfl rfl ?_
        refine fr_getI (t := 7) (j := 5) dX7_goRoad_145 fs_X7_77 o_78 rfl ?_
        refine ar_iconst (v := 3) dX7_goRoad_148 (by decide) ?_
        refine ar_icmp_ne (tgt := 178) dX7_goRoad_149 (by decide) (fun h4 => ?_) (fun h4 => ?_)
        · have t := t.1 h4
          refine ar_drop 1 (lo2 := [_, none, _, _]) rfl ?_
          exact v_X7_goRoad_178 t
        · have t := t.2 h4
          refine ar_aload_n (i := 0) dX7_goRoad_152 rfl rfl ?_
          refine fr_getR (t := 7) (j := 2) (r := 80) dX7_goRoad_153 fs_X7_13 o_78 rfl rfl (by decide) ?_
          refine ar_iload_n (i := 3) dX7_goRoad_156 rfl rfl ?_
          refine ar_iload_n (i := 1) dX7_goRoad_157 rfl rfl ?_
          refine fr_callSi (M' := mX7_kindBy) [_] dX7_goRoad_158 ml_X7_84 mv_X7_kindBy rfl rfl (Nat.le_of_ble_eq_true rfl) ⟨Nat.le_refl _, Nat.le_refl _⟩ t (fun r11 σ10 t => ?_)
          try dsimp only at t
          obtain ⟨h12, t⟩ := t
          refine fr_iast (n := 32) dX7_goRoad_161 a_80 h12 ?_
          have t := t _ rfl
          refine ar_aload_n (i := 0) dX7_goRoad_162 rfl rfl ?_
          refine fr_getR (t := 7) (j := 2) (r := 80) dX7_goRoad_163 fs_X7_13 o_78 rfl rfl (by decide) ?_
          refine ar_iload_n (i := 3) dX7_goRoad_166 rfl rfl ?_
          obtain ⟨h14, t⟩ := t
          refine fr_iald (n := 32) dX7_goRoad_167 a_80 h14 ?_
          refine ar_if_le (tgt := 178) dX7_goRoad_168 (by decide) (fun h15 => ?_) (fun h15 => ?_)
          · have t := t.1 h15
            refine ar_drop 1 (lo2 := [_, none, _, _]) rfl ?_
            exact v_X7_goRoad_178 t
          · have t := t.2 h15
            refine ar_aload_n (i := 0) dX7_goRoad_171 rfl rfl ?_
            refine ar_iconst (v := 4) dX7_goRoad_172 (by decide) ?_
            refine fr_putI (t := 7) (j := 5) dX7_goRoad_173 fq_X7_77 o_78 rfl (Or.inl rfl) ?_
            have t := t _ rfl
            refine ar_iconst (v := 1) dX7_goRoad_176 (by decide) ?_
            exact fr_zret dX7_goRoad_177 rfl (Nat.le_refl _) (Nat.le_refl _) (Or.inr rfl) t
      · have t := t.2 h3
        refine ar_aload_n (i := 0) dX7_goRoad_99 rfl rfl ?_
        refine fr_getR (t := 7) (j := 2) (r := 80) dX7_goRoad_100 fs_X7_13 o_78 rfl rfl (by decide) ?_
        refine ar_iload_n (i := 3) dX7_goRoad_103 rfl rfl ?_
        refine ar_iconst (v := 2) dX7_goRoad_104 (by decide) ?_
        refine ar_iadd dX7_goRoad_105 ?_
        refine ar_iload_n (i := 2) dX7_goRoad_106 rfl rfl ?_
        obtain ⟨h17, t⟩ := t
        refine fr_iast (n := 32) dX7_goRoad_107 a_80 h17 ?_
        have t := t _ rfl
        refine ar_aload_n (i := 0) dX7_goRoad_108 rfl rfl ?_
        refine ar_bipush (v := 6) dX7_goRoad_109 (by decide) ?_
        refine fr_putI (t := 7) (j := 5) dX7_goRoad_111 fq_X7_77 o_78 rfl (Or.inl rfl) ?_
        have t := t _ rfl
        refine ar_iload_n (i := 2) dX7_goRoad_114 rfl rfl ?_
        refine ar_i2l dX7_goRoad_115 ?_
        refine ar_lconst (v := 0) dX7_goRoad_116 (by decide) ?_
        refine ar_ldc2 dX7_goRoad_117 ct_X7_82 ?_
        refine fr_callSi (M' := mX7_in) [_, _, _] dX7_goRoad_120 ml_X7_67 mv_X7_in rfl rfl (Nat.le_of_ble_eq_true rfl) ⟨Nat.le_refl _, Nat.le_refl _⟩ t (fun r21 σ20 t => ?_)
        try dsimp only at t
        refine ar_if_eq (tgt := 142) dX7_goRoad_123 (by decide) (fun h22 => ?_) (fun h22 => ?_)
        · have t := t.1 h22
          refine ar_iconst (v := 0) dX7_goRoad_142 (by decide) ?_
          exact fr_zret dX7_goRoad_143 rfl (Nat.le_refl _) (Nat.le_refl _) (Or.inl rfl) t
        · have t := t.2 h22
          refine ar_iload_n (i := 2) dX7_goRoad_126 rfl rfl ?_
          refine ar_aload_n (i := 0) dX7_goRoad_127 rfl rfl ?_
          refine fr_getR (t := 7) (j := 2) (r := 80) dX7_goRoad_128 fs_X7_13 o_78 rfl rfl (by decide) ?_
          refine ar_iload_n (i := 3) dX7_goRoad_131 rfl rfl ?_
          refine ar_iconst (v := 1) dX7_goRoad_132 (by decide) ?_
          refine ar_iadd dX7_goRoad_133 ?_
          obtain ⟨h23, t⟩ := t
          refine fr_iald (n := 32) dX7_goRoad_134 a_80 h23 ?_
          refine ar_icmp_eq (tgt := 142) dX7_goRoad_135 (by decide) (fun h24 => ?_) (fun h24 => ?_)
          · have t := t.1 h24
            refine ar_iconst (v := 0) dX7_goRoad_142 (by decide) ?_
            exact fr_zret dX7_goRoad_143 rfl (Nat.le_refl _) (Nat.le_refl _) (Or.inl rfl) t
          · have t := t.2 h24
            refine ar_iconst (v := 1) dX7_goRoad_138 (by decide) ?_
            refine ar_goto (tgt := 143) dX7_goRoad_139 (by decide) ?_
            exact fr_zret dX7_goRoad_143 rfl (Nat.le_refl _) (Nat.le_refl _) (Or.inr rfl) t
    · have t := t.2 h2
      refine ar_aload_n (i := 0) dX7_goRoad_56 rfl rfl ?_
      refine fr_getR (t := 7) (j := 2) (r := 80) dX7_goRoad_57 fs_X7_13 o_78 rfl rfl (by decide) ?_
      refine ar_iload_n (i := 3) dX7_goRoad_60 rfl rfl ?_
      refine ar_iconst (v := 3) dX7_goRoad_61 (by decide) ?_
      refine ar_iadd dX7_goRoad_62 ?_
      refine ar_iload_n (i := 2) dX7_goRoad_63 rfl rfl ?_
      obtain ⟨h25, t⟩ := t
      refine fr_iast (n := 32) dX7_goRoad_64 a_80 h25 ?_
      have t := t _ rfl
      refine ar_aload_n (i := 0) dX7_goRoad_65 rfl rfl ?_
      refine ar_dup dX7_goRoad_66 rfl ?_
      refine fr_getI (t := 7) (j := 3) dX7_goRoad_67 fs_X7_74 o_78 rfl ?_
      refine ar_iconst (v := 1) dX7_goRoad_70 (by decide) ?_
      refine ar_iadd dX7_goRoad_71 ?_
      refine fr_putI (t := 7) (j := 3) dX7_goRoad_72 fq_X7_74 o_78 rfl (Or.inl rfl) ?_
      have t := t _ rfl
      refine ar_aload_n (i := 0) dX7_goRoad_75 rfl rfl ?_
      refine ar_bipush (v := 7) dX7_goRoad_76 (by decide) ?_
      refine fr_putI (t := 7) (j := 5) dX7_goRoad_78 fq_X7_77 o_78 rfl (Or.inl rfl) ?_
      have t := t _ rfl
      refine ar_iload_n (i := 2) dX7_goRoad_81 rfl rfl ?_
      refine ar_i2l dX7_goRoad_82 ?_
      refine ar_lconst (v := 1) dX7_goRoad_83 (by decide) ?_
      refine ar_ldc2 dX7_goRoad_84 ct_X7_80 ?_
      refine fr_callSi (M' := mX7_in) [_, _, _] dX7_goRoad_87 ml_X7_67 mv_X7_in rfl rfl (Nat.le_of_ble_eq_true rfl) ⟨Nat.le_refl _, Nat.le_refl _⟩ t (fun r30 σ29 t => ?_)
      try dsimp only at t
      exact fr_zret dX7_goRoad_90 rfl (Nat.le_refl _) (Nat.le_refl _) t.1 t.2
  · have t := t.2 h1
    refine ar_aload_n (i := 0) dX7_goRoad_21 rfl rfl ?_
    refine ar_iconst (v := 3) dX7_goRoad_22 (by decide) ?_
    refine fr_putI (t := 7) (j := 5) dX7_goRoad_23 fq_X7_77 o_78 rfl (Or.inl rfl) ?_
    have t := t _ rfl
    refine ar_iload_n (i := 1) dX7_goRoad_26 rfl rfl ?_
    refine ar_bipush (v := 44) dX7_goRoad_27 (by decide) ?_
    refine ar_icmp_ne (tgt := 45) dX7_goRoad_29 (by decide) (fun h32 => ?_) (fun h32 => ?_)
    · have t := t.1 h32
      refine ar_iconst (v := 0) dX7_goRoad_45 (by decide) ?_
      exact fr_zret dX7_goRoad_46 rfl (Nat.le_refl _) (Nat.le_refl _) (Or.inl rfl) t
    · have t := t.2 h32
      refine ar_aload_n (i := 0) dX7_goRoad_32 rfl rfl ?_
      refine fr_getI (t := 7) (j := 3) dX7_goRoad_33 fs_X7_74 o_78 rfl ?_
      refine ar_bipush (v := 8) dX7_goRoad_36 (by decide) ?_
      refine ar_icmp_ge (tgt := 45) dX7_goRoad_38 (by decide) (fun h33 => ?_) (fun h33 => ?_)
      · have t := t.1 h33
        refine ar_iconst (v := 0) dX7_goRoad_45 (by decide) ?_
        exact fr_zret dX7_goRoad_46 rfl (Nat.le_refl _) (Nat.le_refl _) (Or.inl rfl) t
      · have t := t.2 h33
        refine ar_iconst (v := 1) dX7_goRoad_41 (by decide) ?_
        refine ar_goto (tgt := 46) dX7_goRoad_42 (by decide) ?_
        exact fr_zret dX7_goRoad_46 rfl (Nat.le_refl _) (Nat.le_refl _) (Or.inr rfl) t

def t_X7_go (E : am_E) (d : Nat) (x1 : Int32) (σ : FH) (Q : Int32 → FH → Prop) : Prop :=
  (((σ.1 78 5) ≤ 2 → (∀ σ2 : FH, σ2 = fsI σ 78 5 ((σ.1 78 5) + 1) → ((¬ (σ2.1 78 5) = 3 → (∀ σ4 : FH, σ4 = fsI σ2 78 4 ((10 * (σ2.1 78 4)) + (x1 - 48)) → fMi E d mX7_in [.long ((x1 - 48).toInt64), .long 0, .long 9] σ4 (fun r6 σ5 => ((r6 = 0 → Q 0 σ5) ∧
      (¬ r6 = 0 → ((¬ (σ5.1 78 5) = 1 → fMi E d mX7_in [.long ((σ5.1 78 4).toInt64), .long 1, .long 60] σ5 (fun r10 σ9 => ((r10 = 0 → Q 0 σ9) ∧
          (¬ r10 = 0 → Q 1 σ9)))) ∧
        ((σ5.1 78 5) = 1 → ((7 ≤ (x1 - 48) → Q 0 σ5) ∧
          (¬ 7 ≤ (x1 - 48) → Q 1 σ5))))))))) ∧
    ((σ2.1 78 5) = 3 → ((¬ x1 = 58 → Q 0 σ2) ∧
      (x1 = 58 → Q 1 σ2)))))) ∧
  (¬ (σ.1 78 5) ≤ 2 → fMi E d mX7_goRoad [.ref 78, .int x1] σ (fun r15 σ14 => ((r15 = 0 ∨ r15 = 1) ∧ Q r15 σ14))))
set_option maxRecDepth 100000 in
set_option maxHeartbeats 4000000 in
theorem v_X7_go {E : am_E} {d : Nat} {σ : FH} {Q : Int32 → FH → Prop} {x1 : Int32} (t : t_X7_go E d x1 σ Q) : fMi E (d + 1) mX7_go [.ref 78, .int x1] σ Q := by
  refine fr_ofG [some (.ref 78), some (.int x1), none] (by decide) rfl (Nat.le_of_ble_eq_true rfl) ?_
  unfold t_X7_go at t
  refine ar_iload_n (i := 1) dX7_go_0 rfl rfl ?_
  refine ar_bipush (v := 48) dX7_go_1 (by decide) ?_
  refine ar_isub dX7_go_3 ?_
  refine ar_istore_n (i := 2) (lo2 := [_, _, _]) dX7_go_4 rfl (Nat.le_of_ble_eq_true rfl) rfl rfl ?_
  refine ar_aload_n (i := 0) dX7_go_5 rfl rfl ?_
  refine fr_getI (t := 7) (j := 5) dX7_go_6 fs_X7_77 o_78 rfl ?_
  refine ar_iconst (v := 2) dX7_go_9 (by decide) ?_
  refine ar_icmp_le (tgt := 19) dX7_go_10 (by decide) (fun h1 => ?_) (fun h1 => ?_)
  · have t := t.1 h1
    refine ar_aload_n (i := 0) dX7_go_19 rfl rfl ?_
    refine ar_dup dX7_go_20 rfl ?_
    refine fr_getI (t := 7) (j := 5) dX7_go_21 fs_X7_77 o_78 rfl ?_
    refine ar_iconst (v := 1) dX7_go_24 (by decide) ?_
    refine ar_iadd dX7_go_25 ?_
    refine fr_putI (t := 7) (j := 5) dX7_go_26 fq_X7_77 o_78 rfl (Or.inl rfl) ?_
    have t := t _ rfl
    refine ar_aload_n (i := 0) dX7_go_29 rfl rfl ?_
    refine fr_getI (t := 7) (j := 5) dX7_go_30 fs_X7_77 o_78 rfl ?_
    refine ar_iconst (v := 3) dX7_go_33 (by decide) ?_
    refine ar_icmp_ne (tgt := 49) dX7_go_34 (by decide) (fun h3 => ?_) (fun h3 => ?_)
    · have t := t.1 h3
      refine ar_aload_n (i := 0) dX7_go_49 rfl rfl ?_
      refine ar_bipush (v := 10) dX7_go_50 (by decide) ?_
      refine ar_aload_n (i := 0) dX7_go_52 rfl rfl ?_
      refine fr_getI (t := 7) (j := 4) dX7_go_53 fs_X7_92 o_78 rfl ?_
      refine ar_imul dX7_go_56 ?_
      refine ar_iload_n (i := 2) dX7_go_57 rfl rfl ?_
      refine ar_iadd dX7_go_58 ?_
      refine fr_putI (t := 7) (j := 4) dX7_go_59 fq_X7_92 o_78 rfl (Or.inl rfl) ?_
      have t := t _ rfl
      refine ar_iload_n (i := 2) dX7_go_62 rfl rfl ?_
      refine ar_i2l dX7_go_63 ?_
      refine ar_lconst (v := 0) dX7_go_64 (by decide) ?_
      refine ar_ldc2 dX7_go_65 ct_X7_80 ?_
      refine fr_callSi (M' := mX7_in) [_, _, _] dX7_go_68 ml_X7_67 mv_X7_in rfl rfl (Nat.le_of_ble_eq_true rfl) ⟨Nat.le_refl _, Nat.le_refl _⟩ t (fun r6 σ5 t => ?_)
      try dsimp only at t
      refine ar_if_eq (tgt := 110) dX7_go_71 (by decide) (fun h7 => ?_) (fun h7 => ?_)
      · have t := t.1 h7
        refine ar_iconst (v := 0) dX7_go_110 (by decide) ?_
        exact fr_zret dX7_go_111 rfl (Nat.le_refl _) (Nat.le_refl _) (Or.inl rfl) t
      · have t := t.2 h7
        refine ar_aload_n (i := 0) dX7_go_74 rfl rfl ?_
        refine fr_getI (t := 7) (j := 5) dX7_go_75 fs_X7_77 o_78 rfl ?_
        refine ar_iconst (v := 1) dX7_go_78 (by decide) ?_
        refine ar_icmp_ne (tgt := 91) dX7_go_79 (by decide) (fun h8 => ?_) (fun h8 => ?_)
        · have t := t.1 h8
          refine ar_aload_n (i := 0) dX7_go_91 rfl rfl ?_
          refine fr_getI (t := 7) (j := 4) dX7_go_92 fs_X7_92 o_78 rfl ?_
          refine ar_i2l dX7_go_95 ?_
          refine ar_lconst (v := 1) dX7_go_96 (by decide) ?_
          refine ar_ldc2 dX7_go_97 ct_X7_95 ?_
          refine fr_callSi (M' := mX7_in) [_, _, _] dX7_go_100 ml_X7_67 mv_X7_in rfl rfl (Nat.le_of_ble_eq_true rfl) ⟨Nat.le_refl _, Nat.le_refl _⟩ t (fun r10 σ9 t => ?_)
          try dsimp only at t
          refine ar_if_eq (tgt := 110) dX7_go_103 (by decide) (fun h11 => ?_) (fun h11 => ?_)
          · have t := t.1 h11
            refine ar_iconst (v := 0) dX7_go_110 (by decide) ?_
            exact fr_zret dX7_go_111 rfl (Nat.le_refl _) (Nat.le_refl _) (Or.inl rfl) t
          · have t := t.2 h11
            refine ar_iconst (v := 1) dX7_go_106 (by decide) ?_
            refine ar_goto (tgt := 111) dX7_go_107 (by decide) ?_
            exact fr_zret dX7_go_111 rfl (Nat.le_refl _) (Nat.le_refl _) (Or.inr rfl) t
        · have t := t.2 h8
          refine ar_iload_n (i := 2) dX7_go_82 rfl rfl ?_
          refine ar_bipush (v := 7) dX7_go_83 (by decide) ?_
          refine ar_icmp_ge (tgt := 110) dX7_go_85 (by decide) (fun h12 => ?_) (fun h12 => ?_)
          · have t := t.1 h12
            refine ar_iconst (v := 0) dX7_go_110 (by decide) ?_
            exact fr_zret dX7_go_111 rfl (Nat.le_refl _) (Nat.le_refl _) (Or.inl rfl) t
          · have t := t.2 h12
            refine ar_goto (tgt := 106) dX7_go_88 (by decide) ?_
            refine ar_iconst (v := 1) dX7_go_106 (by decide) ?_
            refine ar_goto (tgt := 111) dX7_go_107 (by decide) ?_
            exact fr_zret dX7_go_111 rfl (Nat.le_refl _) (Nat.le_refl _) (Or.inr rfl) t
    · have t := t.2 h3
      refine ar_iload_n (i := 1) dX7_go_37 rfl rfl ?_
      refine ar_bipush (v := 58) dX7_go_38 (by decide) ?_
      refine ar_icmp_ne (tgt := 47) dX7_go_40 (by decide) (fun h13 => ?_) (fun h13 => ?_)
      · have t := t.1 h13
        refine ar_iconst (v := 0) dX7_go_47 (by decide) ?_
        exact fr_zret dX7_go_48 rfl (Nat.le_refl _) (Nat.le_refl _) (Or.inl rfl) t
      · have t := t.2 h13
        refine ar_iconst (v := 1) dX7_go_43 (by decide) ?_
        refine ar_goto (tgt := 48) dX7_go_44 (by decide) ?_
        exact fr_zret dX7_go_48 rfl (Nat.le_refl _) (Nat.le_refl _) (Or.inr rfl) t
  · have t := t.2 h1
    refine ar_aload_n (i := 0) dX7_go_13 rfl rfl ?_
    refine ar_iload_n (i := 1) dX7_go_14 rfl rfl ?_
    refine fr_callVi (M' := mX7_goRoad) [_] dX7_go_15 ml_X7_88 mv_X7_goRoad rfl rfl o_78 rfl rfl (Nat.le_of_ble_eq_true rfl) ⟨Nat.le_refl _, Nat.le_refl _⟩ t (fun r15 σ14 t => ?_)
    try dsimp only at t
    exact fr_zret dX7_go_18 rfl (Nat.le_refl _) (Nat.le_refl _) t.1 t.2

/-- X7.faultOf: the machine at the loop head 17 -/
def h_X7_faultOf_17 (E : am_E) (d : Nat) (x1 : Int32) (σ : FH) (Q : Int32 → FH → Prop) : Prop := fG E (d + 1) mX7_faultOf 17 [some (.ref 78), some (.int x1)] [] σ (qi Q)
def t_X7_faultOf_17 (E : am_E) (d : Nat) (x1 : Int32) (σ : FH) (Q : Int32 → FH → Prop) : Prop :=
  (((σ.1 78 1) ≤ x1 → Q x1 σ) ∧
  (¬ (σ.1 78 1) ≤ x1 → (vp_in x1 44 ∧ fMi E d mX7_go [.ref 78, .int (σ.1 79 x1.toNatClampNeg)] σ (fun r7 σ6 => ((r7 = 0 → Q x1 σ6) ∧
    (¬ r7 = 0 → h_X7_faultOf_17 E d (x1 + 1) σ6 Q))))))
set_option maxRecDepth 100000 in
set_option maxHeartbeats 4000000 in
theorem v_X7_faultOf_17 {E : am_E} {d : Nat} {σ : FH} {Q : Int32 → FH → Prop} {x1 : Int32} (t : t_X7_faultOf_17 E d x1 σ Q) : h_X7_faultOf_17 E d x1 σ Q := by
  unfold h_X7_faultOf_17
  unfold t_X7_faultOf_17 at t
  refine ar_iload_n (i := 1) dX7_faultOf_17 rfl rfl ?_
  refine ar_aload_n (i := 0) dX7_faultOf_18 rfl rfl ?_
  refine fr_getI (t := 7) (j := 1) dX7_faultOf_19 fs_X7_71 o_78 rfl ?_
  refine ar_icmp_ge (tgt := 44) dX7_faultOf_22 (by decide) (fun h4 => ?_) (fun h4 => ?_)
  · have t := t.1 h4
    refine ar_iload_n (i := 1) dX7_faultOf_44 rfl rfl ?_
    exact fr_iret dX7_faultOf_45 rfl (Nat.le_refl _) (Nat.le_refl _) t
  · have t := t.2 h4
    refine ar_aload_n (i := 0) dX7_faultOf_25 rfl rfl ?_
    refine ar_aload_n (i := 0) dX7_faultOf_26 rfl rfl ?_
    refine fr_getR (t := 7) (j := 0) (r := 79) dX7_faultOf_27 fs_X7_7 o_78 rfl rfl (by decide) ?_
    refine ar_iload_n (i := 1) dX7_faultOf_30 rfl rfl ?_
    obtain ⟨h5, t⟩ := t
    refine fr_iald (n := 44) dX7_faultOf_31 a_79 h5 ?_
    refine fr_callVi (M' := mX7_go) [_] dX7_faultOf_32 ml_X7_97 mv_X7_go rfl rfl o_78 rfl rfl (Nat.le_of_ble_eq_true rfl) ⟨Nat.le_refl _, Nat.le_refl _⟩ t (fun r7 σ6 t => ?_)
    try dsimp only at t
    refine ar_if_eq (tgt := 44) dX7_faultOf_35 (by decide) (fun h8 => ?_) (fun h8 => ?_)
    · have t := t.1 h8
      refine ar_iload_n (i := 1) dX7_faultOf_44 rfl rfl ?_
      exact fr_iret dX7_faultOf_45 rfl (Nat.le_refl _) (Nat.le_refl _) t
    · have t := t.2 h8
      refine ar_iinc (i := 1) (v := _ + 1) (lo2 := [_, _]) dX7_faultOf_38 rfl (ii_1 _) (Nat.le_of_ble_eq_true rfl) rfl rfl ?_
      refine ar_goto (tgt := 17) dX7_faultOf_41 (by decide) ?_
      exact t
def t_X7_faultOf (E : am_E) (d : Nat) (σ : FH) (Q : Int32 → FH → Prop) : Prop :=
  (∀ σ1 : FH, σ1 = fsI σ 78 3 0 → (∀ σ2 : FH, σ2 = fsI σ1 78 4 0 → (∀ σ3 : FH, σ3 = fsI σ2 78 5 0 → h_X7_faultOf_17 E d 0 σ3 Q)))
set_option maxRecDepth 100000 in
set_option maxHeartbeats 4000000 in
theorem v_X7_faultOf {E : am_E} {d : Nat} {σ : FH} {Q : Int32 → FH → Prop} (t : t_X7_faultOf E d σ Q) : fMi E (d + 1) mX7_faultOf [.ref 78] σ Q := by
  refine fr_ofG [some (.ref 78), none] (by decide) rfl (Nat.le_of_ble_eq_true rfl) ?_
  unfold t_X7_faultOf at t
  refine ar_aload_n (i := 0) dX7_faultOf_0 rfl rfl ?_
  refine ar_iconst (v := 0) dX7_faultOf_1 (by decide) ?_
  refine fr_putI (t := 7) (j := 3) dX7_faultOf_2 fq_X7_74 o_78 rfl (Or.inl rfl) ?_
  have t := t _ rfl
  refine ar_aload_n (i := 0) dX7_faultOf_5 rfl rfl ?_
  refine ar_iconst (v := 0) dX7_faultOf_6 (by decide) ?_
  refine fr_putI (t := 7) (j := 4) dX7_faultOf_7 fq_X7_92 o_78 rfl (Or.inl rfl) ?_
  have t := t _ rfl
  refine ar_aload_n (i := 0) dX7_faultOf_10 rfl rfl ?_
  refine ar_iconst (v := 0) dX7_faultOf_11 (by decide) ?_
  refine fr_putI (t := 7) (j := 5) dX7_faultOf_12 fq_X7_77 o_78 rfl (Or.inl rfl) ?_
  have t := t _ rfl
  refine ar_iconst (v := 0) dX7_faultOf_15 (by decide) ?_
  refine ar_istore_n (i := 1) (lo2 := [_, _]) dX7_faultOf_16 rfl (Nat.le_of_ble_eq_true rfl) rfl rfl ?_
  exact t

def t_X7_fault (E : am_E) (d : Nat) (σ : FH) (Q : Int32 → FH → Prop) : Prop :=
  fMi E d mX7_faultOf [.ref 78] σ (fun r2 σ1 => Q r2 σ1)
set_option maxRecDepth 100000 in
set_option maxHeartbeats 4000000 in
theorem v_X7_fault {E : am_E} {d : Nat} {σ : FH} {Q : Int32 → FH → Prop} (t : t_X7_fault E d σ Q) : fMi E (d + 1) mX7_fault [.ref 78] σ Q := by
  refine fr_ofG [some (.ref 78)] (by decide) rfl (Nat.le_of_ble_eq_true rfl) ?_
  unfold t_X7_fault at t
  refine ar_aload_n (i := 0) dX7_fault_0 rfl rfl ?_
  refine fr_callVi (M' := mX7_faultOf) [] dX7_fault_1 ml_X7_100 mv_X7_faultOf rfl rfl o_78 rfl rfl (Nat.le_of_ble_eq_true rfl) ⟨Nat.le_refl _, Nat.le_refl _⟩ t (fun r2 σ1 t => ?_)
  try dsimp only at t
  exact fr_iret dX7_fault_4 rfl (Nat.le_refl _) (Nat.le_refl _) t

/-- X7.roads: the machine at the loop head 25 -/
def h_X7_roads_25 (E : am_E) (d : Nat) (x1 : Int32) (σ : FH) (Q : Int32 → FH → Prop) : Prop := fG E (d + 1) mX7_roads 25 [some (.ref 78), some (.int x1), none] [] σ (qi Q)
/-- X7.roads: the machine at the loop head 35 -/
def h_X7_roads_35 (E : am_E) (d : Nat) (x1 : Int32) (x2 : Int32) (σ : FH) (Q : Int32 → FH → Prop) : Prop := fG E (d + 1) mX7_roads 35 [some (.ref 78), some (.int x1), some (.int x2)] [] σ (qi Q)
def t_X7_roads_35 (E : am_E) (d : Nat) (x1 : Int32) (x2 : Int32) (σ : FH) (Q : Int32 → FH → Prop) : Prop :=
  ((4 ≤ x2 → (vp_in ((5 * x1) + 4) 45 ∧ (∀ σ15 : FH, σ15 = fsI σ 81 ((5 * x1) + 4).toNatClampNeg 1 → h_X7_roads_25 E d (x1 + 1) σ15 Q))) ∧
  (¬ 4 ≤ x2 → (vp_in ((4 * x1) + x2) 32 ∧ (vp_in ((5 * x1) + x2) 45 ∧ (∀ σ18 : FH, σ18 = fsI σ 81 ((5 * x1) + x2).toNatClampNeg (σ.1 80 ((4 * x1) + x2).toNatClampNeg) → h_X7_roads_35 E d x1 (x2 + 1) σ18 Q)))))
set_option maxRecDepth 100000 in
set_option maxHeartbeats 4000000 in
theorem v_X7_roads_35 {E : am_E} {d : Nat} {σ : FH} {Q : Int32 → FH → Prop} {x1 : Int32} {x2 : Int32} (t : t_X7_roads_35 E d x1 x2 σ Q) : h_X7_roads_35 E d x1 x2 σ Q := by
  unfold h_X7_roads_35
  unfold t_X7_roads_35 at t
  refine ar_iload_n (i := 2) dX7_roads_35 rfl rfl ?_
  refine ar_iconst (v := 4) dX7_roads_36 (by decide) ?_
  refine ar_icmp_ge (tgt := 66) dX7_roads_37 (by decide) (fun h13 => ?_) (fun h13 => ?_)
  · have t := t.1 h13
    refine ar_aload_n (i := 0) dX7_roads_66 rfl rfl ?_
    refine fr_getR (t := 7) (j := 10) (r := 81) dX7_roads_67 fs_X7_16 o_78 rfl rfl (by decide) ?_
    refine ar_iconst (v := 5) dX7_roads_70 (by decide) ?_
    refine ar_iload_n (i := 1) dX7_roads_71 rfl rfl ?_
    refine ar_imul dX7_roads_72 ?_
    refine ar_iconst (v := 4) dX7_roads_73 (by decide) ?_
    refine ar_iadd dX7_roads_74 ?_
    refine ar_iconst (v := 1) dX7_roads_75 (by decide) ?_
    obtain ⟨h14, t⟩ := t
    refine fr_iast (n := 45) dX7_roads_76 a_81 h14 ?_
    have t := t _ rfl
    refine ar_iinc (i := 1) (v := _ + 1) (lo2 := [_, _, _]) dX7_roads_77 rfl (ii_1 _) (Nat.le_of_ble_eq_true rfl) rfl rfl ?_
    refine ar_goto (tgt := 25) dX7_roads_80 (by decide) ?_
    refine ar_drop 2 (lo2 := [_, _, none]) rfl ?_
    exact t
  · have t := t.2 h13
    refine ar_aload_n (i := 0) dX7_roads_40 rfl rfl ?_
    refine fr_getR (t := 7) (j := 10) (r := 81) dX7_roads_41 fs_X7_16 o_78 rfl rfl (by decide) ?_
    refine ar_iconst (v := 5) dX7_roads_44 (by decide) ?_
    refine ar_iload_n (i := 1) dX7_roads_45 rfl rfl ?_
    refine ar_imul dX7_roads_46 ?_
    refine ar_iload_n (i := 2) dX7_roads_47 rfl rfl ?_
    refine ar_iadd dX7_roads_48 ?_
    refine ar_aload_n (i := 0) dX7_roads_49 rfl rfl ?_
    refine fr_getR (t := 7) (j := 2) (r := 80) dX7_roads_50 fs_X7_13 o_78 rfl rfl (by decide) ?_
    refine ar_iconst (v := 4) dX7_roads_53 (by decide) ?_
    refine ar_iload_n (i := 1) dX7_roads_54 rfl rfl ?_
    refine ar_imul dX7_roads_55 ?_
    refine ar_iload_n (i := 2) dX7_roads_56 rfl rfl ?_
    refine ar_iadd dX7_roads_57 ?_
    obtain ⟨h16, t⟩ := t
    refine fr_iald (n := 32) dX7_roads_58 a_80 h16 ?_
    obtain ⟨h17, t⟩ := t
    refine fr_iast (n := 45) dX7_roads_59 a_81 h17 ?_
    have t := t _ rfl
    refine ar_iinc (i := 2) (v := _ + 1) (lo2 := [_, _, _]) dX7_roads_60 rfl (ii_1 _) (Nat.le_of_ble_eq_true rfl) rfl rfl ?_
    refine ar_goto (tgt := 35) dX7_roads_63 (by decide) ?_
    exact t
def t_X7_roads_25 (E : am_E) (d : Nat) (x1 : Int32) (σ : FH) (Q : Int32 → FH → Prop) : Prop :=
  (((σ.1 78 3) ≤ x1 → (∀ σ6 : FH, σ6 = fsI σ 78 6 (σ.1 78 3) → (∀ σ7 : FH, σ7 = fsI σ6 78 7 (σ6.1 78 4) → (∀ σ8 : FH, σ8 = fsI σ7 78 11 0 → (∀ σ9 : FH, σ9 = fsI σ8 78 9 0 → (∀ σ10 : FH, σ10 = fsI σ9 78 20 0 → (∀ σ11 : FH, σ11 = fsI σ10 78 8 ((σ10.1 78 8) + 1) → (∀ σ12 : FH, σ12 = fsI σ11 78 1 0 → Q (σ12.1 78 6) σ12)))))))) ∧
  (¬ (σ.1 78 3) ≤ x1 → h_X7_roads_35 E d x1 0 σ Q))
set_option maxRecDepth 100000 in
set_option maxHeartbeats 4000000 in
theorem v_X7_roads_25 {E : am_E} {d : Nat} {σ : FH} {Q : Int32 → FH → Prop} {x1 : Int32} (t : t_X7_roads_25 E d x1 σ Q) : h_X7_roads_25 E d x1 σ Q := by
  unfold h_X7_roads_25
  unfold t_X7_roads_25 at t
  refine ar_iload_n (i := 1) dX7_roads_25 rfl rfl ?_
  refine ar_aload_n (i := 0) dX7_roads_26 rfl rfl ?_
  refine fr_getI (t := 7) (j := 3) dX7_roads_27 fs_X7_74 o_78 rfl ?_
  refine ar_icmp_ge (tgt := 83) dX7_roads_30 (by decide) (fun h5 => ?_) (fun h5 => ?_)
  · have t := t.1 h5
    refine ar_aload_n (i := 0) dX7_roads_83 rfl rfl ?_
    refine ar_aload_n (i := 0) dX7_roads_84 rfl rfl ?_
    refine fr_getI (t := 7) (j := 3) dX7_roads_85 fs_X7_74 o_78 rfl ?_
    refine fr_putI (t := 7) (j := 6) dX7_roads_88 fq_X7_104 o_78 rfl (Or.inl rfl) ?_
    have t := t _ rfl
    refine ar_aload_n (i := 0) dX7_roads_91 rfl rfl ?_
    refine ar_aload_n (i := 0) dX7_roads_92 rfl rfl ?_
    refine fr_getI (t := 7) (j := 4) dX7_roads_93 fs_X7_92 o_78 rfl ?_
    refine fr_putI (t := 7) (j := 7) dX7_roads_96 fq_X7_107 o_78 rfl (Or.inl rfl) ?_
    have t := t _ rfl
    refine ar_aload_n (i := 0) dX7_roads_99 rfl rfl ?_
    refine ar_iconst (v := 0) dX7_roads_100 (by decide) ?_
    refine fr_putI (t := 7) (j := 11) dX7_roads_101 fq_X7_110 o_78 rfl (Or.inl rfl) ?_
    have t := t _ rfl
    refine ar_aload_n (i := 0) dX7_roads_104 rfl rfl ?_
    refine ar_iconst (v := 0) dX7_roads_105 (by decide) ?_
    refine fr_putI (t := 7) (j := 9) dX7_roads_106 fq_X7_113 o_78 rfl (Or.inl rfl) ?_
    have t := t _ rfl
    refine ar_aload_n (i := 0) dX7_roads_109 rfl rfl ?_
    refine ar_iconst (v := 0) dX7_roads_110 (by decide) ?_
    refine fr_putI (t := 7) (j := 20) dX7_roads_111 fq_X7_116 o_78 rfl (Or.inl rfl) ?_
    have t := t _ rfl
    refine ar_aload_n (i := 0) dX7_roads_114 rfl rfl ?_
    refine ar_dup dX7_roads_115 rfl ?_
    refine fr_getI (t := 7) (j := 8) dX7_roads_116 fs_X7_119 o_78 rfl ?_
    refine ar_iconst (v := 1) dX7_roads_119 (by decide) ?_
    refine ar_iadd dX7_roads_120 ?_
    refine fr_putI (t := 7) (j := 8) dX7_roads_121 fq_X7_119 o_78 rfl (Or.inl rfl) ?_
    have t := t _ rfl
    refine ar_aload_n (i := 0) dX7_roads_124 rfl rfl ?_
    refine ar_iconst (v := 0) dX7_roads_125 (by decide) ?_
    refine fr_putI (t := 7) (j := 1) dX7_roads_126 fq_X7_71 o_78 rfl (Or.inl rfl) ?_
    have t := t _ rfl
    refine ar_aload_n (i := 0) dX7_roads_129 rfl rfl ?_
    refine fr_getI (t := 7) (j := 6) dX7_roads_130 fs_X7_104 o_78 rfl ?_
    exact fr_iret dX7_roads_133 rfl (Nat.le_refl _) (Nat.le_refl _) t
  · have t := t.2 h5
    refine ar_iconst (v := 0) dX7_roads_33 (by decide) ?_
    refine ar_istore_n (i := 2) (lo2 := [_, _, _]) dX7_roads_34 rfl (Nat.le_of_ble_eq_true rfl) rfl rfl ?_
    exact t
def t_X7_roads (E : am_E) (d : Nat) (σ : FH) (Q : Int32 → FH → Prop) : Prop :=
  fMi E d mX7_faultOf [.ref 78] σ (fun r2 σ1 => ((r2 < (σ1.1 78 1) → Q (-103) σ1) ∧
  (¬ r2 < (σ1.1 78 1) → (((σ1.1 78 5) = 7 → h_X7_roads_25 E d 0 σ1 Q) ∧
    (¬ (σ1.1 78 5) = 7 → Q (-103) σ1)))))
set_option maxRecDepth 100000 in
set_option maxHeartbeats 4000000 in
theorem v_X7_roads {E : am_E} {d : Nat} {σ : FH} {Q : Int32 → FH → Prop} (t : t_X7_roads E d σ Q) : fMi E (d + 1) mX7_roads [.ref 78] σ Q := by
  refine fr_ofG [some (.ref 78), none, none] (by decide) rfl (Nat.le_of_ble_eq_true rfl) ?_
  unfold t_X7_roads at t
  refine ar_aload_n (i := 0) dX7_roads_0 rfl rfl ?_
  refine fr_callVi (M' := mX7_faultOf) [] dX7_roads_1 ml_X7_100 mv_X7_faultOf rfl rfl o_78 rfl rfl (Nat.le_of_ble_eq_true rfl) ⟨Nat.le_refl _, Nat.le_refl _⟩ t (fun r2 σ1 t => ?_)
  try dsimp only at t
  refine ar_aload_n (i := 0) dX7_roads_4 rfl rfl ?_
  refine fr_getI (t := 7) (j := 1) dX7_roads_5 fs_X7_71 o_78 rfl ?_
  refine ar_icmp_lt (tgt := 20) dX7_roads_8 (by decide) (fun h3 => ?_) (fun h3 => ?_)
  · have t := t.1 h3
    refine ar_bipush (v := -103) dX7_roads_20 (by decide) ?_
    exact fr_iret dX7_roads_22 rfl (Nat.le_refl _) (Nat.le_refl _) t
  · have t := t.2 h3
    refine ar_aload_n (i := 0) dX7_roads_11 rfl rfl ?_
    refine fr_getI (t := 7) (j := 5) dX7_roads_12 fs_X7_77 o_78 rfl ?_
    refine ar_bipush (v := 7) dX7_roads_15 (by decide) ?_
    refine ar_icmp_eq (tgt := 23) dX7_roads_17 (by decide) (fun h4 => ?_) (fun h4 => ?_)
    · have t := t.1 h4
      refine ar_iconst (v := 0) dX7_roads_23 (by decide) ?_
      refine ar_istore_n (i := 1) (lo2 := [_, _, none]) dX7_roads_24 rfl (Nat.le_of_ble_eq_true rfl) rfl rfl ?_
      exact t
    · have t := t.2 h4
      refine ar_bipush (v := -103) dX7_roads_20 (by decide) ?_
      exact fr_iret dX7_roads_22 rfl (Nat.le_refl _) (Nat.le_refl _) t

def t_X7_lacks (E : am_E) (d : Nat) (σ : FH) (Q : Int32 → FH → Prop) : Prop :=
  ((¬ (σ.1 78 6) = 0 → Q 0 σ) ∧
  ((σ.1 78 6) = 0 → Q 1 σ))
set_option maxRecDepth 100000 in
set_option maxHeartbeats 4000000 in
theorem v_X7_lacks {E : am_E} {d : Nat} {σ : FH} {Q : Int32 → FH → Prop} (t : t_X7_lacks E d σ Q) : fMi E (d + 1) mX7_lacks [.ref 78] σ Q := by
  refine fr_ofG [some (.ref 78)] (by decide) rfl (Nat.le_of_ble_eq_true rfl) ?_
  unfold t_X7_lacks at t
  refine ar_aload_n (i := 0) dX7_lacks_0 rfl rfl ?_
  refine fr_getI (t := 7) (j := 6) dX7_lacks_1 fs_X7_104 o_78 rfl ?_
  refine ar_if_ne (tgt := 11) dX7_lacks_4 (by decide) (fun h1 => ?_) (fun h1 => ?_)
  · have t := t.1 h1
    refine ar_iconst (v := 0) dX7_lacks_11 (by decide) ?_
    exact fr_zret dX7_lacks_12 rfl (Nat.le_refl _) (Nat.le_refl _) (Or.inl rfl) t
  · have t := t.2 h1
    refine ar_iconst (v := 1) dX7_lacks_7 (by decide) ?_
    refine ar_goto (tgt := 12) dX7_lacks_8 (by decide) ?_
    exact fr_zret dX7_lacks_12 rfl (Nat.le_refl _) (Nat.le_refl _) (Or.inr rfl) t

def t_X7_isRoad (E : am_E) (d : Nat) (x1 : Int32) (σ : FH) (Q : Int32 → FH → Prop) : Prop :=
  fMi E d mX7_in [.long x1.toInt64, .long 0, .long (((σ.1 78 6) - 1).toInt64)] σ (fun r2 σ1 => ((r2 = 0 ∨ r2 = 1) ∧ Q r2 σ1))
set_option maxRecDepth 100000 in
set_option maxHeartbeats 4000000 in
theorem v_X7_isRoad {E : am_E} {d : Nat} {σ : FH} {Q : Int32 → FH → Prop} {x1 : Int32} (t : t_X7_isRoad E d x1 σ Q) : fMi E (d + 1) mX7_isRoad [.ref 78, .int x1] σ Q := by
  refine fr_ofG [some (.ref 78), some (.int x1)] (by decide) rfl (Nat.le_of_ble_eq_true rfl) ?_
  unfold t_X7_isRoad at t
  refine ar_iload_n (i := 1) dX7_isRoad_0 rfl rfl ?_
  refine ar_i2l dX7_isRoad_1 ?_
  refine ar_lconst (v := 0) dX7_isRoad_2 (by decide) ?_
  refine ar_aload_n (i := 0) dX7_isRoad_3 rfl rfl ?_
  refine fr_getI (t := 7) (j := 6) dX7_isRoad_4 fs_X7_104 o_78 rfl ?_
  refine ar_iconst (v := 1) dX7_isRoad_7 (by decide) ?_
  refine ar_isub dX7_isRoad_8 ?_
  refine ar_i2l dX7_isRoad_9 ?_
  refine fr_callSi (M' := mX7_in) [_, _, _] dX7_isRoad_10 ml_X7_67 mv_X7_in rfl rfl (Nat.le_of_ble_eq_true rfl) ⟨Nat.le_refl _, Nat.le_refl _⟩ t (fun r2 σ1 t => ?_)
  try dsimp only at t
  exact fr_zret dX7_isRoad_13 rfl (Nat.le_refl _) (Nat.le_refl _) t.1 t.2

def t_X7_worthOf (E : am_E) (d : Nat) (x1 : Int32) (σ : FH) (Q : Int32 → FH → Prop) : Prop :=
  (vp_in (5 * x1) 45 ∧ (∀ v2 : Int32, v2 = (σ.1 81 (5 * x1).toNatClampNeg) → ((¬ v2 = 0 → ((¬ v2 = 1 → ((¬ v2 = 2 → ((v2 = 3 → Q 4 σ) ∧
        (¬ v2 = 3 → (vp_in ((5 * x1) + 4) 45 ∧ ((¬ (σ.1 81 ((5 * x1) + 4).toNatClampNeg) = 1 → Q 0 σ) ∧
          ((σ.1 81 ((5 * x1) + 4).toNatClampNeg) = 1 → Q 4 σ)))))) ∧
      (v2 = 2 → Q 1 σ))) ∧
    (v2 = 1 → Q 0 σ))) ∧
  (v2 = 0 → Q 2 σ))))
set_option maxRecDepth 100000 in
set_option maxHeartbeats 4000000 in
theorem v_X7_worthOf {E : am_E} {d : Nat} {σ : FH} {Q : Int32 → FH → Prop} {x1 : Int32} (t : t_X7_worthOf E d x1 σ Q) : fMi E (d + 1) mX7_worthOf [.ref 78, .int x1] σ Q := by
  refine fr_ofG [some (.ref 78), some (.int x1), none] (by decide) rfl (Nat.le_of_ble_eq_true rfl) ?_
  unfold t_X7_worthOf at t
  refine ar_aload_n (i := 0) dX7_worthOf_0 rfl rfl ?_
  refine fr_getR (t := 7) (j := 10) (r := 81) dX7_worthOf_1 fs_X7_16 o_78 rfl rfl (by decide) ?_
  refine ar_iconst (v := 5) dX7_worthOf_4 (by decide) ?_
  refine ar_iload_n (i := 1) dX7_worthOf_5 rfl rfl ?_
  refine ar_imul dX7_worthOf_6 ?_
  obtain ⟨h1, t⟩ := t
  refine fr_iald (n := 45) dX7_worthOf_7 a_81 h1 ?_
  refine ar_istore_n (i := 2) (lo2 := [_, _, _]) dX7_worthOf_8 rfl (Nat.le_of_ble_eq_true rfl) rfl rfl ?_
  have t := t _ rfl
  refine ar_iload_n (i := 2) dX7_worthOf_9 rfl rfl ?_
  refine ar_if_ne (tgt := 17) dX7_worthOf_10 (by decide) (fun h3 => ?_) (fun h3 => ?_)
  · have t := t.1 h3
    refine ar_iload_n (i := 2) dX7_worthOf_17 rfl rfl ?_
    refine ar_iconst (v := 1) dX7_worthOf_18 (by decide) ?_
    refine ar_icmp_ne (tgt := 26) dX7_worthOf_19 (by decide) (fun h4 => ?_) (fun h4 => ?_)
    · have t := t.1 h4
      refine ar_iload_n (i := 2) dX7_worthOf_26 rfl rfl ?_
      refine ar_iconst (v := 2) dX7_worthOf_27 (by decide) ?_
      refine ar_icmp_ne (tgt := 35) dX7_worthOf_28 (by decide) (fun h5 => ?_) (fun h5 => ?_)
      · have t := t.1 h5
        refine ar_iload_n (i := 2) dX7_worthOf_35 rfl rfl ?_
        refine ar_iconst (v := 3) dX7_worthOf_36 (by decide) ?_
        refine ar_icmp_eq (tgt := 54) dX7_worthOf_37 (by decide) (fun h6 => ?_) (fun h6 => ?_)
        · have t := t.1 h6
          refine ar_iconst (v := 4) dX7_worthOf_54 (by decide) ?_
          refine ar_goto (tgt := 59) dX7_worthOf_55 (by decide) ?_
          exact fr_iret dX7_worthOf_59 rfl (Nat.le_refl _) (Nat.le_refl _) t
        · have t := t.2 h6
          refine ar_aload_n (i := 0) dX7_worthOf_40 rfl rfl ?_
          refine fr_getR (t := 7) (j := 10) (r := 81) dX7_worthOf_41 fs_X7_16 o_78 rfl rfl (by decide) ?_
          refine ar_iconst (v := 5) dX7_worthOf_44 (by decide) ?_
          refine ar_iload_n (i := 1) dX7_worthOf_45 rfl rfl ?_
          refine ar_imul dX7_worthOf_46 ?_
          refine ar_iconst (v := 4) dX7_worthOf_47 (by decide) ?_
          refine ar_iadd dX7_worthOf_48 ?_
          obtain ⟨h7, t⟩ := t
          refine fr_iald (n := 45) dX7_worthOf_49 a_81 h7 ?_
          refine ar_iconst (v := 1) dX7_worthOf_50 (by decide) ?_
          refine ar_icmp_ne (tgt := 58) dX7_worthOf_51 (by decide) (fun h8 => ?_) (fun h8 => ?_)
          · have t := t.1 h8
            refine ar_iconst (v := 0) dX7_worthOf_58 (by decide) ?_
            exact fr_iret dX7_worthOf_59 rfl (Nat.le_refl _) (Nat.le_refl _) t
          · have t := t.2 h8
            refine ar_iconst (v := 4) dX7_worthOf_54 (by decide) ?_
            refine ar_goto (tgt := 59) dX7_worthOf_55 (by decide) ?_
            exact fr_iret dX7_worthOf_59 rfl (Nat.le_refl _) (Nat.le_refl _) t
      · have t := t.2 h5
        refine ar_iconst (v := 1) dX7_worthOf_31 (by decide) ?_
        refine ar_goto (tgt := 59) dX7_worthOf_32 (by decide) ?_
        exact fr_iret dX7_worthOf_59 rfl (Nat.le_refl _) (Nat.le_refl _) t
    · have t := t.2 h4
      refine ar_iconst (v := 0) dX7_worthOf_22 (by decide) ?_
      refine ar_goto (tgt := 59) dX7_worthOf_23 (by decide) ?_
      exact fr_iret dX7_worthOf_59 rfl (Nat.le_refl _) (Nat.le_refl _) t
  · have t := t.2 h3
    refine ar_iconst (v := 2) dX7_worthOf_13 (by decide) ?_
    refine ar_goto (tgt := 59) dX7_worthOf_14 (by decide) ?_
    exact fr_iret dX7_worthOf_59 rfl (Nat.le_refl _) (Nat.le_refl _) t

def t_X7_tellRoad (E : am_E) (d : Nat) (x1 : Int32) (x2 : Int32) (σ : FH) (Q : Int32 → FH → Prop) : Prop :=
  ((x2 = 0 → (vp_in ((5 * x1) + x2) 45 ∧ Q (σ.1 81 ((5 * x1) + x2).toNatClampNeg) σ)) ∧
  ((x2 = 1 → (vp_in ((5 * x1) + x2) 45 ∧ Q (σ.1 81 ((5 * x1) + x2).toNatClampNeg) σ)) ∧
  ((x2 = 2 → (vp_in ((5 * x1) + x2) 45 ∧ Q (σ.1 81 ((5 * x1) + x2).toNatClampNeg) σ)) ∧
  ((x2 = 3 → (vp_in ((5 * x1) + x2) 45 ∧ Q (σ.1 81 ((5 * x1) + x2).toNatClampNeg) σ)) ∧
  ((x2 = 4 → fMi E d mX7_worthOf [.ref 78, .int x1] σ (fun r11 σ10 => Q r11 σ10)) ∧
  ((x2 = 5 → (vp_in ((5 * x1) + 4) 45 ∧ Q (σ.1 81 ((5 * x1) + 4).toNatClampNeg) σ)) ∧
  (¬ x2 = 0 → ¬ x2 = 1 → ¬ x2 = 2 → ¬ x2 = 3 → ¬ x2 = 4 → ¬ x2 = 5 → Q (-102) σ)))))))
set_option maxRecDepth 100000 in
set_option maxHeartbeats 4000000 in
theorem v_X7_tellRoad {E : am_E} {d : Nat} {σ : FH} {Q : Int32 → FH → Prop} {x1 : Int32} {x2 : Int32} (t : t_X7_tellRoad E d x1 x2 σ Q) : fMi E (d + 1) mX7_tellRoad [.ref 78, .int x1, .int x2] σ Q := by
  refine fr_ofG [some (.ref 78), some (.int x1), some (.int x2)] (by decide) rfl (Nat.le_of_ble_eq_true rfl) ?_
  unfold t_X7_tellRoad at t
  refine ar_iload_n (i := 2) dX7_tellRoad_0 rfl rfl ?_
  by_cases h1 : x2 = 0
  · have t := t.1 h1
    refine ar_tableIn (tgt := 40) dX7_tellRoad_1 (by rw [h1]; decide) (by rw [h1]; decide) (by rw [h1]; rfl) (by decide) ?_
    refine ar_aload_n (i := 0) dX7_tellRoad_40 rfl rfl ?_
    refine fr_getR (t := 7) (j := 10) (r := 81) dX7_tellRoad_41 fs_X7_16 o_78 rfl rfl (by decide) ?_
    refine ar_iconst (v := 5) dX7_tellRoad_44 (by decide) ?_
    refine ar_iload_n (i := 1) dX7_tellRoad_45 rfl rfl ?_
    refine ar_imul dX7_tellRoad_46 ?_
    refine ar_iload_n (i := 2) dX7_tellRoad_47 rfl rfl ?_
    refine ar_iadd dX7_tellRoad_48 ?_
    obtain ⟨h2, t⟩ := t
    refine fr_iald (n := 45) dX7_tellRoad_49 a_81 h2 ?_
    exact fr_iret dX7_tellRoad_50 rfl (Nat.le_refl _) (Nat.le_refl _) t
  have t := t.2
  by_cases h3 : x2 = 1
  · have t := t.1 h3
    refine ar_tableIn (tgt := 40) dX7_tellRoad_1 (by rw [h3]; decide) (by rw [h3]; decide) (by rw [h3]; rfl) (by decide) ?_
    refine ar_aload_n (i := 0) dX7_tellRoad_40 rfl rfl ?_
    refine fr_getR (t := 7) (j := 10) (r := 81) dX7_tellRoad_41 fs_X7_16 o_78 rfl rfl (by decide) ?_
    refine ar_iconst (v := 5) dX7_tellRoad_44 (by decide) ?_
    refine ar_iload_n (i := 1) dX7_tellRoad_45 rfl rfl ?_
    refine ar_imul dX7_tellRoad_46 ?_
    refine ar_iload_n (i := 2) dX7_tellRoad_47 rfl rfl ?_
    refine ar_iadd dX7_tellRoad_48 ?_
    obtain ⟨h4, t⟩ := t
    refine fr_iald (n := 45) dX7_tellRoad_49 a_81 h4 ?_
    exact fr_iret dX7_tellRoad_50 rfl (Nat.le_refl _) (Nat.le_refl _) t
  have t := t.2
  by_cases h5 : x2 = 2
  · have t := t.1 h5
    refine ar_tableIn (tgt := 40) dX7_tellRoad_1 (by rw [h5]; decide) (by rw [h5]; decide) (by rw [h5]; rfl) (by decide) ?_
    refine ar_aload_n (i := 0) dX7_tellRoad_40 rfl rfl ?_
    refine fr_getR (t := 7) (j := 10) (r := 81) dX7_tellRoad_41 fs_X7_16 o_78 rfl rfl (by decide) ?_
    refine ar_iconst (v := 5) dX7_tellRoad_44 (by decide) ?_
    refine ar_iload_n (i := 1) dX7_tellRoad_45 rfl rfl ?_
    refine ar_imul dX7_tellRoad_46 ?_
    refine ar_iload_n (i := 2) dX7_tellRoad_47 rfl rfl ?_
    refine ar_iadd dX7_tellRoad_48 ?_
    obtain ⟨h6, t⟩ := t
    refine fr_iald (n := 45) dX7_tellRoad_49 a_81 h6 ?_
    exact fr_iret dX7_tellRoad_50 rfl (Nat.le_refl _) (Nat.le_refl _) t
  have t := t.2
  by_cases h7 : x2 = 3
  · have t := t.1 h7
    refine ar_tableIn (tgt := 40) dX7_tellRoad_1 (by rw [h7]; decide) (by rw [h7]; decide) (by rw [h7]; rfl) (by decide) ?_
    refine ar_aload_n (i := 0) dX7_tellRoad_40 rfl rfl ?_
    refine fr_getR (t := 7) (j := 10) (r := 81) dX7_tellRoad_41 fs_X7_16 o_78 rfl rfl (by decide) ?_
    refine ar_iconst (v := 5) dX7_tellRoad_44 (by decide) ?_
    refine ar_iload_n (i := 1) dX7_tellRoad_45 rfl rfl ?_
    refine ar_imul dX7_tellRoad_46 ?_
    refine ar_iload_n (i := 2) dX7_tellRoad_47 rfl rfl ?_
    refine ar_iadd dX7_tellRoad_48 ?_
    obtain ⟨h8, t⟩ := t
    refine fr_iald (n := 45) dX7_tellRoad_49 a_81 h8 ?_
    exact fr_iret dX7_tellRoad_50 rfl (Nat.le_refl _) (Nat.le_refl _) t
  have t := t.2
  by_cases h9 : x2 = 4
  · have t := t.1 h9
    refine ar_tableIn (tgt := 51) dX7_tellRoad_1 (by rw [h9]; decide) (by rw [h9]; decide) (by rw [h9]; rfl) (by decide) ?_
    refine ar_aload_n (i := 0) dX7_tellRoad_51 rfl rfl ?_
    refine ar_iload_n (i := 1) dX7_tellRoad_52 rfl rfl ?_
    refine fr_callVi (M' := mX7_worthOf) [_] dX7_tellRoad_53 ml_X7_122 mv_X7_worthOf rfl rfl o_78 rfl rfl (Nat.le_of_ble_eq_true rfl) ⟨Nat.le_refl _, Nat.le_refl _⟩ t (fun r11 σ10 t => ?_)
    try dsimp only at t
    exact fr_iret dX7_tellRoad_56 rfl (Nat.le_refl _) (Nat.le_refl _) t
  have t := t.2
  by_cases h12 : x2 = 5
  · have t := t.1 h12
    refine ar_tableIn (tgt := 57) dX7_tellRoad_1 (by rw [h12]; decide) (by rw [h12]; decide) (by rw [h12]; rfl) (by decide) ?_
    refine ar_aload_n (i := 0) dX7_tellRoad_57 rfl rfl ?_
    refine fr_getR (t := 7) (j := 10) (r := 81) dX7_tellRoad_58 fs_X7_16 o_78 rfl rfl (by decide) ?_
    refine ar_iconst (v := 5) dX7_tellRoad_61 (by decide) ?_
    refine ar_iload_n (i := 1) dX7_tellRoad_62 rfl rfl ?_
    refine ar_imul dX7_tellRoad_63 ?_
    refine ar_iconst (v := 4) dX7_tellRoad_64 (by decide) ?_
    refine ar_iadd dX7_tellRoad_65 ?_
    obtain ⟨h13, t⟩ := t
    refine fr_iald (n := 45) dX7_tellRoad_66 a_81 h13 ?_
    exact fr_iret dX7_tellRoad_67 rfl (Nat.le_refl _) (Nat.le_refl _) t
  have t := t.2
  have t := t h1 h3 h5 h7 h9 h12
  refine ar_tableOut (tgt := 68) dX7_tellRoad_1 (by have q0 := sw_ne h1 (n := 0) (by decide); have q1 := sw_ne h3 (n := 1) (by decide); have q2 := sw_ne h5 (n := 2) (by decide); have q3 := sw_ne h7 (n := 3) (by decide); have q4 := sw_ne h9 (n := 4) (by decide); have q5 := sw_ne h12 (n := 5) (by decide); omega) (by decide) ?_
  refine ar_bipush (v := -102) dX7_tellRoad_68 (by decide) ?_
  exact fr_iret dX7_tellRoad_70 rfl (Nat.le_refl _) (Nat.le_refl _) t

def t_X7_road (E : am_E) (d : Nat) (x1 : Int32) (x2 : Int32) (σ : FH) (Q : Int32 → FH → Prop) : Prop :=
  fMi E d mX7_isRoad [.ref 78, .int x1] σ (fun r2 σ1 => ((r2 = 0 → Q (-101) σ1) ∧
  (¬ r2 = 0 → fMi E d mX7_tellRoad [.ref 78, .int x1, .int x2] σ1 (fun r5 σ4 => Q r5 σ4))))
set_option maxRecDepth 100000 in
set_option maxHeartbeats 4000000 in
theorem v_X7_road {E : am_E} {d : Nat} {σ : FH} {Q : Int32 → FH → Prop} {x1 : Int32} {x2 : Int32} (t : t_X7_road E d x1 x2 σ Q) : fMi E (d + 1) mX7_road [.ref 78, .int x1, .int x2] σ Q := by
  refine fr_ofG [some (.ref 78), some (.int x1), some (.int x2)] (by decide) rfl (Nat.le_of_ble_eq_true rfl) ?_
  unfold t_X7_road at t
  refine ar_aload_n (i := 0) dX7_road_0 rfl rfl ?_
  refine ar_iload_n (i := 1) dX7_road_1 rfl rfl ?_
  refine fr_callVi (M' := mX7_isRoad) [_] dX7_road_2 ml_X7_125 mv_X7_isRoad rfl rfl o_78 rfl rfl (Nat.le_of_ble_eq_true rfl) ⟨Nat.le_refl _, Nat.le_refl _⟩ t (fun r2 σ1 t => ?_)
  try dsimp only at t
  refine ar_if_eq (tgt := 17) dX7_road_5 (by decide) (fun h3 => ?_) (fun h3 => ?_)
  · have t := t.1 h3
    refine ar_bipush (v := -101) dX7_road_17 (by decide) ?_
    exact fr_iret dX7_road_19 rfl (Nat.le_refl _) (Nat.le_refl _) t
  · have t := t.2 h3
    refine ar_aload_n (i := 0) dX7_road_8 rfl rfl ?_
    refine ar_iload_n (i := 1) dX7_road_9 rfl rfl ?_
    refine ar_iload_n (i := 2) dX7_road_10 rfl rfl ?_
    refine fr_callVi (M' := mX7_tellRoad) [_, _] dX7_road_11 ml_X7_128 mv_X7_tellRoad rfl rfl o_78 rfl rfl (Nat.le_of_ble_eq_true rfl) ⟨Nat.le_refl _, Nat.le_refl _⟩ t (fun r5 σ4 t => ?_)
    try dsimp only at t
    refine ar_goto (tgt := 19) dX7_road_14 (by decide) ?_
    exact fr_iret dX7_road_19 rfl (Nat.le_refl _) (Nat.le_refl _) t

def t_X7_as (E : am_E) (d : Nat) (x1 : Int32) (x2 : Int32) (σ : FH) (Q : Int32 → FH → Prop) : Prop :=
  fMi E d mX7_isRoad [.ref 78, .int x1] σ (fun r2 σ1 => ((¬ r2 = 0 → fMi E d mX7_in [.long x2.toInt64, .long 0, .long 4] σ1 (fun r5 σ4 => ((¬ r5 = 0 → (vp_in (5 * x1) 45 ∧ (∀ v8 : Int32, v8 = (σ4.1 81 (5 * x1).toNatClampNeg) → ((x2 = 0 → Q x1 σ4) ∧
      (¬ x2 = 0 → ((x2 = v8 → Q x1 σ4) ∧
        (¬ x2 = v8 → ((¬ x2 = 3 → Q (-1) σ4) ∧
          (x2 = 3 → ((¬ v8 = 4 → Q (-1) σ4) ∧
            (v8 = 4 → Q x1 σ4))))))))))) ∧
    (r5 = 0 → Q (-102) σ4)))) ∧
  (r2 = 0 → Q (-101) σ1)))
set_option maxRecDepth 100000 in
set_option maxHeartbeats 4000000 in
theorem v_X7_as {E : am_E} {d : Nat} {σ : FH} {Q : Int32 → FH → Prop} {x1 : Int32} {x2 : Int32} (t : t_X7_as E d x1 x2 σ Q) : fMi E (d + 1) mX7_as [.ref 78, .int x1, .int x2] σ Q := by
  refine fr_ofG [some (.ref 78), some (.int x1), some (.int x2), none, none] (by decide) rfl (Nat.le_of_ble_eq_true rfl) ?_
  unfold t_X7_as at t
  refine ar_aload_n (i := 0) dX7_as_0 rfl rfl ?_
  refine ar_iload_n (i := 1) dX7_as_1 rfl rfl ?_
  refine fr_callVi (M' := mX7_isRoad) [_] dX7_as_2 ml_X7_125 mv_X7_isRoad rfl rfl o_78 rfl rfl (Nat.le_of_ble_eq_true rfl) ⟨Nat.le_refl _, Nat.le_refl _⟩ t (fun r2 σ1 t => ?_)
  try dsimp only at t
  refine ar_if_ne (tgt := 11) dX7_as_5 (by decide) (fun h3 => ?_) (fun h3 => ?_)
  · have t := t.1 h3
    refine ar_iload_n (i := 2) dX7_as_11 rfl rfl ?_
    refine ar_i2l dX7_as_12 ?_
    refine ar_lconst (v := 0) dX7_as_13 (by decide) ?_
    refine ar_ldc2 dX7_as_14 ct_X7_132 ?_
    refine fr_callSi (M' := mX7_in) [_, _, _] dX7_as_17 ml_X7_67 mv_X7_in rfl rfl (Nat.le_of_ble_eq_true rfl) ⟨Nat.le_refl _, Nat.le_refl _⟩ t (fun r5 σ4 t => ?_)
    try dsimp only at t
    refine ar_if_ne (tgt := 26) dX7_as_20 (by decide) (fun h6 => ?_) (fun h6 => ?_)
    · have t := t.1 h6
      refine ar_aload_n (i := 0) dX7_as_26 rfl rfl ?_
      refine fr_getR (t := 7) (j := 10) (r := 81) dX7_as_27 fs_X7_16 o_78 rfl rfl (by decide) ?_
      refine ar_iconst (v := 5) dX7_as_30 (by decide) ?_
      refine ar_iload_n (i := 1) dX7_as_31 rfl rfl ?_
      refine ar_imul dX7_as_32 ?_
      obtain ⟨h7, t⟩ := t
      refine fr_iald (n := 45) dX7_as_33 a_81 h7 ?_
      refine ar_istore_n (i := 3) (lo2 := [_, _, _, _, none]) dX7_as_34 rfl (Nat.le_of_ble_eq_true rfl) rfl rfl ?_
      have t := t _ rfl
      refine ar_iload_n (i := 2) dX7_as_35 rfl rfl ?_
      refine ar_if_eq (tgt := 54) dX7_as_36 (by decide) (fun h9 => ?_) (fun h9 => ?_)
      · have t := t.1 h9
        refine ar_iconst (v := 1) dX7_as_54 (by decide) ?_
        refine ar_goto (tgt := 59) dX7_as_55 (by decide) ?_
        refine ar_istore (i := 4) (lo2 := [_, _, _, _, _]) dX7_as_59 (Nat.le_of_ble_eq_true rfl) rfl rfl ?_
        refine ar_iload (i := 4) dX7_as_61 rfl ?_
        refine ar_if_eq (tgt := 70) dX7_as_63 (by decide) (fun h => absurd h (by decide)) (fun _ => ?_)
        refine ar_iload_n (i := 1) dX7_as_66 rfl rfl ?_
        refine ar_goto (tgt := 71) dX7_as_67 (by decide) ?_
        exact fr_iret dX7_as_71 rfl (Nat.le_refl _) (Nat.le_refl _) t
      · have t := t.2 h9
        refine ar_iload_n (i := 2) dX7_as_39 rfl rfl ?_
        refine ar_iload_n (i := 3) dX7_as_40 rfl rfl ?_
        refine ar_icmp_eq (tgt := 54) dX7_as_41 (by decide) (fun h11 => ?_) (fun h11 => ?_)
        · have t := t.1 h11
          refine ar_iconst (v := 1) dX7_as_54 (by decide) ?_
          refine ar_goto (tgt := 59) dX7_as_55 (by decide) ?_
          refine ar_istore (i := 4) (lo2 := [_, _, _, _, _]) dX7_as_59 (Nat.le_of_ble_eq_true rfl) rfl rfl ?_
          refine ar_iload (i := 4) dX7_as_61 rfl ?_
          refine ar_if_eq (tgt := 70) dX7_as_63 (by decide) (fun h => absurd h (by decide)) (fun _ => ?_)
          refine ar_iload_n (i := 1) dX7_as_66 rfl rfl ?_
          refine ar_goto (tgt := 71) dX7_as_67 (by decide) ?_
          exact fr_iret dX7_as_71 rfl (Nat.le_refl _) (Nat.le_refl _) t
        · have t := t.2 h11
          refine ar_iload_n (i := 2) dX7_as_44 rfl rfl ?_
          refine ar_iconst (v := 3) dX7_as_45 (by decide) ?_
          refine ar_icmp_ne (tgt := 58) dX7_as_46 (by decide) (fun h13 => ?_) (fun h13 => ?_)
          · have t := t.1 h13
            refine ar_iconst (v := 0) dX7_as_58 (by decide) ?_
            refine ar_istore (i := 4) (lo2 := [_, _, _, _, _]) dX7_as_59 (Nat.le_of_ble_eq_true rfl) rfl rfl ?_
            refine ar_iload (i := 4) dX7_as_61 rfl ?_
            refine ar_if_eq (tgt := 70) dX7_as_63 (by decide) (fun _ => ?_) (fun h => absurd h (by decide))
            refine ar_iconst (v := -1) dX7_as_70 (by decide) ?_
            exact fr_iret dX7_as_71 rfl (Nat.le_refl _) (Nat.le_refl _) t
          · have t := t.2 h13
            refine ar_iload_n (i := 3) dX7_as_49 rfl rfl ?_
            refine ar_iconst (v := 4) dX7_as_50 (by decide) ?_
            refine ar_icmp_ne (tgt := 58) dX7_as_51 (by decide) (fun h15 => ?_) (fun h15 => ?_)
            · have t := t.1 h15
              refine ar_iconst (v := 0) dX7_as_58 (by decide) ?_
              refine ar_istore (i := 4) (lo2 := [_, _, _, _, _]) dX7_as_59 (Nat.le_of_ble_eq_true rfl) rfl rfl ?_
              refine ar_iload (i := 4) dX7_as_61 rfl ?_
              refine ar_if_eq (tgt := 70) dX7_as_63 (by decide) (fun _ => ?_) (fun h => absurd h (by decide))
              refine ar_iconst (v := -1) dX7_as_70 (by decide) ?_
              exact fr_iret dX7_as_71 rfl (Nat.le_refl _) (Nat.le_refl _) t
            · have t := t.2 h15
              refine ar_iconst (v := 1) dX7_as_54 (by decide) ?_
              refine ar_goto (tgt := 59) dX7_as_55 (by decide) ?_
              refine ar_istore (i := 4) (lo2 := [_, _, _, _, _]) dX7_as_59 (Nat.le_of_ble_eq_true rfl) rfl rfl ?_
              refine ar_iload (i := 4) dX7_as_61 rfl ?_
              refine ar_if_eq (tgt := 70) dX7_as_63 (by decide) (fun h => absurd h (by decide)) (fun _ => ?_)
              refine ar_iload_n (i := 1) dX7_as_66 rfl rfl ?_
              refine ar_goto (tgt := 71) dX7_as_67 (by decide) ?_
              exact fr_iret dX7_as_71 rfl (Nat.le_refl _) (Nat.le_refl _) t
    · have t := t.2 h6
      refine ar_bipush (v := -102) dX7_as_23 (by decide) ?_
      exact fr_iret dX7_as_25 rfl (Nat.le_refl _) (Nat.le_refl _) t
  · have t := t.2 h3
    refine ar_bipush (v := -101) dX7_as_8 (by decide) ?_
    exact fr_iret dX7_as_10 rfl (Nat.le_refl _) (Nat.le_refl _) t

def t_X7_worsen (E : am_E) (d : Nat) (x1 : Int32) (x2 : Int32) (σ : FH) (Q : Int32 → FH → Prop) : Prop :=
  fMi E d mX7_isRoad [.ref 78, .int x1] σ (fun r2 σ1 => ((¬ r2 = 0 → fMi E d mX7_in [.long x2.toInt64, .long 1, .long 9] σ1 (fun r5 σ4 => ((¬ r5 = 0 → (vp_in ((5 * x1) + 3) 45 ∧ (∀ v8 : Int32, v8 = (σ4.1 81 ((5 * x1) + 3).toNatClampNeg) → (vp_in ((5 * x1) + 3) 45 ∧ (∀ σ10 : FH, σ10 = fsI σ4 81 ((5 * x1) + 3).toNatClampNeg x2 → Q v8 σ10))))) ∧
    (r5 = 0 → Q (-102) σ4)))) ∧
  (r2 = 0 → Q (-101) σ1)))
set_option maxRecDepth 100000 in
set_option maxHeartbeats 4000000 in
theorem v_X7_worsen {E : am_E} {d : Nat} {σ : FH} {Q : Int32 → FH → Prop} {x1 : Int32} {x2 : Int32} (t : t_X7_worsen E d x1 x2 σ Q) : fMi E (d + 1) mX7_worsen [.ref 78, .int x1, .int x2] σ Q := by
  refine fr_ofG [some (.ref 78), some (.int x1), some (.int x2), none] (by decide) rfl (Nat.le_of_ble_eq_true rfl) ?_
  unfold t_X7_worsen at t
  refine ar_aload_n (i := 0) dX7_worsen_0 rfl rfl ?_
  refine ar_iload_n (i := 1) dX7_worsen_1 rfl rfl ?_
  refine fr_callVi (M' := mX7_isRoad) [_] dX7_worsen_2 ml_X7_125 mv_X7_isRoad rfl rfl o_78 rfl rfl (Nat.le_of_ble_eq_true rfl) ⟨Nat.le_refl _, Nat.le_refl _⟩ t (fun r2 σ1 t => ?_)
  try dsimp only at t
  refine ar_if_ne (tgt := 11) dX7_worsen_5 (by decide) (fun h3 => ?_) (fun h3 => ?_)
  · have t := t.1 h3
    refine ar_iload_n (i := 2) dX7_worsen_11 rfl rfl ?_
    refine ar_i2l dX7_worsen_12 ?_
    refine ar_lconst (v := 1) dX7_worsen_13 (by decide) ?_
    refine ar_ldc2 dX7_worsen_14 ct_X7_80 ?_
    refine fr_callSi (M' := mX7_in) [_, _, _] dX7_worsen_17 ml_X7_67 mv_X7_in rfl rfl (Nat.le_of_ble_eq_true rfl) ⟨Nat.le_refl _, Nat.le_refl _⟩ t (fun r5 σ4 t => ?_)
    try dsimp only at t
    refine ar_if_ne (tgt := 26) dX7_worsen_20 (by decide) (fun h6 => ?_) (fun h6 => ?_)
    · have t := t.1 h6
      refine ar_aload_n (i := 0) dX7_worsen_26 rfl rfl ?_
      refine fr_getR (t := 7) (j := 10) (r := 81) dX7_worsen_27 fs_X7_16 o_78 rfl rfl (by decide) ?_
      refine ar_iconst (v := 5) dX7_worsen_30 (by decide) ?_
      refine ar_iload_n (i := 1) dX7_worsen_31 rfl rfl ?_
      refine ar_imul dX7_worsen_32 ?_
      refine ar_iconst (v := 3) dX7_worsen_33 (by decide) ?_
      refine ar_iadd dX7_worsen_34 ?_
      obtain ⟨h7, t⟩ := t
      refine fr_iald (n := 45) dX7_worsen_35 a_81 h7 ?_
      refine ar_istore_n (i := 3) (lo2 := [_, _, _, _]) dX7_worsen_36 rfl (Nat.le_of_ble_eq_true rfl) rfl rfl ?_
      have t := t _ rfl
      refine ar_aload_n (i := 0) dX7_worsen_37 rfl rfl ?_
      refine fr_getR (t := 7) (j := 10) (r := 81) dX7_worsen_38 fs_X7_16 o_78 rfl rfl (by decide) ?_
      refine ar_iconst (v := 5) dX7_worsen_41 (by decide) ?_
      refine ar_iload_n (i := 1) dX7_worsen_42 rfl rfl ?_
      refine ar_imul dX7_worsen_43 ?_
      refine ar_iconst (v := 3) dX7_worsen_44 (by decide) ?_
      refine ar_iadd dX7_worsen_45 ?_
      refine ar_iload_n (i := 2) dX7_worsen_46 rfl rfl ?_
      obtain ⟨h9, t⟩ := t
      refine fr_iast (n := 45) dX7_worsen_47 a_81 h9 ?_
      have t := t _ rfl
      refine ar_iload_n (i := 3) dX7_worsen_48 rfl rfl ?_
      exact fr_iret dX7_worsen_49 rfl (Nat.le_refl _) (Nat.le_refl _) t
    · have t := t.2 h6
      refine ar_bipush (v := -102) dX7_worsen_23 (by decide) ?_
      exact fr_iret dX7_worsen_25 rfl (Nat.le_refl _) (Nat.le_refl _) t
  · have t := t.2 h3
    refine ar_bipush (v := -101) dX7_worsen_8 (by decide) ?_
    exact fr_iret dX7_worsen_10 rfl (Nat.le_refl _) (Nat.le_refl _) t

def t_X7_licence (E : am_E) (d : Nat) (x1 : Int32) (x2 : Int32) (σ : FH) (Q : Int32 → FH → Prop) : Prop :=
  fMi E d mX7_isRoad [.ref 78, .int x1] σ (fun r2 σ1 => ((¬ r2 = 0 → (vp_in ((5 * x1) + 4) 45 ∧ (∀ v5 : Int32, v5 = (σ1.1 81 ((5 * x1) + 4).toNatClampNeg) → ((x2 = 0 → (vp_in ((5 * x1) + 4) 45 ∧ (∀ σ8 : FH, σ8 = fsI σ1 81 ((5 * x1) + 4).toNatClampNeg 0 → Q v5 σ8))) ∧
    (¬ x2 = 0 → (vp_in ((5 * x1) + 4) 45 ∧ (∀ σ10 : FH, σ10 = fsI σ1 81 ((5 * x1) + 4).toNatClampNeg 1 → Q v5 σ10))))))) ∧
  (r2 = 0 → Q (-101) σ1)))
set_option maxRecDepth 100000 in
set_option maxHeartbeats 4000000 in
theorem v_X7_licence {E : am_E} {d : Nat} {σ : FH} {Q : Int32 → FH → Prop} {x1 : Int32} {x2 : Int32} (t : t_X7_licence E d x1 x2 σ Q) : fMi E (d + 1) mX7_licence [.ref 78, .int x1, .int x2] σ Q := by
  refine fr_ofG [some (.ref 78), some (.int x1), some (.int x2), none] (by decide) rfl (Nat.le_of_ble_eq_true rfl) ?_
  unfold t_X7_licence at t
  refine ar_aload_n (i := 0) dX7_licence_0 rfl rfl ?_
  refine ar_iload_n (i := 1) dX7_licence_1 rfl rfl ?_
  refine fr_callVi (M' := mX7_isRoad) [_] dX7_licence_2 ml_X7_125 mv_X7_isRoad rfl rfl o_78 rfl rfl (Nat.le_of_ble_eq_true rfl) ⟨Nat.le_refl _, Nat.le_refl _⟩ t (fun r2 σ1 t => ?_)
  try dsimp only at t
  refine ar_if_ne (tgt := 11) dX7_licence_5 (by decide) (fun h3 => ?_) (fun h3 => ?_)
  · have t := t.1 h3
    refine ar_aload_n (i := 0) dX7_licence_11 rfl rfl ?_
    refine fr_getR (t := 7) (j := 10) (r := 81) dX7_licence_12 fs_X7_16 o_78 rfl rfl (by decide) ?_
    refine ar_iconst (v := 5) dX7_licence_15 (by decide) ?_
    refine ar_iload_n (i := 1) dX7_licence_16 rfl rfl ?_
    refine ar_imul dX7_licence_17 ?_
    refine ar_iconst (v := 4) dX7_licence_18 (by decide) ?_
    refine ar_iadd dX7_licence_19 ?_
    obtain ⟨h4, t⟩ := t
    refine fr_iald (n := 45) dX7_licence_20 a_81 h4 ?_
    refine ar_istore_n (i := 3) (lo2 := [_, _, _, _]) dX7_licence_21 rfl (Nat.le_of_ble_eq_true rfl) rfl rfl ?_
    have t := t _ rfl
    refine ar_aload_n (i := 0) dX7_licence_22 rfl rfl ?_
    refine fr_getR (t := 7) (j := 10) (r := 81) dX7_licence_23 fs_X7_16 o_78 rfl rfl (by decide) ?_
    refine ar_iconst (v := 5) dX7_licence_26 (by decide) ?_
    refine ar_iload_n (i := 1) dX7_licence_27 rfl rfl ?_
    refine ar_imul dX7_licence_28 ?_
    refine ar_iconst (v := 4) dX7_licence_29 (by decide) ?_
    refine ar_iadd dX7_licence_30 ?_
    refine ar_iload_n (i := 2) dX7_licence_31 rfl rfl ?_
    refine ar_if_eq (tgt := 39) dX7_licence_32 (by decide) (fun h6 => ?_) (fun h6 => ?_)
    · have t := t.1 h6
      refine ar_iconst (v := 0) dX7_licence_39 (by decide) ?_
      obtain ⟨h7, t⟩ := t
      refine fr_iast (n := 45) dX7_licence_40 a_81 h7 ?_
      have t := t _ rfl
      refine ar_iload_n (i := 3) dX7_licence_41 rfl rfl ?_
      exact fr_iret dX7_licence_42 rfl (Nat.le_refl _) (Nat.le_refl _) t
    · have t := t.2 h6
      refine ar_iconst (v := 1) dX7_licence_35 (by decide) ?_
      refine ar_goto (tgt := 40) dX7_licence_36 (by decide) ?_
      obtain ⟨h9, t⟩ := t
      refine fr_iast (n := 45) dX7_licence_40 a_81 h9 ?_
      have t := t _ rfl
      refine ar_iload_n (i := 3) dX7_licence_41 rfl rfl ?_
      exact fr_iret dX7_licence_42 rfl (Nat.le_refl _) (Nat.le_refl _) t
  · have t := t.2 h3
    refine ar_bipush (v := -101) dX7_licence_8 (by decide) ?_
    exact fr_iret dX7_licence_10 rfl (Nat.le_refl _) (Nat.le_refl _) t

def t_X7_isPilgrim (E : am_E) (d : Nat) (x1 : Int32) (σ : FH) (Q : Int32 → FH → Prop) : Prop :=
  fMi E d mX7_in [.long x1.toInt64, .long 0, .long (((σ.1 78 11) - 1).toInt64)] σ (fun r2 σ1 => ((r2 = 0 ∨ r2 = 1) ∧ Q r2 σ1))
set_option maxRecDepth 100000 in
set_option maxHeartbeats 4000000 in
theorem v_X7_isPilgrim {E : am_E} {d : Nat} {σ : FH} {Q : Int32 → FH → Prop} {x1 : Int32} (t : t_X7_isPilgrim E d x1 σ Q) : fMi E (d + 1) mX7_isPilgrim [.ref 78, .int x1] σ Q := by
  refine fr_ofG [some (.ref 78), some (.int x1)] (by decide) rfl (Nat.le_of_ble_eq_true rfl) ?_
  unfold t_X7_isPilgrim at t
  refine ar_iload_n (i := 1) dX7_isPilgrim_0 rfl rfl ?_
  refine ar_i2l dX7_isPilgrim_1 ?_
  refine ar_lconst (v := 0) dX7_isPilgrim_2 (by decide) ?_
  refine ar_aload_n (i := 0) dX7_isPilgrim_3 rfl rfl ?_
  refine fr_getI (t := 7) (j := 11) dX7_isPilgrim_4 fs_X7_110 o_78 rfl ?_
  refine ar_iconst (v := 1) dX7_isPilgrim_7 (by decide) ?_
  refine ar_isub dX7_isPilgrim_8 ?_
  refine ar_i2l dX7_isPilgrim_9 ?_
  refine fr_callSi (M' := mX7_in) [_, _, _] dX7_isPilgrim_10 ml_X7_67 mv_X7_in rfl rfl (Nat.le_of_ble_eq_true rfl) ⟨Nat.le_refl _, Nat.le_refl _⟩ t (fun r2 σ1 t => ?_)
  try dsimp only at t
  exact fr_zret dX7_isPilgrim_13 rfl (Nat.le_refl _) (Nat.le_refl _) t.1 t.2

/-- X7.pilgrim: the machine at the loop head 23 -/
def h_X7_pilgrim_23 (E : am_E) (d : Nat) (x1 : Int32) (σ : FH) (Q : Int32 → FH → Prop) : Prop := fG E (d + 1) mX7_pilgrim 23 [some (.ref 78), some (.int x1)] [] σ (qi Q)
def t_X7_pilgrim_23 (E : am_E) (d : Nat) (x1 : Int32) (σ : FH) (Q : Int32 → FH → Prop) : Prop :=
  ((8 ≤ x1 → (∀ σ6 : FH, σ6 = fsI σ 78 11 ((σ.1 78 11) + 1) → Q ((σ6.1 78 11) - 1) σ6)) ∧
  (¬ 8 ≤ x1 → (vp_in ((5 * (σ.1 78 11)) + (x1 - x1 / 5 * 5)) 20 ∧ (∀ σ8 : FH, σ8 = fsI σ 82 ((5 * (σ.1 78 11)) + (x1 - x1 / 5 * 5)).toNatClampNeg 0 → (vp_in ((8 * (σ8.1 78 11)) + x1) 32 ∧ (∀ σ10 : FH, σ10 = fsI σ8 83 ((8 * (σ8.1 78 11)) + x1).toNatClampNeg 0 → h_X7_pilgrim_23 E d (x1 + 1) σ10 Q))))))
set_option maxRecDepth 100000 in
set_option maxHeartbeats 4000000 in
theorem v_X7_pilgrim_23 {E : am_E} {d : Nat} {σ : FH} {Q : Int32 → FH → Prop} {x1 : Int32} (t : t_X7_pilgrim_23 E d x1 σ Q) : h_X7_pilgrim_23 E d x1 σ Q := by
  unfold h_X7_pilgrim_23
  unfold t_X7_pilgrim_23 at t
  refine ar_iload_n (i := 1) dX7_pilgrim_23 rfl rfl ?_
  refine ar_bipush (v := 8) dX7_pilgrim_24 (by decide) ?_
  refine ar_icmp_ge (tgt := 66) dX7_pilgrim_26 (by decide) (fun h5 => ?_) (fun h5 => ?_)
  · have t := t.1 h5
    refine ar_aload_n (i := 0) dX7_pilgrim_66 rfl rfl ?_
    refine ar_dup dX7_pilgrim_67 rfl ?_
    refine fr_getI (t := 7) (j := 11) dX7_pilgrim_68 fs_X7_110 o_78 rfl ?_
    refine ar_iconst (v := 1) dX7_pilgrim_71 (by decide) ?_
    refine ar_iadd dX7_pilgrim_72 ?_
    refine fr_putI (t := 7) (j := 11) dX7_pilgrim_73 fq_X7_110 o_78 rfl (Or.inl rfl) ?_
    have t := t _ rfl
    refine ar_aload_n (i := 0) dX7_pilgrim_76 rfl rfl ?_
    refine fr_getI (t := 7) (j := 11) dX7_pilgrim_77 fs_X7_110 o_78 rfl ?_
    refine ar_iconst (v := 1) dX7_pilgrim_80 (by decide) ?_
    refine ar_isub dX7_pilgrim_81 ?_
    exact fr_iret dX7_pilgrim_82 rfl (Nat.le_refl _) (Nat.le_refl _) t
  · have t := t.2 h5
    refine ar_aload_n (i := 0) dX7_pilgrim_29 rfl rfl ?_
    refine fr_getR (t := 7) (j := 12) (r := 82) dX7_pilgrim_30 fs_X7_19 o_78 rfl rfl (by decide) ?_
    refine ar_iconst (v := 5) dX7_pilgrim_33 (by decide) ?_
    refine ar_aload_n (i := 0) dX7_pilgrim_34 rfl rfl ?_
    refine fr_getI (t := 7) (j := 11) dX7_pilgrim_35 fs_X7_110 o_78 rfl ?_
    refine ar_imul dX7_pilgrim_38 ?_
    refine ar_iload_n (i := 1) dX7_pilgrim_39 rfl rfl ?_
    refine ar_iconst (v := 5) dX7_pilgrim_40 (by decide) ?_
    refine ar_irem dX7_pilgrim_41 (by decide) ?_
    refine ar_iadd dX7_pilgrim_42 ?_
    refine ar_iconst (v := 0) dX7_pilgrim_43 (by decide) ?_
    obtain ⟨h7, t⟩ := t
    refine fr_iast (n := 20) dX7_pilgrim_44 a_82 h7 ?_
    have t := t _ rfl
    refine ar_aload_n (i := 0) dX7_pilgrim_45 rfl rfl ?_
    refine fr_getR (t := 7) (j := 13) (r := 83) dX7_pilgrim_46 fs_X7_22 o_78 rfl rfl (by decide) ?_
    refine ar_bipush (v := 8) dX7_pilgrim_49 (by decide) ?_
    refine ar_aload_n (i := 0) dX7_pilgrim_51 rfl rfl ?_
    refine fr_getI (t := 7) (j := 11) dX7_pilgrim_52 fs_X7_110 o_78 rfl ?_
    refine ar_imul dX7_pilgrim_55 ?_
    refine ar_iload_n (i := 1) dX7_pilgrim_56 rfl rfl ?_
    refine ar_iadd dX7_pilgrim_57 ?_
    refine ar_iconst (v := 0) dX7_pilgrim_58 (by decide) ?_
    obtain ⟨h9, t⟩ := t
    refine fr_iast (n := 32) dX7_pilgrim_59 a_83 h9 ?_
    have t := t _ rfl
    refine ar_iinc (i := 1) (v := _ + 1) (lo2 := [_, _]) dX7_pilgrim_60 rfl (ii_1 _) (Nat.le_of_ble_eq_true rfl) rfl rfl ?_
    refine ar_goto (tgt := 23) dX7_pilgrim_63 (by decide) ?_
    exact t
def t_X7_pilgrim (E : am_E) (d : Nat) (σ : FH) (Q : Int32 → FH → Prop) : Prop :=
  fMi E d mX7_lacks [.ref 78] σ (fun r2 σ1 => ((r2 = 0 → ((¬ (σ1.1 78 11) = 4 → h_X7_pilgrim_23 E d 0 σ1 Q) ∧
    ((σ1.1 78 11) = 4 → Q (-104) σ1))) ∧
  (¬ r2 = 0 → Q (-103) σ1)))
set_option maxRecDepth 100000 in
set_option maxHeartbeats 4000000 in
theorem v_X7_pilgrim {E : am_E} {d : Nat} {σ : FH} {Q : Int32 → FH → Prop} (t : t_X7_pilgrim E d σ Q) : fMi E (d + 1) mX7_pilgrim [.ref 78] σ Q := by
  refine fr_ofG [some (.ref 78), none] (by decide) rfl (Nat.le_of_ble_eq_true rfl) ?_
  unfold t_X7_pilgrim at t
  refine ar_aload_n (i := 0) dX7_pilgrim_0 rfl rfl ?_
  refine fr_callVi (M' := mX7_lacks) [] dX7_pilgrim_1 ml_X7_134 mv_X7_lacks rfl rfl o_78 rfl rfl (Nat.le_of_ble_eq_true rfl) ⟨Nat.le_refl _, Nat.le_refl _⟩ t (fun r2 σ1 t => ?_)
  try dsimp only at t
  refine ar_if_eq (tgt := 10) dX7_pilgrim_4 (by decide) (fun h3 => ?_) (fun h3 => ?_)
  · have t := t.1 h3
    refine ar_aload_n (i := 0) dX7_pilgrim_10 rfl rfl ?_
    refine fr_getI (t := 7) (j := 11) dX7_pilgrim_11 fs_X7_110 o_78 rfl ?_
    refine ar_iconst (v := 4) dX7_pilgrim_14 (by decide) ?_
    refine ar_icmp_ne (tgt := 21) dX7_pilgrim_15 (by decide) (fun h4 => ?_) (fun h4 => ?_)
    · have t := t.1 h4
      refine ar_iconst (v := 0) dX7_pilgrim_21 (by decide) ?_
      refine ar_istore_n (i := 1) (lo2 := [_, _]) dX7_pilgrim_22 rfl (Nat.le_of_ble_eq_true rfl) rfl rfl ?_
      exact t
    · have t := t.2 h4
      refine ar_bipush (v := -104) dX7_pilgrim_18 (by decide) ?_
      exact fr_iret dX7_pilgrim_20 rfl (Nat.le_refl _) (Nat.le_refl _) t
  · have t := t.2 h3
    refine ar_bipush (v := -103) dX7_pilgrim_7 (by decide) ?_
    exact fr_iret dX7_pilgrim_9 rfl (Nat.le_refl _) (Nat.le_refl _) t

def t_X7_tell (E : am_E) (d : Nat) (x1 : Int32) (x2 : Int32) (σ : FH) (Q : Int32 → FH → Prop) : Prop :=
  fMi E d mX7_in [.long x2.toInt64, .long 10, .long 17] σ (fun r2 σ1 => ((r2 = 0 → fMi E d mX7_in [.long x2.toInt64, .long 0, .long 4] σ1 (fun r5 σ4 => ((r5 = 0 → Q (-102) σ4) ∧
    (¬ r5 = 0 → (vp_in ((5 * x1) + x2) 20 ∧ Q (σ4.1 82 ((5 * x1) + x2).toNatClampNeg) σ4))))) ∧
  (¬ r2 = 0 → (vp_in (((8 * x1) + x2) - 10) 32 ∧ Q (σ1.1 83 (((8 * x1) + x2) - 10).toNatClampNeg) σ1))))
set_option maxRecDepth 100000 in
set_option maxHeartbeats 4000000 in
theorem v_X7_tell {E : am_E} {d : Nat} {σ : FH} {Q : Int32 → FH → Prop} {x1 : Int32} {x2 : Int32} (t : t_X7_tell E d x1 x2 σ Q) : fMi E (d + 1) mX7_tell [.ref 78, .int x1, .int x2] σ Q := by
  refine fr_ofG [some (.ref 78), some (.int x1), some (.int x2)] (by decide) rfl (Nat.le_of_ble_eq_true rfl) ?_
  unfold t_X7_tell at t
  refine ar_iload_n (i := 2) dX7_tell_0 rfl rfl ?_
  refine ar_i2l dX7_tell_1 ?_
  refine ar_ldc2 dX7_tell_2 ct_X7_138 ?_
  refine ar_ldc2 dX7_tell_5 ct_X7_140 ?_
  refine fr_callSi (M' := mX7_in) [_, _, _] dX7_tell_8 ml_X7_67 mv_X7_in rfl rfl (Nat.le_of_ble_eq_true rfl) ⟨Nat.le_refl _, Nat.le_refl _⟩ t (fun r2 σ1 t => ?_)
  try dsimp only at t
  refine ar_if_eq (tgt := 29) dX7_tell_11 (by decide) (fun h3 => ?_) (fun h3 => ?_)
  · have t := t.1 h3
    refine ar_iload_n (i := 2) dX7_tell_29 rfl rfl ?_
    refine ar_i2l dX7_tell_30 ?_
    refine ar_lconst (v := 0) dX7_tell_31 (by decide) ?_
    refine ar_ldc2 dX7_tell_32 ct_X7_132 ?_
    refine fr_callSi (M' := mX7_in) [_, _, _] dX7_tell_35 ml_X7_67 mv_X7_in rfl rfl (Nat.le_of_ble_eq_true rfl) ⟨Nat.le_refl _, Nat.le_refl _⟩ t (fun r5 σ4 t => ?_)
    try dsimp only at t
    refine ar_if_eq (tgt := 54) dX7_tell_38 (by decide) (fun h6 => ?_) (fun h6 => ?_)
    · have t := t.1 h6
      refine ar_bipush (v := -102) dX7_tell_54 (by decide) ?_
      exact fr_iret dX7_tell_56 rfl (Nat.le_refl _) (Nat.le_refl _) t
    · have t := t.2 h6
      refine ar_aload_n (i := 0) dX7_tell_41 rfl rfl ?_
      refine fr_getR (t := 7) (j := 12) (r := 82) dX7_tell_42 fs_X7_19 o_78 rfl rfl (by decide) ?_
      refine ar_iconst (v := 5) dX7_tell_45 (by decide) ?_
      refine ar_iload_n (i := 1) dX7_tell_46 rfl rfl ?_
      refine ar_imul dX7_tell_47 ?_
      refine ar_iload_n (i := 2) dX7_tell_48 rfl rfl ?_
      refine ar_iadd dX7_tell_49 ?_
      obtain ⟨h7, t⟩ := t
      refine fr_iald (n := 20) dX7_tell_50 a_82 h7 ?_
      refine ar_goto (tgt := 56) dX7_tell_51 (by decide) ?_
      exact fr_iret dX7_tell_56 rfl (Nat.le_refl _) (Nat.le_refl _) t
  · have t := t.2 h3
    refine ar_aload_n (i := 0) dX7_tell_14 rfl rfl ?_
    refine fr_getR (t := 7) (j := 13) (r := 83) dX7_tell_15 fs_X7_22 o_78 rfl rfl (by decide) ?_
    refine ar_bipush (v := 8) dX7_tell_18 (by decide) ?_
    refine ar_iload_n (i := 1) dX7_tell_20 rfl rfl ?_
    refine ar_imul dX7_tell_21 ?_
    refine ar_iload_n (i := 2) dX7_tell_22 rfl rfl ?_
    refine ar_iadd dX7_tell_23 ?_
    refine ar_bipush (v := 10) dX7_tell_24 (by decide) ?_
    refine ar_isub dX7_tell_26 ?_
    obtain ⟨h8, t⟩ := t
    refine fr_iald (n := 32) dX7_tell_27 a_83 h8 ?_
    exact fr_iret dX7_tell_28 rfl (Nat.le_refl _) (Nat.le_refl _) t

def t_X7_about (E : am_E) (d : Nat) (x1 : Int32) (x2 : Int32) (σ : FH) (Q : Int32 → FH → Prop) : Prop :=
  fMi E d mX7_isPilgrim [.ref 78, .int x1] σ (fun r2 σ1 => ((r2 = 0 → Q (-101) σ1) ∧
  (¬ r2 = 0 → fMi E d mX7_tell [.ref 78, .int x1, .int x2] σ1 (fun r5 σ4 => Q r5 σ4))))
set_option maxRecDepth 100000 in
set_option maxHeartbeats 4000000 in
theorem v_X7_about {E : am_E} {d : Nat} {σ : FH} {Q : Int32 → FH → Prop} {x1 : Int32} {x2 : Int32} (t : t_X7_about E d x1 x2 σ Q) : fMi E (d + 1) mX7_about [.ref 78, .int x1, .int x2] σ Q := by
  refine fr_ofG [some (.ref 78), some (.int x1), some (.int x2)] (by decide) rfl (Nat.le_of_ble_eq_true rfl) ?_
  unfold t_X7_about at t
  refine ar_aload_n (i := 0) dX7_about_0 rfl rfl ?_
  refine ar_iload_n (i := 1) dX7_about_1 rfl rfl ?_
  refine fr_callVi (M' := mX7_isPilgrim) [_] dX7_about_2 ml_X7_142 mv_X7_isPilgrim rfl rfl o_78 rfl rfl (Nat.le_of_ble_eq_true rfl) ⟨Nat.le_refl _, Nat.le_refl _⟩ t (fun r2 σ1 t => ?_)
  try dsimp only at t
  refine ar_if_eq (tgt := 17) dX7_about_5 (by decide) (fun h3 => ?_) (fun h3 => ?_)
  · have t := t.1 h3
    refine ar_bipush (v := -101) dX7_about_17 (by decide) ?_
    exact fr_iret dX7_about_19 rfl (Nat.le_refl _) (Nat.le_refl _) t
  · have t := t.2 h3
    refine ar_aload_n (i := 0) dX7_about_8 rfl rfl ?_
    refine ar_iload_n (i := 1) dX7_about_9 rfl rfl ?_
    refine ar_iload_n (i := 2) dX7_about_10 rfl rfl ?_
    refine fr_callVi (M' := mX7_tell) [_, _] dX7_about_11 ml_X7_145 mv_X7_tell rfl rfl o_78 rfl rfl (Nat.le_of_ble_eq_true rfl) ⟨Nat.le_refl _, Nat.le_refl _⟩ t (fun r5 σ4 t => ?_)
    try dsimp only at t
    refine ar_goto (tgt := 19) dX7_about_14 (by decide) ?_
    exact fr_iret dX7_about_19 rfl (Nat.le_refl _) (Nat.le_refl _) t

def t_X7_isIn (E : am_E) (d : Nat) (x1 : Int32) (σ : FH) (Q : Int32 → FH → Prop) : Prop :=
  (vp_in ((5 * x1) + 3) 20 ∧ ((¬ (σ.1 82 ((5 * x1) + 3).toNatClampNeg) = 1 → Q 0 σ) ∧
  ((σ.1 82 ((5 * x1) + 3).toNatClampNeg) = 1 → Q 1 σ)))
set_option maxRecDepth 100000 in
set_option maxHeartbeats 4000000 in
theorem v_X7_isIn {E : am_E} {d : Nat} {σ : FH} {Q : Int32 → FH → Prop} {x1 : Int32} (t : t_X7_isIn E d x1 σ Q) : fMi E (d + 1) mX7_isIn [.ref 78, .int x1] σ Q := by
  refine fr_ofG [some (.ref 78), some (.int x1)] (by decide) rfl (Nat.le_of_ble_eq_true rfl) ?_
  unfold t_X7_isIn at t
  refine ar_aload_n (i := 0) dX7_isIn_0 rfl rfl ?_
  refine fr_getR (t := 7) (j := 12) (r := 82) dX7_isIn_1 fs_X7_19 o_78 rfl rfl (by decide) ?_
  refine ar_iconst (v := 5) dX7_isIn_4 (by decide) ?_
  refine ar_iload_n (i := 1) dX7_isIn_5 rfl rfl ?_
  refine ar_imul dX7_isIn_6 ?_
  refine ar_iconst (v := 3) dX7_isIn_7 (by decide) ?_
  refine ar_iadd dX7_isIn_8 ?_
  obtain ⟨h1, t⟩ := t
  refine fr_iald (n := 20) dX7_isIn_9 a_82 h1 ?_
  refine ar_iconst (v := 1) dX7_isIn_10 (by decide) ?_
  refine ar_icmp_ne (tgt := 18) dX7_isIn_11 (by decide) (fun h2 => ?_) (fun h2 => ?_)
  · have t := t.1 h2
    refine ar_iconst (v := 0) dX7_isIn_18 (by decide) ?_
    exact fr_zret dX7_isIn_19 rfl (Nat.le_refl _) (Nat.le_refl _) (Or.inl rfl) t
  · have t := t.2 h2
    refine ar_iconst (v := 1) dX7_isIn_14 (by decide) ?_
    refine ar_goto (tgt := 19) dX7_isIn_15 (by decide) ?_
    exact fr_zret dX7_isIn_19 rfl (Nat.le_refl _) (Nat.le_refl _) (Or.inr rfl) t

def t_X7_otherEnd (E : am_E) (d : Nat) (x1 : Int32) (x2 : Int32) (σ : FH) (Q : Int32 → FH → Prop) : Prop :=
  (vp_in ((5 * x1) + 1) 45 ∧ (∀ v2 : Int32, v2 = (σ.1 81 ((5 * x1) + 1).toNatClampNeg) → (vp_in ((5 * x1) + 2) 45 ∧ (∀ v4 : Int32, v4 = (σ.1 81 ((5 * x1) + 2).toNatClampNeg) → ((¬ v2 = x2 → ((¬ v4 = x2 → Q (-1) σ) ∧
    (v4 = x2 → Q v2 σ))) ∧
  (v2 = x2 → Q v4 σ))))))
set_option maxRecDepth 100000 in
set_option maxHeartbeats 4000000 in
theorem v_X7_otherEnd {E : am_E} {d : Nat} {σ : FH} {Q : Int32 → FH → Prop} {x1 : Int32} {x2 : Int32} (t : t_X7_otherEnd E d x1 x2 σ Q) : fMi E (d + 1) mX7_otherEnd [.ref 78, .int x1, .int x2] σ Q := by
  refine fr_ofG [some (.ref 78), some (.int x1), some (.int x2), none, none] (by decide) rfl (Nat.le_of_ble_eq_true rfl) ?_
  unfold t_X7_otherEnd at t
  refine ar_aload_n (i := 0) dX7_otherEnd_0 rfl rfl ?_
  refine fr_getR (t := 7) (j := 10) (r := 81) dX7_otherEnd_1 fs_X7_16 o_78 rfl rfl (by decide) ?_
  refine ar_iconst (v := 5) dX7_otherEnd_4 (by decide) ?_
  refine ar_iload_n (i := 1) dX7_otherEnd_5 rfl rfl ?_
  refine ar_imul dX7_otherEnd_6 ?_
  refine ar_iconst (v := 1) dX7_otherEnd_7 (by decide) ?_
  refine ar_iadd dX7_otherEnd_8 ?_
  obtain ⟨h1, t⟩ := t
  refine fr_iald (n := 45) dX7_otherEnd_9 a_81 h1 ?_
  refine ar_istore_n (i := 3) (lo2 := [_, _, _, _, none]) dX7_otherEnd_10 rfl (Nat.le_of_ble_eq_true rfl) rfl rfl ?_
  have t := t _ rfl
  refine ar_aload_n (i := 0) dX7_otherEnd_11 rfl rfl ?_
  refine fr_getR (t := 7) (j := 10) (r := 81) dX7_otherEnd_12 fs_X7_16 o_78 rfl rfl (by decide) ?_
  refine ar_iconst (v := 5) dX7_otherEnd_15 (by decide) ?_
  refine ar_iload_n (i := 1) dX7_otherEnd_16 rfl rfl ?_
  refine ar_imul dX7_otherEnd_17 ?_
  refine ar_iconst (v := 2) dX7_otherEnd_18 (by decide) ?_
  refine ar_iadd dX7_otherEnd_19 ?_
  obtain ⟨h3, t⟩ := t
  refine fr_iald (n := 45) dX7_otherEnd_20 a_81 h3 ?_
  refine ar_istore (i := 4) (lo2 := [_, _, _, _, _]) dX7_otherEnd_21 (Nat.le_of_ble_eq_true rfl) rfl rfl ?_
  have t := t _ rfl
  refine ar_iload_n (i := 3) dX7_otherEnd_23 rfl rfl ?_
  refine ar_iload_n (i := 2) dX7_otherEnd_24 rfl rfl ?_
  refine ar_icmp_ne (tgt := 33) dX7_otherEnd_25 (by decide) (fun h5 => ?_) (fun h5 => ?_)
  · have t := t.1 h5
    refine ar_iload (i := 4) dX7_otherEnd_33 rfl ?_
    refine ar_iload_n (i := 2) dX7_otherEnd_35 rfl rfl ?_
    refine ar_icmp_ne (tgt := 43) dX7_otherEnd_36 (by decide) (fun h6 => ?_) (fun h6 => ?_)
    · have t := t.1 h6
      refine ar_iconst (v := -1) dX7_otherEnd_43 (by decide) ?_
      exact fr_iret dX7_otherEnd_44 rfl (Nat.le_refl _) (Nat.le_refl _) t
    · have t := t.2 h6
      refine ar_iload_n (i := 3) dX7_otherEnd_39 rfl rfl ?_
      refine ar_goto (tgt := 44) dX7_otherEnd_40 (by decide) ?_
      exact fr_iret dX7_otherEnd_44 rfl (Nat.le_refl _) (Nat.le_refl _) t
  · have t := t.2 h5
    refine ar_iload (i := 4) dX7_otherEnd_28 rfl ?_
    refine ar_goto (tgt := 44) dX7_otherEnd_30 (by decide) ?_
    exact fr_iret dX7_otherEnd_44 rfl (Nat.le_refl _) (Nat.le_refl _) t

def t_X7_mayWalk (E : am_E) (d : Nat) (x1 : Int32) (x2 : Int32) (x3 : Int32) (σ : FH) (Q : Int32 → FH → Prop) : Prop :=
  fMi E d mX7_isIn [.ref 78, .int x1] σ (fun r2 σ1 => ((¬ r2 = 0 → Q 0 σ1) ∧
  (r2 = 0 → (vp_in (5 * x1) 20 ∧ fMi E d mX7_otherEnd [.ref 78, .int x2, .int (σ1.1 82 (5 * x1).toNatClampNeg)] σ1 (fun r6 σ5 => ((r6 = (-1) → Q 0 σ5) ∧
    (¬ r6 = (-1) → (vp_in ((5 * x1) + 1) 20 ∧ ((99 < ((σ5.1 82 ((5 * x1) + 1).toNatClampNeg) + x3) → Q 0 σ5) ∧
      (¬ 99 < ((σ5.1 82 ((5 * x1) + 1).toNatClampNeg) + x3) → Q 1 σ5))))))))))
set_option maxRecDepth 100000 in
set_option maxHeartbeats 4000000 in
theorem v_X7_mayWalk {E : am_E} {d : Nat} {σ : FH} {Q : Int32 → FH → Prop} {x1 : Int32} {x2 : Int32} {x3 : Int32} (t : t_X7_mayWalk E d x1 x2 x3 σ Q) : fMi E (d + 1) mX7_mayWalk [.ref 78, .int x1, .int x2, .int x3] σ Q := by
  refine fr_ofG [some (.ref 78), some (.int x1), some (.int x2), some (.int x3)] (by decide) rfl (Nat.le_of_ble_eq_true rfl) ?_
  unfold t_X7_mayWalk at t
  refine ar_aload_n (i := 0) dX7_mayWalk_0 rfl rfl ?_
  refine ar_iload_n (i := 1) dX7_mayWalk_1 rfl rfl ?_
  refine fr_callVi (M' := mX7_isIn) [_] dX7_mayWalk_2 ml_X7_148 mv_X7_isIn rfl rfl o_78 rfl rfl (Nat.le_of_ble_eq_true rfl) ⟨Nat.le_refl _, Nat.le_refl _⟩ t (fun r2 σ1 t => ?_)
  try dsimp only at t
  refine ar_if_ne (tgt := 46) dX7_mayWalk_5 (by decide) (fun h3 => ?_) (fun h3 => ?_)
  · have t := t.1 h3
    refine ar_iconst (v := 0) dX7_mayWalk_46 (by decide) ?_
    exact fr_zret dX7_mayWalk_47 rfl (Nat.le_refl _) (Nat.le_refl _) (Or.inl rfl) t
  · have t := t.2 h3
    refine ar_aload_n (i := 0) dX7_mayWalk_8 rfl rfl ?_
    refine ar_iload_n (i := 2) dX7_mayWalk_9 rfl rfl ?_
    refine ar_aload_n (i := 0) dX7_mayWalk_10 rfl rfl ?_
    refine fr_getR (t := 7) (j := 12) (r := 82) dX7_mayWalk_11 fs_X7_19 o_78 rfl rfl (by decide) ?_
    refine ar_iconst (v := 5) dX7_mayWalk_14 (by decide) ?_
    refine ar_iload_n (i := 1) dX7_mayWalk_15 rfl rfl ?_
    refine ar_imul dX7_mayWalk_16 ?_
    obtain ⟨h4, t⟩ := t
    refine fr_iald (n := 20) dX7_mayWalk_17 a_82 h4 ?_
    refine fr_callVi (M' := mX7_otherEnd) [_, _] dX7_mayWalk_18 ml_X7_151 mv_X7_otherEnd rfl rfl o_78 rfl rfl (Nat.le_of_ble_eq_true rfl) ⟨Nat.le_refl _, Nat.le_refl _⟩ t (fun r6 σ5 t => ?_)
    try dsimp only at t
    refine ar_iconst (v := -1) dX7_mayWalk_21 (by decide) ?_
    refine ar_icmp_eq (tgt := 46) dX7_mayWalk_22 (by decide) (fun h7 => ?_) (fun h7 => ?_)
    · have t := t.1 h7
      refine ar_iconst (v := 0) dX7_mayWalk_46 (by decide) ?_
      exact fr_zret dX7_mayWalk_47 rfl (Nat.le_refl _) (Nat.le_refl _) (Or.inl rfl) t
    · have t := t.2 h7
      refine ar_aload_n (i := 0) dX7_mayWalk_25 rfl rfl ?_
      refine fr_getR (t := 7) (j := 12) (r := 82) dX7_mayWalk_26 fs_X7_19 o_78 rfl rfl (by decide) ?_
      refine ar_iconst (v := 5) dX7_mayWalk_29 (by decide) ?_
      refine ar_iload_n (i := 1) dX7_mayWalk_30 rfl rfl ?_
      refine ar_imul dX7_mayWalk_31 ?_
      refine ar_iconst (v := 1) dX7_mayWalk_32 (by decide) ?_
      refine ar_iadd dX7_mayWalk_33 ?_
      obtain ⟨h8, t⟩ := t
      refine fr_iald (n := 20) dX7_mayWalk_34 a_82 h8 ?_
      refine ar_iload_n (i := 3) dX7_mayWalk_35 rfl rfl ?_
      refine ar_iadd dX7_mayWalk_36 ?_
      refine ar_bipush (v := 99) dX7_mayWalk_37 (by decide) ?_
      refine ar_icmp_gt (tgt := 46) dX7_mayWalk_39 (by decide) (fun h9 => ?_) (fun h9 => ?_)
      · have t := t.1 h9
        refine ar_iconst (v := 0) dX7_mayWalk_46 (by decide) ?_
        exact fr_zret dX7_mayWalk_47 rfl (Nat.le_refl _) (Nat.le_refl _) (Or.inl rfl) t
      · have t := t.2 h9
        refine ar_iconst (v := 1) dX7_mayWalk_42 (by decide) ?_
        refine ar_goto (tgt := 47) dX7_mayWalk_43 (by decide) ?_
        exact fr_zret dX7_mayWalk_47 rfl (Nat.le_refl _) (Nat.le_refl _) (Or.inr rfl) t

def t_X7_goes_88 (E : am_E) (d : Nat) (x1 : Int32) (x2 : Int32) (x5 : Int32) (xs3 : Int32) (xs2 : Int32) (xs1 : Int32) (σ : FH) (Q : FH → Prop) : Prop :=
  (vp_in xs1 20 ∧ (∀ σ15 : FH, σ15 = fsI σ 82 xs1.toNatClampNeg (xs2 + xs3) → (vp_in ((5 * x1) + 4) 20 ∧ (vp_in ((5 * x1) + 4) 20 ∧ (∀ σ18 : FH, σ18 = fsI σ15 82 ((5 * x1) + 4).toNatClampNeg ((σ15.1 82 ((5 * x1) + 4).toNatClampNeg) + 1) → ((x5 = 0 → (vp_in ((8 * x1) + x2) 32 ∧ (vp_in ((8 * x1) + x2) 32 ∧ (∀ σ22 : FH, σ22 = fsI σ18 83 ((8 * x1) + x2).toNatClampNeg (σ18.1 83 ((8 * x1) + x2).toNatClampNeg) → Q σ22)))) ∧
  (¬ x5 = 0 → (vp_in ((5 * x2) + 3) 45 ∧ (vp_in ((8 * x1) + x2) 32 ∧ (∀ σ25 : FH, σ25 = fsI σ18 83 ((8 * x1) + x2).toNatClampNeg (σ18.1 81 ((5 * x2) + 3).toNatClampNeg) → Q σ25))))))))))
set_option maxRecDepth 100000 in
set_option maxHeartbeats 4000000 in
theorem v_X7_goes_88 {E : am_E} {d : Nat} {σ : FH} {Q : FH → Prop} {x1 : Int32} {x2 : Int32} {x5 : Int32} {xs3 : Int32} {xs2 : Int32} {xs1 : Int32} (t : t_X7_goes_88 E d x1 x2 x5 xs3 xs2 xs1 σ Q) : fG E (d + 1) mX7_goes 88 [some (.ref 78), some (.int x1), some (.int x2), none, none, some (.int x5)] [.int xs3, .int xs2, .int xs1, .ref 82] σ (qv Q) := by
  unfold t_X7_goes_88 at t
  refine ar_iadd dX7_goes_88 ?_
  obtain ⟨h14, t⟩ := t
  refine fr_iast (n := 20) dX7_goes_89 a_82 h14 ?_
  have t := t _ rfl
  refine ar_aload_n (i := 0) dX7_goes_90 rfl rfl ?_
  refine fr_getR (t := 7) (j := 12) (r := 82) dX7_goes_91 fs_X7_19 o_78 rfl rfl (by decide) ?_
  refine ar_iconst (v := 5) dX7_goes_94 (by decide) ?_
  refine ar_iload_n (i := 1) dX7_goes_95 rfl rfl ?_
  refine ar_imul dX7_goes_96 ?_
  refine ar_iconst (v := 4) dX7_goes_97 (by decide) ?_
  refine ar_iadd dX7_goes_98 ?_
  refine ar_dup2 dX7_goes_99 rfl rfl ?_
  obtain ⟨h16, t⟩ := t
  refine fr_iald (n := 20) dX7_goes_100 a_82 h16 ?_
  refine ar_iconst (v := 1) dX7_goes_101 (by decide) ?_
  refine ar_iadd dX7_goes_102 ?_
  obtain ⟨h17, t⟩ := t
  refine fr_iast (n := 20) dX7_goes_103 a_82 h17 ?_
  have t := t _ rfl
  refine ar_aload_n (i := 0) dX7_goes_104 rfl rfl ?_
  refine fr_getR (t := 7) (j := 13) (r := 83) dX7_goes_105 fs_X7_22 o_78 rfl rfl (by decide) ?_
  refine ar_bipush (v := 8) dX7_goes_108 (by decide) ?_
  refine ar_iload_n (i := 1) dX7_goes_110 rfl rfl ?_
  refine ar_imul dX7_goes_111 ?_
  refine ar_iload_n (i := 2) dX7_goes_112 rfl rfl ?_
  refine ar_iadd dX7_goes_113 ?_
  refine ar_iload (i := 5) dX7_goes_114 rfl ?_
  refine ar_if_eq (tgt := 132) dX7_goes_116 (by decide) (fun h19 => ?_) (fun h19 => ?_)
  · have t := t.1 h19
    refine ar_aload_n (i := 0) dX7_goes_132 rfl rfl ?_
    refine fr_getR (t := 7) (j := 13) (r := 83) dX7_goes_133 fs_X7_22 o_78 rfl rfl (by decide) ?_
    refine ar_bipush (v := 8) dX7_goes_136 (by decide) ?_
    refine ar_iload_n (i := 1) dX7_goes_138 rfl rfl ?_
    refine ar_imul dX7_goes_139 ?_
    refine ar_iload_n (i := 2) dX7_goes_140 rfl rfl ?_
    refine ar_iadd dX7_goes_141 ?_
    obtain ⟨h20, t⟩ := t
    refine fr_iald (n := 32) dX7_goes_142 a_83 h20 ?_
    obtain ⟨h21, t⟩ := t
    refine fr_iast (n := 32) dX7_goes_143 a_83 h21 ?_
    have t := t _ rfl
    exact fr_vret dX7_goes_144 rfl (Nat.le_refl _) (Nat.le_refl _) t
  · have t := t.2 h19
    refine ar_aload_n (i := 0) dX7_goes_119 rfl rfl ?_
    refine fr_getR (t := 7) (j := 10) (r := 81) dX7_goes_120 fs_X7_16 o_78 rfl rfl (by decide) ?_
    refine ar_iconst (v := 5) dX7_goes_123 (by decide) ?_
    refine ar_iload_n (i := 2) dX7_goes_124 rfl rfl ?_
    refine ar_imul dX7_goes_125 ?_
    refine ar_iconst (v := 3) dX7_goes_126 (by decide) ?_
    refine ar_iadd dX7_goes_127 ?_
    obtain ⟨h23, t⟩ := t
    refine fr_iald (n := 45) dX7_goes_128 a_81 h23 ?_
    refine ar_goto (tgt := 143) dX7_goes_129 (by decide) ?_
    obtain ⟨h24, t⟩ := t
    refine fr_iast (n := 32) dX7_goes_143 a_83 h24 ?_
    have t := t _ rfl
    exact fr_vret dX7_goes_144 rfl (Nat.le_refl _) (Nat.le_refl _) t
def t_X7_goes_29 (E : am_E) (d : Nat) (x1 : Int32) (x2 : Int32) (x3 : Int32) (x4 : Int32) (xs0 : Int32) (σ : FH) (Q : FH → Prop) : Prop :=
  (vp_in (5 * x1) 20 ∧ fMi E d mX7_otherEnd [.ref 78, .int x2, .int (σ.1 82 (5 * x1).toNatClampNeg)] σ (fun r6 σ5 => (vp_in (5 * x1) 20 ∧ (∀ σ8 : FH, σ8 = fsI σ5 82 (5 * x1).toNatClampNeg r6 → (vp_in ((5 * x1) + 1) 20 ∧ (vp_in ((5 * x1) + 1) 20 ∧ (∀ σ11 : FH, σ11 = fsI σ8 82 ((5 * x1) + 1).toNatClampNeg ((σ8.1 82 ((5 * x1) + 1).toNatClampNeg) + x3) → (vp_in ((5 * x1) + 2) 20 ∧ ((xs0 = 0 → t_X7_goes_88 E d x1 x2 xs0 0 (σ11.1 82 ((5 * x1) + 2).toNatClampNeg) ((5 * x1) + 2) σ11 Q) ∧
  (¬ xs0 = 0 → t_X7_goes_88 E d x1 x2 xs0 x4 (σ11.1 82 ((5 * x1) + 2).toNatClampNeg) ((5 * x1) + 2) σ11 Q))))))))))
set_option maxRecDepth 100000 in
set_option maxHeartbeats 4000000 in
theorem v_X7_goes_29 {E : am_E} {d : Nat} {σ : FH} {Q : FH → Prop} {x1 : Int32} {x2 : Int32} {x3 : Int32} {x4 : Int32} {xs0 : Int32} (t : t_X7_goes_29 E d x1 x2 x3 x4 xs0 σ Q) : fG E (d + 1) mX7_goes 29 [some (.ref 78), some (.int x1), some (.int x2), some (.int x3), some (.int x4), none] [.int xs0] σ (qv Q) := by
  unfold t_X7_goes_29 at t
  refine ar_istore (i := 5) (lo2 := [_, _, _, _, _, _]) dX7_goes_29 (Nat.le_of_ble_eq_true rfl) rfl rfl ?_
  refine ar_aload_n (i := 0) dX7_goes_31 rfl rfl ?_
  refine fr_getR (t := 7) (j := 12) (r := 82) dX7_goes_32 fs_X7_19 o_78 rfl rfl (by decide) ?_
  refine ar_iconst (v := 5) dX7_goes_35 (by decide) ?_
  refine ar_iload_n (i := 1) dX7_goes_36 rfl rfl ?_
  refine ar_imul dX7_goes_37 ?_
  refine ar_aload_n (i := 0) dX7_goes_38 rfl rfl ?_
  refine ar_iload_n (i := 2) dX7_goes_39 rfl rfl ?_
  refine ar_aload_n (i := 0) dX7_goes_40 rfl rfl ?_
  refine fr_getR (t := 7) (j := 12) (r := 82) dX7_goes_41 fs_X7_19 o_78 rfl rfl (by decide) ?_
  refine ar_iconst (v := 5) dX7_goes_44 (by decide) ?_
  refine ar_iload_n (i := 1) dX7_goes_45 rfl rfl ?_
  refine ar_imul dX7_goes_46 ?_
  obtain ⟨h4, t⟩ := t
  refine fr_iald (n := 20) dX7_goes_47 a_82 h4 ?_
  refine fr_callVi (M' := mX7_otherEnd) [_, _] dX7_goes_48 ml_X7_151 mv_X7_otherEnd rfl rfl o_78 rfl rfl (Nat.le_of_ble_eq_true rfl) ⟨Nat.le_refl _, Nat.le_refl _⟩ t (fun r6 σ5 t => ?_)
  try dsimp only at t
  obtain ⟨h7, t⟩ := t
  refine fr_iast (n := 20) dX7_goes_51 a_82 h7 ?_
  have t := t _ rfl
  refine ar_aload_n (i := 0) dX7_goes_52 rfl rfl ?_
  refine fr_getR (t := 7) (j := 12) (r := 82) dX7_goes_53 fs_X7_19 o_78 rfl rfl (by decide) ?_
  refine ar_iconst (v := 5) dX7_goes_56 (by decide) ?_
  refine ar_iload_n (i := 1) dX7_goes_57 rfl rfl ?_
  refine ar_imul dX7_goes_58 ?_
  refine ar_iconst (v := 1) dX7_goes_59 (by decide) ?_
  refine ar_iadd dX7_goes_60 ?_
  refine ar_dup2 dX7_goes_61 rfl rfl ?_
  obtain ⟨h9, t⟩ := t
  refine fr_iald (n := 20) dX7_goes_62 a_82 h9 ?_
  refine ar_iload_n (i := 3) dX7_goes_63 rfl rfl ?_
  refine ar_iadd dX7_goes_64 ?_
  obtain ⟨h10, t⟩ := t
  refine fr_iast (n := 20) dX7_goes_65 a_82 h10 ?_
  have t := t _ rfl
  refine ar_aload_n (i := 0) dX7_goes_66 rfl rfl ?_
  refine fr_getR (t := 7) (j := 12) (r := 82) dX7_goes_67 fs_X7_19 o_78 rfl rfl (by decide) ?_
  refine ar_iconst (v := 5) dX7_goes_70 (by decide) ?_
  refine ar_iload_n (i := 1) dX7_goes_71 rfl rfl ?_
  refine ar_imul dX7_goes_72 ?_
  refine ar_iconst (v := 2) dX7_goes_73 (by decide) ?_
  refine ar_iadd dX7_goes_74 ?_
  refine ar_dup2 dX7_goes_75 rfl rfl ?_
  obtain ⟨h12, t⟩ := t
  refine fr_iald (n := 20) dX7_goes_76 a_82 h12 ?_
  refine ar_iload (i := 5) dX7_goes_77 rfl ?_
  refine ar_if_eq (tgt := 87) dX7_goes_79 (by decide) (fun h13 => ?_) (fun h13 => ?_)
  · have t := t.1 h13
    refine ar_iconst (v := 0) dX7_goes_87 (by decide) ?_
    refine ar_drop 3 (lo2 := [_, _, _, none, _, _]) rfl ?_
    refine ar_drop 4 (lo2 := [_, _, _, none, none, _]) rfl ?_
    exact v_X7_goes_88 t
  · have t := t.2 h13
    refine ar_iload (i := 4) dX7_goes_82 rfl ?_
    refine ar_goto (tgt := 88) dX7_goes_84 (by decide) ?_
    refine ar_drop 3 (lo2 := [_, _, _, none, _, _]) rfl ?_
    refine ar_drop 4 (lo2 := [_, _, _, none, none, _]) rfl ?_
    exact v_X7_goes_88 t
def t_X7_goes (E : am_E) (d : Nat) (x1 : Int32) (x2 : Int32) (x3 : Int32) (x4 : Int32) (σ : FH) (Q : FH → Prop) : Prop :=
  (vp_in ((5 * x2) + 3) 45 ∧ (vp_in ((8 * x1) + x2) 32 ∧ (((σ.1 81 ((5 * x2) + 3).toNatClampNeg) ≤ (σ.1 83 ((8 * x1) + x2).toNatClampNeg) → t_X7_goes_29 E d x1 x2 x3 x4 0 σ Q) ∧
  (¬ (σ.1 81 ((5 * x2) + 3).toNatClampNeg) ≤ (σ.1 83 ((8 * x1) + x2).toNatClampNeg) → t_X7_goes_29 E d x1 x2 x3 x4 1 σ Q))))
set_option maxRecDepth 100000 in
set_option maxHeartbeats 4000000 in
theorem v_X7_goes {E : am_E} {d : Nat} {σ : FH} {Q : FH → Prop} {x1 : Int32} {x2 : Int32} {x3 : Int32} {x4 : Int32} (t : t_X7_goes E d x1 x2 x3 x4 σ Q) : fMv E (d + 1) mX7_goes [.ref 78, .int x1, .int x2, .int x3, .int x4] σ Q := by
  refine fr_ofG [some (.ref 78), some (.int x1), some (.int x2), some (.int x3), some (.int x4), none] (by decide) rfl (Nat.le_of_ble_eq_true rfl) ?_
  unfold t_X7_goes at t
  refine ar_aload_n (i := 0) dX7_goes_0 rfl rfl ?_
  refine fr_getR (t := 7) (j := 10) (r := 81) dX7_goes_1 fs_X7_16 o_78 rfl rfl (by decide) ?_
  refine ar_iconst (v := 5) dX7_goes_4 (by decide) ?_
  refine ar_iload_n (i := 2) dX7_goes_5 rfl rfl ?_
  refine ar_imul dX7_goes_6 ?_
  refine ar_iconst (v := 3) dX7_goes_7 (by decide) ?_
  refine ar_iadd dX7_goes_8 ?_
  obtain ⟨h1, t⟩ := t
  refine fr_iald (n := 45) dX7_goes_9 a_81 h1 ?_
  refine ar_aload_n (i := 0) dX7_goes_10 rfl rfl ?_
  refine fr_getR (t := 7) (j := 13) (r := 83) dX7_goes_11 fs_X7_22 o_78 rfl rfl (by decide) ?_
  refine ar_bipush (v := 8) dX7_goes_14 (by decide) ?_
  refine ar_iload_n (i := 1) dX7_goes_16 rfl rfl ?_
  refine ar_imul dX7_goes_17 ?_
  refine ar_iload_n (i := 2) dX7_goes_18 rfl rfl ?_
  refine ar_iadd dX7_goes_19 ?_
  obtain ⟨h2, t⟩ := t
  refine fr_iald (n := 32) dX7_goes_20 a_83 h2 ?_
  refine ar_icmp_le (tgt := 28) dX7_goes_21 (by decide) (fun h3 => ?_) (fun h3 => ?_)
  · have t := t.1 h3
    refine ar_iconst (v := 0) dX7_goes_28 (by decide) ?_
    exact v_X7_goes_29 t
  · have t := t.2 h3
    refine ar_iconst (v := 1) dX7_goes_24 (by decide) ?_
    refine ar_goto (tgt := 29) dX7_goes_25 (by decide) ?_
    exact v_X7_goes_29 t

def t_X7_walk (E : am_E) (d : Nat) (x1 : Int32) (x2 : Int32) (σ : FH) (Q : Int32 → FH → Prop) : Prop :=
  fMi E d mX7_isPilgrim [.ref 78, .int x1] σ (fun r2 σ1 => ((r2 = 0 → Q (-101) σ1) ∧
  (¬ r2 = 0 → fMi E d mX7_isRoad [.ref 78, .int x2] σ1 (fun r5 σ4 => ((¬ r5 = 0 → (vp_in ((5 * x2) + 3) 45 ∧ fMi E d mX7_mayWalk [.ref 78, .int x1, .int x2, .int (σ4.1 81 ((5 * x2) + 3).toNatClampNeg)] σ4 (fun r9 σ8 => ((¬ r9 = 0 → (vp_in ((5 * x2) + 3) 45 ∧ fMi E d mX7_worthOf [.ref 78, .int x2] σ8 (fun r13 σ12 => fMv E d mX7_goes [.ref 78, .int x1, .int x2, .int (σ8.1 81 ((5 * x2) + 3).toNatClampNeg), .int r13] σ12 (fun σ14 => (∀ σ16 : FH, σ16 = fsI σ14 78 9 ((σ14.1 78 9) + 1) → (vp_in (5 * x1) 20 ∧ Q (σ16.1 82 (5 * x1).toNatClampNeg) σ16)))))) ∧
      (r9 = 0 → Q (-103) σ8))))) ∧
    (r5 = 0 → Q (-101) σ4))))))
set_option maxRecDepth 100000 in
set_option maxHeartbeats 4000000 in
theorem v_X7_walk {E : am_E} {d : Nat} {σ : FH} {Q : Int32 → FH → Prop} {x1 : Int32} {x2 : Int32} (t : t_X7_walk E d x1 x2 σ Q) : fMi E (d + 1) mX7_walk [.ref 78, .int x1, .int x2] σ Q := by
  refine fr_ofG [some (.ref 78), some (.int x1), some (.int x2)] (by decide) rfl (Nat.le_of_ble_eq_true rfl) ?_
  unfold t_X7_walk at t
  refine ar_aload_n (i := 0) dX7_walk_0 rfl rfl ?_
  refine ar_iload_n (i := 1) dX7_walk_1 rfl rfl ?_
  refine fr_callVi (M' := mX7_isPilgrim) [_] dX7_walk_2 ml_X7_142 mv_X7_isPilgrim rfl rfl o_78 rfl rfl (Nat.le_of_ble_eq_true rfl) ⟨Nat.le_refl _, Nat.le_refl _⟩ t (fun r2 σ1 t => ?_)
  try dsimp only at t
  refine ar_if_eq (tgt := 16) dX7_walk_5 (by decide) (fun h3 => ?_) (fun h3 => ?_)
  · have t := t.1 h3
    refine ar_bipush (v := -101) dX7_walk_16 (by decide) ?_
    exact fr_iret dX7_walk_18 rfl (Nat.le_refl _) (Nat.le_refl _) t
  · have t := t.2 h3
    refine ar_aload_n (i := 0) dX7_walk_8 rfl rfl ?_
    refine ar_iload_n (i := 2) dX7_walk_9 rfl rfl ?_
    refine fr_callVi (M' := mX7_isRoad) [_] dX7_walk_10 ml_X7_125 mv_X7_isRoad rfl rfl o_78 rfl rfl (Nat.le_of_ble_eq_true rfl) ⟨Nat.le_refl _, Nat.le_refl _⟩ t (fun r5 σ4 t => ?_)
    try dsimp only at t
    refine ar_if_ne (tgt := 19) dX7_walk_13 (by decide) (fun h6 => ?_) (fun h6 => ?_)
    · have t := t.1 h6
      refine ar_aload_n (i := 0) dX7_walk_19 rfl rfl ?_
      refine ar_iload_n (i := 1) dX7_walk_20 rfl rfl ?_
      refine ar_iload_n (i := 2) dX7_walk_21 rfl rfl ?_
      refine ar_aload_n (i := 0) dX7_walk_22 rfl rfl ?_
      refine fr_getR (t := 7) (j := 10) (r := 81) dX7_walk_23 fs_X7_16 o_78 rfl rfl (by decide) ?_
      refine ar_iconst (v := 5) dX7_walk_26 (by decide) ?_
      refine ar_iload_n (i := 2) dX7_walk_27 rfl rfl ?_
      refine ar_imul dX7_walk_28 ?_
      refine ar_iconst (v := 3) dX7_walk_29 (by decide) ?_
      refine ar_iadd dX7_walk_30 ?_
      obtain ⟨h7, t⟩ := t
      refine fr_iald (n := 45) dX7_walk_31 a_81 h7 ?_
      refine fr_callVi (M' := mX7_mayWalk) [_, _, _] dX7_walk_32 ml_X7_154 mv_X7_mayWalk rfl rfl o_78 rfl rfl (Nat.le_of_ble_eq_true rfl) ⟨Nat.le_refl _, Nat.le_refl _⟩ t (fun r9 σ8 t => ?_)
      try dsimp only at t
      refine ar_if_ne (tgt := 41) dX7_walk_35 (by decide) (fun h10 => ?_) (fun h10 => ?_)
      · have t := t.1 h10
        refine ar_aload_n (i := 0) dX7_walk_41 rfl rfl ?_
        refine ar_iload_n (i := 1) dX7_walk_42 rfl rfl ?_
        refine ar_iload_n (i := 2) dX7_walk_43 rfl rfl ?_
        refine ar_aload_n (i := 0) dX7_walk_44 rfl rfl ?_
        refine fr_getR (t := 7) (j := 10) (r := 81) dX7_walk_45 fs_X7_16 o_78 rfl rfl (by decide) ?_
        refine ar_iconst (v := 5) dX7_walk_48 (by decide) ?_
        refine ar_iload_n (i := 2) dX7_walk_49 rfl rfl ?_
        refine ar_imul dX7_walk_50 ?_
        refine ar_iconst (v := 3) dX7_walk_51 (by decide) ?_
        refine ar_iadd dX7_walk_52 ?_
        obtain ⟨h11, t⟩ := t
        refine fr_iald (n := 45) dX7_walk_53 a_81 h11 ?_
        refine ar_aload_n (i := 0) dX7_walk_54 rfl rfl ?_
        refine ar_iload_n (i := 2) dX7_walk_55 rfl rfl ?_
        refine fr_callVi (M' := mX7_worthOf) [_] dX7_walk_56 ml_X7_122 mv_X7_worthOf rfl rfl o_78 rfl rfl (Nat.le_of_ble_eq_true rfl) ⟨Nat.le_refl _, Nat.le_refl _⟩ t (fun r13 σ12 t => ?_)
        try dsimp only at t
        refine fr_callVv (M' := mX7_goes) [_, _, _, _] dX7_walk_59 ml_X7_158 mv_X7_goes rfl rfl o_78 rfl rfl (Nat.le_of_ble_eq_true rfl) ⟨Nat.le_refl _, Nat.le_refl _⟩ t (fun σ14 t => ?_)
        try dsimp only at t
        refine ar_aload_n (i := 0) dX7_walk_62 rfl rfl ?_
        refine ar_dup dX7_walk_63 rfl ?_
        refine fr_getI (t := 7) (j := 9) dX7_walk_64 fs_X7_113 o_78 rfl ?_
        refine ar_iconst (v := 1) dX7_walk_67 (by decide) ?_
        refine ar_iadd dX7_walk_68 ?_
        refine fr_putI (t := 7) (j := 9) dX7_walk_69 fq_X7_113 o_78 rfl (Or.inl rfl) ?_
        have t := t _ rfl
        refine ar_aload_n (i := 0) dX7_walk_72 rfl rfl ?_
        refine fr_getR (t := 7) (j := 12) (r := 82) dX7_walk_73 fs_X7_19 o_78 rfl rfl (by decide) ?_
        refine ar_iconst (v := 5) dX7_walk_76 (by decide) ?_
        refine ar_iload_n (i := 1) dX7_walk_77 rfl rfl ?_
        refine ar_imul dX7_walk_78 ?_
        obtain ⟨h17, t⟩ := t
        refine fr_iald (n := 20) dX7_walk_79 a_82 h17 ?_
        exact fr_iret dX7_walk_80 rfl (Nat.le_refl _) (Nat.le_refl _) t
      · have t := t.2 h10
        refine ar_bipush (v := -103) dX7_walk_38 (by decide) ?_
        exact fr_iret dX7_walk_40 rfl (Nat.le_refl _) (Nat.le_refl _) t
    · have t := t.2 h6
      refine ar_bipush (v := -101) dX7_walk_16 (by decide) ?_
      exact fr_iret dX7_walk_18 rfl (Nat.le_refl _) (Nat.le_refl _) t

def t_X7_together (E : am_E) (d : Nat) (x1 : Int32) (x2 : Int32) (x3 : Int32) (σ : FH) (Q : Int32 → FH → Prop) : Prop :=
  fMi E d mX7_isPilgrim [.ref 78, .int x1] σ (fun r2 σ1 => ((r2 = 0 → Q (-101) σ1) ∧
  (¬ r2 = 0 → fMi E d mX7_isPilgrim [.ref 78, .int x2] σ1 (fun r5 σ4 => ((r5 = 0 → Q (-101) σ4) ∧
    (¬ r5 = 0 → ((x1 = x2 → Q (-101) σ4) ∧
      (¬ x1 = x2 → fMi E d mX7_isRoad [.ref 78, .int x3] σ4 (fun r9 σ8 => ((¬ r9 = 0 → (vp_in ((5 * x3) + 3) 45 ∧ (∀ v12 : Int32, v12 = ((σ8.1 81 ((5 * x3) + 3).toNatClampNeg) + 1) / 2 → (vp_in (5 * x1) 20 ∧ (vp_in (5 * x2) 20 ∧ ((¬ (σ8.1 82 (5 * x1).toNatClampNeg) = (σ8.1 82 (5 * x2).toNatClampNeg) → Q (-103) σ8) ∧
          ((σ8.1 82 (5 * x1).toNatClampNeg) = (σ8.1 82 (5 * x2).toNatClampNeg) → fMi E d mX7_mayWalk [.ref 78, .int x1, .int x3, .int v12] σ8 (fun r17 σ16 => ((r17 = 0 → Q (-103) σ16) ∧
            (¬ r17 = 0 → fMi E d mX7_mayWalk [.ref 78, .int x2, .int x3, .int v12] σ16 (fun r20 σ19 => ((¬ r20 = 0 → fMi E d mX7_worthOf [.ref 78, .int x3] σ19 (fun r23 σ22 => fMv E d mX7_goes [.ref 78, .int x1, .int x3, .int v12, .int r23] σ22 (fun σ24 => fMi E d mX7_worthOf [.ref 78, .int x3] σ24 (fun r27 σ26 => fMv E d mX7_goes [.ref 78, .int x2, .int x3, .int v12, .int (r27 / 2)] σ26 (fun σ28 => (∀ σ30 : FH, σ30 = fsI σ28 78 9 ((σ28.1 78 9) + 1) → (vp_in (5 * x1) 20 ∧ Q (σ30.1 82 (5 * x1).toNatClampNeg) σ30))))))) ∧
              (r20 = 0 → Q (-103) σ19))))))))))))) ∧
        (r9 = 0 → Q (-101) σ8)))))))))))
set_option maxRecDepth 100000 in
set_option maxHeartbeats 4000000 in
theorem v_X7_together {E : am_E} {d : Nat} {σ : FH} {Q : Int32 → FH → Prop} {x1 : Int32} {x2 : Int32} {x3 : Int32} (t : t_X7_together E d x1 x2 x3 σ Q) : fMi E (d + 1) mX7_together [.ref 78, .int x1, .int x2, .int x3] σ Q := by
  refine fr_ofG [some (.ref 78), some (.int x1), some (.int x2), some (.int x3), none] (by decide) rfl (Nat.le_of_ble_eq_true rfl) ?_
  unfold t_X7_together at t
  refine ar_aload_n (i := 0) dX7_together_0 rfl rfl ?_
  refine ar_iload_n (i := 1) dX7_together_1 rfl rfl ?_
  refine fr_callVi (M' := mX7_isPilgrim) [_] dX7_together_2 ml_X7_142 mv_X7_isPilgrim rfl rfl o_78 rfl rfl (Nat.le_of_ble_eq_true rfl) ⟨Nat.le_refl _, Nat.le_refl _⟩ t (fun r2 σ1 t => ?_)
  try dsimp only at t
  refine ar_if_eq (tgt := 29) dX7_together_5 (by decide) (fun h3 => ?_) (fun h3 => ?_)
  · have t := t.1 h3
    refine ar_bipush (v := -101) dX7_together_29 (by decide) ?_
    exact fr_iret dX7_together_31 rfl (Nat.le_refl _) (Nat.le_refl _) t
  · have t := t.2 h3
    refine ar_aload_n (i := 0) dX7_together_8 rfl rfl ?_
    refine ar_iload_n (i := 2) dX7_together_9 rfl rfl ?_
    refine fr_callVi (M' := mX7_isPilgrim) [_] dX7_together_10 ml_X7_142 mv_X7_isPilgrim rfl rfl o_78 rfl rfl (Nat.le_of_ble_eq_true rfl) ⟨Nat.le_refl _, Nat.le_refl _⟩ t (fun r5 σ4 t => ?_)
    try dsimp only at t
    refine ar_if_eq (tgt := 29) dX7_together_13 (by decide) (fun h6 => ?_) (fun h6 => ?_)
    · have t := t.1 h6
      refine ar_bipush (v := -101) dX7_together_29 (by decide) ?_
      exact fr_iret dX7_together_31 rfl (Nat.le_refl _) (Nat.le_refl _) t
    · have t := t.2 h6
      refine ar_iload_n (i := 1) dX7_together_16 rfl rfl ?_
      refine ar_iload_n (i := 2) dX7_together_17 rfl rfl ?_
      refine ar_icmp_eq (tgt := 29) dX7_together_18 (by decide) (fun h7 => ?_) (fun h7 => ?_)
      · have t := t.1 h7
        refine ar_bipush (v := -101) dX7_together_29 (by decide) ?_
        exact fr_iret dX7_together_31 rfl (Nat.le_refl _) (Nat.le_refl _) t
      · have t := t.2 h7
        refine ar_aload_n (i := 0) dX7_together_21 rfl rfl ?_
        refine ar_iload_n (i := 3) dX7_together_22 rfl rfl ?_
        refine fr_callVi (M' := mX7_isRoad) [_] dX7_together_23 ml_X7_125 mv_X7_isRoad rfl rfl o_78 rfl rfl (Nat.le_of_ble_eq_true rfl) ⟨Nat.le_refl _, Nat.le_refl _⟩ t (fun r9 σ8 t => ?_)
        try dsimp only at t
        refine ar_if_ne (tgt := 32) dX7_together_26 (by decide) (fun h10 => ?_) (fun h10 => ?_)
        · have t := t.1 h10
          refine ar_aload_n (i := 0) dX7_together_32 rfl rfl ?_
          refine fr_getR (t := 7) (j := 10) (r := 81) dX7_together_33 fs_X7_16 o_78 rfl rfl (by decide) ?_
          refine ar_iconst (v := 5) dX7_together_36 (by decide) ?_
          refine ar_iload_n (i := 3) dX7_together_37 rfl rfl ?_
          refine ar_imul dX7_together_38 ?_
          refine ar_iconst (v := 3) dX7_together_39 (by decide) ?_
          refine ar_iadd dX7_together_40 ?_
          obtain ⟨h11, t⟩ := t
          refine fr_iald (n := 45) dX7_together_41 a_81 h11 ?_
          refine ar_iconst (v := 1) dX7_together_42 (by decide) ?_
          refine ar_iadd dX7_together_43 ?_
          refine ar_iconst (v := 2) dX7_together_44 (by decide) ?_
          refine ar_idiv dX7_together_45 (by decide) ?_
          refine ar_istore (i := 4) (lo2 := [_, _, _, _, _]) dX7_together_46 (Nat.le_of_ble_eq_true rfl) rfl rfl ?_
          have t := t _ rfl
          refine ar_aload_n (i := 0) dX7_together_48 rfl rfl ?_
          refine fr_getR (t := 7) (j := 12) (r := 82) dX7_together_49 fs_X7_19 o_78 rfl rfl (by decide) ?_
          refine ar_iconst (v := 5) dX7_together_52 (by decide) ?_
          refine ar_iload_n (i := 1) dX7_together_53 rfl rfl ?_
          refine ar_imul dX7_together_54 ?_
          obtain ⟨h13, t⟩ := t
          refine fr_iald (n := 20) dX7_together_55 a_82 h13 ?_
          refine ar_aload_n (i := 0) dX7_together_56 rfl rfl ?_
          refine fr_getR (t := 7) (j := 12) (r := 82) dX7_together_57 fs_X7_19 o_78 rfl rfl (by decide) ?_
          refine ar_iconst (v := 5) dX7_together_60 (by decide) ?_
          refine ar_iload_n (i := 2) dX7_together_61 rfl rfl ?_
          refine ar_imul dX7_together_62 ?_
          obtain ⟨h14, t⟩ := t
          refine fr_iald (n := 20) dX7_together_63 a_82 h14 ?_
          refine ar_icmp_ne (tgt := 89) dX7_together_64 (by decide) (fun h15 => ?_) (fun h15 => ?_)
          · have t := t.1 h15
            refine ar_bipush (v := -103) dX7_together_89 (by decide) ?_
            exact fr_iret dX7_together_91 rfl (Nat.le_refl _) (Nat.le_refl _) t
          · have t := t.2 h15
            refine ar_aload_n (i := 0) dX7_together_67 rfl rfl ?_
            refine ar_iload_n (i := 1) dX7_together_68 rfl rfl ?_
            refine ar_iload_n (i := 3) dX7_together_69 rfl rfl ?_
            refine ar_iload (i := 4) dX7_together_70 rfl ?_
            refine fr_callVi (M' := mX7_mayWalk) [_, _, _] dX7_together_72 ml_X7_154 mv_X7_mayWalk rfl rfl o_78 rfl rfl (Nat.le_of_ble_eq_true rfl) ⟨Nat.le_refl _, Nat.le_refl _⟩ t (fun r17 σ16 t => ?_)
            try dsimp only at t
            refine ar_if_eq (tgt := 89) dX7_together_75 (by decide) (fun h18 => ?_) (fun h18 => ?_)
            · have t := t.1 h18
              refine ar_bipush (v := -103) dX7_together_89 (by decide) ?_
              exact fr_iret dX7_together_91 rfl (Nat.le_refl _) (Nat.le_refl _) t
            · have t := t.2 h18
              refine ar_aload_n (i := 0) dX7_together_78 rfl rfl ?_
              refine ar_iload_n (i := 2) dX7_together_79 rfl rfl ?_
              refine ar_iload_n (i := 3) dX7_together_80 rfl rfl ?_
              refine ar_iload (i := 4) dX7_together_81 rfl ?_
              refine fr_callVi (M' := mX7_mayWalk) [_, _, _] dX7_together_83 ml_X7_154 mv_X7_mayWalk rfl rfl o_78 rfl rfl (Nat.le_of_ble_eq_true rfl) ⟨Nat.le_refl _, Nat.le_refl _⟩ t (fun r20 σ19 t => ?_)
              try dsimp only at t
              refine ar_if_ne (tgt := 92) dX7_together_86 (by decide) (fun h21 => ?_) (fun h21 => ?_)
              · have t := t.1 h21
                refine ar_aload_n (i := 0) dX7_together_92 rfl rfl ?_
                refine ar_iload_n (i := 1) dX7_together_93 rfl rfl ?_
                refine ar_iload_n (i := 3) dX7_together_94 rfl rfl ?_
                refine ar_iload (i := 4) dX7_together_95 rfl ?_
                refine ar_aload_n (i := 0) dX7_together_97 rfl rfl ?_
                refine ar_iload_n (i := 3) dX7_together_98 rfl rfl ?_
                refine fr_callVi (M' := mX7_worthOf) [_] dX7_together_99 ml_X7_122 mv_X7_worthOf rfl rfl o_78 rfl rfl (Nat.le_of_ble_eq_true rfl) ⟨Nat.le_refl _, Nat.le_refl _⟩ t (fun r23 σ22 t => ?_)
                try dsimp only at t
                refine fr_callVv (M' := mX7_goes) [_, _, _, _] dX7_together_102 ml_X7_158 mv_X7_goes rfl rfl o_78 rfl rfl (Nat.le_of_ble_eq_true rfl) ⟨Nat.le_refl _, Nat.le_refl _⟩ t (fun σ24 t => ?_)
                try dsimp only at t
                refine ar_aload_n (i := 0) dX7_together_105 rfl rfl ?_
                refine ar_iload_n (i := 2) dX7_together_106 rfl rfl ?_
                refine ar_iload_n (i := 3) dX7_together_107 rfl rfl ?_
                refine ar_iload (i := 4) dX7_together_108 rfl ?_
                refine ar_aload_n (i := 0) dX7_together_110 rfl rfl ?_
                refine ar_iload_n (i := 3) dX7_together_111 rfl rfl ?_
                refine fr_callVi (M' := mX7_worthOf) [_] dX7_together_112 ml_X7_122 mv_X7_worthOf rfl rfl o_78 rfl rfl (Nat.le_of_ble_eq_true rfl) ⟨Nat.le_refl _, Nat.le_refl _⟩ t (fun r27 σ26 t => ?_)
                try dsimp only at t
                refine ar_iconst (v := 2) dX7_together_115 (by decide) ?_
                refine ar_idiv dX7_together_116 (by decide) ?_
                refine fr_callVv (M' := mX7_goes) [_, _, _, _] dX7_together_117 ml_X7_158 mv_X7_goes rfl rfl o_78 rfl rfl (Nat.le_of_ble_eq_true rfl) ⟨Nat.le_refl _, Nat.le_refl _⟩ t (fun σ28 t => ?_)
                try dsimp only at t
                refine ar_aload_n (i := 0) dX7_together_120 rfl rfl ?_
                refine ar_dup dX7_together_121 rfl ?_
                refine fr_getI (t := 7) (j := 9) dX7_together_122 fs_X7_113 o_78 rfl ?_
                refine ar_iconst (v := 1) dX7_together_125 (by decide) ?_
                refine ar_iadd dX7_together_126 ?_
                refine fr_putI (t := 7) (j := 9) dX7_together_127 fq_X7_113 o_78 rfl (Or.inl rfl) ?_
                have t := t _ rfl
                refine ar_aload_n (i := 0) dX7_together_130 rfl rfl ?_
                refine fr_getR (t := 7) (j := 12) (r := 82) dX7_together_131 fs_X7_19 o_78 rfl rfl (by decide) ?_
                refine ar_iconst (v := 5) dX7_together_134 (by decide) ?_
                refine ar_iload_n (i := 1) dX7_together_135 rfl rfl ?_
                refine ar_imul dX7_together_136 ?_
                obtain ⟨h31, t⟩ := t
                refine fr_iald (n := 20) dX7_together_137 a_82 h31 ?_
                exact fr_iret dX7_together_138 rfl (Nat.le_refl _) (Nat.le_refl _) t
              · have t := t.2 h21
                refine ar_bipush (v := -103) dX7_together_89 (by decide) ?_
                exact fr_iret dX7_together_91 rfl (Nat.le_refl _) (Nat.le_refl _) t
        · have t := t.2 h10
          refine ar_bipush (v := -101) dX7_together_29 (by decide) ?_
          exact fr_iret dX7_together_31 rfl (Nat.le_refl _) (Nat.le_refl _) t

def t_X7_rests (E : am_E) (d : Nat) (x1 : Int32) (σ : FH) (Q : FH → Prop) : Prop :=
  (vp_in ((5 * x1) + 1) 20 ∧ ((5 ≤ (σ.1 82 ((5 * x1) + 1).toNatClampNeg) → (vp_in ((5 * x1) + 1) 20 ∧ (vp_in ((5 * x1) + 1) 20 ∧ (∀ σ5 : FH, σ5 = fsI σ 82 ((5 * x1) + 1).toNatClampNeg ((σ.1 82 ((5 * x1) + 1).toNatClampNeg) - 5) → Q σ5)))) ∧
  (¬ 5 ≤ (σ.1 82 ((5 * x1) + 1).toNatClampNeg) → (vp_in ((5 * x1) + 1) 20 ∧ (∀ σ7 : FH, σ7 = fsI σ 82 ((5 * x1) + 1).toNatClampNeg 0 → Q σ7)))))
set_option maxRecDepth 100000 in
set_option maxHeartbeats 4000000 in
theorem v_X7_rests {E : am_E} {d : Nat} {σ : FH} {Q : FH → Prop} {x1 : Int32} (t : t_X7_rests E d x1 σ Q) : fMv E (d + 1) mX7_rests [.ref 78, .int x1] σ Q := by
  refine fr_ofG [some (.ref 78), some (.int x1)] (by decide) rfl (Nat.le_of_ble_eq_true rfl) ?_
  unfold t_X7_rests at t
  refine ar_aload_n (i := 0) dX7_rests_0 rfl rfl ?_
  refine fr_getR (t := 7) (j := 12) (r := 82) dX7_rests_1 fs_X7_19 o_78 rfl rfl (by decide) ?_
  refine ar_iconst (v := 5) dX7_rests_4 (by decide) ?_
  refine ar_iload_n (i := 1) dX7_rests_5 rfl rfl ?_
  refine ar_imul dX7_rests_6 ?_
  refine ar_iconst (v := 1) dX7_rests_7 (by decide) ?_
  refine ar_iadd dX7_rests_8 ?_
  refine ar_aload_n (i := 0) dX7_rests_9 rfl rfl ?_
  refine fr_getR (t := 7) (j := 12) (r := 82) dX7_rests_10 fs_X7_19 o_78 rfl rfl (by decide) ?_
  refine ar_iconst (v := 5) dX7_rests_13 (by decide) ?_
  refine ar_iload_n (i := 1) dX7_rests_14 rfl rfl ?_
  refine ar_imul dX7_rests_15 ?_
  refine ar_iconst (v := 1) dX7_rests_16 (by decide) ?_
  refine ar_iadd dX7_rests_17 ?_
  obtain ⟨h1, t⟩ := t
  refine fr_iald (n := 20) dX7_rests_18 a_82 h1 ?_
  refine ar_iconst (v := 5) dX7_rests_19 (by decide) ?_
  refine ar_icmp_ge (tgt := 27) dX7_rests_20 (by decide) (fun h2 => ?_) (fun h2 => ?_)
  · have t := t.1 h2
    refine ar_aload_n (i := 0) dX7_rests_27 rfl rfl ?_
    refine fr_getR (t := 7) (j := 12) (r := 82) dX7_rests_28 fs_X7_19 o_78 rfl rfl (by decide) ?_
    refine ar_iconst (v := 5) dX7_rests_31 (by decide) ?_
    refine ar_iload_n (i := 1) dX7_rests_32 rfl rfl ?_
    refine ar_imul dX7_rests_33 ?_
    refine ar_iconst (v := 1) dX7_rests_34 (by decide) ?_
    refine ar_iadd dX7_rests_35 ?_
    obtain ⟨h3, t⟩ := t
    refine fr_iald (n := 20) dX7_rests_36 a_82 h3 ?_
    refine ar_iconst (v := 5) dX7_rests_37 (by decide) ?_
    refine ar_isub dX7_rests_38 ?_
    obtain ⟨h4, t⟩ := t
    refine fr_iast (n := 20) dX7_rests_39 a_82 h4 ?_
    have t := t _ rfl
    exact fr_vret dX7_rests_40 rfl (Nat.le_refl _) (Nat.le_refl _) t
  · have t := t.2 h2
    refine ar_iconst (v := 0) dX7_rests_23 (by decide) ?_
    refine ar_goto (tgt := 39) dX7_rests_24 (by decide) ?_
    obtain ⟨h6, t⟩ := t
    refine fr_iast (n := 20) dX7_rests_39 a_82 h6 ?_
    have t := t _ rfl
    exact fr_vret dX7_rests_40 rfl (Nat.le_refl _) (Nat.le_refl _) t

def t_X7_rest (E : am_E) (d : Nat) (x1 : Int32) (σ : FH) (Q : Int32 → FH → Prop) : Prop :=
  fMi E d mX7_isPilgrim [.ref 78, .int x1] σ (fun r2 σ1 => ((¬ r2 = 0 → fMi E d mX7_isIn [.ref 78, .int x1] σ1 (fun r5 σ4 => ((r5 = 0 → fMv E d mX7_rests [.ref 78, .int x1] σ4 (fun σ7 => (∀ σ9 : FH, σ9 = fsI σ7 78 9 ((σ7.1 78 9) + 1) → (vp_in ((5 * x1) + 1) 20 ∧ Q (σ9.1 82 ((5 * x1) + 1).toNatClampNeg) σ9)))) ∧
    (¬ r5 = 0 → Q (-103) σ4)))) ∧
  (r2 = 0 → Q (-101) σ1)))
set_option maxRecDepth 100000 in
set_option maxHeartbeats 4000000 in
theorem v_X7_rest {E : am_E} {d : Nat} {σ : FH} {Q : Int32 → FH → Prop} {x1 : Int32} (t : t_X7_rest E d x1 σ Q) : fMi E (d + 1) mX7_rest [.ref 78, .int x1] σ Q := by
  refine fr_ofG [some (.ref 78), some (.int x1)] (by decide) rfl (Nat.le_of_ble_eq_true rfl) ?_
  unfold t_X7_rest at t
  refine ar_aload_n (i := 0) dX7_rest_0 rfl rfl ?_
  refine ar_iload_n (i := 1) dX7_rest_1 rfl rfl ?_
  refine fr_callVi (M' := mX7_isPilgrim) [_] dX7_rest_2 ml_X7_142 mv_X7_isPilgrim rfl rfl o_78 rfl rfl (Nat.le_of_ble_eq_true rfl) ⟨Nat.le_refl _, Nat.le_refl _⟩ t (fun r2 σ1 t => ?_)
  try dsimp only at t
  refine ar_if_ne (tgt := 11) dX7_rest_5 (by decide) (fun h3 => ?_) (fun h3 => ?_)
  · have t := t.1 h3
    refine ar_aload_n (i := 0) dX7_rest_11 rfl rfl ?_
    refine ar_iload_n (i := 1) dX7_rest_12 rfl rfl ?_
    refine fr_callVi (M' := mX7_isIn) [_] dX7_rest_13 ml_X7_148 mv_X7_isIn rfl rfl o_78 rfl rfl (Nat.le_of_ble_eq_true rfl) ⟨Nat.le_refl _, Nat.le_refl _⟩ t (fun r5 σ4 t => ?_)
    try dsimp only at t
    refine ar_if_eq (tgt := 22) dX7_rest_16 (by decide) (fun h6 => ?_) (fun h6 => ?_)
    · have t := t.1 h6
      refine ar_aload_n (i := 0) dX7_rest_22 rfl rfl ?_
      refine ar_iload_n (i := 1) dX7_rest_23 rfl rfl ?_
      refine fr_callVv (M' := mX7_rests) [_] dX7_rest_24 ml_X7_162 mv_X7_rests rfl rfl o_78 rfl rfl (Nat.le_of_ble_eq_true rfl) ⟨Nat.le_refl _, Nat.le_refl _⟩ t (fun σ7 t => ?_)
      try dsimp only at t
      refine ar_aload_n (i := 0) dX7_rest_27 rfl rfl ?_
      refine ar_dup dX7_rest_28 rfl ?_
      refine fr_getI (t := 7) (j := 9) dX7_rest_29 fs_X7_113 o_78 rfl ?_
      refine ar_iconst (v := 1) dX7_rest_32 (by decide) ?_
      refine ar_iadd dX7_rest_33 ?_
      refine fr_putI (t := 7) (j := 9) dX7_rest_34 fq_X7_113 o_78 rfl (Or.inl rfl) ?_
      have t := t _ rfl
      refine ar_aload_n (i := 0) dX7_rest_37 rfl rfl ?_
      refine fr_getR (t := 7) (j := 12) (r := 82) dX7_rest_38 fs_X7_19 o_78 rfl rfl (by decide) ?_
      refine ar_iconst (v := 5) dX7_rest_41 (by decide) ?_
      refine ar_iload_n (i := 1) dX7_rest_42 rfl rfl ?_
      refine ar_imul dX7_rest_43 ?_
      refine ar_iconst (v := 1) dX7_rest_44 (by decide) ?_
      refine ar_iadd dX7_rest_45 ?_
      obtain ⟨h10, t⟩ := t
      refine fr_iald (n := 20) dX7_rest_46 a_82 h10 ?_
      exact fr_iret dX7_rest_47 rfl (Nat.le_refl _) (Nat.le_refl _) t
    · have t := t.2 h6
      refine ar_bipush (v := -103) dX7_rest_19 (by decide) ?_
      exact fr_iret dX7_rest_21 rfl (Nat.le_refl _) (Nat.le_refl _) t
  · have t := t.2 h3
    refine ar_bipush (v := -101) dX7_rest_8 (by decide) ?_
    exact fr_iret dX7_rest_10 rfl (Nat.le_refl _) (Nat.le_refl _) t

def t_X7_asks (E : am_E) (d : Nat) (x1 : Int32) (σ : FH) (Q : FH → Prop) : Prop :=
  (vp_in (5 * x1) 20 ∧ ((¬ (σ.1 82 (5 * x1).toNatClampNeg) = 5 → (vp_in ((5 * x1) + 3) 20 ∧ (vp_in ((5 * x1) + 3) 20 ∧ (∀ σ5 : FH, σ5 = fsI σ 82 ((5 * x1) + 3).toNatClampNeg (σ.1 82 ((5 * x1) + 3).toNatClampNeg) → Q σ5)))) ∧
  ((σ.1 82 (5 * x1).toNatClampNeg) = 5 → (vp_in ((5 * x1) + 2) 20 ∧ ((¬ (σ.1 82 ((5 * x1) + 2).toNatClampNeg) = (σ.1 78 7) → (vp_in ((5 * x1) + 3) 20 ∧ (vp_in ((5 * x1) + 3) 20 ∧ (∀ σ10 : FH, σ10 = fsI σ 82 ((5 * x1) + 3).toNatClampNeg (σ.1 82 ((5 * x1) + 3).toNatClampNeg) → Q σ10)))) ∧
    ((σ.1 82 ((5 * x1) + 2).toNatClampNeg) = (σ.1 78 7) → (vp_in ((5 * x1) + 3) 20 ∧ (∀ σ12 : FH, σ12 = fsI σ 82 ((5 * x1) + 3).toNatClampNeg 1 → Q σ12))))))))
set_option maxRecDepth 100000 in
set_option maxHeartbeats 4000000 in
theorem v_X7_asks {E : am_E} {d : Nat} {σ : FH} {Q : FH → Prop} {x1 : Int32} (t : t_X7_asks E d x1 σ Q) : fMv E (d + 1) mX7_asks [.ref 78, .int x1] σ Q := by
  refine fr_ofG [some (.ref 78), some (.int x1)] (by decide) rfl (Nat.le_of_ble_eq_true rfl) ?_
  unfold t_X7_asks at t
  refine ar_aload_n (i := 0) dX7_asks_0 rfl rfl ?_
  refine fr_getR (t := 7) (j := 12) (r := 82) dX7_asks_1 fs_X7_19 o_78 rfl rfl (by decide) ?_
  refine ar_iconst (v := 5) dX7_asks_4 (by decide) ?_
  refine ar_iload_n (i := 1) dX7_asks_5 rfl rfl ?_
  refine ar_imul dX7_asks_6 ?_
  refine ar_iconst (v := 3) dX7_asks_7 (by decide) ?_
  refine ar_iadd dX7_asks_8 ?_
  refine ar_aload_n (i := 0) dX7_asks_9 rfl rfl ?_
  refine fr_getR (t := 7) (j := 12) (r := 82) dX7_asks_10 fs_X7_19 o_78 rfl rfl (by decide) ?_
  refine ar_iconst (v := 5) dX7_asks_13 (by decide) ?_
  refine ar_iload_n (i := 1) dX7_asks_14 rfl rfl ?_
  refine ar_imul dX7_asks_15 ?_
  obtain ⟨h1, t⟩ := t
  refine fr_iald (n := 20) dX7_asks_16 a_82 h1 ?_
  refine ar_iconst (v := 5) dX7_asks_17 (by decide) ?_
  refine ar_icmp_ne (tgt := 42) dX7_asks_18 (by decide) (fun h2 => ?_) (fun h2 => ?_)
  · have t := t.1 h2
    refine ar_aload_n (i := 0) dX7_asks_42 rfl rfl ?_
    refine fr_getR (t := 7) (j := 12) (r := 82) dX7_asks_43 fs_X7_19 o_78 rfl rfl (by decide) ?_
    refine ar_iconst (v := 5) dX7_asks_46 (by decide) ?_
    refine ar_iload_n (i := 1) dX7_asks_47 rfl rfl ?_
    refine ar_imul dX7_asks_48 ?_
    refine ar_iconst (v := 3) dX7_asks_49 (by decide) ?_
    refine ar_iadd dX7_asks_50 ?_
    obtain ⟨h3, t⟩ := t
    refine fr_iald (n := 20) dX7_asks_51 a_82 h3 ?_
    obtain ⟨h4, t⟩ := t
    refine fr_iast (n := 20) dX7_asks_52 a_82 h4 ?_
    have t := t _ rfl
    exact fr_vret dX7_asks_53 rfl (Nat.le_refl _) (Nat.le_refl _) t
  · have t := t.2 h2
    refine ar_aload_n (i := 0) dX7_asks_21 rfl rfl ?_
    refine fr_getR (t := 7) (j := 12) (r := 82) dX7_asks_22 fs_X7_19 o_78 rfl rfl (by decide) ?_
    refine ar_iconst (v := 5) dX7_asks_25 (by decide) ?_
    refine ar_iload_n (i := 1) dX7_asks_26 rfl rfl ?_
    refine ar_imul dX7_asks_27 ?_
    refine ar_iconst (v := 2) dX7_asks_28 (by decide) ?_
    refine ar_iadd dX7_asks_29 ?_
    obtain ⟨h6, t⟩ := t
    refine fr_iald (n := 20) dX7_asks_30 a_82 h6 ?_
    refine ar_aload_n (i := 0) dX7_asks_31 rfl rfl ?_
    refine fr_getI (t := 7) (j := 7) dX7_asks_32 fs_X7_107 o_78 rfl ?_
    refine ar_icmp_ne (tgt := 42) dX7_asks_35 (by decide) (fun h7 => ?_) (fun h7 => ?_)
    · have t := t.1 h7
      refine ar_aload_n (i := 0) dX7_asks_42 rfl rfl ?_
      refine fr_getR (t := 7) (j := 12) (r := 82) dX7_asks_43 fs_X7_19 o_78 rfl rfl (by decide) ?_
      refine ar_iconst (v := 5) dX7_asks_46 (by decide) ?_
      refine ar_iload_n (i := 1) dX7_asks_47 rfl rfl ?_
      refine ar_imul dX7_asks_48 ?_
      refine ar_iconst (v := 3) dX7_asks_49 (by decide) ?_
      refine ar_iadd dX7_asks_50 ?_
      obtain ⟨h8, t⟩ := t
      refine fr_iald (n := 20) dX7_asks_51 a_82 h8 ?_
      obtain ⟨h9, t⟩ := t
      refine fr_iast (n := 20) dX7_asks_52 a_82 h9 ?_
      have t := t _ rfl
      exact fr_vret dX7_asks_53 rfl (Nat.le_refl _) (Nat.le_refl _) t
    · have t := t.2 h7
      refine ar_iconst (v := 1) dX7_asks_38 (by decide) ?_
      refine ar_goto (tgt := 52) dX7_asks_39 (by decide) ?_
      obtain ⟨h11, t⟩ := t
      refine fr_iast (n := 20) dX7_asks_52 a_82 h11 ?_
      have t := t _ rfl
      exact fr_vret dX7_asks_53 rfl (Nat.le_refl _) (Nat.le_refl _) t

def t_X7_enter (E : am_E) (d : Nat) (x1 : Int32) (σ : FH) (Q : Int32 → FH → Prop) : Prop :=
  fMi E d mX7_isPilgrim [.ref 78, .int x1] σ (fun r2 σ1 => ((¬ r2 = 0 → fMi E d mX7_isIn [.ref 78, .int x1] σ1 (fun r5 σ4 => ((¬ r5 = 0 → Q (-103) σ4) ∧
    (r5 = 0 → (vp_in (5 * x1) 20 ∧ (((σ4.1 82 (5 * x1).toNatClampNeg) = 5 → fMv E d mX7_asks [.ref 78, .int x1] σ4 (fun σ9 => (vp_in ((5 * x1) + 2) 20 ∧ Q ((σ9.1 78 7) - (σ9.1 82 ((5 * x1) + 2).toNatClampNeg)) σ9))) ∧
      (¬ (σ4.1 82 (5 * x1).toNatClampNeg) = 5 → Q (-103) σ4))))))) ∧
  (r2 = 0 → Q (-101) σ1)))
set_option maxRecDepth 100000 in
set_option maxHeartbeats 4000000 in
theorem v_X7_enter {E : am_E} {d : Nat} {σ : FH} {Q : Int32 → FH → Prop} {x1 : Int32} (t : t_X7_enter E d x1 σ Q) : fMi E (d + 1) mX7_enter [.ref 78, .int x1] σ Q := by
  refine fr_ofG [some (.ref 78), some (.int x1)] (by decide) rfl (Nat.le_of_ble_eq_true rfl) ?_
  unfold t_X7_enter at t
  refine ar_aload_n (i := 0) dX7_enter_0 rfl rfl ?_
  refine ar_iload_n (i := 1) dX7_enter_1 rfl rfl ?_
  refine fr_callVi (M' := mX7_isPilgrim) [_] dX7_enter_2 ml_X7_142 mv_X7_isPilgrim rfl rfl o_78 rfl rfl (Nat.le_of_ble_eq_true rfl) ⟨Nat.le_refl _, Nat.le_refl _⟩ t (fun r2 σ1 t => ?_)
  try dsimp only at t
  refine ar_if_ne (tgt := 11) dX7_enter_5 (by decide) (fun h3 => ?_) (fun h3 => ?_)
  · have t := t.1 h3
    refine ar_aload_n (i := 0) dX7_enter_11 rfl rfl ?_
    refine ar_iload_n (i := 1) dX7_enter_12 rfl rfl ?_
    refine fr_callVi (M' := mX7_isIn) [_] dX7_enter_13 ml_X7_148 mv_X7_isIn rfl rfl o_78 rfl rfl (Nat.le_of_ble_eq_true rfl) ⟨Nat.le_refl _, Nat.le_refl _⟩ t (fun r5 σ4 t => ?_)
    try dsimp only at t
    refine ar_if_ne (tgt := 31) dX7_enter_16 (by decide) (fun h6 => ?_) (fun h6 => ?_)
    · have t := t.1 h6
      refine ar_bipush (v := -103) dX7_enter_31 (by decide) ?_
      exact fr_iret dX7_enter_33 rfl (Nat.le_refl _) (Nat.le_refl _) t
    · have t := t.2 h6
      refine ar_aload_n (i := 0) dX7_enter_19 rfl rfl ?_
      refine fr_getR (t := 7) (j := 12) (r := 82) dX7_enter_20 fs_X7_19 o_78 rfl rfl (by decide) ?_
      refine ar_iconst (v := 5) dX7_enter_23 (by decide) ?_
      refine ar_iload_n (i := 1) dX7_enter_24 rfl rfl ?_
      refine ar_imul dX7_enter_25 ?_
      obtain ⟨h7, t⟩ := t
      refine fr_iald (n := 20) dX7_enter_26 a_82 h7 ?_
      refine ar_iconst (v := 5) dX7_enter_27 (by decide) ?_
      refine ar_icmp_eq (tgt := 34) dX7_enter_28 (by decide) (fun h8 => ?_) (fun h8 => ?_)
      · have t := t.1 h8
        refine ar_aload_n (i := 0) dX7_enter_34 rfl rfl ?_
        refine ar_iload_n (i := 1) dX7_enter_35 rfl rfl ?_
        refine fr_callVv (M' := mX7_asks) [_] dX7_enter_36 ml_X7_166 mv_X7_asks rfl rfl o_78 rfl rfl (Nat.le_of_ble_eq_true rfl) ⟨Nat.le_refl _, Nat.le_refl _⟩ t (fun σ9 t => ?_)
        try dsimp only at t
        refine ar_aload_n (i := 0) dX7_enter_39 rfl rfl ?_
        refine fr_getI (t := 7) (j := 7) dX7_enter_40 fs_X7_107 o_78 rfl ?_
        refine ar_aload_n (i := 0) dX7_enter_43 rfl rfl ?_
        refine fr_getR (t := 7) (j := 12) (r := 82) dX7_enter_44 fs_X7_19 o_78 rfl rfl (by decide) ?_
        refine ar_iconst (v := 5) dX7_enter_47 (by decide) ?_
        refine ar_iload_n (i := 1) dX7_enter_48 rfl rfl ?_
        refine ar_imul dX7_enter_49 ?_
        refine ar_iconst (v := 2) dX7_enter_50 (by decide) ?_
        refine ar_iadd dX7_enter_51 ?_
        obtain ⟨h11, t⟩ := t
        refine fr_iald (n := 20) dX7_enter_52 a_82 h11 ?_
        refine ar_isub dX7_enter_53 ?_
        exact fr_iret dX7_enter_54 rfl (Nat.le_refl _) (Nat.le_refl _) t
      · have t := t.2 h8
        refine ar_bipush (v := -103) dX7_enter_31 (by decide) ?_
        exact fr_iret dX7_enter_33 rfl (Nat.le_refl _) (Nat.le_refl _) t
  · have t := t.2 h3
    refine ar_bipush (v := -101) dX7_enter_8 (by decide) ?_
    exact fr_iret dX7_enter_10 rfl (Nat.le_refl _) (Nat.le_refl _) t

def t_X7_isFresh (E : am_E) (d : Nat) (x1 : Int32) (x2 : Int32) (σ : FH) (Q : Int32 → FH → Prop) : Prop :=
  ((x2 = 8 → Q 1 σ) ∧
  (¬ x2 = 8 → (vp_in ((5 * x2) + 3) 45 ∧ (vp_in ((8 * x1) + x2) 32 ∧ (((σ.1 81 ((5 * x2) + 3).toNatClampNeg) ≤ (σ.1 83 ((8 * x1) + x2).toNatClampNeg) → Q 0 σ) ∧
    (¬ (σ.1 81 ((5 * x2) + 3).toNatClampNeg) ≤ (σ.1 83 ((8 * x1) + x2).toNatClampNeg) → Q 1 σ))))))
set_option maxRecDepth 100000 in
set_option maxHeartbeats 4000000 in
theorem v_X7_isFresh {E : am_E} {d : Nat} {σ : FH} {Q : Int32 → FH → Prop} {x1 : Int32} {x2 : Int32} (t : t_X7_isFresh E d x1 x2 σ Q) : fMi E (d + 1) mX7_isFresh [.ref 78, .int x1, .int x2] σ Q := by
  refine fr_ofG [some (.ref 78), some (.int x1), some (.int x2)] (by decide) rfl (Nat.le_of_ble_eq_true rfl) ?_
  unfold t_X7_isFresh at t
  refine ar_iload_n (i := 2) dX7_isFresh_0 rfl rfl ?_
  refine ar_bipush (v := 8) dX7_isFresh_1 (by decide) ?_
  refine ar_icmp_eq (tgt := 30) dX7_isFresh_3 (by decide) (fun h1 => ?_) (fun h1 => ?_)
  · have t := t.1 h1
    refine ar_iconst (v := 1) dX7_isFresh_30 (by decide) ?_
    refine ar_goto (tgt := 35) dX7_isFresh_31 (by decide) ?_
    exact fr_zret dX7_isFresh_35 rfl (Nat.le_refl _) (Nat.le_refl _) (Or.inr rfl) t
  · have t := t.2 h1
    refine ar_aload_n (i := 0) dX7_isFresh_6 rfl rfl ?_
    refine fr_getR (t := 7) (j := 10) (r := 81) dX7_isFresh_7 fs_X7_16 o_78 rfl rfl (by decide) ?_
    refine ar_iconst (v := 5) dX7_isFresh_10 (by decide) ?_
    refine ar_iload_n (i := 2) dX7_isFresh_11 rfl rfl ?_
    refine ar_imul dX7_isFresh_12 ?_
    refine ar_iconst (v := 3) dX7_isFresh_13 (by decide) ?_
    refine ar_iadd dX7_isFresh_14 ?_
    obtain ⟨h2, t⟩ := t
    refine fr_iald (n := 45) dX7_isFresh_15 a_81 h2 ?_
    refine ar_aload_n (i := 0) dX7_isFresh_16 rfl rfl ?_
    refine fr_getR (t := 7) (j := 13) (r := 83) dX7_isFresh_17 fs_X7_22 o_78 rfl rfl (by decide) ?_
    refine ar_bipush (v := 8) dX7_isFresh_20 (by decide) ?_
    refine ar_iload_n (i := 1) dX7_isFresh_22 rfl rfl ?_
    refine ar_imul dX7_isFresh_23 ?_
    refine ar_iload_n (i := 2) dX7_isFresh_24 rfl rfl ?_
    refine ar_iadd dX7_isFresh_25 ?_
    obtain ⟨h3, t⟩ := t
    refine fr_iald (n := 32) dX7_isFresh_26 a_83 h3 ?_
    refine ar_icmp_le (tgt := 34) dX7_isFresh_27 (by decide) (fun h4 => ?_) (fun h4 => ?_)
    · have t := t.1 h4
      refine ar_iconst (v := 0) dX7_isFresh_34 (by decide) ?_
      exact fr_zret dX7_isFresh_35 rfl (Nat.le_refl _) (Nat.le_refl _) (Or.inl rfl) t
    · have t := t.2 h4
      refine ar_iconst (v := 1) dX7_isFresh_30 (by decide) ?_
      refine ar_goto (tgt := 35) dX7_isFresh_31 (by decide) ?_
      exact fr_zret dX7_isFresh_35 rfl (Nat.le_refl _) (Nat.le_refl _) (Or.inr rfl) t

def t_X7_relax_66 (E : am_E) (d : Nat) (x1 : Int32) (x2 : Int32) (x3 : Int32) (x4 : Int32) (xs0 : Int32) (σ : FH) (Q : FH → Prop) : Prop :=
  ((xs0 = 0 → Q σ) ∧
  (¬ xs0 = 0 → (vp_in x1 3072 ∧ (∀ σ5 : FH, σ5 = fsI σ 84 x1.toNatClampNeg x2 → (vp_in x1 3072 ∧ (∀ σ7 : FH, σ7 = fsI σ5 85 x1.toNatClampNeg x3 → (vp_in x1 3072 ∧ (∀ σ9 : FH, σ9 = fsI σ7 86 x1.toNatClampNeg x4 → Q σ9))))))))
set_option maxRecDepth 100000 in
set_option maxHeartbeats 4000000 in
theorem v_X7_relax_66 {E : am_E} {d : Nat} {σ : FH} {Q : FH → Prop} {x1 : Int32} {x2 : Int32} {x3 : Int32} {x4 : Int32} {xs0 : Int32} (t : t_X7_relax_66 E d x1 x2 x3 x4 xs0 σ Q) : fG E (d + 1) mX7_relax 66 [some (.ref 78), some (.int x1), some (.int x2), some (.int x3), some (.int x4), none] [.int xs0] σ (qv Q) := by
  unfold t_X7_relax_66 at t
  refine ar_istore (i := 5) (lo2 := [_, _, _, _, _, _]) dX7_relax_66 (Nat.le_of_ble_eq_true rfl) rfl rfl ?_
  refine ar_iload (i := 5) dX7_relax_68 rfl ?_
  refine ar_if_eq (tgt := 95) dX7_relax_70 (by decide) (fun h3 => ?_) (fun h3 => ?_)
  · have t := t.1 h3
    exact fr_vret dX7_relax_95 rfl (Nat.le_refl _) (Nat.le_refl _) t
  · have t := t.2 h3
    refine ar_aload_n (i := 0) dX7_relax_73 rfl rfl ?_
    refine fr_getR (t := 7) (j := 15) (r := 84) dX7_relax_74 fs_X7_25 o_78 rfl rfl (by decide) ?_
    refine ar_iload_n (i := 1) dX7_relax_77 rfl rfl ?_
    refine ar_iload_n (i := 2) dX7_relax_78 rfl rfl ?_
    obtain ⟨h4, t⟩ := t
    refine fr_iast (n := 3072) dX7_relax_79 a_84 h4 ?_
    have t := t _ rfl
    refine ar_aload_n (i := 0) dX7_relax_80 rfl rfl ?_
    refine fr_getR (t := 7) (j := 16) (r := 85) dX7_relax_81 fs_X7_28 o_78 rfl rfl (by decide) ?_
    refine ar_iload_n (i := 1) dX7_relax_84 rfl rfl ?_
    refine ar_iload_n (i := 3) dX7_relax_85 rfl rfl ?_
    obtain ⟨h6, t⟩ := t
    refine fr_iast (n := 3072) dX7_relax_86 a_85 h6 ?_
    have t := t _ rfl
    refine ar_aload_n (i := 0) dX7_relax_87 rfl rfl ?_
    refine fr_getR (t := 7) (j := 17) (r := 86) dX7_relax_88 fs_X7_31 o_78 rfl rfl (by decide) ?_
    refine ar_iload_n (i := 1) dX7_relax_91 rfl rfl ?_
    refine ar_iload (i := 4) dX7_relax_92 rfl ?_
    obtain ⟨h8, t⟩ := t
    refine fr_iast (n := 3072) dX7_relax_94 a_86 h8 ?_
    have t := t _ rfl
    exact fr_vret dX7_relax_95 rfl (Nat.le_refl _) (Nat.le_refl _) t
def t_X7_relax_61 (E : am_E) (d : Nat) (x1 : Int32) (x2 : Int32) (x3 : Int32) (x4 : Int32) (σ : FH) (Q : FH → Prop) : Prop :=
  t_X7_relax_66 E d x1 x2 x3 x4 1 σ Q
set_option maxRecDepth 100000 in
set_option maxHeartbeats 4000000 in
theorem v_X7_relax_61 {E : am_E} {d : Nat} {σ : FH} {Q : FH → Prop} {x1 : Int32} {x2 : Int32} {x3 : Int32} {x4 : Int32} (t : t_X7_relax_61 E d x1 x2 x3 x4 σ Q) : fG E (d + 1) mX7_relax 61 [some (.ref 78), some (.int x1), some (.int x2), some (.int x3), some (.int x4), none] [] σ (qv Q) := by
  unfold t_X7_relax_61 at t
  refine ar_iconst (v := 1) dX7_relax_61 (by decide) ?_
  refine ar_goto (tgt := 66) dX7_relax_62 (by decide) ?_
  exact v_X7_relax_66 t
def t_X7_relax_65 (E : am_E) (d : Nat) (x1 : Int32) (x2 : Int32) (x3 : Int32) (x4 : Int32) (σ : FH) (Q : FH → Prop) : Prop :=
  t_X7_relax_66 E d x1 x2 x3 x4 0 σ Q
set_option maxRecDepth 100000 in
set_option maxHeartbeats 4000000 in
theorem v_X7_relax_65 {E : am_E} {d : Nat} {σ : FH} {Q : FH → Prop} {x1 : Int32} {x2 : Int32} {x3 : Int32} {x4 : Int32} (t : t_X7_relax_65 E d x1 x2 x3 x4 σ Q) : fG E (d + 1) mX7_relax 65 [some (.ref 78), some (.int x1), some (.int x2), some (.int x3), some (.int x4), none] [] σ (qv Q) := by
  unfold t_X7_relax_65 at t
  refine ar_iconst (v := 0) dX7_relax_65 (by decide) ?_
  exact v_X7_relax_66 t
def t_X7_relax (E : am_E) (d : Nat) (x1 : Int32) (x2 : Int32) (x3 : Int32) (x4 : Int32) (σ : FH) (Q : FH → Prop) : Prop :=
  (vp_in x1 3072 ∧ (((σ.1 84 x1.toNatClampNeg) = (-1) → t_X7_relax_61 E d x1 x2 x3 x4 σ Q) ∧
  (¬ (σ.1 84 x1.toNatClampNeg) = (-1) → (vp_in x1 3072 ∧ ((x2 < (σ.1 84 x1.toNatClampNeg) → t_X7_relax_61 E d x1 x2 x3 x4 σ Q) ∧
    (¬ x2 < (σ.1 84 x1.toNatClampNeg) → (vp_in x1 3072 ∧ ((¬ x2 = (σ.1 84 x1.toNatClampNeg) → t_X7_relax_65 E d x1 x2 x3 x4 σ Q) ∧
      (x2 = (σ.1 84 x1.toNatClampNeg) → (vp_in x1 3072 ∧ ((x3 < (σ.1 85 x1.toNatClampNeg) → t_X7_relax_61 E d x1 x2 x3 x4 σ Q) ∧
        (¬ x3 < (σ.1 85 x1.toNatClampNeg) → (vp_in x1 3072 ∧ ((¬ x3 = (σ.1 85 x1.toNatClampNeg) → t_X7_relax_65 E d x1 x2 x3 x4 σ Q) ∧
          (x3 = (σ.1 85 x1.toNatClampNeg) → (vp_in x1 3072 ∧ (((σ.1 86 x1.toNatClampNeg) ≤ x4 → t_X7_relax_65 E d x1 x2 x3 x4 σ Q) ∧
            (¬ (σ.1 86 x1.toNatClampNeg) ≤ x4 → t_X7_relax_61 E d x1 x2 x3 x4 σ Q))))))))))))))))))
set_option maxRecDepth 100000 in
set_option maxHeartbeats 4000000 in
theorem v_X7_relax {E : am_E} {d : Nat} {σ : FH} {Q : FH → Prop} {x1 : Int32} {x2 : Int32} {x3 : Int32} {x4 : Int32} (t : t_X7_relax E d x1 x2 x3 x4 σ Q) : fMv E (d + 1) mX7_relax [.ref 78, .int x1, .int x2, .int x3, .int x4] σ Q := by
  refine fr_ofG [some (.ref 78), some (.int x1), some (.int x2), some (.int x3), some (.int x4), none] (by decide) rfl (Nat.le_of_ble_eq_true rfl) ?_
  unfold t_X7_relax at t
  refine ar_aload_n (i := 0) dX7_relax_0 rfl rfl ?_
  refine fr_getR (t := 7) (j := 15) (r := 84) dX7_relax_1 fs_X7_25 o_78 rfl rfl (by decide) ?_
  refine ar_iload_n (i := 1) dX7_relax_4 rfl rfl ?_
  obtain ⟨h1, t⟩ := t
  refine fr_iald (n := 3072) dX7_relax_5 a_84 h1 ?_
  refine ar_iconst (v := -1) dX7_relax_6 (by decide) ?_
  refine ar_icmp_eq (tgt := 61) dX7_relax_7 (by decide) (fun h2 => ?_) (fun h2 => ?_)
  · have t := t.1 h2
    exact v_X7_relax_61 t
  · have t := t.2 h2
    refine ar_iload_n (i := 2) dX7_relax_10 rfl rfl ?_
    refine ar_aload_n (i := 0) dX7_relax_11 rfl rfl ?_
    refine fr_getR (t := 7) (j := 15) (r := 84) dX7_relax_12 fs_X7_25 o_78 rfl rfl (by decide) ?_
    refine ar_iload_n (i := 1) dX7_relax_15 rfl rfl ?_
    obtain ⟨h10, t⟩ := t
    refine fr_iald (n := 3072) dX7_relax_16 a_84 h10 ?_
    refine ar_icmp_lt (tgt := 61) dX7_relax_17 (by decide) (fun h11 => ?_) (fun h11 => ?_)
    · have t := t.1 h11
      exact v_X7_relax_61 t
    · have t := t.2 h11
      refine ar_iload_n (i := 2) dX7_relax_20 rfl rfl ?_
      refine ar_aload_n (i := 0) dX7_relax_21 rfl rfl ?_
      refine fr_getR (t := 7) (j := 15) (r := 84) dX7_relax_22 fs_X7_25 o_78 rfl rfl (by decide) ?_
      refine ar_iload_n (i := 1) dX7_relax_25 rfl rfl ?_
      obtain ⟨h12, t⟩ := t
      refine fr_iald (n := 3072) dX7_relax_26 a_84 h12 ?_
      refine ar_icmp_ne (tgt := 65) dX7_relax_27 (by decide) (fun h13 => ?_) (fun h13 => ?_)
      · have t := t.1 h13
        exact v_X7_relax_65 t
      · have t := t.2 h13
        refine ar_iload_n (i := 3) dX7_relax_30 rfl rfl ?_
        refine ar_aload_n (i := 0) dX7_relax_31 rfl rfl ?_
        refine fr_getR (t := 7) (j := 16) (r := 85) dX7_relax_32 fs_X7_28 o_78 rfl rfl (by decide) ?_
        refine ar_iload_n (i := 1) dX7_relax_35 rfl rfl ?_
        obtain ⟨h14, t⟩ := t
        refine fr_iald (n := 3072) dX7_relax_36 a_85 h14 ?_
        refine ar_icmp_lt (tgt := 61) dX7_relax_37 (by decide) (fun h15 => ?_) (fun h15 => ?_)
        · have t := t.1 h15
          exact v_X7_relax_61 t
        · have t := t.2 h15
          refine ar_iload_n (i := 3) dX7_relax_40 rfl rfl ?_
          refine ar_aload_n (i := 0) dX7_relax_41 rfl rfl ?_
          refine fr_getR (t := 7) (j := 16) (r := 85) dX7_relax_42 fs_X7_28 o_78 rfl rfl (by decide) ?_
          refine ar_iload_n (i := 1) dX7_relax_45 rfl rfl ?_
          obtain ⟨h16, t⟩ := t
          refine fr_iald (n := 3072) dX7_relax_46 a_85 h16 ?_
          refine ar_icmp_ne (tgt := 65) dX7_relax_47 (by decide) (fun h17 => ?_) (fun h17 => ?_)
          · have t := t.1 h17
            exact v_X7_relax_65 t
          · have t := t.2 h17
            refine ar_iload (i := 4) dX7_relax_50 rfl ?_
            refine ar_aload_n (i := 0) dX7_relax_52 rfl rfl ?_
            refine fr_getR (t := 7) (j := 17) (r := 86) dX7_relax_53 fs_X7_31 o_78 rfl rfl (by decide) ?_
            refine ar_iload_n (i := 1) dX7_relax_56 rfl rfl ?_
            obtain ⟨h18, t⟩ := t
            refine fr_iald (n := 3072) dX7_relax_57 a_86 h18 ?_
            refine ar_icmp_ge (tgt := 65) dX7_relax_58 (by decide) (fun h19 => ?_) (fun h19 => ?_)
            · have t := t.1 h19
              exact v_X7_relax_65 t
            · have t := t.2 h19
              exact v_X7_relax_61 t

/-- X7.layWays: the machine at the loop head 2 -/
def h_X7_layWays_2 (E : am_E) (d : Nat) (x1 : Int32) (x2 : Int32) (x3 : Int32) (σ : FH) (Q : FH → Prop) : Prop := fG E (d + 1) mX7_layWays 2 [some (.ref 78), some (.int x1), some (.int x2), some (.int x3), none, none, none, none, none, none] [] σ (qv Q)
/-- X7.layWays: the machine at the loop head 43 -/
def h_X7_layWays_43 (E : am_E) (d : Nat) (x1 : Int32) (x2 : Int32) (x3 : Int32) (σ : FH) (Q : FH → Prop) : Prop := fG E (d + 1) mX7_layWays 43 [some (.ref 78), some (.int x1), some (.int x2), some (.int x3), none, none, none, none, none, none] [] σ (qv Q)
/-- X7.layWays: the machine at the loop head 51 -/
def h_X7_layWays_51 (E : am_E) (d : Nat) (x1 : Int32) (x2 : Int32) (x3 : Int32) (x4 : Int32) (σ : FH) (Q : FH → Prop) : Prop := fG E (d + 1) mX7_layWays 51 [some (.ref 78), some (.int x1), some (.int x2), some (.int x3), some (.int x4), none, none, none, none, none] [] σ (qv Q)
/-- X7.layWays: the machine at the loop head 73 -/
def h_X7_layWays_73 (E : am_E) (d : Nat) (x1 : Int32) (x2 : Int32) (x3 : Int32) (x4 : Int32) (x5 : Int32) (σ : FH) (Q : FH → Prop) : Prop := fG E (d + 1) mX7_layWays 73 [some (.ref 78), some (.int x1), some (.int x2), some (.int x3), some (.int x4), some (.int x5), none, none, none, none] [] σ (qv Q)
def t_X7_layWays_174 (E : am_E) (d : Nat) (x1 : Int32) (x2 : Int32) (x3 : Int32) (x4 : Int32) (x5 : Int32) (x6 : Int32) (x7 : Int32) (x8 : Int32) (xs1 : Int32) (xs0 : Int32) (σ : FH) (Q : FH → Prop) : Prop :=
  (vp_in x4 3072 ∧ (vp_in x4 3072 ∧ ((¬ (σ.1 85 x4.toNatClampNeg) = 0 → (vp_in x4 3072 ∧ fMv E d mX7_relax [.ref 78, .int ((512 * x7) + (xs0 ||| xs1)), .int x8, .int ((σ.1 85 x4.toNatClampNeg) + 1), .int (σ.1 86 x4.toNatClampNeg)] σ (fun σ25 => h_X7_layWays_73 E d x1 x2 x3 x4 (x5 + 1) σ25 Q))) ∧
  ((σ.1 85 x4.toNatClampNeg) = 0 → fMv E d mX7_relax [.ref 78, .int ((512 * x7) + (xs0 ||| xs1)), .int x8, .int ((σ.1 85 x4.toNatClampNeg) + 1), .int x6] σ (fun σ27 => h_X7_layWays_73 E d x1 x2 x3 x4 (x5 + 1) σ27 Q)))))
set_option maxRecDepth 100000 in
set_option maxHeartbeats 4000000 in
theorem v_X7_layWays_174 {E : am_E} {d : Nat} {σ : FH} {Q : FH → Prop} {x1 : Int32} {x2 : Int32} {x3 : Int32} {x4 : Int32} {x5 : Int32} {x6 : Int32} {x7 : Int32} {x8 : Int32} {xs1 : Int32} {xs0 : Int32} (t : t_X7_layWays_174 E d x1 x2 x3 x4 x5 x6 x7 x8 xs1 xs0 σ Q) : fG E (d + 1) mX7_layWays 174 [some (.ref 78), some (.int x1), some (.int x2), some (.int x3), some (.int x4), some (.int x5), some (.int x6), some (.int x7), some (.int x8), none] [.int xs1, .int xs0] σ (qv Q) := by
  unfold t_X7_layWays_174 at t
  refine ar_ior dX7_layWays_174 ?_
  refine ar_istore (i := 9) (lo2 := [_, _, _, _, _, _, _, _, _, _]) dX7_layWays_175 (Nat.le_of_ble_eq_true rfl) rfl rfl ?_
  refine ar_aload_n (i := 0) dX7_layWays_177 rfl rfl ?_
  refine ar_sipush (v := 512) dX7_layWays_178 (by decide) ?_
  refine ar_iload (i := 7) dX7_layWays_181 rfl ?_
  refine ar_imul dX7_layWays_183 ?_
  refine ar_iload (i := 9) dX7_layWays_184 rfl ?_
  refine ar_iadd dX7_layWays_186 ?_
  refine ar_iload (i := 8) dX7_layWays_187 rfl ?_
  refine ar_aload_n (i := 0) dX7_layWays_189 rfl rfl ?_
  refine fr_getR (t := 7) (j := 16) (r := 85) dX7_layWays_190 fs_X7_28 o_78 rfl rfl (by decide) ?_
  refine ar_iload (i := 4) dX7_layWays_193 rfl ?_
  obtain ⟨h21, t⟩ := t
  refine fr_iald (n := 3072) dX7_layWays_195 a_85 h21 ?_
  refine ar_iconst (v := 1) dX7_layWays_196 (by decide) ?_
  refine ar_iadd dX7_layWays_197 ?_
  refine ar_aload_n (i := 0) dX7_layWays_198 rfl rfl ?_
  refine fr_getR (t := 7) (j := 16) (r := 85) dX7_layWays_199 fs_X7_28 o_78 rfl rfl (by decide) ?_
  refine ar_iload (i := 4) dX7_layWays_202 rfl ?_
  obtain ⟨h22, t⟩ := t
  refine fr_iald (n := 3072) dX7_layWays_204 a_85 h22 ?_
  refine ar_if_ne (tgt := 213) dX7_layWays_205 (by decide) (fun h23 => ?_) (fun h23 => ?_)
  · have t := t.1 h23
    refine ar_aload_n (i := 0) dX7_layWays_213 rfl rfl ?_
    refine fr_getR (t := 7) (j := 17) (r := 86) dX7_layWays_214 fs_X7_31 o_78 rfl rfl (by decide) ?_
    refine ar_iload (i := 4) dX7_layWays_217 rfl ?_
    obtain ⟨h24, t⟩ := t
    refine fr_iald (n := 3072) dX7_layWays_219 a_86 h24 ?_
    refine fr_callVv (M' := mX7_relax) [_, _, _, _] dX7_layWays_220 ml_X7_169 mv_X7_relax rfl rfl o_78 rfl rfl (Nat.le_of_ble_eq_true rfl) ⟨Nat.le_refl _, Nat.le_refl _⟩ t (fun σ25 t => ?_)
    try dsimp only at t
    refine ar_iinc (i := 5) (v := _ + 1) (lo2 := [_, _, _, _, _, _, _, _, _, _]) dX7_layWays_223 rfl (ii_1 _) (Nat.le_of_ble_eq_true rfl) rfl rfl ?_
    refine ar_goto (tgt := 73) dX7_layWays_226 (by decide) ?_
    refine ar_drop 6 (lo2 := [_, _, _, _, _, _, none, _, _, _]) rfl ?_
    refine ar_drop 7 (lo2 := [_, _, _, _, _, _, none, none, _, _]) rfl ?_
    refine ar_drop 8 (lo2 := [_, _, _, _, _, _, none, none, none, _]) rfl ?_
    refine ar_drop 9 (lo2 := [_, _, _, _, _, _, none, none, none, none]) rfl ?_
    exact t
  · have t := t.2 h23
    refine ar_iload (i := 6) dX7_layWays_208 rfl ?_
    refine ar_goto (tgt := 220) dX7_layWays_210 (by decide) ?_
    refine fr_callVv (M' := mX7_relax) [_, _, _, _] dX7_layWays_220 ml_X7_169 mv_X7_relax rfl rfl o_78 rfl rfl (Nat.le_of_ble_eq_true rfl) ⟨Nat.le_refl _, Nat.le_refl _⟩ t (fun σ27 t => ?_)
    try dsimp only at t
    refine ar_iinc (i := 5) (v := _ + 1) (lo2 := [_, _, _, _, _, _, _, _, _, _]) dX7_layWays_223 rfl (ii_1 _) (Nat.le_of_ble_eq_true rfl) rfl rfl ?_
    refine ar_goto (tgt := 73) dX7_layWays_226 (by decide) ?_
    refine ar_drop 6 (lo2 := [_, _, _, _, _, _, none, _, _, _]) rfl ?_
    refine ar_drop 7 (lo2 := [_, _, _, _, _, _, none, none, _, _]) rfl ?_
    refine ar_drop 8 (lo2 := [_, _, _, _, _, _, none, none, none, _]) rfl ?_
    refine ar_drop 9 (lo2 := [_, _, _, _, _, _, none, none, none, none]) rfl ?_
    exact t
def t_X7_layWays_98 (E : am_E) (d : Nat) (x1 : Int32) (x2 : Int32) (x3 : Int32) (x4 : Int32) (x5 : Int32) (xs0 : Int32) (σ : FH) (Q : FH → Prop) : Prop :=
  fMi E d mX7_otherEnd [.ref 78, .int xs0, .int (x4 / 512)] σ (fun r12 σ11 => (vp_in ((5 * xs0) + 3) 45 ∧ (∀ v14 : Int32, v14 = x3 + (σ11.1 81 ((5 * xs0) + 3).toNatClampNeg) → ((xs0 = (σ11.1 78 19) → h_X7_layWays_73 E d x1 x2 x3 x4 (x5 + 1) σ11 Q) ∧
  (¬ xs0 = (σ11.1 78 19) → ((r12 = (-1) → h_X7_layWays_73 E d x1 x2 x3 x4 (x5 + 1) σ11 Q) ∧
    (¬ r12 = (-1) → ((x2 < v14 → h_X7_layWays_73 E d x1 x2 x3 x4 (x5 + 1) σ11 Q) ∧
      (¬ x2 < v14 → fMi E d mX7_isFresh [.ref 78, .int x1, .int xs0] σ11 (fun r19 σ18 => ((r19 = 0 → t_X7_layWays_174 E d x1 x2 x3 x4 x5 xs0 r12 v14 0 (x4 - x4 / 512 * 512) σ18 Q) ∧
        (¬ r19 = 0 → t_X7_layWays_174 E d x1 x2 x3 x4 x5 xs0 r12 v14 ((1 : Int32) <<< (xs0 &&& 31)) (x4 - x4 / 512 * 512) σ18 Q))))))))))))
set_option maxRecDepth 100000 in
set_option maxHeartbeats 4000000 in
theorem v_X7_layWays_98 {E : am_E} {d : Nat} {σ : FH} {Q : FH → Prop} {x1 : Int32} {x2 : Int32} {x3 : Int32} {x4 : Int32} {x5 : Int32} {xs0 : Int32} (t : t_X7_layWays_98 E d x1 x2 x3 x4 x5 xs0 σ Q) : fG E (d + 1) mX7_layWays 98 [some (.ref 78), some (.int x1), some (.int x2), some (.int x3), some (.int x4), some (.int x5), none, none, none, none] [.int xs0] σ (qv Q) := by
  unfold t_X7_layWays_98 at t
  refine ar_istore (i := 6) (lo2 := [_, _, _, _, _, _, _, none, none, none]) dX7_layWays_98 (Nat.le_of_ble_eq_true rfl) rfl rfl ?_
  refine ar_aload_n (i := 0) dX7_layWays_100 rfl rfl ?_
  refine ar_iload (i := 6) dX7_layWays_101 rfl ?_
  refine ar_iload (i := 4) dX7_layWays_103 rfl ?_
  refine ar_sipush (v := 512) dX7_layWays_105 (by decide) ?_
  refine ar_idiv dX7_layWays_108 (by decide) ?_
  refine fr_callVi (M' := mX7_otherEnd) [_, _] dX7_layWays_109 ml_X7_151 mv_X7_otherEnd rfl rfl o_78 rfl rfl (Nat.le_of_ble_eq_true rfl) ⟨Nat.le_refl _, Nat.le_refl _⟩ t (fun r12 σ11 t => ?_)
  try dsimp only at t
  refine ar_istore (i := 7) (lo2 := [_, _, _, _, _, _, _, _, none, none]) dX7_layWays_112 (Nat.le_of_ble_eq_true rfl) rfl rfl ?_
  refine ar_iload_n (i := 3) dX7_layWays_114 rfl rfl ?_
  refine ar_aload_n (i := 0) dX7_layWays_115 rfl rfl ?_
  refine fr_getR (t := 7) (j := 10) (r := 81) dX7_layWays_116 fs_X7_16 o_78 rfl rfl (by decide) ?_
  refine ar_iconst (v := 5) dX7_layWays_119 (by decide) ?_
  refine ar_iload (i := 6) dX7_layWays_120 rfl ?_
  refine ar_imul dX7_layWays_122 ?_
  refine ar_iconst (v := 3) dX7_layWays_123 (by decide) ?_
  refine ar_iadd dX7_layWays_124 ?_
  obtain ⟨h13, t⟩ := t
  refine fr_iald (n := 45) dX7_layWays_125 a_81 h13 ?_
  refine ar_iadd dX7_layWays_126 ?_
  refine ar_istore (i := 8) (lo2 := [_, _, _, _, _, _, _, _, _, none]) dX7_layWays_127 (Nat.le_of_ble_eq_true rfl) rfl rfl ?_
  have t := t _ rfl
  refine ar_iload (i := 6) dX7_layWays_129 rfl ?_
  refine ar_aload_n (i := 0) dX7_layWays_131 rfl rfl ?_
  refine fr_getI (t := 7) (j := 19) dX7_layWays_132 fs_X7_175 o_78 rfl ?_
  refine ar_icmp_eq (tgt := 223) dX7_layWays_135 (by decide) (fun h15 => ?_) (fun h15 => ?_)
  · have t := t.1 h15
    refine ar_iinc (i := 5) (v := _ + 1) (lo2 := [_, _, _, _, _, _, _, _, _, none]) dX7_layWays_223 rfl (ii_1 _) (Nat.le_of_ble_eq_true rfl) rfl rfl ?_
    refine ar_goto (tgt := 73) dX7_layWays_226 (by decide) ?_
    refine ar_drop 6 (lo2 := [_, _, _, _, _, _, none, _, _, none]) rfl ?_
    refine ar_drop 7 (lo2 := [_, _, _, _, _, _, none, none, _, none]) rfl ?_
    refine ar_drop 8 (lo2 := [_, _, _, _, _, _, none, none, none, none]) rfl ?_
    exact t
  · have t := t.2 h15
    refine ar_iload (i := 7) dX7_layWays_138 rfl ?_
    refine ar_iconst (v := -1) dX7_layWays_140 (by decide) ?_
    refine ar_icmp_eq (tgt := 223) dX7_layWays_141 (by decide) (fun h16 => ?_) (fun h16 => ?_)
    · have t := t.1 h16
      refine ar_iinc (i := 5) (v := _ + 1) (lo2 := [_, _, _, _, _, _, _, _, _, none]) dX7_layWays_223 rfl (ii_1 _) (Nat.le_of_ble_eq_true rfl) rfl rfl ?_
      refine ar_goto (tgt := 73) dX7_layWays_226 (by decide) ?_
      refine ar_drop 6 (lo2 := [_, _, _, _, _, _, none, _, _, none]) rfl ?_
      refine ar_drop 7 (lo2 := [_, _, _, _, _, _, none, none, _, none]) rfl ?_
      refine ar_drop 8 (lo2 := [_, _, _, _, _, _, none, none, none, none]) rfl ?_
      exact t
    · have t := t.2 h16
      refine ar_iload (i := 8) dX7_layWays_144 rfl ?_
      refine ar_iload_n (i := 2) dX7_layWays_146 rfl rfl ?_
      refine ar_icmp_gt (tgt := 223) dX7_layWays_147 (by decide) (fun h17 => ?_) (fun h17 => ?_)
      · have t := t.1 h17
        refine ar_iinc (i := 5) (v := _ + 1) (lo2 := [_, _, _, _, _, _, _, _, _, none]) dX7_layWays_223 rfl (ii_1 _) (Nat.le_of_ble_eq_true rfl) rfl rfl ?_
        refine ar_goto (tgt := 73) dX7_layWays_226 (by decide) ?_
        refine ar_drop 6 (lo2 := [_, _, _, _, _, _, none, _, _, none]) rfl ?_
        refine ar_drop 7 (lo2 := [_, _, _, _, _, _, none, none, _, none]) rfl ?_
        refine ar_drop 8 (lo2 := [_, _, _, _, _, _, none, none, none, none]) rfl ?_
        exact t
      · have t := t.2 h17
        refine ar_iload (i := 4) dX7_layWays_150 rfl ?_
        refine ar_sipush (v := 512) dX7_layWays_152 (by decide) ?_
        refine ar_irem dX7_layWays_155 (by decide) ?_
        refine ar_aload_n (i := 0) dX7_layWays_156 rfl rfl ?_
        refine ar_iload_n (i := 1) dX7_layWays_157 rfl rfl ?_
        refine ar_iload (i := 6) dX7_layWays_158 rfl ?_
        refine fr_callVi (M' := mX7_isFresh) [_, _] dX7_layWays_160 ml_X7_178 mv_X7_isFresh rfl rfl o_78 rfl rfl (Nat.le_of_ble_eq_true rfl) ⟨Nat.le_refl _, Nat.le_refl _⟩ t (fun r19 σ18 t => ?_)
        try dsimp only at t
        refine ar_if_eq (tgt := 173) dX7_layWays_163 (by decide) (fun h20 => ?_) (fun h20 => ?_)
        · have t := t.1 h20
          refine ar_iconst (v := 0) dX7_layWays_173 (by decide) ?_
          exact v_X7_layWays_174 t
        · have t := t.2 h20
          refine ar_iconst (v := 1) dX7_layWays_166 (by decide) ?_
          refine ar_iload (i := 6) dX7_layWays_167 rfl ?_
          refine ar_ishl dX7_layWays_169 ?_
          refine ar_goto (tgt := 174) dX7_layWays_170 (by decide) ?_
          exact v_X7_layWays_174 t
def t_X7_layWays_73 (E : am_E) (d : Nat) (x1 : Int32) (x2 : Int32) (x3 : Int32) (x4 : Int32) (x5 : Int32) (σ : FH) (Q : FH → Prop) : Prop :=
  (((σ.1 78 18) ≤ x5 → h_X7_layWays_51 E d x1 x2 x3 (x4 + 1) σ Q) ∧
  (¬ (σ.1 78 18) ≤ x5 → ((¬ x5 = (σ.1 78 6) → t_X7_layWays_98 E d x1 x2 x3 x4 x5 x5 σ Q) ∧
    (x5 = (σ.1 78 6) → t_X7_layWays_98 E d x1 x2 x3 x4 x5 8 σ Q))))
set_option maxRecDepth 100000 in
set_option maxHeartbeats 4000000 in
theorem v_X7_layWays_73 {E : am_E} {d : Nat} {σ : FH} {Q : FH → Prop} {x1 : Int32} {x2 : Int32} {x3 : Int32} {x4 : Int32} {x5 : Int32} (t : t_X7_layWays_73 E d x1 x2 x3 x4 x5 σ Q) : h_X7_layWays_73 E d x1 x2 x3 x4 x5 σ Q := by
  unfold h_X7_layWays_73
  unfold t_X7_layWays_73 at t
  refine ar_iload (i := 5) dX7_layWays_73 rfl ?_
  refine ar_aload_n (i := 0) dX7_layWays_75 rfl rfl ?_
  refine fr_getI (t := 7) (j := 18) dX7_layWays_76 fs_X7_172 o_78 rfl ?_
  refine ar_icmp_ge (tgt := 229) dX7_layWays_79 (by decide) (fun h9 => ?_) (fun h9 => ?_)
  · have t := t.1 h9
    refine ar_iinc (i := 4) (v := _ + 1) (lo2 := [_, _, _, _, _, _, none, none, none, none]) dX7_layWays_229 rfl (ii_1 _) (Nat.le_of_ble_eq_true rfl) rfl rfl ?_
    refine ar_goto (tgt := 51) dX7_layWays_232 (by decide) ?_
    refine ar_drop 5 (lo2 := [_, _, _, _, _, none, none, none, none, none]) rfl ?_
    exact t
  · have t := t.2 h9
    refine ar_iload (i := 5) dX7_layWays_82 rfl ?_
    refine ar_aload_n (i := 0) dX7_layWays_84 rfl rfl ?_
    refine fr_getI (t := 7) (j := 6) dX7_layWays_85 fs_X7_104 o_78 rfl ?_
    refine ar_icmp_ne (tgt := 96) dX7_layWays_88 (by decide) (fun h10 => ?_) (fun h10 => ?_)
    · have t := t.1 h10
      refine ar_iload (i := 5) dX7_layWays_96 rfl ?_
      exact v_X7_layWays_98 t
    · have t := t.2 h10
      refine ar_bipush (v := 8) dX7_layWays_91 (by decide) ?_
      refine ar_goto (tgt := 98) dX7_layWays_93 (by decide) ?_
      exact v_X7_layWays_98 t
def t_X7_layWays_51 (E : am_E) (d : Nat) (x1 : Int32) (x2 : Int32) (x3 : Int32) (x4 : Int32) (σ : FH) (Q : FH → Prop) : Prop :=
  ((3072 ≤ x4 → h_X7_layWays_43 E d x1 x2 (x3 + 1) σ Q) ∧
  (¬ 3072 ≤ x4 → (vp_in x4 3072 ∧ ((¬ (σ.1 84 x4.toNatClampNeg) = x3 → h_X7_layWays_51 E d x1 x2 x3 (x4 + 1) σ Q) ∧
    ((σ.1 84 x4.toNatClampNeg) = x3 → h_X7_layWays_73 E d x1 x2 x3 x4 0 σ Q)))))
set_option maxRecDepth 100000 in
set_option maxHeartbeats 4000000 in
theorem v_X7_layWays_51 {E : am_E} {d : Nat} {σ : FH} {Q : FH → Prop} {x1 : Int32} {x2 : Int32} {x3 : Int32} {x4 : Int32} (t : t_X7_layWays_51 E d x1 x2 x3 x4 σ Q) : h_X7_layWays_51 E d x1 x2 x3 x4 σ Q := by
  unfold h_X7_layWays_51
  unfold t_X7_layWays_51 at t
  refine ar_iload (i := 4) dX7_layWays_51 rfl ?_
  refine ar_sipush (v := 3072) dX7_layWays_53 (by decide) ?_
  refine ar_icmp_ge (tgt := 235) dX7_layWays_56 (by decide) (fun h6 => ?_) (fun h6 => ?_)
  · have t := t.1 h6
    refine ar_iinc (i := 3) (v := _ + 1) (lo2 := [_, _, _, _, _, none, none, none, none, none]) dX7_layWays_235 rfl (ii_1 _) (Nat.le_of_ble_eq_true rfl) rfl rfl ?_
    refine ar_goto (tgt := 43) dX7_layWays_238 (by decide) ?_
    refine ar_drop 4 (lo2 := [_, _, _, _, none, none, none, none, none, none]) rfl ?_
    exact t
  · have t := t.2 h6
    refine ar_aload_n (i := 0) dX7_layWays_59 rfl rfl ?_
    refine fr_getR (t := 7) (j := 15) (r := 84) dX7_layWays_60 fs_X7_25 o_78 rfl rfl (by decide) ?_
    refine ar_iload (i := 4) dX7_layWays_63 rfl ?_
    obtain ⟨h7, t⟩ := t
    refine fr_iald (n := 3072) dX7_layWays_65 a_84 h7 ?_
    refine ar_iload_n (i := 3) dX7_layWays_66 rfl rfl ?_
    refine ar_icmp_ne (tgt := 229) dX7_layWays_67 (by decide) (fun h8 => ?_) (fun h8 => ?_)
    · have t := t.1 h8
      refine ar_iinc (i := 4) (v := _ + 1) (lo2 := [_, _, _, _, _, none, none, none, none, none]) dX7_layWays_229 rfl (ii_1 _) (Nat.le_of_ble_eq_true rfl) rfl rfl ?_
      refine ar_goto (tgt := 51) dX7_layWays_232 (by decide) ?_
      exact t
    · have t := t.2 h8
      refine ar_iconst (v := 0) dX7_layWays_70 (by decide) ?_
      refine ar_istore (i := 5) (lo2 := [_, _, _, _, _, _, none, none, none, none]) dX7_layWays_71 (Nat.le_of_ble_eq_true rfl) rfl rfl ?_
      exact t
def t_X7_layWays_43 (E : am_E) (d : Nat) (x1 : Int32) (x2 : Int32) (x3 : Int32) (σ : FH) (Q : FH → Prop) : Prop :=
  ((x2 < x3 → Q σ) ∧
  (¬ x2 < x3 → h_X7_layWays_51 E d x1 x2 x3 0 σ Q))
set_option maxRecDepth 100000 in
set_option maxHeartbeats 4000000 in
theorem v_X7_layWays_43 {E : am_E} {d : Nat} {σ : FH} {Q : FH → Prop} {x1 : Int32} {x2 : Int32} {x3 : Int32} (t : t_X7_layWays_43 E d x1 x2 x3 σ Q) : h_X7_layWays_43 E d x1 x2 x3 σ Q := by
  unfold h_X7_layWays_43
  unfold t_X7_layWays_43 at t
  refine ar_iload_n (i := 3) dX7_layWays_43 rfl rfl ?_
  refine ar_iload_n (i := 2) dX7_layWays_44 rfl rfl ?_
  refine ar_icmp_gt (tgt := 241) dX7_layWays_45 (by decide) (fun h5 => ?_) (fun h5 => ?_)
  · have t := t.1 h5
    exact fr_vret dX7_layWays_241 rfl (Nat.le_refl _) (Nat.le_refl _) t
  · have t := t.2 h5
    refine ar_iconst (v := 0) dX7_layWays_48 (by decide) ?_
    refine ar_istore (i := 4) (lo2 := [_, _, _, _, _, none, none, none, none, none]) dX7_layWays_49 (Nat.le_of_ble_eq_true rfl) rfl rfl ?_
    exact t
def t_X7_layWays_2 (E : am_E) (d : Nat) (x1 : Int32) (x2 : Int32) (x3 : Int32) (σ : FH) (Q : FH → Prop) : Prop :=
  ((3072 ≤ x3 → (vp_in (5 * x1) 20 ∧ fMv E d mX7_relax [.ref 78, .int (512 * (σ.1 82 (5 * x1).toNatClampNeg)), .int 0, .int 0, .int (-1)] σ (fun σ3 => h_X7_layWays_43 E d x1 x2 0 σ3 Q))) ∧
  (¬ 3072 ≤ x3 → (vp_in x3 3072 ∧ (∀ σ30 : FH, σ30 = fsI σ 84 x3.toNatClampNeg (-1) → h_X7_layWays_2 E d x1 x2 (x3 + 1) σ30 Q))))
set_option maxRecDepth 100000 in
set_option maxHeartbeats 4000000 in
theorem v_X7_layWays_2 {E : am_E} {d : Nat} {σ : FH} {Q : FH → Prop} {x1 : Int32} {x2 : Int32} {x3 : Int32} (t : t_X7_layWays_2 E d x1 x2 x3 σ Q) : h_X7_layWays_2 E d x1 x2 x3 σ Q := by
  unfold h_X7_layWays_2
  unfold t_X7_layWays_2 at t
  refine ar_iload_n (i := 3) dX7_layWays_2 rfl rfl ?_
  refine ar_sipush (v := 3072) dX7_layWays_3 (by decide) ?_
  refine ar_icmp_ge (tgt := 22) dX7_layWays_6 (by decide) (fun h1 => ?_) (fun h1 => ?_)
  · have t := t.1 h1
    refine ar_aload_n (i := 0) dX7_layWays_22 rfl rfl ?_
    refine ar_sipush (v := 512) dX7_layWays_23 (by decide) ?_
    refine ar_aload_n (i := 0) dX7_layWays_26 rfl rfl ?_
    refine fr_getR (t := 7) (j := 12) (r := 82) dX7_layWays_27 fs_X7_19 o_78 rfl rfl (by decide) ?_
    refine ar_iconst (v := 5) dX7_layWays_30 (by decide) ?_
    refine ar_iload_n (i := 1) dX7_layWays_31 rfl rfl ?_
    refine ar_imul dX7_layWays_32 ?_
    obtain ⟨h2, t⟩ := t
    refine fr_iald (n := 20) dX7_layWays_33 a_82 h2 ?_
    refine ar_imul dX7_layWays_34 ?_
    refine ar_iconst (v := 0) dX7_layWays_35 (by decide) ?_
    refine ar_iconst (v := 0) dX7_layWays_36 (by decide) ?_
    refine ar_iconst (v := -1) dX7_layWays_37 (by decide) ?_
    refine fr_callVv (M' := mX7_relax) [_, _, _, _] dX7_layWays_38 ml_X7_169 mv_X7_relax rfl rfl o_78 rfl rfl (Nat.le_of_ble_eq_true rfl) ⟨Nat.le_refl _, Nat.le_refl _⟩ t (fun σ3 t => ?_)
    try dsimp only at t
    refine ar_iconst (v := 0) dX7_layWays_41 (by decide) ?_
    refine ar_istore_n (i := 3) (lo2 := [_, _, _, _, none, none, none, none, none, none]) dX7_layWays_42 rfl (Nat.le_of_ble_eq_true rfl) rfl rfl ?_
    exact t
  · have t := t.2 h1
    refine ar_aload_n (i := 0) dX7_layWays_9 rfl rfl ?_
    refine fr_getR (t := 7) (j := 15) (r := 84) dX7_layWays_10 fs_X7_25 o_78 rfl rfl (by decide) ?_
    refine ar_iload_n (i := 3) dX7_layWays_13 rfl rfl ?_
    refine ar_iconst (v := -1) dX7_layWays_14 (by decide) ?_
    obtain ⟨h29, t⟩ := t
    refine fr_iast (n := 3072) dX7_layWays_15 a_84 h29 ?_
    have t := t _ rfl
    refine ar_iinc (i := 3) (v := _ + 1) (lo2 := [_, _, _, _, none, none, none, none, none, none]) dX7_layWays_16 rfl (ii_1 _) (Nat.le_of_ble_eq_true rfl) rfl rfl ?_
    refine ar_goto (tgt := 2) dX7_layWays_19 (by decide) ?_
    exact t
def t_X7_layWays (E : am_E) (d : Nat) (x1 : Int32) (x2 : Int32) (σ : FH) (Q : FH → Prop) : Prop :=
  h_X7_layWays_2 E d x1 x2 0 σ Q
set_option maxRecDepth 100000 in
set_option maxHeartbeats 4000000 in
theorem v_X7_layWays {E : am_E} {d : Nat} {σ : FH} {Q : FH → Prop} {x1 : Int32} {x2 : Int32} (t : t_X7_layWays E d x1 x2 σ Q) : fMv E (d + 1) mX7_layWays [.ref 78, .int x1, .int x2] σ Q := by
  refine fr_ofG [some (.ref 78), some (.int x1), some (.int x2), none, none, none, none, none, none, none] (by decide) rfl (Nat.le_of_ble_eq_true rfl) ?_
  unfold t_X7_layWays at t
  refine ar_iconst (v := 0) dX7_layWays_0 (by decide) ?_
  refine ar_istore_n (i := 3) (lo2 := [_, _, _, _, none, none, none, none, none, none]) dX7_layWays_1 rfl (Nat.le_of_ble_eq_true rfl) rfl rfl ?_
  exact t

/-- X7.countedBy: the machine at the loop head 14 -/
def h_X7_countedBy_14 (E : am_E) (d : Nat) (x2 : Int32) (x3 : Int32) (x4 : Int32) (σ : FH) (Q : Int32 → FH → Prop) : Prop := fG E (d + 1) mX7_countedBy 14 [some (.ref 78), none, some (.int x2), some (.int x3), some (.int x4)] [] σ (qi Q)
def t_X7_countedBy_14 (E : am_E) (d : Nat) (x2 : Int32) (x3 : Int32) (x4 : Int32) (σ : FH) (Q : Int32 → FH → Prop) : Prop :=
  ((9 ≤ x4 → Q x3 σ) ∧
  (¬ 9 ≤ x4 → ((¬ ((x2 >>> (x4 &&& 31)) &&& 1) = 0 → ((¬ x4 = 8 → fMi E d mX7_worthOf [.ref 78, .int x4] σ (fun r7 σ6 => h_X7_countedBy_14 E d x2 (x3 + r7) (x4 + 1) σ6 Q)) ∧
      (x4 = 8 → h_X7_countedBy_14 E d x2 (x3 + 2) (x4 + 1) σ Q))) ∧
    (((x2 >>> (x4 &&& 31)) &&& 1) = 0 → h_X7_countedBy_14 E d x2 (x3 + 0) (x4 + 1) σ Q))))
set_option maxRecDepth 100000 in
set_option maxHeartbeats 4000000 in
theorem v_X7_countedBy_14 {E : am_E} {d : Nat} {σ : FH} {Q : Int32 → FH → Prop} {x2 : Int32} {x3 : Int32} {x4 : Int32} (t : t_X7_countedBy_14 E d x2 x3 x4 σ Q) : h_X7_countedBy_14 E d x2 x3 x4 σ Q := by
  unfold h_X7_countedBy_14
  unfold t_X7_countedBy_14 at t
  refine ar_iload (i := 4) dX7_countedBy_14 rfl ?_
  refine ar_bipush (v := 9) dX7_countedBy_16 (by decide) ?_
  refine ar_icmp_ge (tgt := 60) dX7_countedBy_18 (by decide) (fun h3 => ?_) (fun h3 => ?_)
  · have t := t.1 h3
    refine ar_iload_n (i := 3) dX7_countedBy_60 rfl rfl ?_
    exact fr_iret dX7_countedBy_61 rfl (Nat.le_refl _) (Nat.le_refl _) t
  · have t := t.2 h3
    refine ar_iload_n (i := 3) dX7_countedBy_21 rfl rfl ?_
    refine ar_iload_n (i := 2) dX7_countedBy_22 rfl rfl ?_
    refine ar_iload (i := 4) dX7_countedBy_23 rfl ?_
    refine ar_ishr dX7_countedBy_25 ?_
    refine ar_iconst (v := 1) dX7_countedBy_26 (by decide) ?_
    refine ar_iand dX7_countedBy_27 ?_
    refine ar_if_ne (tgt := 35) dX7_countedBy_28 (by decide) (fun h4 => ?_) (fun h4 => ?_)
    · have t := t.1 h4
      refine ar_iload (i := 4) dX7_countedBy_35 rfl ?_
      refine ar_bipush (v := 8) dX7_countedBy_37 (by decide) ?_
      refine ar_icmp_ne (tgt := 46) dX7_countedBy_39 (by decide) (fun h5 => ?_) (fun h5 => ?_)
      · have t := t.1 h5
        refine ar_aload_n (i := 0) dX7_countedBy_46 rfl rfl ?_
        refine ar_iload (i := 4) dX7_countedBy_47 rfl ?_
        refine fr_callVi (M' := mX7_worthOf) [_] dX7_countedBy_49 ml_X7_122 mv_X7_worthOf rfl rfl o_78 rfl rfl (Nat.le_of_ble_eq_true rfl) ⟨Nat.le_refl _, Nat.le_refl _⟩ t (fun r7 σ6 t => ?_)
        try dsimp only at t
        refine ar_iadd dX7_countedBy_52 ?_
        refine ar_istore_n (i := 3) (lo2 := [_, none, _, _, _]) dX7_countedBy_53 rfl (Nat.le_of_ble_eq_true rfl) rfl rfl ?_
        refine ar_iinc (i := 4) (v := _ + 1) (lo2 := [_, none, _, _, _]) dX7_countedBy_54 rfl (ii_1 _) (Nat.le_of_ble_eq_true rfl) rfl rfl ?_
        refine ar_goto (tgt := 14) dX7_countedBy_57 (by decide) ?_
        exact t
      · have t := t.2 h5
        refine ar_iconst (v := 2) dX7_countedBy_42 (by decide) ?_
        refine ar_goto (tgt := 52) dX7_countedBy_43 (by decide) ?_
        refine ar_iadd dX7_countedBy_52 ?_
        refine ar_istore_n (i := 3) (lo2 := [_, none, _, _, _]) dX7_countedBy_53 rfl (Nat.le_of_ble_eq_true rfl) rfl rfl ?_
        refine ar_iinc (i := 4) (v := _ + 1) (lo2 := [_, none, _, _, _]) dX7_countedBy_54 rfl (ii_1 _) (Nat.le_of_ble_eq_true rfl) rfl rfl ?_
        refine ar_goto (tgt := 14) dX7_countedBy_57 (by decide) ?_
        exact t
    · have t := t.2 h4
      refine ar_iconst (v := 0) dX7_countedBy_31 (by decide) ?_
      refine ar_goto (tgt := 52) dX7_countedBy_32 (by decide) ?_
      refine ar_iadd dX7_countedBy_52 ?_
      refine ar_istore_n (i := 3) (lo2 := [_, none, _, _, _]) dX7_countedBy_53 rfl (Nat.le_of_ble_eq_true rfl) rfl rfl ?_
      refine ar_iinc (i := 4) (v := _ + 1) (lo2 := [_, none, _, _, _]) dX7_countedBy_54 rfl (ii_1 _) (Nat.le_of_ble_eq_true rfl) rfl rfl ?_
      refine ar_goto (tgt := 14) dX7_countedBy_57 (by decide) ?_
      exact t
def t_X7_countedBy (E : am_E) (d : Nat) (x1 : Int32) (x2 : Int32) (σ : FH) (Q : Int32 → FH → Prop) : Prop :=
  (vp_in ((5 * x1) + 2) 20 ∧ (∀ v2 : Int32, v2 = (σ.1 82 ((5 * x1) + 2).toNatClampNeg) → h_X7_countedBy_14 E d x2 v2 0 σ Q))
set_option maxRecDepth 100000 in
set_option maxHeartbeats 4000000 in
theorem v_X7_countedBy {E : am_E} {d : Nat} {σ : FH} {Q : Int32 → FH → Prop} {x1 : Int32} {x2 : Int32} (t : t_X7_countedBy E d x1 x2 σ Q) : fMi E (d + 1) mX7_countedBy [.ref 78, .int x1, .int x2] σ Q := by
  refine fr_ofG [some (.ref 78), some (.int x1), some (.int x2), none, none] (by decide) rfl (Nat.le_of_ble_eq_true rfl) ?_
  unfold t_X7_countedBy at t
  refine ar_aload_n (i := 0) dX7_countedBy_0 rfl rfl ?_
  refine fr_getR (t := 7) (j := 12) (r := 82) dX7_countedBy_1 fs_X7_19 o_78 rfl rfl (by decide) ?_
  refine ar_iconst (v := 5) dX7_countedBy_4 (by decide) ?_
  refine ar_iload_n (i := 1) dX7_countedBy_5 rfl rfl ?_
  refine ar_imul dX7_countedBy_6 ?_
  refine ar_iconst (v := 2) dX7_countedBy_7 (by decide) ?_
  refine ar_iadd dX7_countedBy_8 ?_
  obtain ⟨h1, t⟩ := t
  refine fr_iald (n := 20) dX7_countedBy_9 a_82 h1 ?_
  refine ar_istore_n (i := 3) (lo2 := [_, _, _, _, none]) dX7_countedBy_10 rfl (Nat.le_of_ble_eq_true rfl) rfl rfl ?_
  have t := t _ rfl
  refine ar_iconst (v := 0) dX7_countedBy_11 (by decide) ?_
  refine ar_istore (i := 4) (lo2 := [_, _, _, _, _]) dX7_countedBy_12 (Nat.le_of_ble_eq_true rfl) rfl rfl ?_
  refine ar_drop 1 (lo2 := [_, none, _, _, _]) rfl ?_
  exact t

/-- X7.bestAt: the machine at the loop head 4 -/
def h_X7_bestAt_4 (E : am_E) (d : Nat) (x1 : Int32) (x2 : Int32) (x3 : Int32) (σ : FH) (Q : Int32 → FH → Prop) : Prop := fG E (d + 1) mX7_bestAt 4 [some (.ref 78), some (.int x1), some (.int x2), some (.int x3), none, none] [] σ (qi Q)
def t_X7_bestAt_4 (E : am_E) (d : Nat) (x1 : Int32) (x2 : Int32) (x3 : Int32) (σ : FH) (Q : Int32 → FH → Prop) : Prop :=
  ((512 ≤ x3 → Q x2 σ) ∧
  (¬ 512 ≤ x3 → (vp_in (2560 + x3) 3072 ∧ (((σ.1 84 (2560 + x3).toNatClampNeg) = (-1) → h_X7_bestAt_4 E d x1 x2 (x3 + 1) σ Q) ∧
    (¬ (σ.1 84 (2560 + x3).toNatClampNeg) = (-1) → fMi E d mX7_countedBy [.ref 78, .int x1, .int x3] σ (fun r5 σ4 => ((¬ r5 = (σ4.1 78 7) → h_X7_bestAt_4 E d x1 x2 (x3 + 1) σ4 Q) ∧
      (r5 = (σ4.1 78 7) → ((x2 = (-1) → h_X7_bestAt_4 E d x1 (2560 + x3) (x3 + 1) σ4 Q) ∧
        (¬ x2 = (-1) → (vp_in (2560 + x3) 3072 ∧ (vp_in x2 3072 ∧ (((σ4.1 84 (2560 + x3).toNatClampNeg) < (σ4.1 84 x2.toNatClampNeg) → h_X7_bestAt_4 E d x1 (2560 + x3) (x3 + 1) σ4 Q) ∧
          (¬ (σ4.1 84 (2560 + x3).toNatClampNeg) < (σ4.1 84 x2.toNatClampNeg) → (vp_in (2560 + x3) 3072 ∧ (vp_in x2 3072 ∧ ((¬ (σ4.1 84 (2560 + x3).toNatClampNeg) = (σ4.1 84 x2.toNatClampNeg) → h_X7_bestAt_4 E d x1 x2 (x3 + 1) σ4 Q) ∧
            ((σ4.1 84 (2560 + x3).toNatClampNeg) = (σ4.1 84 x2.toNatClampNeg) → (vp_in (2560 + x3) 3072 ∧ (vp_in x2 3072 ∧ (((σ4.1 85 (2560 + x3).toNatClampNeg) < (σ4.1 85 x2.toNatClampNeg) → h_X7_bestAt_4 E d x1 (2560 + x3) (x3 + 1) σ4 Q) ∧
              (¬ (σ4.1 85 (2560 + x3).toNatClampNeg) < (σ4.1 85 x2.toNatClampNeg) → (vp_in (2560 + x3) 3072 ∧ (vp_in x2 3072 ∧ ((¬ (σ4.1 85 (2560 + x3).toNatClampNeg) = (σ4.1 85 x2.toNatClampNeg) → h_X7_bestAt_4 E d x1 x2 (x3 + 1) σ4 Q) ∧
                ((σ4.1 85 (2560 + x3).toNatClampNeg) = (σ4.1 85 x2.toNatClampNeg) → (vp_in (2560 + x3) 3072 ∧ (vp_in x2 3072 ∧ (((σ4.1 86 x2.toNatClampNeg) ≤ (σ4.1 86 (2560 + x3).toNatClampNeg) → h_X7_bestAt_4 E d x1 x2 (x3 + 1) σ4 Q) ∧
                  (¬ (σ4.1 86 x2.toNatClampNeg) ≤ (σ4.1 86 (2560 + x3).toNatClampNeg) → h_X7_bestAt_4 E d x1 (2560 + x3) (x3 + 1) σ4 Q))))))))))))))))))))))))))))))
set_option maxRecDepth 100000 in
set_option maxHeartbeats 4000000 in
theorem v_X7_bestAt_4 {E : am_E} {d : Nat} {σ : FH} {Q : Int32 → FH → Prop} {x1 : Int32} {x2 : Int32} {x3 : Int32} (t : t_X7_bestAt_4 E d x1 x2 x3 σ Q) : h_X7_bestAt_4 E d x1 x2 x3 σ Q := by
  unfold h_X7_bestAt_4
  unfold t_X7_bestAt_4 at t
  refine ar_iload_n (i := 3) dX7_bestAt_4 rfl rfl ?_
  refine ar_sipush (v := 512) dX7_bestAt_5 (by decide) ?_
  refine ar_icmp_ge (tgt := 152) dX7_bestAt_8 (by decide) (fun h1 => ?_) (fun h1 => ?_)
  · have t := t.1 h1
    refine ar_iload_n (i := 2) dX7_bestAt_152 rfl rfl ?_
    exact fr_iret dX7_bestAt_153 rfl (Nat.le_refl _) (Nat.le_refl _) t
  · have t := t.2 h1
    refine ar_sipush (v := 2560) dX7_bestAt_11 (by decide) ?_
    refine ar_iload_n (i := 3) dX7_bestAt_14 rfl rfl ?_
    refine ar_iadd dX7_bestAt_15 ?_
    refine ar_istore (i := 4) (lo2 := [_, _, _, _, _, none]) dX7_bestAt_16 (Nat.le_of_ble_eq_true rfl) rfl rfl ?_
    refine ar_aload_n (i := 0) dX7_bestAt_18 rfl rfl ?_
    refine fr_getR (t := 7) (j := 15) (r := 84) dX7_bestAt_19 fs_X7_25 o_78 rfl rfl (by decide) ?_
    refine ar_iload (i := 4) dX7_bestAt_22 rfl ?_
    obtain ⟨h2, t⟩ := t
    refine fr_iald (n := 3072) dX7_bestAt_24 a_84 h2 ?_
    refine ar_iconst (v := -1) dX7_bestAt_25 (by decide) ?_
    refine ar_icmp_eq (tgt := 146) dX7_bestAt_26 (by decide) (fun h3 => ?_) (fun h3 => ?_)
    · have t := t.1 h3
      refine ar_iinc (i := 3) (v := _ + 1) (lo2 := [_, _, _, _, _, none]) dX7_bestAt_146 rfl (ii_1 _) (Nat.le_of_ble_eq_true rfl) rfl rfl ?_
      refine ar_goto (tgt := 4) dX7_bestAt_149 (by decide) ?_
      refine ar_drop 4 (lo2 := [_, _, _, _, none, none]) rfl ?_
      exact t
    · have t := t.2 h3
      refine ar_aload_n (i := 0) dX7_bestAt_29 rfl rfl ?_
      refine ar_iload_n (i := 1) dX7_bestAt_30 rfl rfl ?_
      refine ar_iload_n (i := 3) dX7_bestAt_31 rfl rfl ?_
      refine fr_callVi (M' := mX7_countedBy) [_, _] dX7_bestAt_32 ml_X7_182 mv_X7_countedBy rfl rfl o_78 rfl rfl (Nat.le_of_ble_eq_true rfl) ⟨Nat.le_refl _, Nat.le_refl _⟩ t (fun r5 σ4 t => ?_)
      try dsimp only at t
      refine ar_aload_n (i := 0) dX7_bestAt_35 rfl rfl ?_
      refine fr_getI (t := 7) (j := 7) dX7_bestAt_36 fs_X7_107 o_78 rfl ?_
      refine ar_icmp_ne (tgt := 146) dX7_bestAt_39 (by decide) (fun h6 => ?_) (fun h6 => ?_)
      · have t := t.1 h6
        refine ar_iinc (i := 3) (v := _ + 1) (lo2 := [_, _, _, _, _, none]) dX7_bestAt_146 rfl (ii_1 _) (Nat.le_of_ble_eq_true rfl) rfl rfl ?_
        refine ar_goto (tgt := 4) dX7_bestAt_149 (by decide) ?_
        refine ar_drop 4 (lo2 := [_, _, _, _, none, none]) rfl ?_
        exact t
      · have t := t.2 h6
        refine ar_iload_n (i := 2) dX7_bestAt_42 rfl rfl ?_
        refine ar_iconst (v := -1) dX7_bestAt_43 (by decide) ?_
        refine ar_icmp_eq (tgt := 127) dX7_bestAt_44 (by decide) (fun h7 => ?_) (fun h7 => ?_)
        · have t := t.1 h7
          refine ar_iconst (v := 1) dX7_bestAt_127 (by decide) ?_
          refine ar_goto (tgt := 132) dX7_bestAt_128 (by decide) ?_
          refine ar_istore (i := 5) (lo2 := [_, _, _, _, _, _]) dX7_bestAt_132 (Nat.le_of_ble_eq_true rfl) rfl rfl ?_
          refine ar_iload (i := 5) dX7_bestAt_134 rfl ?_
          refine ar_if_eq (tgt := 144) dX7_bestAt_136 (by decide) (fun h => absurd h (by decide)) (fun _ => ?_)
          refine ar_iload (i := 4) dX7_bestAt_139 rfl ?_
          refine ar_goto (tgt := 145) dX7_bestAt_141 (by decide) ?_
          refine ar_istore_n (i := 2) (lo2 := [_, _, _, _, _, _]) dX7_bestAt_145 rfl (Nat.le_of_ble_eq_true rfl) rfl rfl ?_
          refine ar_iinc (i := 3) (v := _ + 1) (lo2 := [_, _, _, _, _, _]) dX7_bestAt_146 rfl (ii_1 _) (Nat.le_of_ble_eq_true rfl) rfl rfl ?_
          refine ar_goto (tgt := 4) dX7_bestAt_149 (by decide) ?_
          refine ar_drop 4 (lo2 := [_, _, _, _, none, _]) rfl ?_
          refine ar_drop 5 (lo2 := [_, _, _, _, none, none]) rfl ?_
          exact t
        · have t := t.2 h7
          refine ar_aload_n (i := 0) dX7_bestAt_47 rfl rfl ?_
          refine fr_getR (t := 7) (j := 15) (r := 84) dX7_bestAt_48 fs_X7_25 o_78 rfl rfl (by decide) ?_
          refine ar_iload (i := 4) dX7_bestAt_51 rfl ?_
          obtain ⟨h9, t⟩ := t
          refine fr_iald (n := 3072) dX7_bestAt_53 a_84 h9 ?_
          refine ar_aload_n (i := 0) dX7_bestAt_54 rfl rfl ?_
          refine fr_getR (t := 7) (j := 15) (r := 84) dX7_bestAt_55 fs_X7_25 o_78 rfl rfl (by decide) ?_
          refine ar_iload_n (i := 2) dX7_bestAt_58 rfl rfl ?_
          obtain ⟨h10, t⟩ := t
          refine fr_iald (n := 3072) dX7_bestAt_59 a_84 h10 ?_
          refine ar_icmp_lt (tgt := 127) dX7_bestAt_60 (by decide) (fun h11 => ?_) (fun h11 => ?_)
          · have t := t.1 h11
            refine ar_iconst (v := 1) dX7_bestAt_127 (by decide) ?_
            refine ar_goto (tgt := 132) dX7_bestAt_128 (by decide) ?_
            refine ar_istore (i := 5) (lo2 := [_, _, _, _, _, _]) dX7_bestAt_132 (Nat.le_of_ble_eq_true rfl) rfl rfl ?_
            refine ar_iload (i := 5) dX7_bestAt_134 rfl ?_
            refine ar_if_eq (tgt := 144) dX7_bestAt_136 (by decide) (fun h => absurd h (by decide)) (fun _ => ?_)
            refine ar_iload (i := 4) dX7_bestAt_139 rfl ?_
            refine ar_goto (tgt := 145) dX7_bestAt_141 (by decide) ?_
            refine ar_istore_n (i := 2) (lo2 := [_, _, _, _, _, _]) dX7_bestAt_145 rfl (Nat.le_of_ble_eq_true rfl) rfl rfl ?_
            refine ar_iinc (i := 3) (v := _ + 1) (lo2 := [_, _, _, _, _, _]) dX7_bestAt_146 rfl (ii_1 _) (Nat.le_of_ble_eq_true rfl) rfl rfl ?_
            refine ar_goto (tgt := 4) dX7_bestAt_149 (by decide) ?_
            refine ar_drop 4 (lo2 := [_, _, _, _, none, _]) rfl ?_
            refine ar_drop 5 (lo2 := [_, _, _, _, none, none]) rfl ?_
            exact t
          · have t := t.2 h11
            refine ar_aload_n (i := 0) dX7_bestAt_63 rfl rfl ?_
            refine fr_getR (t := 7) (j := 15) (r := 84) dX7_bestAt_64 fs_X7_25 o_78 rfl rfl (by decide) ?_
            refine ar_iload (i := 4) dX7_bestAt_67 rfl ?_
            obtain ⟨h13, t⟩ := t
            refine fr_iald (n := 3072) dX7_bestAt_69 a_84 h13 ?_
            refine ar_aload_n (i := 0) dX7_bestAt_70 rfl rfl ?_
            refine fr_getR (t := 7) (j := 15) (r := 84) dX7_bestAt_71 fs_X7_25 o_78 rfl rfl (by decide) ?_
            refine ar_iload_n (i := 2) dX7_bestAt_74 rfl rfl ?_
            obtain ⟨h14, t⟩ := t
            refine fr_iald (n := 3072) dX7_bestAt_75 a_84 h14 ?_
            refine ar_icmp_ne (tgt := 131) dX7_bestAt_76 (by decide) (fun h15 => ?_) (fun h15 => ?_)
            · have t := t.1 h15
              refine ar_iconst (v := 0) dX7_bestAt_131 (by decide) ?_
              refine ar_istore (i := 5) (lo2 := [_, _, _, _, _, _]) dX7_bestAt_132 (Nat.le_of_ble_eq_true rfl) rfl rfl ?_
              refine ar_iload (i := 5) dX7_bestAt_134 rfl ?_
              refine ar_if_eq (tgt := 144) dX7_bestAt_136 (by decide) (fun _ => ?_) (fun h => absurd h (by decide))
              refine ar_iload_n (i := 2) dX7_bestAt_144 rfl rfl ?_
              refine ar_istore_n (i := 2) (lo2 := [_, _, _, _, _, _]) dX7_bestAt_145 rfl (Nat.le_of_ble_eq_true rfl) rfl rfl ?_
              refine ar_iinc (i := 3) (v := _ + 1) (lo2 := [_, _, _, _, _, _]) dX7_bestAt_146 rfl (ii_1 _) (Nat.le_of_ble_eq_true rfl) rfl rfl ?_
              refine ar_goto (tgt := 4) dX7_bestAt_149 (by decide) ?_
              refine ar_drop 4 (lo2 := [_, _, _, _, none, _]) rfl ?_
              refine ar_drop 5 (lo2 := [_, _, _, _, none, none]) rfl ?_
              exact t
            · have t := t.2 h15
              refine ar_aload_n (i := 0) dX7_bestAt_79 rfl rfl ?_
              refine fr_getR (t := 7) (j := 16) (r := 85) dX7_bestAt_80 fs_X7_28 o_78 rfl rfl (by decide) ?_
              refine ar_iload (i := 4) dX7_bestAt_83 rfl ?_
              obtain ⟨h17, t⟩ := t
              refine fr_iald (n := 3072) dX7_bestAt_85 a_85 h17 ?_
              refine ar_aload_n (i := 0) dX7_bestAt_86 rfl rfl ?_
              refine fr_getR (t := 7) (j := 16) (r := 85) dX7_bestAt_87 fs_X7_28 o_78 rfl rfl (by decide) ?_
              refine ar_iload_n (i := 2) dX7_bestAt_90 rfl rfl ?_
              obtain ⟨h18, t⟩ := t
              refine fr_iald (n := 3072) dX7_bestAt_91 a_85 h18 ?_
              refine ar_icmp_lt (tgt := 127) dX7_bestAt_92 (by decide) (fun h19 => ?_) (fun h19 => ?_)
              · have t := t.1 h19
                refine ar_iconst (v := 1) dX7_bestAt_127 (by decide) ?_
                refine ar_goto (tgt := 132) dX7_bestAt_128 (by decide) ?_
                refine ar_istore (i := 5) (lo2 := [_, _, _, _, _, _]) dX7_bestAt_132 (Nat.le_of_ble_eq_true rfl) rfl rfl ?_
                refine ar_iload (i := 5) dX7_bestAt_134 rfl ?_
                refine ar_if_eq (tgt := 144) dX7_bestAt_136 (by decide) (fun h => absurd h (by decide)) (fun _ => ?_)
                refine ar_iload (i := 4) dX7_bestAt_139 rfl ?_
                refine ar_goto (tgt := 145) dX7_bestAt_141 (by decide) ?_
                refine ar_istore_n (i := 2) (lo2 := [_, _, _, _, _, _]) dX7_bestAt_145 rfl (Nat.le_of_ble_eq_true rfl) rfl rfl ?_
                refine ar_iinc (i := 3) (v := _ + 1) (lo2 := [_, _, _, _, _, _]) dX7_bestAt_146 rfl (ii_1 _) (Nat.le_of_ble_eq_true rfl) rfl rfl ?_
                refine ar_goto (tgt := 4) dX7_bestAt_149 (by decide) ?_
                refine ar_drop 4 (lo2 := [_, _, _, _, none, _]) rfl ?_
                refine ar_drop 5 (lo2 := [_, _, _, _, none, none]) rfl ?_
                exact t
              · have t := t.2 h19
                refine ar_aload_n (i := 0) dX7_bestAt_95 rfl rfl ?_
                refine fr_getR (t := 7) (j := 16) (r := 85) dX7_bestAt_96 fs_X7_28 o_78 rfl rfl (by decide) ?_
                refine ar_iload (i := 4) dX7_bestAt_99 rfl ?_
                obtain ⟨h21, t⟩ := t
                refine fr_iald (n := 3072) dX7_bestAt_101 a_85 h21 ?_
                refine ar_aload_n (i := 0) dX7_bestAt_102 rfl rfl ?_
                refine fr_getR (t := 7) (j := 16) (r := 85) dX7_bestAt_103 fs_X7_28 o_78 rfl rfl (by decide) ?_
                refine ar_iload_n (i := 2) dX7_bestAt_106 rfl rfl ?_
                obtain ⟨h22, t⟩ := t
                refine fr_iald (n := 3072) dX7_bestAt_107 a_85 h22 ?_
                refine ar_icmp_ne (tgt := 131) dX7_bestAt_108 (by decide) (fun h23 => ?_) (fun h23 => ?_)
                · have t := t.1 h23
                  refine ar_iconst (v := 0) dX7_bestAt_131 (by decide) ?_
                  refine ar_istore (i := 5) (lo2 := [_, _, _, _, _, _]) dX7_bestAt_132 (Nat.le_of_ble_eq_true rfl) rfl rfl ?_
                  refine ar_iload (i := 5) dX7_bestAt_134 rfl ?_
                  refine ar_if_eq (tgt := 144) dX7_bestAt_136 (by decide) (fun _ => ?_) (fun h => absurd h (by decide))
                  refine ar_iload_n (i := 2) dX7_bestAt_144 rfl rfl ?_
                  refine ar_istore_n (i := 2) (lo2 := [_, _, _, _, _, _]) dX7_bestAt_145 rfl (Nat.le_of_ble_eq_true rfl) rfl rfl ?_
                  refine ar_iinc (i := 3) (v := _ + 1) (lo2 := [_, _, _, _, _, _]) dX7_bestAt_146 rfl (ii_1 _) (Nat.le_of_ble_eq_true rfl) rfl rfl ?_
                  refine ar_goto (tgt := 4) dX7_bestAt_149 (by decide) ?_
                  refine ar_drop 4 (lo2 := [_, _, _, _, none, _]) rfl ?_
                  refine ar_drop 5 (lo2 := [_, _, _, _, none, none]) rfl ?_
                  exact t
                · have t := t.2 h23
                  refine ar_aload_n (i := 0) dX7_bestAt_111 rfl rfl ?_
                  refine fr_getR (t := 7) (j := 17) (r := 86) dX7_bestAt_112 fs_X7_31 o_78 rfl rfl (by decide) ?_
                  refine ar_iload (i := 4) dX7_bestAt_115 rfl ?_
                  obtain ⟨h25, t⟩ := t
                  refine fr_iald (n := 3072) dX7_bestAt_117 a_86 h25 ?_
                  refine ar_aload_n (i := 0) dX7_bestAt_118 rfl rfl ?_
                  refine fr_getR (t := 7) (j := 17) (r := 86) dX7_bestAt_119 fs_X7_31 o_78 rfl rfl (by decide) ?_
                  refine ar_iload_n (i := 2) dX7_bestAt_122 rfl rfl ?_
                  obtain ⟨h26, t⟩ := t
                  refine fr_iald (n := 3072) dX7_bestAt_123 a_86 h26 ?_
                  refine ar_icmp_ge (tgt := 131) dX7_bestAt_124 (by decide) (fun h27 => ?_) (fun h27 => ?_)
                  · have t := t.1 h27
                    refine ar_iconst (v := 0) dX7_bestAt_131 (by decide) ?_
                    refine ar_istore (i := 5) (lo2 := [_, _, _, _, _, _]) dX7_bestAt_132 (Nat.le_of_ble_eq_true rfl) rfl rfl ?_
                    refine ar_iload (i := 5) dX7_bestAt_134 rfl ?_
                    refine ar_if_eq (tgt := 144) dX7_bestAt_136 (by decide) (fun _ => ?_) (fun h => absurd h (by decide))
                    refine ar_iload_n (i := 2) dX7_bestAt_144 rfl rfl ?_
                    refine ar_istore_n (i := 2) (lo2 := [_, _, _, _, _, _]) dX7_bestAt_145 rfl (Nat.le_of_ble_eq_true rfl) rfl rfl ?_
                    refine ar_iinc (i := 3) (v := _ + 1) (lo2 := [_, _, _, _, _, _]) dX7_bestAt_146 rfl (ii_1 _) (Nat.le_of_ble_eq_true rfl) rfl rfl ?_
                    refine ar_goto (tgt := 4) dX7_bestAt_149 (by decide) ?_
                    refine ar_drop 4 (lo2 := [_, _, _, _, none, _]) rfl ?_
                    refine ar_drop 5 (lo2 := [_, _, _, _, none, none]) rfl ?_
                    exact t
                  · have t := t.2 h27
                    refine ar_iconst (v := 1) dX7_bestAt_127 (by decide) ?_
                    refine ar_goto (tgt := 132) dX7_bestAt_128 (by decide) ?_
                    refine ar_istore (i := 5) (lo2 := [_, _, _, _, _, _]) dX7_bestAt_132 (Nat.le_of_ble_eq_true rfl) rfl rfl ?_
                    refine ar_iload (i := 5) dX7_bestAt_134 rfl ?_
                    refine ar_if_eq (tgt := 144) dX7_bestAt_136 (by decide) (fun h => absurd h (by decide)) (fun _ => ?_)
                    refine ar_iload (i := 4) dX7_bestAt_139 rfl ?_
                    refine ar_goto (tgt := 145) dX7_bestAt_141 (by decide) ?_
                    refine ar_istore_n (i := 2) (lo2 := [_, _, _, _, _, _]) dX7_bestAt_145 rfl (Nat.le_of_ble_eq_true rfl) rfl rfl ?_
                    refine ar_iinc (i := 3) (v := _ + 1) (lo2 := [_, _, _, _, _, _]) dX7_bestAt_146 rfl (ii_1 _) (Nat.le_of_ble_eq_true rfl) rfl rfl ?_
                    refine ar_goto (tgt := 4) dX7_bestAt_149 (by decide) ?_
                    refine ar_drop 4 (lo2 := [_, _, _, _, none, _]) rfl ?_
                    refine ar_drop 5 (lo2 := [_, _, _, _, none, none]) rfl ?_
                    exact t
def t_X7_bestAt (E : am_E) (d : Nat) (x1 : Int32) (σ : FH) (Q : Int32 → FH → Prop) : Prop :=
  h_X7_bestAt_4 E d x1 (-1) 0 σ Q
set_option maxRecDepth 100000 in
set_option maxHeartbeats 4000000 in
theorem v_X7_bestAt {E : am_E} {d : Nat} {σ : FH} {Q : Int32 → FH → Prop} {x1 : Int32} (t : t_X7_bestAt E d x1 σ Q) : fMi E (d + 1) mX7_bestAt [.ref 78, .int x1] σ Q := by
  refine fr_ofG [some (.ref 78), some (.int x1), none, none, none, none] (by decide) rfl (Nat.le_of_ble_eq_true rfl) ?_
  unfold t_X7_bestAt at t
  refine ar_iconst (v := -1) dX7_bestAt_0 (by decide) ?_
  refine ar_istore_n (i := 2) (lo2 := [_, _, _, none, none, none]) dX7_bestAt_1 rfl (Nat.le_of_ble_eq_true rfl) rfl rfl ?_
  refine ar_iconst (v := 0) dX7_bestAt_2 (by decide) ?_
  refine ar_istore_n (i := 3) (lo2 := [_, _, _, _, none, none]) dX7_bestAt_3 rfl (Nat.le_of_ble_eq_true rfl) rfl rfl ?_
  exact t

def t_X7_isDone (E : am_E) (d : Nat) (x1 : Int32) (σ : FH) (Q : Int32 → FH → Prop) : Prop :=
  fMi E d mX7_isIn [.ref 78, .int x1] σ (fun r2 σ1 => ((¬ r2 = 0 → Q 1 σ1) ∧
  (r2 = 0 → ((¬ (σ1.1 78 14) = 24 → Q 0 σ1) ∧
    ((σ1.1 78 14) = 24 → Q 1 σ1)))))
set_option maxRecDepth 100000 in
set_option maxHeartbeats 4000000 in
theorem v_X7_isDone {E : am_E} {d : Nat} {σ : FH} {Q : Int32 → FH → Prop} {x1 : Int32} (t : t_X7_isDone E d x1 σ Q) : fMi E (d + 1) mX7_isDone [.ref 78, .int x1] σ Q := by
  refine fr_ofG [some (.ref 78), some (.int x1)] (by decide) rfl (Nat.le_of_ble_eq_true rfl) ?_
  unfold t_X7_isDone at t
  refine ar_aload_n (i := 0) dX7_isDone_0 rfl rfl ?_
  refine ar_iload_n (i := 1) dX7_isDone_1 rfl rfl ?_
  refine fr_callVi (M' := mX7_isIn) [_] dX7_isDone_2 ml_X7_148 mv_X7_isIn rfl rfl o_78 rfl rfl (Nat.le_of_ble_eq_true rfl) ⟨Nat.le_refl _, Nat.le_refl _⟩ t (fun r2 σ1 t => ?_)
  try dsimp only at t
  refine ar_if_ne (tgt := 17) dX7_isDone_5 (by decide) (fun h3 => ?_) (fun h3 => ?_)
  · have t := t.1 h3
    refine ar_iconst (v := 1) dX7_isDone_17 (by decide) ?_
    refine ar_goto (tgt := 22) dX7_isDone_18 (by decide) ?_
    exact fr_zret dX7_isDone_22 rfl (Nat.le_refl _) (Nat.le_refl _) (Or.inr rfl) t
  · have t := t.2 h3
    refine ar_aload_n (i := 0) dX7_isDone_8 rfl rfl ?_
    refine fr_getI (t := 7) (j := 14) dX7_isDone_9 fs_X7_185 o_78 rfl ?_
    refine ar_bipush (v := 24) dX7_isDone_12 (by decide) ?_
    refine ar_icmp_ne (tgt := 21) dX7_isDone_14 (by decide) (fun h4 => ?_) (fun h4 => ?_)
    · have t := t.1 h4
      refine ar_iconst (v := 0) dX7_isDone_21 (by decide) ?_
      exact fr_zret dX7_isDone_22 rfl (Nat.le_refl _) (Nat.le_refl _) (Or.inl rfl) t
    · have t := t.2 h4
      refine ar_iconst (v := 1) dX7_isDone_17 (by decide) ?_
      refine ar_goto (tgt := 22) dX7_isDone_18 (by decide) ?_
      exact fr_zret dX7_isDone_22 rfl (Nat.le_refl _) (Nat.le_refl _) (Or.inr rfl) t

def t_X7_wayBy (E : am_E) (d : Nat) (x1 : Int32) (x2 : Int32) (σ : FH) (Q : Int32 → FH → Prop) : Prop :=
  (∀ σ1 : FH, σ1 = fsI σ 78 18 (σ.1 78 6) → (∀ σ2 : FH, σ2 = fsI σ1 78 19 x2 → (vp_in ((5 * x1) + 1) 20 ∧ fMv E d mX7_layWays [.ref 78, .int x1, .int (99 - (σ2.1 82 ((5 * x1) + 1).toNatClampNeg))] σ2 (fun σ4 => fMi E d mX7_bestAt [.ref 78, .int x1] σ4 (fun r7 σ6 => Q r7 σ6)))))
set_option maxRecDepth 100000 in
set_option maxHeartbeats 4000000 in
theorem v_X7_wayBy {E : am_E} {d : Nat} {σ : FH} {Q : Int32 → FH → Prop} {x1 : Int32} {x2 : Int32} (t : t_X7_wayBy E d x1 x2 σ Q) : fMi E (d + 1) mX7_wayBy [.ref 78, .int x1, .int x2] σ Q := by
  refine fr_ofG [some (.ref 78), some (.int x1), some (.int x2)] (by decide) rfl (Nat.le_of_ble_eq_true rfl) ?_
  unfold t_X7_wayBy at t
  refine ar_aload_n (i := 0) dX7_wayBy_0 rfl rfl ?_
  refine ar_aload_n (i := 0) dX7_wayBy_1 rfl rfl ?_
  refine fr_getI (t := 7) (j := 6) dX7_wayBy_2 fs_X7_104 o_78 rfl ?_
  refine fr_putI (t := 7) (j := 18) dX7_wayBy_5 fq_X7_172 o_78 rfl (Or.inl rfl) ?_
  have t := t _ rfl
  refine ar_aload_n (i := 0) dX7_wayBy_8 rfl rfl ?_
  refine ar_iload_n (i := 2) dX7_wayBy_9 rfl rfl ?_
  refine fr_putI (t := 7) (j := 19) dX7_wayBy_10 fq_X7_175 o_78 rfl (Or.inl rfl) ?_
  have t := t _ rfl
  refine ar_aload_n (i := 0) dX7_wayBy_13 rfl rfl ?_
  refine ar_iload_n (i := 1) dX7_wayBy_14 rfl rfl ?_
  refine ar_bipush (v := 99) dX7_wayBy_15 (by decide) ?_
  refine ar_aload_n (i := 0) dX7_wayBy_17 rfl rfl ?_
  refine fr_getR (t := 7) (j := 12) (r := 82) dX7_wayBy_18 fs_X7_19 o_78 rfl rfl (by decide) ?_
  refine ar_iconst (v := 5) dX7_wayBy_21 (by decide) ?_
  refine ar_iload_n (i := 1) dX7_wayBy_22 rfl rfl ?_
  refine ar_imul dX7_wayBy_23 ?_
  refine ar_iconst (v := 1) dX7_wayBy_24 (by decide) ?_
  refine ar_iadd dX7_wayBy_25 ?_
  obtain ⟨h3, t⟩ := t
  refine fr_iald (n := 20) dX7_wayBy_26 a_82 h3 ?_
  refine ar_isub dX7_wayBy_27 ?_
  refine fr_callVv (M' := mX7_layWays) [_, _] dX7_wayBy_28 ml_X7_188 mv_X7_layWays rfl rfl o_78 rfl rfl (Nat.le_of_ble_eq_true rfl) ⟨Nat.le_refl _, Nat.le_refl _⟩ t (fun σ4 t => ?_)
  try dsimp only at t
  refine ar_aload_n (i := 0) dX7_wayBy_31 rfl rfl ?_
  refine ar_iload_n (i := 1) dX7_wayBy_32 rfl rfl ?_
  refine fr_callVi (M' := mX7_bestAt) [_] dX7_wayBy_33 ml_X7_192 mv_X7_bestAt rfl rfl o_78 rfl rfl (Nat.le_of_ble_eq_true rfl) ⟨Nat.le_refl _, Nat.le_refl _⟩ t (fun r7 σ6 t => ?_)
  try dsimp only at t
  exact fr_iret dX7_wayBy_36 rfl (Nat.le_refl _) (Nat.le_refl _) t

def t_X7_way (E : am_E) (d : Nat) (x1 : Int32) (x2 : Int32) (σ : FH) (Q : Int32 → FH → Prop) : Prop :=
  fMi E d mX7_isPilgrim [.ref 78, .int x1] σ (fun r2 σ1 => ((¬ r2 = 0 → fMi E d mX7_in [.long x2.toInt64, .long 0, .long 2] σ1 (fun r5 σ4 => ((¬ r5 = 0 → fMi E d mX7_isDone [.ref 78, .int x1] σ4 (fun r8 σ7 => ((r8 = 0 → (∀ σ10 : FH, σ10 = fsI σ7 78 14 ((σ7.1 78 14) + 1) → fMi E d mX7_wayBy [.ref 78, .int x1, .int (-1)] σ10 (fun r12 σ11 => ((¬ r12 = (-1) → ((¬ x2 = 0 → ((¬ x2 = 1 → (vp_in r12 3072 ∧ Q (σ11.1 86 r12.toNatClampNeg) σ11)) ∧
            (x2 = 1 → (vp_in r12 3072 ∧ Q (σ11.1 85 r12.toNatClampNeg) σ11)))) ∧
          (x2 = 0 → (vp_in r12 3072 ∧ Q (σ11.1 84 r12.toNatClampNeg) σ11)))) ∧
        (r12 = (-1) → Q (-1) σ11))))) ∧
      (¬ r8 = 0 → Q (-103) σ7)))) ∧
    (r5 = 0 → Q (-102) σ4)))) ∧
  (r2 = 0 → Q (-101) σ1)))
set_option maxRecDepth 100000 in
set_option maxHeartbeats 4000000 in
theorem v_X7_way {E : am_E} {d : Nat} {σ : FH} {Q : Int32 → FH → Prop} {x1 : Int32} {x2 : Int32} (t : t_X7_way E d x1 x2 σ Q) : fMi E (d + 1) mX7_way [.ref 78, .int x1, .int x2] σ Q := by
  refine fr_ofG [some (.ref 78), some (.int x1), some (.int x2), none] (by decide) rfl (Nat.le_of_ble_eq_true rfl) ?_
  unfold t_X7_way at t
  refine ar_aload_n (i := 0) dX7_way_0 rfl rfl ?_
  refine ar_iload_n (i := 1) dX7_way_1 rfl rfl ?_
  refine fr_callVi (M' := mX7_isPilgrim) [_] dX7_way_2 ml_X7_142 mv_X7_isPilgrim rfl rfl o_78 rfl rfl (Nat.le_of_ble_eq_true rfl) ⟨Nat.le_refl _, Nat.le_refl _⟩ t (fun r2 σ1 t => ?_)
  try dsimp only at t
  refine ar_if_ne (tgt := 11) dX7_way_5 (by decide) (fun h3 => ?_) (fun h3 => ?_)
  · have t := t.1 h3
    refine ar_iload_n (i := 2) dX7_way_11 rfl rfl ?_
    refine ar_i2l dX7_way_12 ?_
    refine ar_lconst (v := 0) dX7_way_13 (by decide) ?_
    refine ar_ldc2 dX7_way_14 ct_X7_195 ?_
    refine fr_callSi (M' := mX7_in) [_, _, _] dX7_way_17 ml_X7_67 mv_X7_in rfl rfl (Nat.le_of_ble_eq_true rfl) ⟨Nat.le_refl _, Nat.le_refl _⟩ t (fun r5 σ4 t => ?_)
    try dsimp only at t
    refine ar_if_ne (tgt := 26) dX7_way_20 (by decide) (fun h6 => ?_) (fun h6 => ?_)
    · have t := t.1 h6
      refine ar_aload_n (i := 0) dX7_way_26 rfl rfl ?_
      refine ar_iload_n (i := 1) dX7_way_27 rfl rfl ?_
      refine fr_callVi (M' := mX7_isDone) [_] dX7_way_28 ml_X7_197 mv_X7_isDone rfl rfl o_78 rfl rfl (Nat.le_of_ble_eq_true rfl) ⟨Nat.le_refl _, Nat.le_refl _⟩ t (fun r8 σ7 t => ?_)
      try dsimp only at t
      refine ar_if_eq (tgt := 37) dX7_way_31 (by decide) (fun h9 => ?_) (fun h9 => ?_)
      · have t := t.1 h9
        refine ar_aload_n (i := 0) dX7_way_37 rfl rfl ?_
        refine ar_dup dX7_way_38 rfl ?_
        refine fr_getI (t := 7) (j := 14) dX7_way_39 fs_X7_185 o_78 rfl ?_
        refine ar_iconst (v := 1) dX7_way_42 (by decide) ?_
        refine ar_iadd dX7_way_43 ?_
        refine fr_putI (t := 7) (j := 14) dX7_way_44 fq_X7_185 o_78 rfl (Or.inl rfl) ?_
        have t := t _ rfl
        refine ar_aload_n (i := 0) dX7_way_47 rfl rfl ?_
        refine ar_iload_n (i := 1) dX7_way_48 rfl rfl ?_
        refine ar_iconst (v := -1) dX7_way_49 (by decide) ?_
        refine fr_callVi (M' := mX7_wayBy) [_, _] dX7_way_50 ml_X7_200 mv_X7_wayBy rfl rfl o_78 rfl rfl (Nat.le_of_ble_eq_true rfl) ⟨Nat.le_refl _, Nat.le_refl _⟩ t (fun r12 σ11 t => ?_)
        try dsimp only at t
        refine ar_istore_n (i := 3) (lo2 := [_, _, _, _]) dX7_way_53 rfl (Nat.le_of_ble_eq_true rfl) rfl rfl ?_
        refine ar_iload_n (i := 3) dX7_way_54 rfl rfl ?_
        refine ar_iconst (v := -1) dX7_way_55 (by decide) ?_
        refine ar_icmp_ne (tgt := 63) dX7_way_56 (by decide) (fun h13 => ?_) (fun h13 => ?_)
        · have t := t.1 h13
          refine ar_iload_n (i := 2) dX7_way_63 rfl rfl ?_
          refine ar_if_ne (tgt := 76) dX7_way_64 (by decide) (fun h14 => ?_) (fun h14 => ?_)
          · have t := t.1 h14
            refine ar_iload_n (i := 2) dX7_way_76 rfl rfl ?_
            refine ar_iconst (v := 1) dX7_way_77 (by decide) ?_
            refine ar_icmp_ne (tgt := 90) dX7_way_78 (by decide) (fun h15 => ?_) (fun h15 => ?_)
            · have t := t.1 h15
              refine ar_aload_n (i := 0) dX7_way_90 rfl rfl ?_
              refine fr_getR (t := 7) (j := 17) (r := 86) dX7_way_91 fs_X7_31 o_78 rfl rfl (by decide) ?_
              refine ar_iload_n (i := 3) dX7_way_94 rfl rfl ?_
              obtain ⟨h16, t⟩ := t
              refine fr_iald (n := 3072) dX7_way_95 a_86 h16 ?_
              exact fr_iret dX7_way_96 rfl (Nat.le_refl _) (Nat.le_refl _) t
            · have t := t.2 h15
              refine ar_aload_n (i := 0) dX7_way_81 rfl rfl ?_
              refine fr_getR (t := 7) (j := 16) (r := 85) dX7_way_82 fs_X7_28 o_78 rfl rfl (by decide) ?_
              refine ar_iload_n (i := 3) dX7_way_85 rfl rfl ?_
              obtain ⟨h17, t⟩ := t
              refine fr_iald (n := 3072) dX7_way_86 a_85 h17 ?_
              refine ar_goto (tgt := 96) dX7_way_87 (by decide) ?_
              exact fr_iret dX7_way_96 rfl (Nat.le_refl _) (Nat.le_refl _) t
          · have t := t.2 h14
            refine ar_aload_n (i := 0) dX7_way_67 rfl rfl ?_
            refine fr_getR (t := 7) (j := 15) (r := 84) dX7_way_68 fs_X7_25 o_78 rfl rfl (by decide) ?_
            refine ar_iload_n (i := 3) dX7_way_71 rfl rfl ?_
            obtain ⟨h18, t⟩ := t
            refine fr_iald (n := 3072) dX7_way_72 a_84 h18 ?_
            refine ar_goto (tgt := 96) dX7_way_73 (by decide) ?_
            exact fr_iret dX7_way_96 rfl (Nat.le_refl _) (Nat.le_refl _) t
        · have t := t.2 h13
          refine ar_iconst (v := -1) dX7_way_59 (by decide) ?_
          refine ar_goto (tgt := 96) dX7_way_60 (by decide) ?_
          exact fr_iret dX7_way_96 rfl (Nat.le_refl _) (Nat.le_refl _) t
      · have t := t.2 h9
        refine ar_bipush (v := -103) dX7_way_34 (by decide) ?_
        exact fr_iret dX7_way_36 rfl (Nat.le_refl _) (Nat.le_refl _) t
    · have t := t.2 h6
      refine ar_bipush (v := -102) dX7_way_23 (by decide) ?_
      exact fr_iret dX7_way_25 rfl (Nat.le_refl _) (Nat.le_refl _) t
  · have t := t.2 h3
    refine ar_bipush (v := -101) dX7_way_8 (by decide) ?_
    exact fr_iret dX7_way_10 rfl (Nat.le_refl _) (Nat.le_refl _) t

/-- X7.bars: the machine at the loop head 46 -/
def h_X7_bars_46 (E : am_E) (d : Nat) (x1 : Int32) (x2 : Int32) (σ : FH) (Q : Int32 → FH → Prop) : Prop := fG E (d + 1) mX7_bars 46 [some (.ref 78), some (.int x1), some (.int x2)] [] σ (qi Q)
def t_X7_bars_46 (E : am_E) (d : Nat) (x1 : Int32) (x2 : Int32) (σ : FH) (Q : Int32 → FH → Prop) : Prop :=
  (((σ.1 78 6) ≤ x2 → Q (-1) σ) ∧
  (¬ (σ.1 78 6) ≤ x2 → fMi E d mX7_wayBy [.ref 78, .int x1, .int x2] σ (fun r13 σ12 => ((¬ r13 = (-1) → h_X7_bars_46 E d x1 (x2 + 1) σ12 Q) ∧
    (r13 = (-1) → Q x2 σ12)))))
set_option maxRecDepth 100000 in
set_option maxHeartbeats 4000000 in
theorem v_X7_bars_46 {E : am_E} {d : Nat} {σ : FH} {Q : Int32 → FH → Prop} {x1 : Int32} {x2 : Int32} (t : t_X7_bars_46 E d x1 x2 σ Q) : h_X7_bars_46 E d x1 x2 σ Q := by
  unfold h_X7_bars_46
  unfold t_X7_bars_46 at t
  refine ar_iload_n (i := 2) dX7_bars_46 rfl rfl ?_
  refine ar_aload_n (i := 0) dX7_bars_47 rfl rfl ?_
  refine fr_getI (t := 7) (j := 6) dX7_bars_48 fs_X7_104 o_78 rfl ?_
  refine ar_icmp_ge (tgt := 72) dX7_bars_51 (by decide) (fun h11 => ?_) (fun h11 => ?_)
  · have t := t.1 h11
    refine ar_iconst (v := -1) dX7_bars_72 (by decide) ?_
    exact fr_iret dX7_bars_73 rfl (Nat.le_refl _) (Nat.le_refl _) t
  · have t := t.2 h11
    refine ar_aload_n (i := 0) dX7_bars_54 rfl rfl ?_
    refine ar_iload_n (i := 1) dX7_bars_55 rfl rfl ?_
    refine ar_iload_n (i := 2) dX7_bars_56 rfl rfl ?_
    refine fr_callVi (M' := mX7_wayBy) [_, _] dX7_bars_57 ml_X7_200 mv_X7_wayBy rfl rfl o_78 rfl rfl (Nat.le_of_ble_eq_true rfl) ⟨Nat.le_refl _, Nat.le_refl _⟩ t (fun r13 σ12 t => ?_)
    try dsimp only at t
    refine ar_iconst (v := -1) dX7_bars_60 (by decide) ?_
    refine ar_icmp_ne (tgt := 66) dX7_bars_61 (by decide) (fun h14 => ?_) (fun h14 => ?_)
    · have t := t.1 h14
      refine ar_iinc (i := 2) (v := _ + 1) (lo2 := [_, _, _]) dX7_bars_66 rfl (ii_1 _) (Nat.le_of_ble_eq_true rfl) rfl rfl ?_
      refine ar_goto (tgt := 46) dX7_bars_69 (by decide) ?_
      exact t
    · have t := t.2 h14
      refine ar_iload_n (i := 2) dX7_bars_64 rfl rfl ?_
      exact fr_iret dX7_bars_65 rfl (Nat.le_refl _) (Nat.le_refl _) t
def t_X7_bars (E : am_E) (d : Nat) (x1 : Int32) (σ : FH) (Q : Int32 → FH → Prop) : Prop :=
  fMi E d mX7_isPilgrim [.ref 78, .int x1] σ (fun r2 σ1 => ((¬ r2 = 0 → fMi E d mX7_isDone [.ref 78, .int x1] σ1 (fun r5 σ4 => ((r5 = 0 → (∀ σ7 : FH, σ7 = fsI σ4 78 14 ((σ4.1 78 14) + 1) → fMi E d mX7_wayBy [.ref 78, .int x1, .int (-1)] σ7 (fun r9 σ8 => ((¬ r9 = (-1) → h_X7_bars_46 E d x1 0 σ8 Q) ∧
      (r9 = (-1) → Q (-1) σ8))))) ∧
    (¬ r5 = 0 → Q (-103) σ4)))) ∧
  (r2 = 0 → Q (-101) σ1)))
set_option maxRecDepth 100000 in
set_option maxHeartbeats 4000000 in
theorem v_X7_bars {E : am_E} {d : Nat} {σ : FH} {Q : Int32 → FH → Prop} {x1 : Int32} (t : t_X7_bars E d x1 σ Q) : fMi E (d + 1) mX7_bars [.ref 78, .int x1] σ Q := by
  refine fr_ofG [some (.ref 78), some (.int x1), none] (by decide) rfl (Nat.le_of_ble_eq_true rfl) ?_
  unfold t_X7_bars at t
  refine ar_aload_n (i := 0) dX7_bars_0 rfl rfl ?_
  refine ar_iload_n (i := 1) dX7_bars_1 rfl rfl ?_
  refine fr_callVi (M' := mX7_isPilgrim) [_] dX7_bars_2 ml_X7_142 mv_X7_isPilgrim rfl rfl o_78 rfl rfl (Nat.le_of_ble_eq_true rfl) ⟨Nat.le_refl _, Nat.le_refl _⟩ t (fun r2 σ1 t => ?_)
  try dsimp only at t
  refine ar_if_ne (tgt := 11) dX7_bars_5 (by decide) (fun h3 => ?_) (fun h3 => ?_)
  · have t := t.1 h3
    refine ar_aload_n (i := 0) dX7_bars_11 rfl rfl ?_
    refine ar_iload_n (i := 1) dX7_bars_12 rfl rfl ?_
    refine fr_callVi (M' := mX7_isDone) [_] dX7_bars_13 ml_X7_197 mv_X7_isDone rfl rfl o_78 rfl rfl (Nat.le_of_ble_eq_true rfl) ⟨Nat.le_refl _, Nat.le_refl _⟩ t (fun r5 σ4 t => ?_)
    try dsimp only at t
    refine ar_if_eq (tgt := 22) dX7_bars_16 (by decide) (fun h6 => ?_) (fun h6 => ?_)
    · have t := t.1 h6
      refine ar_aload_n (i := 0) dX7_bars_22 rfl rfl ?_
      refine ar_dup dX7_bars_23 rfl ?_
      refine fr_getI (t := 7) (j := 14) dX7_bars_24 fs_X7_185 o_78 rfl ?_
      refine ar_iconst (v := 1) dX7_bars_27 (by decide) ?_
      refine ar_iadd dX7_bars_28 ?_
      refine fr_putI (t := 7) (j := 14) dX7_bars_29 fq_X7_185 o_78 rfl (Or.inl rfl) ?_
      have t := t _ rfl
      refine ar_aload_n (i := 0) dX7_bars_32 rfl rfl ?_
      refine ar_iload_n (i := 1) dX7_bars_33 rfl rfl ?_
      refine ar_iconst (v := -1) dX7_bars_34 (by decide) ?_
      refine fr_callVi (M' := mX7_wayBy) [_, _] dX7_bars_35 ml_X7_200 mv_X7_wayBy rfl rfl o_78 rfl rfl (Nat.le_of_ble_eq_true rfl) ⟨Nat.le_refl _, Nat.le_refl _⟩ t (fun r9 σ8 t => ?_)
      try dsimp only at t
      refine ar_iconst (v := -1) dX7_bars_38 (by decide) ?_
      refine ar_icmp_ne (tgt := 44) dX7_bars_39 (by decide) (fun h10 => ?_) (fun h10 => ?_)
      · have t := t.1 h10
        refine ar_iconst (v := 0) dX7_bars_44 (by decide) ?_
        refine ar_istore_n (i := 2) (lo2 := [_, _, _]) dX7_bars_45 rfl (Nat.le_of_ble_eq_true rfl) rfl rfl ?_
        exact t
      · have t := t.2 h10
        refine ar_iconst (v := -1) dX7_bars_42 (by decide) ?_
        exact fr_iret dX7_bars_43 rfl (Nat.le_refl _) (Nat.le_refl _) t
    · have t := t.2 h6
      refine ar_bipush (v := -103) dX7_bars_19 (by decide) ?_
      exact fr_iret dX7_bars_21 rfl (Nat.le_refl _) (Nat.le_refl _) t
  · have t := t.2 h3
    refine ar_bipush (v := -101) dX7_bars_8 (by decide) ?_
    exact fr_iret dX7_bars_10 rfl (Nat.le_refl _) (Nat.le_refl _) t

/-- X7.most: the machine at the loop head 95 -/
def h_X7_most_95 (E : am_E) (d : Nat) (x1 : Int32) (x4 : Int32) (x5 : Int32) (σ : FH) (Q : Int32 → FH → Prop) : Prop := fG E (d + 1) mX7_most 95 [some (.ref 78), some (.int x1), none, none, some (.int x4), some (.int x5), none] [] σ (qi Q)
def t_X7_most_95 (E : am_E) (d : Nat) (x1 : Int32) (x4 : Int32) (x5 : Int32) (σ : FH) (Q : Int32 → FH → Prop) : Prop :=
  ((3072 ≤ x5 → Q x4 σ) ∧
  (¬ 3072 ≤ x5 → (vp_in x5 3072 ∧ ((¬ (σ.1 84 x5.toNatClampNeg) = (-1) → fMi E d mX7_countedBy [.ref 78, .int x1, .int (x5 - x5 / 512 * 512)] σ (fun r22 σ21 => ((r22 ≤ x4 → h_X7_most_95 E d x1 x4 (x5 + 1) σ21 Q) ∧
      (¬ r22 ≤ x4 → h_X7_most_95 E d x1 r22 (x5 + 1) σ21 Q)))) ∧
    ((σ.1 84 x5.toNatClampNeg) = (-1) → ((0 ≤ x4 → h_X7_most_95 E d x1 x4 (x5 + 1) σ Q) ∧
      (¬ 0 ≤ x4 → h_X7_most_95 E d x1 0 (x5 + 1) σ Q)))))))
set_option maxRecDepth 100000 in
set_option maxHeartbeats 4000000 in
theorem v_X7_most_95 {E : am_E} {d : Nat} {σ : FH} {Q : Int32 → FH → Prop} {x1 : Int32} {x4 : Int32} {x5 : Int32} (t : t_X7_most_95 E d x1 x4 x5 σ Q) : h_X7_most_95 E d x1 x4 x5 σ Q := by
  unfold h_X7_most_95
  unfold t_X7_most_95 at t
  refine ar_iload (i := 5) dX7_most_95 rfl ?_
  refine ar_sipush (v := 3072) dX7_most_97 (by decide) ?_
  refine ar_icmp_ge (tgt := 153) dX7_most_100 (by decide) (fun h18 => ?_) (fun h18 => ?_)
  · have t := t.1 h18
    refine ar_iload (i := 4) dX7_most_153 rfl ?_
    exact fr_iret dX7_most_155 rfl (Nat.le_refl _) (Nat.le_refl _) t
  · have t := t.2 h18
    refine ar_aload_n (i := 0) dX7_most_103 rfl rfl ?_
    refine fr_getR (t := 7) (j := 15) (r := 84) dX7_most_104 fs_X7_25 o_78 rfl rfl (by decide) ?_
    refine ar_iload (i := 5) dX7_most_107 rfl ?_
    obtain ⟨h19, t⟩ := t
    refine fr_iald (n := 3072) dX7_most_109 a_84 h19 ?_
    refine ar_iconst (v := -1) dX7_most_110 (by decide) ?_
    refine ar_icmp_ne (tgt := 118) dX7_most_111 (by decide) (fun h20 => ?_) (fun h20 => ?_)
    · have t := t.1 h20
      refine ar_aload_n (i := 0) dX7_most_118 rfl rfl ?_
      refine ar_iload_n (i := 1) dX7_most_119 rfl rfl ?_
      refine ar_iload (i := 5) dX7_most_120 rfl ?_
      refine ar_sipush (v := 512) dX7_most_122 (by decide) ?_
      refine ar_irem dX7_most_125 (by decide) ?_
      refine fr_callVi (M' := mX7_countedBy) [_, _] dX7_most_126 ml_X7_182 mv_X7_countedBy rfl rfl o_78 rfl rfl (Nat.le_of_ble_eq_true rfl) ⟨Nat.le_refl _, Nat.le_refl _⟩ t (fun r22 σ21 t => ?_)
      try dsimp only at t
      refine ar_istore (i := 6) (lo2 := [_, _, none, none, _, _, _]) dX7_most_129 (Nat.le_of_ble_eq_true rfl) rfl rfl ?_
      refine ar_iload (i := 6) dX7_most_131 rfl ?_
      refine ar_iload (i := 4) dX7_most_133 rfl ?_
      refine ar_icmp_le (tgt := 143) dX7_most_135 (by decide) (fun h23 => ?_) (fun h23 => ?_)
      · have t := t.1 h23
        refine ar_iload (i := 4) dX7_most_143 rfl ?_
        refine ar_istore (i := 4) (lo2 := [_, _, none, none, _, _, _]) dX7_most_145 (Nat.le_of_ble_eq_true rfl) rfl rfl ?_
        refine ar_iinc (i := 5) (v := _ + 1) (lo2 := [_, _, none, none, _, _, _]) dX7_most_147 rfl (ii_1 _) (Nat.le_of_ble_eq_true rfl) rfl rfl ?_
        refine ar_goto (tgt := 95) dX7_most_150 (by decide) ?_
        refine ar_drop 6 (lo2 := [_, _, none, none, _, _, none]) rfl ?_
        exact t
      · have t := t.2 h23
        refine ar_iload (i := 6) dX7_most_138 rfl ?_
        refine ar_goto (tgt := 145) dX7_most_140 (by decide) ?_
        refine ar_istore (i := 4) (lo2 := [_, _, none, none, _, _, _]) dX7_most_145 (Nat.le_of_ble_eq_true rfl) rfl rfl ?_
        refine ar_iinc (i := 5) (v := _ + 1) (lo2 := [_, _, none, none, _, _, _]) dX7_most_147 rfl (ii_1 _) (Nat.le_of_ble_eq_true rfl) rfl rfl ?_
        refine ar_goto (tgt := 95) dX7_most_150 (by decide) ?_
        refine ar_drop 6 (lo2 := [_, _, none, none, _, _, none]) rfl ?_
        exact t
    · have t := t.2 h20
      refine ar_iconst (v := 0) dX7_most_114 (by decide) ?_
      refine ar_goto (tgt := 129) dX7_most_115 (by decide) ?_
      refine ar_istore (i := 6) (lo2 := [_, _, none, none, _, _, _]) dX7_most_129 (Nat.le_of_ble_eq_true rfl) rfl rfl ?_
      refine ar_iload (i := 6) dX7_most_131 rfl ?_
      refine ar_iload (i := 4) dX7_most_133 rfl ?_
      refine ar_icmp_le (tgt := 143) dX7_most_135 (by decide) (fun h24 => ?_) (fun h24 => ?_)
      · have t := t.1 h24
        refine ar_iload (i := 4) dX7_most_143 rfl ?_
        refine ar_istore (i := 4) (lo2 := [_, _, none, none, _, _, _]) dX7_most_145 (Nat.le_of_ble_eq_true rfl) rfl rfl ?_
        refine ar_iinc (i := 5) (v := _ + 1) (lo2 := [_, _, none, none, _, _, _]) dX7_most_147 rfl (ii_1 _) (Nat.le_of_ble_eq_true rfl) rfl rfl ?_
        refine ar_goto (tgt := 95) dX7_most_150 (by decide) ?_
        refine ar_drop 6 (lo2 := [_, _, none, none, _, _, none]) rfl ?_
        exact t
      · have t := t.2 h24
        refine ar_iload (i := 6) dX7_most_138 rfl ?_
        refine ar_goto (tgt := 145) dX7_most_140 (by decide) ?_
        refine ar_istore (i := 4) (lo2 := [_, _, none, none, _, _, _]) dX7_most_145 (Nat.le_of_ble_eq_true rfl) rfl rfl ?_
        refine ar_iinc (i := 5) (v := _ + 1) (lo2 := [_, _, none, none, _, _, _]) dX7_most_147 rfl (ii_1 _) (Nat.le_of_ble_eq_true rfl) rfl rfl ?_
        refine ar_goto (tgt := 95) dX7_most_150 (by decide) ?_
        refine ar_drop 6 (lo2 := [_, _, none, none, _, _, none]) rfl ?_
        exact t
def t_X7_most (E : am_E) (d : Nat) (x1 : Int32) (x2 : Int32) (σ : FH) (Q : Int32 → FH → Prop) : Prop :=
  fMi E d mX7_isPilgrim [.ref 78, .int x1] σ (fun r2 σ1 => ((¬ r2 = 0 → fMi E d mX7_in [.long x2.toInt64, .long 0, .long 60] σ1 (fun r5 σ4 => ((¬ r5 = 0 → fMi E d mX7_isDone [.ref 78, .int x1] σ4 (fun r8 σ7 => ((r8 = 0 → (∀ σ10 : FH, σ10 = fsI σ7 78 14 ((σ7.1 78 14) + 1) → (vp_in ((5 * x1) + 1) 20 ∧ (∀ v12 : Int32, v12 = 99 - (σ10.1 82 ((5 * x1) + 1).toNatClampNeg) → (∀ σ13 : FH, σ13 = fsI σ10 78 18 (σ10.1 78 6) → (∀ σ14 : FH, σ14 = fsI σ13 78 19 (-1) → ((v12 ≤ x2 → fMv E d mX7_layWays [.ref 78, .int x1, .int v12] σ14 (fun σ16 => h_X7_most_95 E d x1 0 0 σ16 Q)) ∧
        (¬ v12 ≤ x2 → fMv E d mX7_layWays [.ref 78, .int x1, .int x2] σ14 (fun σ25 => h_X7_most_95 E d x1 0 0 σ25 Q))))))))) ∧
      (¬ r8 = 0 → Q (-103) σ7)))) ∧
    (r5 = 0 → Q (-102) σ4)))) ∧
  (r2 = 0 → Q (-101) σ1)))
set_option maxRecDepth 100000 in
set_option maxHeartbeats 4000000 in
theorem v_X7_most {E : am_E} {d : Nat} {σ : FH} {Q : Int32 → FH → Prop} {x1 : Int32} {x2 : Int32} (t : t_X7_most E d x1 x2 σ Q) : fMi E (d + 1) mX7_most [.ref 78, .int x1, .int x2] σ Q := by
  refine fr_ofG [some (.ref 78), some (.int x1), some (.int x2), none, none, none, none] (by decide) rfl (Nat.le_of_ble_eq_true rfl) ?_
  unfold t_X7_most at t
  refine ar_aload_n (i := 0) dX7_most_0 rfl rfl ?_
  refine ar_iload_n (i := 1) dX7_most_1 rfl rfl ?_
  refine fr_callVi (M' := mX7_isPilgrim) [_] dX7_most_2 ml_X7_142 mv_X7_isPilgrim rfl rfl o_78 rfl rfl (Nat.le_of_ble_eq_true rfl) ⟨Nat.le_refl _, Nat.le_refl _⟩ t (fun r2 σ1 t => ?_)
  try dsimp only at t
  refine ar_if_ne (tgt := 11) dX7_most_5 (by decide) (fun h3 => ?_) (fun h3 => ?_)
  · have t := t.1 h3
    refine ar_iload_n (i := 2) dX7_most_11 rfl rfl ?_
    refine ar_i2l dX7_most_12 ?_
    refine ar_lconst (v := 0) dX7_most_13 (by decide) ?_
    refine ar_ldc2 dX7_most_14 ct_X7_95 ?_
    refine fr_callSi (M' := mX7_in) [_, _, _] dX7_most_17 ml_X7_67 mv_X7_in rfl rfl (Nat.le_of_ble_eq_true rfl) ⟨Nat.le_refl _, Nat.le_refl _⟩ t (fun r5 σ4 t => ?_)
    try dsimp only at t
    refine ar_if_ne (tgt := 26) dX7_most_20 (by decide) (fun h6 => ?_) (fun h6 => ?_)
    · have t := t.1 h6
      refine ar_aload_n (i := 0) dX7_most_26 rfl rfl ?_
      refine ar_iload_n (i := 1) dX7_most_27 rfl rfl ?_
      refine fr_callVi (M' := mX7_isDone) [_] dX7_most_28 ml_X7_197 mv_X7_isDone rfl rfl o_78 rfl rfl (Nat.le_of_ble_eq_true rfl) ⟨Nat.le_refl _, Nat.le_refl _⟩ t (fun r8 σ7 t => ?_)
      try dsimp only at t
      refine ar_if_eq (tgt := 37) dX7_most_31 (by decide) (fun h9 => ?_) (fun h9 => ?_)
      · have t := t.1 h9
        refine ar_aload_n (i := 0) dX7_most_37 rfl rfl ?_
        refine ar_dup dX7_most_38 rfl ?_
        refine fr_getI (t := 7) (j := 14) dX7_most_39 fs_X7_185 o_78 rfl ?_
        refine ar_iconst (v := 1) dX7_most_42 (by decide) ?_
        refine ar_iadd dX7_most_43 ?_
        refine fr_putI (t := 7) (j := 14) dX7_most_44 fq_X7_185 o_78 rfl (Or.inl rfl) ?_
        have t := t _ rfl
        refine ar_bipush (v := 99) dX7_most_47 (by decide) ?_
        refine ar_aload_n (i := 0) dX7_most_49 rfl rfl ?_
        refine fr_getR (t := 7) (j := 12) (r := 82) dX7_most_50 fs_X7_19 o_78 rfl rfl (by decide) ?_
        refine ar_iconst (v := 5) dX7_most_53 (by decide) ?_
        refine ar_iload_n (i := 1) dX7_most_54 rfl rfl ?_
        refine ar_imul dX7_most_55 ?_
        refine ar_iconst (v := 1) dX7_most_56 (by decide) ?_
        refine ar_iadd dX7_most_57 ?_
        obtain ⟨h11, t⟩ := t
        refine fr_iald (n := 20) dX7_most_58 a_82 h11 ?_
        refine ar_isub dX7_most_59 ?_
        refine ar_istore_n (i := 3) (lo2 := [_, _, _, _, none, none, none]) dX7_most_60 rfl (Nat.le_of_ble_eq_true rfl) rfl rfl ?_
        have t := t _ rfl
        refine ar_aload_n (i := 0) dX7_most_61 rfl rfl ?_
        refine ar_aload_n (i := 0) dX7_most_62 rfl rfl ?_
        refine fr_getI (t := 7) (j := 6) dX7_most_63 fs_X7_104 o_78 rfl ?_
        refine fr_putI (t := 7) (j := 18) dX7_most_66 fq_X7_172 o_78 rfl (Or.inl rfl) ?_
        have t := t _ rfl
        refine ar_aload_n (i := 0) dX7_most_69 rfl rfl ?_
        refine ar_iconst (v := -1) dX7_most_70 (by decide) ?_
        refine fr_putI (t := 7) (j := 19) dX7_most_71 fq_X7_175 o_78 rfl (Or.inl rfl) ?_
        have t := t _ rfl
        refine ar_aload_n (i := 0) dX7_most_74 rfl rfl ?_
        refine ar_iload_n (i := 1) dX7_most_75 rfl rfl ?_
        refine ar_iload_n (i := 2) dX7_most_76 rfl rfl ?_
        refine ar_iload_n (i := 3) dX7_most_77 rfl rfl ?_
        refine ar_icmp_ge (tgt := 85) dX7_most_78 (by decide) (fun h15 => ?_) (fun h15 => ?_)
        · have t := t.1 h15
          refine ar_iload_n (i := 3) dX7_most_85 rfl rfl ?_
          refine fr_callVv (M' := mX7_layWays) [_, _] dX7_most_86 ml_X7_188 mv_X7_layWays rfl rfl o_78 rfl rfl (Nat.le_of_ble_eq_true rfl) ⟨Nat.le_refl _, Nat.le_refl _⟩ t (fun σ16 t => ?_)
          try dsimp only at t
          refine ar_iconst (v := 0) dX7_most_89 (by decide) ?_
          refine ar_istore (i := 4) (lo2 := [_, _, _, _, _, none, none]) dX7_most_90 (Nat.le_of_ble_eq_true rfl) rfl rfl ?_
          refine ar_iconst (v := 0) dX7_most_92 (by decide) ?_
          refine ar_istore (i := 5) (lo2 := [_, _, _, _, _, _, none]) dX7_most_93 (Nat.le_of_ble_eq_true rfl) rfl rfl ?_
          refine ar_drop 2 (lo2 := [_, _, none, _, _, _, none]) rfl ?_
          refine ar_drop 3 (lo2 := [_, _, none, none, _, _, none]) rfl ?_
          exact t
        · have t := t.2 h15
          refine ar_iload_n (i := 2) dX7_most_81 rfl rfl ?_
          refine ar_goto (tgt := 86) dX7_most_82 (by decide) ?_
          refine fr_callVv (M' := mX7_layWays) [_, _] dX7_most_86 ml_X7_188 mv_X7_layWays rfl rfl o_78 rfl rfl (Nat.le_of_ble_eq_true rfl) ⟨Nat.le_refl _, Nat.le_refl _⟩ t (fun σ25 t => ?_)
          try dsimp only at t
          refine ar_iconst (v := 0) dX7_most_89 (by decide) ?_
          refine ar_istore (i := 4) (lo2 := [_, _, _, _, _, none, none]) dX7_most_90 (Nat.le_of_ble_eq_true rfl) rfl rfl ?_
          refine ar_iconst (v := 0) dX7_most_92 (by decide) ?_
          refine ar_istore (i := 5) (lo2 := [_, _, _, _, _, _, none]) dX7_most_93 (Nat.le_of_ble_eq_true rfl) rfl rfl ?_
          refine ar_drop 2 (lo2 := [_, _, none, _, _, _, none]) rfl ?_
          refine ar_drop 3 (lo2 := [_, _, none, none, _, _, none]) rfl ?_
          exact t
      · have t := t.2 h9
        refine ar_bipush (v := -103) dX7_most_34 (by decide) ?_
        exact fr_iret dX7_most_36 rfl (Nat.le_refl _) (Nat.le_refl _) t
    · have t := t.2 h6
      refine ar_bipush (v := -102) dX7_most_23 (by decide) ?_
      exact fr_iret dX7_most_25 rfl (Nat.le_refl _) (Nat.le_refl _) t
  · have t := t.2 h3
    refine ar_bipush (v := -101) dX7_most_8 (by decide) ?_
    exact fr_iret dX7_most_10 rfl (Nat.le_refl _) (Nat.le_refl _) t

/-- X7.bridge: the machine at the loop head 63 -/
def h_X7_bridge_63 (E : am_E) (d : Nat) (x1 : Int32) (x3 : Int32) (x4 : Int32) (x5 : Int32) (σ : FH) (Q : Int32 → FH → Prop) : Prop := fG E (d + 1) mX7_bridge 63 [some (.ref 78), some (.int x1), none, some (.int x3), some (.int x4), some (.int x5), none, none] [] σ (qi Q)
def t_X7_bridge_185 (E : am_E) (d : Nat) (x1 : Int32) (x3 : Int32) (x4 : Int32) (x5 : Int32) (x6 : Int32) (xs0 : Int32) (σ : FH) (Q : Int32 → FH → Prop) : Prop :=
  ((xs0 = 0 → ((xs0 = 0 → h_X7_bridge_63 E d x1 x3 x4 (x5 + 1) σ Q) ∧
    (¬ xs0 = 0 → (vp_in x6 3072 ∧ h_X7_bridge_63 E d x1 (σ.1 84 x6.toNatClampNeg) x4 (x5 + 1) σ Q)))) ∧
  (¬ xs0 = 0 → ((xs0 = 0 → h_X7_bridge_63 E d x1 x3 x5 (x5 + 1) σ Q) ∧
    (¬ xs0 = 0 → (vp_in x6 3072 ∧ h_X7_bridge_63 E d x1 (σ.1 84 x6.toNatClampNeg) x5 (x5 + 1) σ Q)))))
set_option maxRecDepth 100000 in
set_option maxHeartbeats 4000000 in
theorem v_X7_bridge_185 {E : am_E} {d : Nat} {σ : FH} {Q : Int32 → FH → Prop} {x1 : Int32} {x3 : Int32} {x4 : Int32} {x5 : Int32} {x6 : Int32} {xs0 : Int32} (t : t_X7_bridge_185 E d x1 x3 x4 x5 x6 xs0 σ Q) : fG E (d + 1) mX7_bridge 185 [some (.ref 78), some (.int x1), none, some (.int x3), some (.int x4), some (.int x5), some (.int x6), none] [.int xs0] σ (qi Q) := by
  unfold t_X7_bridge_185 at t
  refine ar_istore (i := 7) (lo2 := [_, _, none, _, _, _, _, _]) dX7_bridge_185 (Nat.le_of_ble_eq_true rfl) rfl rfl ?_
  refine ar_iload (i := 7) dX7_bridge_187 rfl ?_
  refine ar_if_eq (tgt := 197) dX7_bridge_189 (by decide) (fun h30 => ?_) (fun h30 => ?_)
  · have t := t.1 h30
    refine ar_iload (i := 4) dX7_bridge_197 rfl ?_
    refine ar_istore (i := 4) (lo2 := [_, _, none, _, _, _, _, _]) dX7_bridge_199 (Nat.le_of_ble_eq_true rfl) rfl rfl ?_
    refine ar_iload (i := 7) dX7_bridge_201 rfl ?_
    refine ar_if_eq (tgt := 216) dX7_bridge_203 (by decide) (fun h31 => ?_) (fun h31 => ?_)
    · have t := t.1 h31
      refine ar_iload_n (i := 3) dX7_bridge_216 rfl rfl ?_
      refine ar_istore_n (i := 3) (lo2 := [_, _, none, _, _, _, _, _]) dX7_bridge_217 rfl (Nat.le_of_ble_eq_true rfl) rfl rfl ?_
      refine ar_iinc (i := 5) (v := _ + 1) (lo2 := [_, _, none, _, _, _, _, _]) dX7_bridge_218 rfl (ii_1 _) (Nat.le_of_ble_eq_true rfl) rfl rfl ?_
      refine ar_goto (tgt := 63) dX7_bridge_221 (by decide) ?_
      refine ar_drop 6 (lo2 := [_, _, none, _, _, _, none, _]) rfl ?_
      refine ar_drop 7 (lo2 := [_, _, none, _, _, _, none, none]) rfl ?_
      exact t
    · have t := t.2 h31
      refine ar_aload_n (i := 0) dX7_bridge_206 rfl rfl ?_
      refine fr_getR (t := 7) (j := 15) (r := 84) dX7_bridge_207 fs_X7_25 o_78 rfl rfl (by decide) ?_
      refine ar_iload (i := 6) dX7_bridge_210 rfl ?_
      obtain ⟨h32, t⟩ := t
      refine fr_iald (n := 3072) dX7_bridge_212 a_84 h32 ?_
      refine ar_goto (tgt := 217) dX7_bridge_213 (by decide) ?_
      refine ar_istore_n (i := 3) (lo2 := [_, _, none, _, _, _, _, _]) dX7_bridge_217 rfl (Nat.le_of_ble_eq_true rfl) rfl rfl ?_
      refine ar_iinc (i := 5) (v := _ + 1) (lo2 := [_, _, none, _, _, _, _, _]) dX7_bridge_218 rfl (ii_1 _) (Nat.le_of_ble_eq_true rfl) rfl rfl ?_
      refine ar_goto (tgt := 63) dX7_bridge_221 (by decide) ?_
      refine ar_drop 6 (lo2 := [_, _, none, _, _, _, none, _]) rfl ?_
      refine ar_drop 7 (lo2 := [_, _, none, _, _, _, none, none]) rfl ?_
      exact t
  · have t := t.2 h30
    refine ar_iload (i := 5) dX7_bridge_192 rfl ?_
    refine ar_goto (tgt := 199) dX7_bridge_194 (by decide) ?_
    refine ar_istore (i := 4) (lo2 := [_, _, none, _, _, _, _, _]) dX7_bridge_199 (Nat.le_of_ble_eq_true rfl) rfl rfl ?_
    refine ar_iload (i := 7) dX7_bridge_201 rfl ?_
    refine ar_if_eq (tgt := 216) dX7_bridge_203 (by decide) (fun h33 => ?_) (fun h33 => ?_)
    · have t := t.1 h33
      refine ar_iload_n (i := 3) dX7_bridge_216 rfl rfl ?_
      refine ar_istore_n (i := 3) (lo2 := [_, _, none, _, _, _, _, _]) dX7_bridge_217 rfl (Nat.le_of_ble_eq_true rfl) rfl rfl ?_
      refine ar_iinc (i := 5) (v := _ + 1) (lo2 := [_, _, none, _, _, _, _, _]) dX7_bridge_218 rfl (ii_1 _) (Nat.le_of_ble_eq_true rfl) rfl rfl ?_
      refine ar_goto (tgt := 63) dX7_bridge_221 (by decide) ?_
      refine ar_drop 6 (lo2 := [_, _, none, _, _, _, none, _]) rfl ?_
      refine ar_drop 7 (lo2 := [_, _, none, _, _, _, none, none]) rfl ?_
      exact t
    · have t := t.2 h33
      refine ar_aload_n (i := 0) dX7_bridge_206 rfl rfl ?_
      refine fr_getR (t := 7) (j := 15) (r := 84) dX7_bridge_207 fs_X7_25 o_78 rfl rfl (by decide) ?_
      refine ar_iload (i := 6) dX7_bridge_210 rfl ?_
      obtain ⟨h34, t⟩ := t
      refine fr_iald (n := 3072) dX7_bridge_212 a_84 h34 ?_
      refine ar_goto (tgt := 217) dX7_bridge_213 (by decide) ?_
      refine ar_istore_n (i := 3) (lo2 := [_, _, none, _, _, _, _, _]) dX7_bridge_217 rfl (Nat.le_of_ble_eq_true rfl) rfl rfl ?_
      refine ar_iinc (i := 5) (v := _ + 1) (lo2 := [_, _, none, _, _, _, _, _]) dX7_bridge_218 rfl (ii_1 _) (Nat.le_of_ble_eq_true rfl) rfl rfl ?_
      refine ar_goto (tgt := 63) dX7_bridge_221 (by decide) ?_
      refine ar_drop 6 (lo2 := [_, _, none, _, _, _, none, _]) rfl ?_
      refine ar_drop 7 (lo2 := [_, _, none, _, _, _, none, none]) rfl ?_
      exact t
def t_X7_bridge_184 (E : am_E) (d : Nat) (x1 : Int32) (x3 : Int32) (x4 : Int32) (x5 : Int32) (x6 : Int32) (σ : FH) (Q : Int32 → FH → Prop) : Prop :=
  t_X7_bridge_185 E d x1 x3 x4 x5 x6 0 σ Q
set_option maxRecDepth 100000 in
set_option maxHeartbeats 4000000 in
theorem v_X7_bridge_184 {E : am_E} {d : Nat} {σ : FH} {Q : Int32 → FH → Prop} {x1 : Int32} {x3 : Int32} {x4 : Int32} {x5 : Int32} {x6 : Int32} (t : t_X7_bridge_184 E d x1 x3 x4 x5 x6 σ Q) : fG E (d + 1) mX7_bridge 184 [some (.ref 78), some (.int x1), none, some (.int x3), some (.int x4), some (.int x5), some (.int x6), none] [] σ (qi Q) := by
  unfold t_X7_bridge_184 at t
  refine ar_iconst (v := 0) dX7_bridge_184 (by decide) ?_
  exact v_X7_bridge_185 t
def t_X7_bridge_63 (E : am_E) (d : Nat) (x1 : Int32) (x3 : Int32) (x4 : Int32) (x5 : Int32) (σ : FH) (Q : Int32 → FH → Prop) : Prop :=
  ((36 ≤ x5 → Q x4 σ) ∧
  (¬ 36 ≤ x5 → (((x5 - x5 / 6 * 6) ≤ (x5 / 6) → h_X7_bridge_63 E d x1 x3 x4 (x5 + 1) σ Q) ∧
    (¬ (x5 - x5 / 6 * 6) ≤ (x5 / 6) → (vp_in 40 45 ∧ (∀ σ15 : FH, σ15 = fsI σ 81 40 0 → (vp_in 41 45 ∧ (∀ σ17 : FH, σ17 = fsI σ15 81 41 (x5 / 6) → (vp_in 42 45 ∧ (∀ σ19 : FH, σ19 = fsI σ17 81 42 (x5 - x5 / 6 * 6) → (vp_in 43 45 ∧ (∀ σ21 : FH, σ21 = fsI σ19 81 43 1 → (∀ σ22 : FH, σ22 = fsI σ21 78 18 ((σ21.1 78 6) + 1) → (∀ σ23 : FH, σ23 = fsI σ22 78 19 (-1) → (vp_in ((5 * x1) + 1) 20 ∧ fMv E d mX7_layWays [.ref 78, .int x1, .int (99 - (σ23.1 82 ((5 * x1) + 1).toNatClampNeg))] σ23 (fun σ25 => fMi E d mX7_bestAt [.ref 78, .int x1] σ25 (fun r28 σ27 => ((r28 = (-1) → t_X7_bridge_184 E d x1 x3 x4 x5 r28 σ27 Q) ∧
      (¬ r28 = (-1) → (vp_in r28 3072 ∧ ((x3 ≤ (σ27.1 84 r28.toNatClampNeg) → t_X7_bridge_184 E d x1 x3 x4 x5 r28 σ27 Q) ∧
        (¬ x3 ≤ (σ27.1 84 r28.toNatClampNeg) → t_X7_bridge_185 E d x1 x3 x4 x5 r28 1 σ27 Q))))))))))))))))))))))
set_option maxRecDepth 100000 in
set_option maxHeartbeats 4000000 in
theorem v_X7_bridge_63 {E : am_E} {d : Nat} {σ : FH} {Q : Int32 → FH → Prop} {x1 : Int32} {x3 : Int32} {x4 : Int32} {x5 : Int32} (t : t_X7_bridge_63 E d x1 x3 x4 x5 σ Q) : h_X7_bridge_63 E d x1 x3 x4 x5 σ Q := by
  unfold h_X7_bridge_63
  unfold t_X7_bridge_63 at t
  refine ar_iload (i := 5) dX7_bridge_63 rfl ?_
  refine ar_bipush (v := 36) dX7_bridge_65 (by decide) ?_
  refine ar_icmp_ge (tgt := 224) dX7_bridge_67 (by decide) (fun h12 => ?_) (fun h12 => ?_)
  · have t := t.1 h12
    refine ar_iload (i := 4) dX7_bridge_224 rfl ?_
    exact fr_iret dX7_bridge_226 rfl (Nat.le_refl _) (Nat.le_refl _) t
  · have t := t.2 h12
    refine ar_iload (i := 5) dX7_bridge_70 rfl ?_
    refine ar_bipush (v := 6) dX7_bridge_72 (by decide) ?_
    refine ar_idiv dX7_bridge_74 (by decide) ?_
    refine ar_iload (i := 5) dX7_bridge_75 rfl ?_
    refine ar_bipush (v := 6) dX7_bridge_77 (by decide) ?_
    refine ar_irem dX7_bridge_79 (by decide) ?_
    refine ar_icmp_ge (tgt := 218) dX7_bridge_80 (by decide) (fun h13 => ?_) (fun h13 => ?_)
    · have t := t.1 h13
      refine ar_iinc (i := 5) (v := _ + 1) (lo2 := [_, _, none, _, _, _, none, none]) dX7_bridge_218 rfl (ii_1 _) (Nat.le_of_ble_eq_true rfl) rfl rfl ?_
      refine ar_goto (tgt := 63) dX7_bridge_221 (by decide) ?_
      exact t
    · have t := t.2 h13
      refine ar_aload_n (i := 0) dX7_bridge_83 rfl rfl ?_
      refine fr_getR (t := 7) (j := 10) (r := 81) dX7_bridge_84 fs_X7_16 o_78 rfl rfl (by decide) ?_
      refine ar_bipush (v := 40) dX7_bridge_87 (by decide) ?_
      refine ar_iconst (v := 0) dX7_bridge_89 (by decide) ?_
      obtain ⟨h14, t⟩ := t
      refine fr_iast (n := 45) dX7_bridge_90 a_81 h14 ?_
      have t := t _ rfl
      refine ar_aload_n (i := 0) dX7_bridge_91 rfl rfl ?_
      refine fr_getR (t := 7) (j := 10) (r := 81) dX7_bridge_92 fs_X7_16 o_78 rfl rfl (by decide) ?_
      refine ar_bipush (v := 41) dX7_bridge_95 (by decide) ?_
      refine ar_iload (i := 5) dX7_bridge_97 rfl ?_
      refine ar_bipush (v := 6) dX7_bridge_99 (by decide) ?_
      refine ar_idiv dX7_bridge_101 (by decide) ?_
      obtain ⟨h16, t⟩ := t
      refine fr_iast (n := 45) dX7_bridge_102 a_81 h16 ?_
      have t := t _ rfl
      refine ar_aload_n (i := 0) dX7_bridge_103 rfl rfl ?_
      refine fr_getR (t := 7) (j := 10) (r := 81) dX7_bridge_104 fs_X7_16 o_78 rfl rfl (by decide) ?_
      refine ar_bipush (v := 42) dX7_bridge_107 (by decide) ?_
      refine ar_iload (i := 5) dX7_bridge_109 rfl ?_
      refine ar_bipush (v := 6) dX7_bridge_111 (by decide) ?_
      refine ar_irem dX7_bridge_113 (by decide) ?_
      obtain ⟨h18, t⟩ := t
      refine fr_iast (n := 45) dX7_bridge_114 a_81 h18 ?_
      have t := t _ rfl
      refine ar_aload_n (i := 0) dX7_bridge_115 rfl rfl ?_
      refine fr_getR (t := 7) (j := 10) (r := 81) dX7_bridge_116 fs_X7_16 o_78 rfl rfl (by decide) ?_
      refine ar_bipush (v := 43) dX7_bridge_119 (by decide) ?_
      refine ar_iconst (v := 1) dX7_bridge_121 (by decide) ?_
      obtain ⟨h20, t⟩ := t
      refine fr_iast (n := 45) dX7_bridge_122 a_81 h20 ?_
      have t := t _ rfl
      refine ar_aload_n (i := 0) dX7_bridge_123 rfl rfl ?_
      refine ar_aload_n (i := 0) dX7_bridge_124 rfl rfl ?_
      refine fr_getI (t := 7) (j := 6) dX7_bridge_125 fs_X7_104 o_78 rfl ?_
      refine ar_iconst (v := 1) dX7_bridge_128 (by decide) ?_
      refine ar_iadd dX7_bridge_129 ?_
      refine fr_putI (t := 7) (j := 18) dX7_bridge_130 fq_X7_172 o_78 rfl (Or.inl rfl) ?_
      have t := t _ rfl
      refine ar_aload_n (i := 0) dX7_bridge_133 rfl rfl ?_
      refine ar_iconst (v := -1) dX7_bridge_134 (by decide) ?_
      refine fr_putI (t := 7) (j := 19) dX7_bridge_135 fq_X7_175 o_78 rfl (Or.inl rfl) ?_
      have t := t _ rfl
      refine ar_aload_n (i := 0) dX7_bridge_138 rfl rfl ?_
      refine ar_iload_n (i := 1) dX7_bridge_139 rfl rfl ?_
      refine ar_bipush (v := 99) dX7_bridge_140 (by decide) ?_
      refine ar_aload_n (i := 0) dX7_bridge_142 rfl rfl ?_
      refine fr_getR (t := 7) (j := 12) (r := 82) dX7_bridge_143 fs_X7_19 o_78 rfl rfl (by decide) ?_
      refine ar_iconst (v := 5) dX7_bridge_146 (by decide) ?_
      refine ar_iload_n (i := 1) dX7_bridge_147 rfl rfl ?_
      refine ar_imul dX7_bridge_148 ?_
      refine ar_iconst (v := 1) dX7_bridge_149 (by decide) ?_
      refine ar_iadd dX7_bridge_150 ?_
      obtain ⟨h24, t⟩ := t
      refine fr_iald (n := 20) dX7_bridge_151 a_82 h24 ?_
      refine ar_isub dX7_bridge_152 ?_
      refine fr_callVv (M' := mX7_layWays) [_, _] dX7_bridge_153 ml_X7_188 mv_X7_layWays rfl rfl o_78 rfl rfl (Nat.le_of_ble_eq_true rfl) ⟨Nat.le_refl _, Nat.le_refl _⟩ t (fun σ25 t => ?_)
      try dsimp only at t
      refine ar_aload_n (i := 0) dX7_bridge_156 rfl rfl ?_
      refine ar_iload_n (i := 1) dX7_bridge_157 rfl rfl ?_
      refine fr_callVi (M' := mX7_bestAt) [_] dX7_bridge_158 ml_X7_192 mv_X7_bestAt rfl rfl o_78 rfl rfl (Nat.le_of_ble_eq_true rfl) ⟨Nat.le_refl _, Nat.le_refl _⟩ t (fun r28 σ27 t => ?_)
      try dsimp only at t
      refine ar_istore (i := 6) (lo2 := [_, _, none, _, _, _, _, none]) dX7_bridge_161 (Nat.le_of_ble_eq_true rfl) rfl rfl ?_
      refine ar_iload (i := 6) dX7_bridge_163 rfl ?_
      refine ar_iconst (v := -1) dX7_bridge_165 (by decide) ?_
      refine ar_icmp_eq (tgt := 184) dX7_bridge_166 (by decide) (fun h29 => ?_) (fun h29 => ?_)
      · have t := t.1 h29
        exact v_X7_bridge_184 t
      · have t := t.2 h29
        refine ar_aload_n (i := 0) dX7_bridge_169 rfl rfl ?_
        refine fr_getR (t := 7) (j := 15) (r := 84) dX7_bridge_170 fs_X7_25 o_78 rfl rfl (by decide) ?_
        refine ar_iload (i := 6) dX7_bridge_173 rfl ?_
        obtain ⟨h35, t⟩ := t
        refine fr_iald (n := 3072) dX7_bridge_175 a_84 h35 ?_
        refine ar_iload_n (i := 3) dX7_bridge_176 rfl rfl ?_
        refine ar_icmp_ge (tgt := 184) dX7_bridge_177 (by decide) (fun h36 => ?_) (fun h36 => ?_)
        · have t := t.1 h36
          exact v_X7_bridge_184 t
        · have t := t.2 h36
          refine ar_iconst (v := 1) dX7_bridge_180 (by decide) ?_
          refine ar_goto (tgt := 185) dX7_bridge_181 (by decide) ?_
          exact v_X7_bridge_185 t
def t_X7_bridge (E : am_E) (d : Nat) (x1 : Int32) (σ : FH) (Q : Int32 → FH → Prop) : Prop :=
  fMi E d mX7_isPilgrim [.ref 78, .int x1] σ (fun r2 σ1 => ((¬ r2 = 0 → fMi E d mX7_isDone [.ref 78, .int x1] σ1 (fun r5 σ4 => ((r5 = 0 → (∀ σ7 : FH, σ7 = fsI σ4 78 14 ((σ4.1 78 14) + 1) → fMi E d mX7_wayBy [.ref 78, .int x1, .int (-1)] σ7 (fun r9 σ8 => ((¬ r9 = (-1) → (vp_in r9 3072 ∧ h_X7_bridge_63 E d x1 (σ8.1 84 r9.toNatClampNeg) (-1) 0 σ8 Q)) ∧
      (r9 = (-1) → h_X7_bridge_63 E d x1 1000 (-1) 0 σ8 Q))))) ∧
    (¬ r5 = 0 → Q (-103) σ4)))) ∧
  (r2 = 0 → Q (-101) σ1)))
set_option maxRecDepth 100000 in
set_option maxHeartbeats 4000000 in
theorem v_X7_bridge {E : am_E} {d : Nat} {σ : FH} {Q : Int32 → FH → Prop} {x1 : Int32} (t : t_X7_bridge E d x1 σ Q) : fMi E (d + 1) mX7_bridge [.ref 78, .int x1] σ Q := by
  refine fr_ofG [some (.ref 78), some (.int x1), none, none, none, none, none, none] (by decide) rfl (Nat.le_of_ble_eq_true rfl) ?_
  unfold t_X7_bridge at t
  refine ar_aload_n (i := 0) dX7_bridge_0 rfl rfl ?_
  refine ar_iload_n (i := 1) dX7_bridge_1 rfl rfl ?_
  refine fr_callVi (M' := mX7_isPilgrim) [_] dX7_bridge_2 ml_X7_142 mv_X7_isPilgrim rfl rfl o_78 rfl rfl (Nat.le_of_ble_eq_true rfl) ⟨Nat.le_refl _, Nat.le_refl _⟩ t (fun r2 σ1 t => ?_)
  try dsimp only at t
  refine ar_if_ne (tgt := 11) dX7_bridge_5 (by decide) (fun h3 => ?_) (fun h3 => ?_)
  · have t := t.1 h3
    refine ar_aload_n (i := 0) dX7_bridge_11 rfl rfl ?_
    refine ar_iload_n (i := 1) dX7_bridge_12 rfl rfl ?_
    refine fr_callVi (M' := mX7_isDone) [_] dX7_bridge_13 ml_X7_197 mv_X7_isDone rfl rfl o_78 rfl rfl (Nat.le_of_ble_eq_true rfl) ⟨Nat.le_refl _, Nat.le_refl _⟩ t (fun r5 σ4 t => ?_)
    try dsimp only at t
    refine ar_if_eq (tgt := 22) dX7_bridge_16 (by decide) (fun h6 => ?_) (fun h6 => ?_)
    · have t := t.1 h6
      refine ar_aload_n (i := 0) dX7_bridge_22 rfl rfl ?_
      refine ar_dup dX7_bridge_23 rfl ?_
      refine fr_getI (t := 7) (j := 14) dX7_bridge_24 fs_X7_185 o_78 rfl ?_
      refine ar_iconst (v := 1) dX7_bridge_27 (by decide) ?_
      refine ar_iadd dX7_bridge_28 ?_
      refine fr_putI (t := 7) (j := 14) dX7_bridge_29 fq_X7_185 o_78 rfl (Or.inl rfl) ?_
      have t := t _ rfl
      refine ar_aload_n (i := 0) dX7_bridge_32 rfl rfl ?_
      refine ar_iload_n (i := 1) dX7_bridge_33 rfl rfl ?_
      refine ar_iconst (v := -1) dX7_bridge_34 (by decide) ?_
      refine fr_callVi (M' := mX7_wayBy) [_, _] dX7_bridge_35 ml_X7_200 mv_X7_wayBy rfl rfl o_78 rfl rfl (Nat.le_of_ble_eq_true rfl) ⟨Nat.le_refl _, Nat.le_refl _⟩ t (fun r9 σ8 t => ?_)
      try dsimp only at t
      refine ar_istore_n (i := 2) (lo2 := [_, _, _, none, none, none, none, none]) dX7_bridge_38 rfl (Nat.le_of_ble_eq_true rfl) rfl rfl ?_
      refine ar_iload_n (i := 2) dX7_bridge_39 rfl rfl ?_
      refine ar_iconst (v := -1) dX7_bridge_40 (by decide) ?_
      refine ar_icmp_ne (tgt := 50) dX7_bridge_41 (by decide) (fun h10 => ?_) (fun h10 => ?_)
      · have t := t.1 h10
        refine ar_aload_n (i := 0) dX7_bridge_50 rfl rfl ?_
        refine fr_getR (t := 7) (j := 15) (r := 84) dX7_bridge_51 fs_X7_25 o_78 rfl rfl (by decide) ?_
        refine ar_iload_n (i := 2) dX7_bridge_54 rfl rfl ?_
        obtain ⟨h11, t⟩ := t
        refine fr_iald (n := 3072) dX7_bridge_55 a_84 h11 ?_
        refine ar_istore_n (i := 3) (lo2 := [_, _, _, _, none, none, none, none]) dX7_bridge_56 rfl (Nat.le_of_ble_eq_true rfl) rfl rfl ?_
        refine ar_iconst (v := -1) dX7_bridge_57 (by decide) ?_
        refine ar_istore (i := 4) (lo2 := [_, _, _, _, _, none, none, none]) dX7_bridge_58 (Nat.le_of_ble_eq_true rfl) rfl rfl ?_
        refine ar_iconst (v := 0) dX7_bridge_60 (by decide) ?_
        refine ar_istore (i := 5) (lo2 := [_, _, _, _, _, _, none, none]) dX7_bridge_61 (Nat.le_of_ble_eq_true rfl) rfl rfl ?_
        refine ar_drop 2 (lo2 := [_, _, none, _, _, _, none, none]) rfl ?_
        exact t
      · have t := t.2 h10
        refine ar_sipush (v := 1000) dX7_bridge_44 (by decide) ?_
        refine ar_goto (tgt := 56) dX7_bridge_47 (by decide) ?_
        refine ar_istore_n (i := 3) (lo2 := [_, _, _, _, none, none, none, none]) dX7_bridge_56 rfl (Nat.le_of_ble_eq_true rfl) rfl rfl ?_
        refine ar_iconst (v := -1) dX7_bridge_57 (by decide) ?_
        refine ar_istore (i := 4) (lo2 := [_, _, _, _, _, none, none, none]) dX7_bridge_58 (Nat.le_of_ble_eq_true rfl) rfl rfl ?_
        refine ar_iconst (v := 0) dX7_bridge_60 (by decide) ?_
        refine ar_istore (i := 5) (lo2 := [_, _, _, _, _, _, none, none]) dX7_bridge_61 (Nat.le_of_ble_eq_true rfl) rfl rfl ?_
        refine ar_drop 2 (lo2 := [_, _, none, _, _, _, none, none]) rfl ?_
        exact t
    · have t := t.2 h6
      refine ar_bipush (v := -103) dX7_bridge_19 (by decide) ?_
      exact fr_iret dX7_bridge_21 rfl (Nat.le_refl _) (Nat.le_refl _) t
  · have t := t.2 h3
    refine ar_bipush (v := -101) dX7_bridge_8 (by decide) ?_
    exact fr_iret dX7_bridge_10 rfl (Nat.le_refl _) (Nat.le_refl _) t

def t_X7_log_20 (E : am_E) (d : Nat) (x1 : Int32) (σ : FH) (Q : Int32 → FH → Prop) : Prop :=
  ((¬ (σ.1 78 20) = 7 → (vp_in (σ.1 78 20) 7 ∧ (∀ σ4 : FH, σ4 = fsI σ 87 (σ.1 78 20).toNatClampNeg x1 → (∀ σ5 : FH, σ5 = fsI σ4 78 20 ((σ4.1 78 20) + 1) → Q (σ5.1 78 20) σ5)))) ∧
  ((σ.1 78 20) = 7 → Q (-104) σ))
set_option maxRecDepth 100000 in
set_option maxHeartbeats 4000000 in
theorem v_X7_log_20 {E : am_E} {d : Nat} {σ : FH} {Q : Int32 → FH → Prop} {x1 : Int32} (t : t_X7_log_20 E d x1 σ Q) : fG E (d + 1) mX7_log 20 [some (.ref 78), some (.int x1)] [] σ (qi Q) := by
  unfold t_X7_log_20 at t
  refine ar_aload_n (i := 0) dX7_log_20 rfl rfl ?_
  refine fr_getI (t := 7) (j := 20) dX7_log_21 fs_X7_116 o_78 rfl ?_
  refine ar_bipush (v := 7) dX7_log_24 (by decide) ?_
  refine ar_icmp_ne (tgt := 32) dX7_log_26 (by decide) (fun h2 => ?_) (fun h2 => ?_)
  · have t := t.1 h2
    refine ar_aload_n (i := 0) dX7_log_32 rfl rfl ?_
    refine fr_getR (t := 7) (j := 21) (r := 87) dX7_log_33 fs_X7_34 o_78 rfl rfl (by decide) ?_
    refine ar_aload_n (i := 0) dX7_log_36 rfl rfl ?_
    refine fr_getI (t := 7) (j := 20) dX7_log_37 fs_X7_116 o_78 rfl ?_
    refine ar_iload_n (i := 1) dX7_log_40 rfl rfl ?_
    obtain ⟨h3, t⟩ := t
    refine fr_iast (n := 7) dX7_log_41 a_87 h3 ?_
    have t := t _ rfl
    refine ar_aload_n (i := 0) dX7_log_42 rfl rfl ?_
    refine ar_dup dX7_log_43 rfl ?_
    refine fr_getI (t := 7) (j := 20) dX7_log_44 fs_X7_116 o_78 rfl ?_
    refine ar_iconst (v := 1) dX7_log_47 (by decide) ?_
    refine ar_iadd dX7_log_48 ?_
    refine fr_putI (t := 7) (j := 20) dX7_log_49 fq_X7_116 o_78 rfl (Or.inl rfl) ?_
    have t := t _ rfl
    refine ar_aload_n (i := 0) dX7_log_52 rfl rfl ?_
    refine fr_getI (t := 7) (j := 20) dX7_log_53 fs_X7_116 o_78 rfl ?_
    exact fr_iret dX7_log_56 rfl (Nat.le_refl _) (Nat.le_refl _) t
  · have t := t.2 h2
    refine ar_bipush (v := -104) dX7_log_29 (by decide) ?_
    exact fr_iret dX7_log_31 rfl (Nat.le_refl _) (Nat.le_refl _) t
def t_X7_log (E : am_E) (d : Nat) (x1 : Int32) (σ : FH) (Q : Int32 → FH → Prop) : Prop :=
  ((x1 = (-1) → t_X7_log_20 E d x1 σ Q) ∧
  (¬ x1 = (-1) → fMi E d mX7_in [.long x1.toInt64, .long 0, .long 5] σ (fun r7 σ6 => ((¬ r7 = 0 → t_X7_log_20 E d x1 σ6 Q) ∧
    (r7 = 0 → Q (-101) σ6)))))
set_option maxRecDepth 100000 in
set_option maxHeartbeats 4000000 in
theorem v_X7_log {E : am_E} {d : Nat} {σ : FH} {Q : Int32 → FH → Prop} {x1 : Int32} (t : t_X7_log E d x1 σ Q) : fMi E (d + 1) mX7_log [.ref 78, .int x1] σ Q := by
  refine fr_ofG [some (.ref 78), some (.int x1)] (by decide) rfl (Nat.le_of_ble_eq_true rfl) ?_
  unfold t_X7_log at t
  refine ar_iload_n (i := 1) dX7_log_0 rfl rfl ?_
  refine ar_iconst (v := -1) dX7_log_1 (by decide) ?_
  refine ar_icmp_eq (tgt := 20) dX7_log_2 (by decide) (fun h1 => ?_) (fun h1 => ?_)
  · have t := t.1 h1
    exact v_X7_log_20 t
  · have t := t.2 h1
    refine ar_iload_n (i := 1) dX7_log_5 rfl rfl ?_
    refine ar_i2l dX7_log_6 ?_
    refine ar_lconst (v := 0) dX7_log_7 (by decide) ?_
    refine ar_ldc2 dX7_log_8 ct_X7_82 ?_
    refine fr_callSi (M' := mX7_in) [_, _, _] dX7_log_11 ml_X7_67 mv_X7_in rfl rfl (Nat.le_of_ble_eq_true rfl) ⟨Nat.le_refl _, Nat.le_refl _⟩ t (fun r7 σ6 t => ?_)
    try dsimp only at t
    refine ar_if_ne (tgt := 20) dX7_log_14 (by decide) (fun h8 => ?_) (fun h8 => ?_)
    · have t := t.1 h8
      exact v_X7_log_20 t
    · have t := t.2 h8
      refine ar_bipush (v := -101) dX7_log_17 (by decide) ?_
      exact fr_iret dX7_log_19 rfl (Nat.le_refl _) (Nat.le_refl _) t

def t_X7_forget (E : am_E) (d : Nat) (σ : FH) (Q : Int32 → FH → Prop) : Prop :=
  (∀ σ1 : FH, σ1 = fsI σ 78 20 0 → Q (σ.1 78 20) σ1)
set_option maxRecDepth 100000 in
set_option maxHeartbeats 4000000 in
theorem v_X7_forget {E : am_E} {d : Nat} {σ : FH} {Q : Int32 → FH → Prop} (t : t_X7_forget E d σ Q) : fMi E (d + 1) mX7_forget [.ref 78] σ Q := by
  refine fr_ofG [some (.ref 78), none] (by decide) rfl (Nat.le_of_ble_eq_true rfl) ?_
  unfold t_X7_forget at t
  refine ar_aload_n (i := 0) dX7_forget_0 rfl rfl ?_
  refine fr_getI (t := 7) (j := 20) dX7_forget_1 fs_X7_116 o_78 rfl ?_
  refine ar_istore_n (i := 1) (lo2 := [_, _]) dX7_forget_4 rfl (Nat.le_of_ble_eq_true rfl) rfl rfl ?_
  refine ar_aload_n (i := 0) dX7_forget_5 rfl rfl ?_
  refine ar_iconst (v := 0) dX7_forget_6 (by decide) ?_
  refine fr_putI (t := 7) (j := 20) dX7_forget_7 fq_X7_116 o_78 rfl (Or.inl rfl) ?_
  have t := t _ rfl
  refine ar_iload_n (i := 1) dX7_forget_10 rfl rfl ?_
  exact fr_iret dX7_forget_11 rfl (Nat.le_refl _) (Nat.le_refl _) t

/-- X7.passLog: the machine at the loop head 2 -/
def h_X7_passLog_2 (E : am_E) (d : Nat) (x1 : Int32) (x2 : Int32) (σ : FH) (Q : FH → Prop) : Prop := fG E (d + 1) mX7_passLog 2 [some (.ref 78), some (.int x1), some (.int x2), none, none, none, none, none] [] σ (qv Q)
/-- X7.passLog: the machine at the loop head 24 -/
def h_X7_passLog_24 (E : am_E) (d : Nat) (x1 : Int32) (x2 : Int32) (σ : FH) (Q : FH → Prop) : Prop := fG E (d + 1) mX7_passLog 24 [some (.ref 78), some (.int x1), some (.int x2), none, none, none, none, none] [] σ (qv Q)
/-- X7.passLog: the machine at the loop head 177 -/
def h_X7_passLog_177 (E : am_E) (d : Nat) (x2 : Int32) (σ : FH) (Q : FH → Prop) : Prop := fG E (d + 1) mX7_passLog 177 [some (.ref 78), none, some (.int x2), none, none, none, none, none] [] σ (qv Q)
/-- X7.passLog: the machine at the loop head 33 -/
def h_X7_passLog_33 (E : am_E) (d : Nat) (x1 : Int32) (x2 : Int32) (x3 : Int32) (σ : FH) (Q : FH → Prop) : Prop := fG E (d + 1) mX7_passLog 33 [some (.ref 78), some (.int x1), some (.int x2), some (.int x3), none, none, none, none] [] σ (qv Q)
def t_X7_passLog_177 (E : am_E) (d : Nat) (x2 : Int32) (σ : FH) (Q : FH → Prop) : Prop :=
  ((13824 ≤ x2 → Q σ) ∧
  (¬ 13824 ≤ x2 → (vp_in x2 13824 ∧ (vp_in x2 13824 ∧ (∀ σ6 : FH, σ6 = fsI σ 88 x2.toNatClampNeg (σ.1 89 x2.toNatClampNeg) → h_X7_passLog_177 E d (x2 + 1) σ6 Q)))))
set_option maxRecDepth 100000 in
set_option maxHeartbeats 4000000 in
theorem v_X7_passLog_177 {E : am_E} {d : Nat} {σ : FH} {Q : FH → Prop} {x2 : Int32} (t : t_X7_passLog_177 E d x2 σ Q) : h_X7_passLog_177 E d x2 σ Q := by
  unfold h_X7_passLog_177
  unfold t_X7_passLog_177 at t
  refine ar_iload_n (i := 2) dX7_passLog_177 rfl rfl ?_
  refine ar_sipush (v := 13824) dX7_passLog_178 (by decide) ?_
  refine ar_icmp_ge (tgt := 202) dX7_passLog_181 (by decide) (fun h3 => ?_) (fun h3 => ?_)
  · have t := t.1 h3
    exact fr_vret dX7_passLog_202 rfl (Nat.le_refl _) (Nat.le_refl _) t
  · have t := t.2 h3
    refine ar_aload_n (i := 0) dX7_passLog_184 rfl rfl ?_
    refine fr_getR (t := 7) (j := 22) (r := 88) dX7_passLog_185 fs_X7_37 o_78 rfl rfl (by decide) ?_
    refine ar_iload_n (i := 2) dX7_passLog_188 rfl rfl ?_
    refine ar_aload_n (i := 0) dX7_passLog_189 rfl rfl ?_
    refine fr_getR (t := 7) (j := 23) (r := 89) dX7_passLog_190 fs_X7_40 o_78 rfl rfl (by decide) ?_
    refine ar_iload_n (i := 2) dX7_passLog_193 rfl rfl ?_
    obtain ⟨h4, t⟩ := t
    refine fr_iald (n := 13824) dX7_passLog_194 a_89 h4 ?_
    obtain ⟨h5, t⟩ := t
    refine fr_iast (n := 13824) dX7_passLog_195 a_88 h5 ?_
    have t := t _ rfl
    refine ar_iinc (i := 2) (v := _ + 1) (lo2 := [_, none, _, none, none, none, none, none]) dX7_passLog_196 rfl (ii_1 _) (Nat.le_of_ble_eq_true rfl) rfl rfl ?_
    refine ar_goto (tgt := 177) dX7_passLog_199 (by decide) ?_
    exact t
def t_X7_passLog_128 (E : am_E) (d : Nat) (x1 : Int32) (x2 : Int32) (x3 : Int32) (x4 : Int32) (x5 : Int32) (xs0 : Int32) (σ : FH) (Q : FH → Prop) : Prop :=
  (vp_in (((2304 * x4) + (9 * (x5 ||| ((1 : Int32) <<< (x3 &&& 31))))) + xs0) 13824 ∧ (vp_in x2 13824 ∧ (vp_in (((2304 * x4) + (9 * (x5 ||| ((1 : Int32) <<< (x3 &&& 31))))) + xs0) 13824 ∧ (∀ σ19 : FH, σ19 = fsI σ 89 (((2304 * x4) + (9 * (x5 ||| ((1 : Int32) <<< (x3 &&& 31))))) + xs0).toNatClampNeg ((σ.1 89 (((2304 * x4) + (9 * (x5 ||| ((1 : Int32) <<< (x3 &&& 31))))) + xs0).toNatClampNeg) + (σ.1 88 x2.toNatClampNeg)) → h_X7_passLog_33 E d x1 x2 (x3 + 1) σ19 Q))))
set_option maxRecDepth 100000 in
set_option maxHeartbeats 4000000 in
theorem v_X7_passLog_128 {E : am_E} {d : Nat} {σ : FH} {Q : FH → Prop} {x1 : Int32} {x2 : Int32} {x3 : Int32} {x4 : Int32} {x5 : Int32} {xs0 : Int32} (t : t_X7_passLog_128 E d x1 x2 x3 x4 x5 xs0 σ Q) : fG E (d + 1) mX7_passLog 128 [some (.ref 78), some (.int x1), some (.int x2), some (.int x3), some (.int x4), some (.int x5), none, none] [.int xs0] σ (qv Q) := by
  unfold t_X7_passLog_128 at t
  refine ar_istore (i := 7) (lo2 := [_, _, _, _, _, _, none, _]) dX7_passLog_128 (Nat.le_of_ble_eq_true rfl) rfl rfl ?_
  refine ar_aload_n (i := 0) dX7_passLog_130 rfl rfl ?_
  refine fr_getR (t := 7) (j := 23) (r := 89) dX7_passLog_131 fs_X7_40 o_78 rfl rfl (by decide) ?_
  refine ar_sipush (v := 2304) dX7_passLog_134 (by decide) ?_
  refine ar_iload (i := 4) dX7_passLog_137 rfl ?_
  refine ar_imul dX7_passLog_139 ?_
  refine ar_bipush (v := 9) dX7_passLog_140 (by decide) ?_
  refine ar_iload (i := 5) dX7_passLog_142 rfl ?_
  refine ar_iconst (v := 1) dX7_passLog_144 (by decide) ?_
  refine ar_iload_n (i := 3) dX7_passLog_145 rfl rfl ?_
  refine ar_ishl dX7_passLog_146 ?_
  refine ar_ior dX7_passLog_147 ?_
  refine ar_imul dX7_passLog_148 ?_
  refine ar_iadd dX7_passLog_149 ?_
  refine ar_iload (i := 7) dX7_passLog_150 rfl ?_
  refine ar_iadd dX7_passLog_152 ?_
  refine ar_dup2 dX7_passLog_153 rfl rfl ?_
  obtain ⟨h16, t⟩ := t
  refine fr_iald (n := 13824) dX7_passLog_154 a_89 h16 ?_
  refine ar_aload_n (i := 0) dX7_passLog_155 rfl rfl ?_
  refine fr_getR (t := 7) (j := 22) (r := 88) dX7_passLog_156 fs_X7_37 o_78 rfl rfl (by decide) ?_
  refine ar_iload_n (i := 2) dX7_passLog_159 rfl rfl ?_
  obtain ⟨h17, t⟩ := t
  refine fr_iald (n := 13824) dX7_passLog_160 a_88 h17 ?_
  refine ar_iadd dX7_passLog_161 ?_
  obtain ⟨h18, t⟩ := t
  refine fr_iast (n := 13824) dX7_passLog_162 a_89 h18 ?_
  have t := t _ rfl
  refine ar_iinc (i := 3) (v := _ + 1) (lo2 := [_, _, _, _, _, _, none, _]) dX7_passLog_163 rfl (ii_1 _) (Nat.le_of_ble_eq_true rfl) rfl rfl ?_
  refine ar_goto (tgt := 33) dX7_passLog_166 (by decide) ?_
  refine ar_drop 4 (lo2 := [_, _, _, _, none, _, none, _]) rfl ?_
  refine ar_drop 5 (lo2 := [_, _, _, _, none, none, none, _]) rfl ?_
  refine ar_drop 7 (lo2 := [_, _, _, _, none, none, none, none]) rfl ?_
  exact t
def t_X7_passLog_111 (E : am_E) (d : Nat) (x1 : Int32) (x2 : Int32) (x3 : Int32) (x4 : Int32) (x5 : Int32) (xs0 : Int32) (σ : FH) (Q : FH → Prop) : Prop :=
  ((xs0 = 0 → t_X7_passLog_128 E d x1 x2 x3 x4 x5 (x2 - x2 / 9 * 9) σ Q) ∧
  (¬ xs0 = 0 → t_X7_passLog_128 E d x1 x2 x3 x4 x5 (x3 + 1) σ Q))
set_option maxRecDepth 100000 in
set_option maxHeartbeats 4000000 in
theorem v_X7_passLog_111 {E : am_E} {d : Nat} {σ : FH} {Q : FH → Prop} {x1 : Int32} {x2 : Int32} {x3 : Int32} {x4 : Int32} {x5 : Int32} {xs0 : Int32} (t : t_X7_passLog_111 E d x1 x2 x3 x4 x5 xs0 σ Q) : fG E (d + 1) mX7_passLog 111 [some (.ref 78), some (.int x1), some (.int x2), some (.int x3), some (.int x4), some (.int x5), none, none] [.int xs0] σ (qv Q) := by
  unfold t_X7_passLog_111 at t
  refine ar_istore (i := 6) (lo2 := [_, _, _, _, _, _, _, none]) dX7_passLog_111 (Nat.le_of_ble_eq_true rfl) rfl rfl ?_
  refine ar_iload (i := 6) dX7_passLog_113 rfl ?_
  refine ar_if_eq (tgt := 124) dX7_passLog_115 (by decide) (fun h15 => ?_) (fun h15 => ?_)
  · have t := t.1 h15
    refine ar_iload_n (i := 2) dX7_passLog_124 rfl rfl ?_
    refine ar_bipush (v := 9) dX7_passLog_125 (by decide) ?_
    refine ar_irem dX7_passLog_127 (by decide) ?_
    refine ar_drop 6 (lo2 := [_, _, _, _, _, _, none, none]) rfl ?_
    exact v_X7_passLog_128 t
  · have t := t.2 h15
    refine ar_iload_n (i := 3) dX7_passLog_118 rfl rfl ?_
    refine ar_iconst (v := 1) dX7_passLog_119 (by decide) ?_
    refine ar_iadd dX7_passLog_120 ?_
    refine ar_goto (tgt := 128) dX7_passLog_121 (by decide) ?_
    refine ar_drop 6 (lo2 := [_, _, _, _, _, _, none, none]) rfl ?_
    exact v_X7_passLog_128 t
def t_X7_passLog_110 (E : am_E) (d : Nat) (x1 : Int32) (x2 : Int32) (x3 : Int32) (x4 : Int32) (x5 : Int32) (σ : FH) (Q : FH → Prop) : Prop :=
  t_X7_passLog_111 E d x1 x2 x3 x4 x5 0 σ Q
set_option maxRecDepth 100000 in
set_option maxHeartbeats 4000000 in
theorem v_X7_passLog_110 {E : am_E} {d : Nat} {σ : FH} {Q : FH → Prop} {x1 : Int32} {x2 : Int32} {x3 : Int32} {x4 : Int32} {x5 : Int32} (t : t_X7_passLog_110 E d x1 x2 x3 x4 x5 σ Q) : fG E (d + 1) mX7_passLog 110 [some (.ref 78), some (.int x1), some (.int x2), some (.int x3), some (.int x4), some (.int x5), none, none] [] σ (qv Q) := by
  unfold t_X7_passLog_110 at t
  refine ar_iconst (v := 0) dX7_passLog_110 (by decide) ?_
  exact v_X7_passLog_111 t
def t_X7_passLog_79 (E : am_E) (d : Nat) (x1 : Int32) (x2 : Int32) (x3 : Int32) (x4 : Int32) (σ : FH) (Q : FH → Prop) : Prop :=
  ((¬ ((((x2 - x2 / 2304 * 2304) / 9) >>> (x3 &&& 31)) &&& 1) = 0 → t_X7_passLog_110 E d x1 x2 x3 x4 ((x2 - x2 / 2304 * 2304) / 9) σ Q) ∧
  (((((x2 - x2 / 2304 * 2304) / 9) >>> (x3 &&& 31)) &&& 1) = 0 → fMi E d mX7_worthOf [.ref 78, .int x3] σ (fun r21 σ20 => ((r21 ≤ 0 → t_X7_passLog_110 E d x1 x2 x3 x4 ((x2 - x2 / 2304 * 2304) / 9) σ20 Q) ∧
    (¬ r21 ≤ 0 → t_X7_passLog_111 E d x1 x2 x3 x4 ((x2 - x2 / 2304 * 2304) / 9) 1 σ20 Q)))))
set_option maxRecDepth 100000 in
set_option maxHeartbeats 4000000 in
theorem v_X7_passLog_79 {E : am_E} {d : Nat} {σ : FH} {Q : FH → Prop} {x1 : Int32} {x2 : Int32} {x3 : Int32} {x4 : Int32} (t : t_X7_passLog_79 E d x1 x2 x3 x4 σ Q) : fG E (d + 1) mX7_passLog 79 [some (.ref 78), some (.int x1), some (.int x2), some (.int x3), some (.int x4), none, none, none] [] σ (qv Q) := by
  unfold t_X7_passLog_79 at t
  refine ar_iload_n (i := 2) dX7_passLog_79 rfl rfl ?_
  refine ar_sipush (v := 2304) dX7_passLog_80 (by decide) ?_
  refine ar_irem dX7_passLog_83 (by decide) ?_
  refine ar_bipush (v := 9) dX7_passLog_84 (by decide) ?_
  refine ar_idiv dX7_passLog_86 (by decide) ?_
  refine ar_istore (i := 5) (lo2 := [_, _, _, _, _, _, none, none]) dX7_passLog_87 (Nat.le_of_ble_eq_true rfl) rfl rfl ?_
  refine ar_iload (i := 5) dX7_passLog_89 rfl ?_
  refine ar_iload_n (i := 3) dX7_passLog_91 rfl rfl ?_
  refine ar_ishr dX7_passLog_92 ?_
  refine ar_iconst (v := 1) dX7_passLog_93 (by decide) ?_
  refine ar_iand dX7_passLog_94 ?_
  refine ar_if_ne (tgt := 110) dX7_passLog_95 (by decide) (fun h14 => ?_) (fun h14 => ?_)
  · have t := t.1 h14
    exact v_X7_passLog_110 t
  · have t := t.2 h14
    refine ar_aload_n (i := 0) dX7_passLog_98 rfl rfl ?_
    refine ar_iload_n (i := 3) dX7_passLog_99 rfl rfl ?_
    refine fr_callVi (M' := mX7_worthOf) [_] dX7_passLog_100 ml_X7_122 mv_X7_worthOf rfl rfl o_78 rfl rfl (Nat.le_of_ble_eq_true rfl) ⟨Nat.le_refl _, Nat.le_refl _⟩ t (fun r21 σ20 t => ?_)
    try dsimp only at t
    refine ar_if_le (tgt := 110) dX7_passLog_103 (by decide) (fun h22 => ?_) (fun h22 => ?_)
    · have t := t.1 h22
      exact v_X7_passLog_110 t
    · have t := t.2 h22
      refine ar_iconst (v := 1) dX7_passLog_106 (by decide) ?_
      refine ar_goto (tgt := 111) dX7_passLog_107 (by decide) ?_
      exact v_X7_passLog_111 t
def t_X7_passLog_33 (E : am_E) (d : Nat) (x1 : Int32) (x2 : Int32) (x3 : Int32) (σ : FH) (Q : FH → Prop) : Prop :=
  (((σ.1 78 6) ≤ x3 → h_X7_passLog_24 E d x1 (x2 + 1) σ Q) ∧
  (¬ (σ.1 78 6) ≤ x3 → (vp_in x2 13824 ∧ (((σ.1 88 x2.toNatClampNeg) ≤ 0 → h_X7_passLog_24 E d x1 (x2 + 1) σ Q) ∧
    (¬ (σ.1 88 x2.toNatClampNeg) ≤ 0 → fMi E d mX7_otherEnd [.ref 78, .int x3, .int (x2 / 2304)] σ (fun r11 σ10 => ((r11 = (-1) → h_X7_passLog_33 E d x1 x2 (x3 + 1) σ10 Q) ∧
      (¬ r11 = (-1) → ((x1 = (-1) → t_X7_passLog_79 E d x1 x2 x3 r11 σ10 Q) ∧
        (¬ x1 = (-1) → ((¬ x1 = r11 → h_X7_passLog_33 E d x1 x2 (x3 + 1) σ10 Q) ∧
          (x1 = r11 → t_X7_passLog_79 E d x1 x2 x3 r11 σ10 Q))))))))))))
set_option maxRecDepth 100000 in
set_option maxHeartbeats 4000000 in
theorem v_X7_passLog_33 {E : am_E} {d : Nat} {σ : FH} {Q : FH → Prop} {x1 : Int32} {x2 : Int32} {x3 : Int32} (t : t_X7_passLog_33 E d x1 x2 x3 σ Q) : h_X7_passLog_33 E d x1 x2 x3 σ Q := by
  unfold h_X7_passLog_33
  unfold t_X7_passLog_33 at t
  refine ar_iload_n (i := 3) dX7_passLog_33 rfl rfl ?_
  refine ar_aload_n (i := 0) dX7_passLog_34 rfl rfl ?_
  refine fr_getI (t := 7) (j := 6) dX7_passLog_35 fs_X7_104 o_78 rfl ?_
  refine ar_icmp_ge (tgt := 169) dX7_passLog_38 (by decide) (fun h7 => ?_) (fun h7 => ?_)
  · have t := t.1 h7
    refine ar_iinc (i := 2) (v := _ + 1) (lo2 := [_, _, _, _, none, none, none, none]) dX7_passLog_169 rfl (ii_1 _) (Nat.le_of_ble_eq_true rfl) rfl rfl ?_
    refine ar_goto (tgt := 24) dX7_passLog_172 (by decide) ?_
    refine ar_drop 3 (lo2 := [_, _, _, none, none, none, none, none]) rfl ?_
    exact t
  · have t := t.2 h7
    refine ar_aload_n (i := 0) dX7_passLog_41 rfl rfl ?_
    refine fr_getR (t := 7) (j := 22) (r := 88) dX7_passLog_42 fs_X7_37 o_78 rfl rfl (by decide) ?_
    refine ar_iload_n (i := 2) dX7_passLog_45 rfl rfl ?_
    obtain ⟨h8, t⟩ := t
    refine fr_iald (n := 13824) dX7_passLog_46 a_88 h8 ?_
    refine ar_if_le (tgt := 169) dX7_passLog_47 (by decide) (fun h9 => ?_) (fun h9 => ?_)
    · have t := t.1 h9
      refine ar_iinc (i := 2) (v := _ + 1) (lo2 := [_, _, _, _, none, none, none, none]) dX7_passLog_169 rfl (ii_1 _) (Nat.le_of_ble_eq_true rfl) rfl rfl ?_
      refine ar_goto (tgt := 24) dX7_passLog_172 (by decide) ?_
      refine ar_drop 3 (lo2 := [_, _, _, none, none, none, none, none]) rfl ?_
      exact t
    · have t := t.2 h9
      refine ar_aload_n (i := 0) dX7_passLog_50 rfl rfl ?_
      refine ar_iload_n (i := 3) dX7_passLog_51 rfl rfl ?_
      refine ar_iload_n (i := 2) dX7_passLog_52 rfl rfl ?_
      refine ar_sipush (v := 2304) dX7_passLog_53 (by decide) ?_
      refine ar_idiv dX7_passLog_56 (by decide) ?_
      refine fr_callVi (M' := mX7_otherEnd) [_, _] dX7_passLog_57 ml_X7_151 mv_X7_otherEnd rfl rfl o_78 rfl rfl (Nat.le_of_ble_eq_true rfl) ⟨Nat.le_refl _, Nat.le_refl _⟩ t (fun r11 σ10 t => ?_)
      try dsimp only at t
      refine ar_istore (i := 4) (lo2 := [_, _, _, _, _, none, none, none]) dX7_passLog_60 (Nat.le_of_ble_eq_true rfl) rfl rfl ?_
      refine ar_iload (i := 4) dX7_passLog_62 rfl ?_
      refine ar_iconst (v := -1) dX7_passLog_64 (by decide) ?_
      refine ar_icmp_eq (tgt := 163) dX7_passLog_65 (by decide) (fun h12 => ?_) (fun h12 => ?_)
      · have t := t.1 h12
        refine ar_iinc (i := 3) (v := _ + 1) (lo2 := [_, _, _, _, _, none, none, none]) dX7_passLog_163 rfl (ii_1 _) (Nat.le_of_ble_eq_true rfl) rfl rfl ?_
        refine ar_goto (tgt := 33) dX7_passLog_166 (by decide) ?_
        refine ar_drop 4 (lo2 := [_, _, _, _, none, none, none, none]) rfl ?_
        exact t
      · have t := t.2 h12
        refine ar_iload_n (i := 1) dX7_passLog_68 rfl rfl ?_
        refine ar_iconst (v := -1) dX7_passLog_69 (by decide) ?_
        refine ar_icmp_eq (tgt := 79) dX7_passLog_70 (by decide) (fun h13 => ?_) (fun h13 => ?_)
        · have t := t.1 h13
          exact v_X7_passLog_79 t
        · have t := t.2 h13
          refine ar_iload_n (i := 1) dX7_passLog_73 rfl rfl ?_
          refine ar_iload (i := 4) dX7_passLog_74 rfl ?_
          refine ar_icmp_ne (tgt := 163) dX7_passLog_76 (by decide) (fun h23 => ?_) (fun h23 => ?_)
          · have t := t.1 h23
            refine ar_iinc (i := 3) (v := _ + 1) (lo2 := [_, _, _, _, _, none, none, none]) dX7_passLog_163 rfl (ii_1 _) (Nat.le_of_ble_eq_true rfl) rfl rfl ?_
            refine ar_goto (tgt := 33) dX7_passLog_166 (by decide) ?_
            refine ar_drop 4 (lo2 := [_, _, _, _, none, none, none, none]) rfl ?_
            exact t
          · have t := t.2 h23
            exact v_X7_passLog_79 t
def t_X7_passLog_24 (E : am_E) (d : Nat) (x1 : Int32) (x2 : Int32) (σ : FH) (Q : FH → Prop) : Prop :=
  ((13824 ≤ x2 → h_X7_passLog_177 E d 0 σ Q) ∧
  (¬ 13824 ≤ x2 → h_X7_passLog_33 E d x1 x2 0 σ Q))
set_option maxRecDepth 100000 in
set_option maxHeartbeats 4000000 in
theorem v_X7_passLog_24 {E : am_E} {d : Nat} {σ : FH} {Q : FH → Prop} {x1 : Int32} {x2 : Int32} (t : t_X7_passLog_24 E d x1 x2 σ Q) : h_X7_passLog_24 E d x1 x2 σ Q := by
  unfold h_X7_passLog_24
  unfold t_X7_passLog_24 at t
  refine ar_iload_n (i := 2) dX7_passLog_24 rfl rfl ?_
  refine ar_sipush (v := 13824) dX7_passLog_25 (by decide) ?_
  refine ar_icmp_ge (tgt := 175) dX7_passLog_28 (by decide) (fun h2 => ?_) (fun h2 => ?_)
  · have t := t.1 h2
    refine ar_iconst (v := 0) dX7_passLog_175 (by decide) ?_
    refine ar_istore_n (i := 2) (lo2 := [_, _, _, none, none, none, none, none]) dX7_passLog_176 rfl (Nat.le_of_ble_eq_true rfl) rfl rfl ?_
    refine ar_drop 1 (lo2 := [_, none, _, none, none, none, none, none]) rfl ?_
    exact t
  · have t := t.2 h2
    refine ar_iconst (v := 0) dX7_passLog_31 (by decide) ?_
    refine ar_istore_n (i := 3) (lo2 := [_, _, _, _, none, none, none, none]) dX7_passLog_32 rfl (Nat.le_of_ble_eq_true rfl) rfl rfl ?_
    exact t
def t_X7_passLog_2 (E : am_E) (d : Nat) (x1 : Int32) (x2 : Int32) (σ : FH) (Q : FH → Prop) : Prop :=
  ((13824 ≤ x2 → h_X7_passLog_24 E d x1 0 σ Q) ∧
  (¬ 13824 ≤ x2 → (vp_in x2 13824 ∧ (∀ σ25 : FH, σ25 = fsI σ 89 x2.toNatClampNeg 0 → h_X7_passLog_2 E d x1 (x2 + 1) σ25 Q))))
set_option maxRecDepth 100000 in
set_option maxHeartbeats 4000000 in
theorem v_X7_passLog_2 {E : am_E} {d : Nat} {σ : FH} {Q : FH → Prop} {x1 : Int32} {x2 : Int32} (t : t_X7_passLog_2 E d x1 x2 σ Q) : h_X7_passLog_2 E d x1 x2 σ Q := by
  unfold h_X7_passLog_2
  unfold t_X7_passLog_2 at t
  refine ar_iload_n (i := 2) dX7_passLog_2 rfl rfl ?_
  refine ar_sipush (v := 13824) dX7_passLog_3 (by decide) ?_
  refine ar_icmp_ge (tgt := 22) dX7_passLog_6 (by decide) (fun h1 => ?_) (fun h1 => ?_)
  · have t := t.1 h1
    refine ar_iconst (v := 0) dX7_passLog_22 (by decide) ?_
    refine ar_istore_n (i := 2) (lo2 := [_, _, _, none, none, none, none, none]) dX7_passLog_23 rfl (Nat.le_of_ble_eq_true rfl) rfl rfl ?_
    exact t
  · have t := t.2 h1
    refine ar_aload_n (i := 0) dX7_passLog_9 rfl rfl ?_
    refine fr_getR (t := 7) (j := 23) (r := 89) dX7_passLog_10 fs_X7_40 o_78 rfl rfl (by decide) ?_
    refine ar_iload_n (i := 2) dX7_passLog_13 rfl rfl ?_
    refine ar_iconst (v := 0) dX7_passLog_14 (by decide) ?_
    obtain ⟨h24, t⟩ := t
    refine fr_iast (n := 13824) dX7_passLog_15 a_89 h24 ?_
    have t := t _ rfl
    refine ar_iinc (i := 2) (v := _ + 1) (lo2 := [_, _, _, none, none, none, none, none]) dX7_passLog_16 rfl (ii_1 _) (Nat.le_of_ble_eq_true rfl) rfl rfl ?_
    refine ar_goto (tgt := 2) dX7_passLog_19 (by decide) ?_
    exact t
def t_X7_passLog (E : am_E) (d : Nat) (x1 : Int32) (σ : FH) (Q : FH → Prop) : Prop :=
  h_X7_passLog_2 E d x1 0 σ Q
set_option maxRecDepth 100000 in
set_option maxHeartbeats 4000000 in
theorem v_X7_passLog {E : am_E} {d : Nat} {σ : FH} {Q : FH → Prop} {x1 : Int32} (t : t_X7_passLog E d x1 σ Q) : fMv E (d + 1) mX7_passLog [.ref 78, .int x1] σ Q := by
  refine fr_ofG [some (.ref 78), some (.int x1), none, none, none, none, none, none] (by decide) rfl (Nat.le_of_ble_eq_true rfl) ?_
  unfold t_X7_passLog at t
  refine ar_iconst (v := 0) dX7_passLog_0 (by decide) ?_
  refine ar_istore_n (i := 2) (lo2 := [_, _, _, none, none, none, none, none]) dX7_passLog_1 rfl (Nat.le_of_ble_eq_true rfl) rfl rfl ?_
  exact t

/-- X7.layLog: the machine at the loop head 2 -/
def h_X7_layLog_2 (E : am_E) (d : Nat) (x1 : Int32) (σ : FH) (Q : FH → Prop) : Prop := fG E (d + 1) mX7_layLog 2 [some (.ref 78), some (.int x1)] [] σ (qv Q)
/-- X7.layLog: the machine at the loop head 31 -/
def h_X7_layLog_31 (E : am_E) (d : Nat) (x1 : Int32) (σ : FH) (Q : FH → Prop) : Prop := fG E (d + 1) mX7_layLog 31 [some (.ref 78), some (.int x1)] [] σ (qv Q)
def t_X7_layLog_31 (E : am_E) (d : Nat) (x1 : Int32) (σ : FH) (Q : FH → Prop) : Prop :=
  (((σ.1 78 20) ≤ x1 → Q σ) ∧
  (¬ (σ.1 78 20) ≤ x1 → (vp_in x1 7 ∧ fMv E d mX7_passLog [.ref 78, .int (σ.1 87 x1.toNatClampNeg)] σ (fun σ6 => h_X7_layLog_31 E d (x1 + 1) σ6 Q))))
set_option maxRecDepth 100000 in
set_option maxHeartbeats 4000000 in
theorem v_X7_layLog_31 {E : am_E} {d : Nat} {σ : FH} {Q : FH → Prop} {x1 : Int32} (t : t_X7_layLog_31 E d x1 σ Q) : h_X7_layLog_31 E d x1 σ Q := by
  unfold h_X7_layLog_31
  unfold t_X7_layLog_31 at t
  refine ar_iload_n (i := 1) dX7_layLog_31 rfl rfl ?_
  refine ar_aload_n (i := 0) dX7_layLog_32 rfl rfl ?_
  refine fr_getI (t := 7) (j := 20) dX7_layLog_33 fs_X7_116 o_78 rfl ?_
  refine ar_icmp_ge (tgt := 55) dX7_layLog_36 (by decide) (fun h4 => ?_) (fun h4 => ?_)
  · have t := t.1 h4
    exact fr_vret dX7_layLog_55 rfl (Nat.le_refl _) (Nat.le_refl _) t
  · have t := t.2 h4
    refine ar_aload_n (i := 0) dX7_layLog_39 rfl rfl ?_
    refine ar_aload_n (i := 0) dX7_layLog_40 rfl rfl ?_
    refine fr_getR (t := 7) (j := 21) (r := 87) dX7_layLog_41 fs_X7_34 o_78 rfl rfl (by decide) ?_
    refine ar_iload_n (i := 1) dX7_layLog_44 rfl rfl ?_
    obtain ⟨h5, t⟩ := t
    refine fr_iald (n := 7) dX7_layLog_45 a_87 h5 ?_
    refine fr_callVv (M' := mX7_passLog) [_] dX7_layLog_46 ml_X7_203 mv_X7_passLog rfl rfl o_78 rfl rfl (Nat.le_of_ble_eq_true rfl) ⟨Nat.le_refl _, Nat.le_refl _⟩ t (fun σ6 t => ?_)
    try dsimp only at t
    refine ar_iinc (i := 1) (v := _ + 1) (lo2 := [_, _]) dX7_layLog_49 rfl (ii_1 _) (Nat.le_of_ble_eq_true rfl) rfl rfl ?_
    refine ar_goto (tgt := 31) dX7_layLog_52 (by decide) ?_
    exact t
def t_X7_layLog_2 (E : am_E) (d : Nat) (x1 : Int32) (σ : FH) (Q : FH → Prop) : Prop :=
  ((13824 ≤ x1 → (vp_in 0 13824 ∧ (∀ σ3 : FH, σ3 = fsI σ 88 0 1 → h_X7_layLog_31 E d 0 σ3 Q))) ∧
  (¬ 13824 ≤ x1 → (vp_in x1 13824 ∧ (∀ σ9 : FH, σ9 = fsI σ 88 x1.toNatClampNeg 0 → h_X7_layLog_2 E d (x1 + 1) σ9 Q))))
set_option maxRecDepth 100000 in
set_option maxHeartbeats 4000000 in
theorem v_X7_layLog_2 {E : am_E} {d : Nat} {σ : FH} {Q : FH → Prop} {x1 : Int32} (t : t_X7_layLog_2 E d x1 σ Q) : h_X7_layLog_2 E d x1 σ Q := by
  unfold h_X7_layLog_2
  unfold t_X7_layLog_2 at t
  refine ar_iload_n (i := 1) dX7_layLog_2 rfl rfl ?_
  refine ar_sipush (v := 13824) dX7_layLog_3 (by decide) ?_
  refine ar_icmp_ge (tgt := 22) dX7_layLog_6 (by decide) (fun h1 => ?_) (fun h1 => ?_)
  · have t := t.1 h1
    refine ar_aload_n (i := 0) dX7_layLog_22 rfl rfl ?_
    refine fr_getR (t := 7) (j := 22) (r := 88) dX7_layLog_23 fs_X7_37 o_78 rfl rfl (by decide) ?_
    refine ar_iconst (v := 0) dX7_layLog_26 (by decide) ?_
    refine ar_iconst (v := 1) dX7_layLog_27 (by decide) ?_
    obtain ⟨h2, t⟩ := t
    refine fr_iast (n := 13824) dX7_layLog_28 a_88 h2 ?_
    have t := t _ rfl
    refine ar_iconst (v := 0) dX7_layLog_29 (by decide) ?_
    refine ar_istore_n (i := 1) (lo2 := [_, _]) dX7_layLog_30 rfl (Nat.le_of_ble_eq_true rfl) rfl rfl ?_
    exact t
  · have t := t.2 h1
    refine ar_aload_n (i := 0) dX7_layLog_9 rfl rfl ?_
    refine fr_getR (t := 7) (j := 22) (r := 88) dX7_layLog_10 fs_X7_37 o_78 rfl rfl (by decide) ?_
    refine ar_iload_n (i := 1) dX7_layLog_13 rfl rfl ?_
    refine ar_iconst (v := 0) dX7_layLog_14 (by decide) ?_
    obtain ⟨h8, t⟩ := t
    refine fr_iast (n := 13824) dX7_layLog_15 a_88 h8 ?_
    have t := t _ rfl
    refine ar_iinc (i := 1) (v := _ + 1) (lo2 := [_, _]) dX7_layLog_16 rfl (ii_1 _) (Nat.le_of_ble_eq_true rfl) rfl rfl ?_
    refine ar_goto (tgt := 2) dX7_layLog_19 (by decide) ?_
    exact t
def t_X7_layLog (E : am_E) (d : Nat) (σ : FH) (Q : FH → Prop) : Prop :=
  h_X7_layLog_2 E d 0 σ Q
set_option maxRecDepth 100000 in
set_option maxHeartbeats 4000000 in
theorem v_X7_layLog {E : am_E} {d : Nat} {σ : FH} {Q : FH → Prop} (t : t_X7_layLog E d σ Q) : fMv E (d + 1) mX7_layLog [.ref 78] σ Q := by
  refine fr_ofG [some (.ref 78), none] (by decide) rfl (Nat.le_of_ble_eq_true rfl) ?_
  unfold t_X7_layLog at t
  refine ar_iconst (v := 0) dX7_layLog_0 (by decide) ?_
  refine ar_istore_n (i := 1) (lo2 := [_, _]) dX7_layLog_1 rfl (Nat.le_of_ble_eq_true rfl) rfl rfl ?_
  exact t

/-- X7.rowsBy: the machine at the loop head 8 -/
def h_X7_rowsBy_8 (E : am_E) (d : Nat) (x1 : Int32) (x2 : Int32) (x3 : Int32) (σ : FH) (Q : Int32 → FH → Prop) : Prop := fG E (d + 1) mX7_rowsBy 8 [some (.ref 78), some (.int x1), some (.int x2), some (.int x3), none, none] [] σ (qi Q)
/-- X7.rowsBy: the machine at the loop head 21 -/
def h_X7_rowsBy_21 (E : am_E) (d : Nat) (x1 : Int32) (x2 : Int32) (x3 : Int32) (x4 : Int32) (x5 : Int32) (σ : FH) (Q : Int32 → FH → Prop) : Prop := fG E (d + 1) mX7_rowsBy 21 [some (.ref 78), some (.int x1), some (.int x2), some (.int x3), some (.int x4), some (.int x5)] [] σ (qi Q)
def t_X7_rowsBy_77 (E : am_E) (d : Nat) (x1 : Int32) (x2 : Int32) (x3 : Int32) (x4 : Int32) (σ : FH) (Q : Int32 → FH → Prop) : Prop :=
  ((x1 = (-1) → (vp_in x3 13824 ∧ (∀ v7 : Int32, v7 = x2 + (σ.1 88 x3.toNatClampNeg) → h_X7_rowsBy_8 E d x1 v7 (x3 + 1) σ Q))) ∧
  (¬ x1 = (-1) → ((¬ x4 = x1 → h_X7_rowsBy_8 E d x1 (x2 + 0) (x3 + 1) σ Q) ∧
    (x4 = x1 → (vp_in x3 13824 ∧ (∀ v10 : Int32, v10 = x2 + (σ.1 88 x3.toNatClampNeg) → h_X7_rowsBy_8 E d x1 v10 (x3 + 1) σ Q))))))
set_option maxRecDepth 100000 in
set_option maxHeartbeats 4000000 in
theorem v_X7_rowsBy_77 {E : am_E} {d : Nat} {σ : FH} {Q : Int32 → FH → Prop} {x1 : Int32} {x2 : Int32} {x3 : Int32} {x4 : Int32} (t : t_X7_rowsBy_77 E d x1 x2 x3 x4 σ Q) : fG E (d + 1) mX7_rowsBy 77 [some (.ref 78), some (.int x1), some (.int x2), some (.int x3), some (.int x4), none] [] σ (qi Q) := by
  unfold t_X7_rowsBy_77 at t
  refine ar_iload_n (i := 2) dX7_rowsBy_77 rfl rfl ?_
  refine ar_iload_n (i := 1) dX7_rowsBy_78 rfl rfl ?_
  refine ar_iconst (v := -1) dX7_rowsBy_79 (by decide) ?_
  refine ar_icmp_eq (tgt := 89) dX7_rowsBy_80 (by decide) (fun h5 => ?_) (fun h5 => ?_)
  · have t := t.1 h5
    refine ar_aload_n (i := 0) dX7_rowsBy_89 rfl rfl ?_
    refine fr_getR (t := 7) (j := 22) (r := 88) dX7_rowsBy_90 fs_X7_37 o_78 rfl rfl (by decide) ?_
    refine ar_iload_n (i := 3) dX7_rowsBy_93 rfl rfl ?_
    obtain ⟨h6, t⟩ := t
    refine fr_iald (n := 13824) dX7_rowsBy_94 a_88 h6 ?_
    refine ar_goto (tgt := 99) dX7_rowsBy_95 (by decide) ?_
    refine ar_iadd dX7_rowsBy_99 ?_
    refine ar_istore_n (i := 2) (lo2 := [_, _, _, _, _, none]) dX7_rowsBy_100 rfl (Nat.le_of_ble_eq_true rfl) rfl rfl ?_
    have t := t _ rfl
    refine ar_iinc (i := 3) (v := _ + 1) (lo2 := [_, _, _, _, _, none]) dX7_rowsBy_101 rfl (ii_1 _) (Nat.le_of_ble_eq_true rfl) rfl rfl ?_
    refine ar_goto (tgt := 8) dX7_rowsBy_104 (by decide) ?_
    refine ar_drop 4 (lo2 := [_, _, _, _, none, none]) rfl ?_
    exact t
  · have t := t.2 h5
    refine ar_iload (i := 4) dX7_rowsBy_83 rfl ?_
    refine ar_iload_n (i := 1) dX7_rowsBy_85 rfl rfl ?_
    refine ar_icmp_ne (tgt := 98) dX7_rowsBy_86 (by decide) (fun h8 => ?_) (fun h8 => ?_)
    · have t := t.1 h8
      refine ar_iconst (v := 0) dX7_rowsBy_98 (by decide) ?_
      refine ar_iadd dX7_rowsBy_99 ?_
      refine ar_istore_n (i := 2) (lo2 := [_, _, _, _, _, none]) dX7_rowsBy_100 rfl (Nat.le_of_ble_eq_true rfl) rfl rfl ?_
      refine ar_iinc (i := 3) (v := _ + 1) (lo2 := [_, _, _, _, _, none]) dX7_rowsBy_101 rfl (ii_1 _) (Nat.le_of_ble_eq_true rfl) rfl rfl ?_
      refine ar_goto (tgt := 8) dX7_rowsBy_104 (by decide) ?_
      refine ar_drop 4 (lo2 := [_, _, _, _, none, none]) rfl ?_
      exact t
    · have t := t.2 h8
      refine ar_aload_n (i := 0) dX7_rowsBy_89 rfl rfl ?_
      refine fr_getR (t := 7) (j := 22) (r := 88) dX7_rowsBy_90 fs_X7_37 o_78 rfl rfl (by decide) ?_
      refine ar_iload_n (i := 3) dX7_rowsBy_93 rfl rfl ?_
      obtain ⟨h9, t⟩ := t
      refine fr_iald (n := 13824) dX7_rowsBy_94 a_88 h9 ?_
      refine ar_goto (tgt := 99) dX7_rowsBy_95 (by decide) ?_
      refine ar_iadd dX7_rowsBy_99 ?_
      refine ar_istore_n (i := 2) (lo2 := [_, _, _, _, _, none]) dX7_rowsBy_100 rfl (Nat.le_of_ble_eq_true rfl) rfl rfl ?_
      have t := t _ rfl
      refine ar_iinc (i := 3) (v := _ + 1) (lo2 := [_, _, _, _, _, none]) dX7_rowsBy_101 rfl (ii_1 _) (Nat.le_of_ble_eq_true rfl) rfl rfl ?_
      refine ar_goto (tgt := 8) dX7_rowsBy_104 (by decide) ?_
      refine ar_drop 4 (lo2 := [_, _, _, _, none, none]) rfl ?_
      exact t
def t_X7_rowsBy_21 (E : am_E) (d : Nat) (x1 : Int32) (x2 : Int32) (x3 : Int32) (x4 : Int32) (x5 : Int32) (σ : FH) (Q : Int32 → FH → Prop) : Prop :=
  (((σ.1 78 6) ≤ x5 → t_X7_rowsBy_77 E d x1 x2 x3 x4 σ Q) ∧
  (¬ (σ.1 78 6) ≤ x5 → (vp_in x3 13824 ∧ (((σ.1 88 x3.toNatClampNeg) ≤ 0 → t_X7_rowsBy_77 E d x1 x2 x3 x4 σ Q) ∧
    (¬ (σ.1 88 x3.toNatClampNeg) ≤ 0 → ((¬ ((((x3 - x3 / 2304 * 2304) / 9) >>> (x5 &&& 31)) &&& 1) = 1 → h_X7_rowsBy_21 E d x1 x2 x3 (x4 + 0) (x5 + 1) σ Q) ∧
      (((((x3 - x3 / 2304 * 2304) / 9) >>> (x5 &&& 31)) &&& 1) = 1 → fMi E d mX7_worthOf [.ref 78, .int x5] σ (fun r15 σ14 => h_X7_rowsBy_21 E d x1 x2 x3 (x4 + r15) (x5 + 1) σ14 Q))))))))
set_option maxRecDepth 100000 in
set_option maxHeartbeats 4000000 in
theorem v_X7_rowsBy_21 {E : am_E} {d : Nat} {σ : FH} {Q : Int32 → FH → Prop} {x1 : Int32} {x2 : Int32} {x3 : Int32} {x4 : Int32} {x5 : Int32} (t : t_X7_rowsBy_21 E d x1 x2 x3 x4 x5 σ Q) : h_X7_rowsBy_21 E d x1 x2 x3 x4 x5 σ Q := by
  unfold h_X7_rowsBy_21
  unfold t_X7_rowsBy_21 at t
  refine ar_iload (i := 5) dX7_rowsBy_21 rfl ?_
  refine ar_aload_n (i := 0) dX7_rowsBy_23 rfl rfl ?_
  refine fr_getI (t := 7) (j := 6) dX7_rowsBy_24 fs_X7_104 o_78 rfl ?_
  refine ar_icmp_ge (tgt := 77) dX7_rowsBy_27 (by decide) (fun h4 => ?_) (fun h4 => ?_)
  · have t := t.1 h4
    refine ar_drop 5 (lo2 := [_, _, _, _, _, none]) rfl ?_
    exact v_X7_rowsBy_77 t
  · have t := t.2 h4
    refine ar_aload_n (i := 0) dX7_rowsBy_30 rfl rfl ?_
    refine fr_getR (t := 7) (j := 22) (r := 88) dX7_rowsBy_31 fs_X7_37 o_78 rfl rfl (by decide) ?_
    refine ar_iload_n (i := 3) dX7_rowsBy_34 rfl rfl ?_
    obtain ⟨h11, t⟩ := t
    refine fr_iald (n := 13824) dX7_rowsBy_35 a_88 h11 ?_
    refine ar_if_le (tgt := 77) dX7_rowsBy_36 (by decide) (fun h12 => ?_) (fun h12 => ?_)
    · have t := t.1 h12
      refine ar_drop 5 (lo2 := [_, _, _, _, _, none]) rfl ?_
      exact v_X7_rowsBy_77 t
    · have t := t.2 h12
      refine ar_iload (i := 4) dX7_rowsBy_39 rfl ?_
      refine ar_iload_n (i := 3) dX7_rowsBy_41 rfl rfl ?_
      refine ar_sipush (v := 2304) dX7_rowsBy_42 (by decide) ?_
      refine ar_irem dX7_rowsBy_45 (by decide) ?_
      refine ar_bipush (v := 9) dX7_rowsBy_46 (by decide) ?_
      refine ar_idiv dX7_rowsBy_48 (by decide) ?_
      refine ar_iload (i := 5) dX7_rowsBy_49 rfl ?_
      refine ar_ishr dX7_rowsBy_51 ?_
      refine ar_iconst (v := 1) dX7_rowsBy_52 (by decide) ?_
      refine ar_iand dX7_rowsBy_53 ?_
      refine ar_iconst (v := 1) dX7_rowsBy_54 (by decide) ?_
      refine ar_icmp_ne (tgt := 67) dX7_rowsBy_55 (by decide) (fun h13 => ?_) (fun h13 => ?_)
      · have t := t.1 h13
        refine ar_iconst (v := 0) dX7_rowsBy_67 (by decide) ?_
        refine ar_iadd dX7_rowsBy_68 ?_
        refine ar_istore (i := 4) (lo2 := [_, _, _, _, _, _]) dX7_rowsBy_69 (Nat.le_of_ble_eq_true rfl) rfl rfl ?_
        refine ar_iinc (i := 5) (v := _ + 1) (lo2 := [_, _, _, _, _, _]) dX7_rowsBy_71 rfl (ii_1 _) (Nat.le_of_ble_eq_true rfl) rfl rfl ?_
        refine ar_goto (tgt := 21) dX7_rowsBy_74 (by decide) ?_
        exact t
      · have t := t.2 h13
        refine ar_aload_n (i := 0) dX7_rowsBy_58 rfl rfl ?_
        refine ar_iload (i := 5) dX7_rowsBy_59 rfl ?_
        refine fr_callVi (M' := mX7_worthOf) [_] dX7_rowsBy_61 ml_X7_122 mv_X7_worthOf rfl rfl o_78 rfl rfl (Nat.le_of_ble_eq_true rfl) ⟨Nat.le_refl _, Nat.le_refl _⟩ t (fun r15 σ14 t => ?_)
        try dsimp only at t
        refine ar_goto (tgt := 68) dX7_rowsBy_64 (by decide) ?_
        refine ar_iadd dX7_rowsBy_68 ?_
        refine ar_istore (i := 4) (lo2 := [_, _, _, _, _, _]) dX7_rowsBy_69 (Nat.le_of_ble_eq_true rfl) rfl rfl ?_
        refine ar_iinc (i := 5) (v := _ + 1) (lo2 := [_, _, _, _, _, _]) dX7_rowsBy_71 rfl (ii_1 _) (Nat.le_of_ble_eq_true rfl) rfl rfl ?_
        refine ar_goto (tgt := 21) dX7_rowsBy_74 (by decide) ?_
        exact t
def t_X7_rowsBy_8 (E : am_E) (d : Nat) (x1 : Int32) (x2 : Int32) (x3 : Int32) (σ : FH) (Q : Int32 → FH → Prop) : Prop :=
  ((13824 ≤ x3 → Q x2 σ) ∧
  (¬ 13824 ≤ x3 → h_X7_rowsBy_21 E d x1 x2 x3 0 0 σ Q))
set_option maxRecDepth 100000 in
set_option maxHeartbeats 4000000 in
theorem v_X7_rowsBy_8 {E : am_E} {d : Nat} {σ : FH} {Q : Int32 → FH → Prop} {x1 : Int32} {x2 : Int32} {x3 : Int32} (t : t_X7_rowsBy_8 E d x1 x2 x3 σ Q) : h_X7_rowsBy_8 E d x1 x2 x3 σ Q := by
  unfold h_X7_rowsBy_8
  unfold t_X7_rowsBy_8 at t
  refine ar_iload_n (i := 3) dX7_rowsBy_8 rfl rfl ?_
  refine ar_sipush (v := 13824) dX7_rowsBy_9 (by decide) ?_
  refine ar_icmp_ge (tgt := 107) dX7_rowsBy_12 (by decide) (fun h3 => ?_) (fun h3 => ?_)
  · have t := t.1 h3
    refine ar_iload_n (i := 2) dX7_rowsBy_107 rfl rfl ?_
    exact fr_iret dX7_rowsBy_108 rfl (Nat.le_refl _) (Nat.le_refl _) t
  · have t := t.2 h3
    refine ar_iconst (v := 0) dX7_rowsBy_15 (by decide) ?_
    refine ar_istore (i := 4) (lo2 := [_, _, _, _, _, none]) dX7_rowsBy_16 (Nat.le_of_ble_eq_true rfl) rfl rfl ?_
    refine ar_iconst (v := 0) dX7_rowsBy_18 (by decide) ?_
    refine ar_istore (i := 5) (lo2 := [_, _, _, _, _, _]) dX7_rowsBy_19 (Nat.le_of_ble_eq_true rfl) rfl rfl ?_
    exact t
def t_X7_rowsBy (E : am_E) (d : Nat) (x1 : Int32) (σ : FH) (Q : Int32 → FH → Prop) : Prop :=
  fMv E d mX7_layLog [.ref 78] σ (fun σ1 => h_X7_rowsBy_8 E d x1 0 0 σ1 Q)
set_option maxRecDepth 100000 in
set_option maxHeartbeats 4000000 in
theorem v_X7_rowsBy {E : am_E} {d : Nat} {σ : FH} {Q : Int32 → FH → Prop} {x1 : Int32} (t : t_X7_rowsBy E d x1 σ Q) : fMi E (d + 1) mX7_rowsBy [.ref 78, .int x1] σ Q := by
  refine fr_ofG [some (.ref 78), some (.int x1), none, none, none, none] (by decide) rfl (Nat.le_of_ble_eq_true rfl) ?_
  unfold t_X7_rowsBy at t
  refine ar_aload_n (i := 0) dX7_rowsBy_0 rfl rfl ?_
  refine fr_callVv (M' := mX7_layLog) [] dX7_rowsBy_1 ml_X7_206 mv_X7_layLog rfl rfl o_78 rfl rfl (Nat.le_of_ble_eq_true rfl) ⟨Nat.le_refl _, Nat.le_refl _⟩ t (fun σ1 t => ?_)
  try dsimp only at t
  refine ar_iconst (v := 0) dX7_rowsBy_4 (by decide) ?_
  refine ar_istore_n (i := 2) (lo2 := [_, _, _, none, none, none]) dX7_rowsBy_5 rfl (Nat.le_of_ble_eq_true rfl) rfl rfl ?_
  refine ar_iconst (v := 0) dX7_rowsBy_6 (by decide) ?_
  refine ar_istore_n (i := 3) (lo2 := [_, _, _, _, none, none]) dX7_rowsBy_7 rfl (Nat.le_of_ble_eq_true rfl) rfl rfl ?_
  exact t

def t_X7_walks (E : am_E) (d : Nat) (σ : FH) (Q : Int32 → FH → Prop) : Prop :=
  fMi E d mX7_lacks [.ref 78] σ (fun r2 σ1 => ((r2 = 0 → fMi E d mX7_rowsBy [.ref 78, .int (-1)] σ1 (fun r5 σ4 => Q r5 σ4)) ∧
  (¬ r2 = 0 → Q (-103) σ1)))
set_option maxRecDepth 100000 in
set_option maxHeartbeats 4000000 in
theorem v_X7_walks {E : am_E} {d : Nat} {σ : FH} {Q : Int32 → FH → Prop} (t : t_X7_walks E d σ Q) : fMi E (d + 1) mX7_walks [.ref 78] σ Q := by
  refine fr_ofG [some (.ref 78)] (by decide) rfl (Nat.le_of_ble_eq_true rfl) ?_
  unfold t_X7_walks at t
  refine ar_aload_n (i := 0) dX7_walks_0 rfl rfl ?_
  refine fr_callVi (M' := mX7_lacks) [] dX7_walks_1 ml_X7_134 mv_X7_lacks rfl rfl o_78 rfl rfl (Nat.le_of_ble_eq_true rfl) ⟨Nat.le_refl _, Nat.le_refl _⟩ t (fun r2 σ1 t => ?_)
  try dsimp only at t
  refine ar_if_eq (tgt := 12) dX7_walks_4 (by decide) (fun h3 => ?_) (fun h3 => ?_)
  · have t := t.1 h3
    refine ar_aload_n (i := 0) dX7_walks_12 rfl rfl ?_
    refine ar_iconst (v := -1) dX7_walks_13 (by decide) ?_
    refine fr_callVi (M' := mX7_rowsBy) [_] dX7_walks_14 ml_X7_209 mv_X7_rowsBy rfl rfl o_78 rfl rfl (Nat.le_of_ble_eq_true rfl) ⟨Nat.le_refl _, Nat.le_refl _⟩ t (fun r5 σ4 t => ?_)
    try dsimp only at t
    exact fr_iret dX7_walks_17 rfl (Nat.le_refl _) (Nat.le_refl _) t
  · have t := t.2 h3
    refine ar_bipush (v := -103) dX7_walks_7 (by decide) ?_
    refine ar_goto (tgt := 17) dX7_walks_9 (by decide) ?_
    exact fr_iret dX7_walks_17 rfl (Nat.le_refl _) (Nat.le_refl _) t

def t_X7_walksBy (E : am_E) (d : Nat) (x1 : Int32) (σ : FH) (Q : Int32 → FH → Prop) : Prop :=
  fMi E d mX7_in [.long x1.toInt64, .long 0, .long 60] σ (fun r2 σ1 => ((¬ r2 = 0 → fMi E d mX7_lacks [.ref 78] σ1 (fun r5 σ4 => ((r5 = 0 → fMi E d mX7_rowsBy [.ref 78, .int x1] σ4 (fun r8 σ7 => Q r8 σ7)) ∧
    (¬ r5 = 0 → Q (-103) σ4)))) ∧
  (r2 = 0 → Q (-102) σ1)))
set_option maxRecDepth 100000 in
set_option maxHeartbeats 4000000 in
theorem v_X7_walksBy {E : am_E} {d : Nat} {σ : FH} {Q : Int32 → FH → Prop} {x1 : Int32} (t : t_X7_walksBy E d x1 σ Q) : fMi E (d + 1) mX7_walksBy [.ref 78, .int x1] σ Q := by
  refine fr_ofG [some (.ref 78), some (.int x1)] (by decide) rfl (Nat.le_of_ble_eq_true rfl) ?_
  unfold t_X7_walksBy at t
  refine ar_iload_n (i := 1) dX7_walksBy_0 rfl rfl ?_
  refine ar_i2l dX7_walksBy_1 ?_
  refine ar_lconst (v := 0) dX7_walksBy_2 (by decide) ?_
  refine ar_ldc2 dX7_walksBy_3 ct_X7_95 ?_
  refine fr_callSi (M' := mX7_in) [_, _, _] dX7_walksBy_6 ml_X7_67 mv_X7_in rfl rfl (Nat.le_of_ble_eq_true rfl) ⟨Nat.le_refl _, Nat.le_refl _⟩ t (fun r2 σ1 t => ?_)
  try dsimp only at t
  refine ar_if_ne (tgt := 15) dX7_walksBy_9 (by decide) (fun h3 => ?_) (fun h3 => ?_)
  · have t := t.1 h3
    refine ar_aload_n (i := 0) dX7_walksBy_15 rfl rfl ?_
    refine fr_callVi (M' := mX7_lacks) [] dX7_walksBy_16 ml_X7_134 mv_X7_lacks rfl rfl o_78 rfl rfl (Nat.le_of_ble_eq_true rfl) ⟨Nat.le_refl _, Nat.le_refl _⟩ t (fun r5 σ4 t => ?_)
    try dsimp only at t
    refine ar_if_eq (tgt := 27) dX7_walksBy_19 (by decide) (fun h6 => ?_) (fun h6 => ?_)
    · have t := t.1 h6
      refine ar_aload_n (i := 0) dX7_walksBy_27 rfl rfl ?_
      refine ar_iload_n (i := 1) dX7_walksBy_28 rfl rfl ?_
      refine fr_callVi (M' := mX7_rowsBy) [_] dX7_walksBy_29 ml_X7_209 mv_X7_rowsBy rfl rfl o_78 rfl rfl (Nat.le_of_ble_eq_true rfl) ⟨Nat.le_refl _, Nat.le_refl _⟩ t (fun r8 σ7 t => ?_)
      try dsimp only at t
      exact fr_iret dX7_walksBy_32 rfl (Nat.le_refl _) (Nat.le_refl _) t
    · have t := t.2 h6
      refine ar_bipush (v := -103) dX7_walksBy_22 (by decide) ?_
      refine ar_goto (tgt := 32) dX7_walksBy_24 (by decide) ?_
      exact fr_iret dX7_walksBy_32 rfl (Nat.le_refl _) (Nat.le_refl _) t
  · have t := t.2 h3
    refine ar_bipush (v := -102) dX7_walksBy_12 (by decide) ?_
    exact fr_iret dX7_walksBy_14 rfl (Nat.le_refl _) (Nat.le_refl _) t

/-- X7.lastOf: the machine at the loop head 8 -/
def h_X7_lastOf_8 (E : am_E) (d : Nat) (x1 : Int32) (x2 : Int32) (σ : FH) (Q : Int32 → FH → Prop) : Prop := fG E (d + 1) mX7_lastOf 8 [some (.ref 78), some (.int x1), some (.int x2)] [] σ (qi Q)
/-- X7.lastOf: the machine at the loop head 45 -/
def h_X7_lastOf_45 (E : am_E) (d : Nat) (x1 : Int32) (x2 : Int32) (σ : FH) (Q : Int32 → FH → Prop) : Prop := fG E (d + 1) mX7_lastOf 45 [none, some (.int x1), some (.int x2)] [] σ (qi Q)
def t_X7_lastOf_45 (E : am_E) (d : Nat) (x1 : Int32) (x2 : Int32) (σ : FH) (Q : Int32 → FH → Prop) : Prop :=
  ((8 ≤ x2 → Q (-1) σ) ∧
  (¬ 8 ≤ x2 → ((¬ x1 = ((2 : Int32) <<< (x2 &&& 31)) → h_X7_lastOf_45 E d x1 (x2 + 1) σ Q) ∧
    (x1 = ((2 : Int32) <<< (x2 &&& 31)) → Q x2 σ))))
set_option maxRecDepth 100000 in
set_option maxHeartbeats 4000000 in
theorem v_X7_lastOf_45 {E : am_E} {d : Nat} {σ : FH} {Q : Int32 → FH → Prop} {x1 : Int32} {x2 : Int32} (t : t_X7_lastOf_45 E d x1 x2 σ Q) : h_X7_lastOf_45 E d x1 x2 σ Q := by
  unfold h_X7_lastOf_45
  unfold t_X7_lastOf_45 at t
  refine ar_iload_n (i := 2) dX7_lastOf_45 rfl rfl ?_
  refine ar_bipush (v := 8) dX7_lastOf_46 (by decide) ?_
  refine ar_icmp_ge (tgt := 66) dX7_lastOf_48 (by decide) (fun h4 => ?_) (fun h4 => ?_)
  · have t := t.1 h4
    refine ar_iconst (v := -1) dX7_lastOf_66 (by decide) ?_
    exact fr_iret dX7_lastOf_67 rfl (Nat.le_refl _) (Nat.le_refl _) t
  · have t := t.2 h4
    refine ar_iload_n (i := 1) dX7_lastOf_51 rfl rfl ?_
    refine ar_iconst (v := 2) dX7_lastOf_52 (by decide) ?_
    refine ar_iload_n (i := 2) dX7_lastOf_53 rfl rfl ?_
    refine ar_ishl dX7_lastOf_54 ?_
    refine ar_icmp_ne (tgt := 60) dX7_lastOf_55 (by decide) (fun h5 => ?_) (fun h5 => ?_)
    · have t := t.1 h5
      refine ar_iinc (i := 2) (v := _ + 1) (lo2 := [none, _, _]) dX7_lastOf_60 rfl (ii_1 _) (Nat.le_of_ble_eq_true rfl) rfl rfl ?_
      refine ar_goto (tgt := 45) dX7_lastOf_63 (by decide) ?_
      exact t
    · have t := t.2 h5
      refine ar_iload_n (i := 2) dX7_lastOf_58 rfl rfl ?_
      exact fr_iret dX7_lastOf_59 rfl (Nat.le_refl _) (Nat.le_refl _) t
def t_X7_lastOf_8 (E : am_E) (d : Nat) (x1 : Int32) (x2 : Int32) (σ : FH) (Q : Int32 → FH → Prop) : Prop :=
  ((13824 ≤ x2 → h_X7_lastOf_45 E d x1 0 σ Q) ∧
  (¬ 13824 ≤ x2 → (vp_in x2 13824 ∧ (((σ.1 88 x2.toNatClampNeg) ≤ 0 → h_X7_lastOf_8 E d (x1 ||| 0) (x2 + 1) σ Q) ∧
    (¬ (σ.1 88 x2.toNatClampNeg) ≤ 0 → (∀ v8 : Int32, v8 = x1 ||| ((1 : Int32) <<< ((x2 - x2 / 9 * 9) &&& 31)) → h_X7_lastOf_8 E d v8 (x2 + 1) σ Q))))))
set_option maxRecDepth 100000 in
set_option maxHeartbeats 4000000 in
theorem v_X7_lastOf_8 {E : am_E} {d : Nat} {σ : FH} {Q : Int32 → FH → Prop} {x1 : Int32} {x2 : Int32} (t : t_X7_lastOf_8 E d x1 x2 σ Q) : h_X7_lastOf_8 E d x1 x2 σ Q := by
  unfold h_X7_lastOf_8
  unfold t_X7_lastOf_8 at t
  refine ar_iload_n (i := 2) dX7_lastOf_8 rfl rfl ?_
  refine ar_sipush (v := 13824) dX7_lastOf_9 (by decide) ?_
  refine ar_icmp_ge (tgt := 43) dX7_lastOf_12 (by decide) (fun h3 => ?_) (fun h3 => ?_)
  · have t := t.1 h3
    refine ar_iconst (v := 0) dX7_lastOf_43 (by decide) ?_
    refine ar_istore_n (i := 2) (lo2 := [_, _, _]) dX7_lastOf_44 rfl (Nat.le_of_ble_eq_true rfl) rfl rfl ?_
    refine ar_drop 0 (lo2 := [none, _, _]) rfl ?_
    exact t
  · have t := t.2 h3
    refine ar_iload_n (i := 1) dX7_lastOf_15 rfl rfl ?_
    refine ar_aload_n (i := 0) dX7_lastOf_16 rfl rfl ?_
    refine fr_getR (t := 7) (j := 22) (r := 88) dX7_lastOf_17 fs_X7_37 o_78 rfl rfl (by decide) ?_
    refine ar_iload_n (i := 2) dX7_lastOf_20 rfl rfl ?_
    obtain ⟨h6, t⟩ := t
    refine fr_iald (n := 13824) dX7_lastOf_21 a_88 h6 ?_
    refine ar_if_le (tgt := 34) dX7_lastOf_22 (by decide) (fun h7 => ?_) (fun h7 => ?_)
    · have t := t.1 h7
      refine ar_iconst (v := 0) dX7_lastOf_34 (by decide) ?_
      refine ar_ior dX7_lastOf_35 ?_
      refine ar_istore_n (i := 1) (lo2 := [_, _, _]) dX7_lastOf_36 rfl (Nat.le_of_ble_eq_true rfl) rfl rfl ?_
      refine ar_iinc (i := 2) (v := _ + 1) (lo2 := [_, _, _]) dX7_lastOf_37 rfl (ii_1 _) (Nat.le_of_ble_eq_true rfl) rfl rfl ?_
      refine ar_goto (tgt := 8) dX7_lastOf_40 (by decide) ?_
      exact t
    · have t := t.2 h7
      refine ar_iconst (v := 1) dX7_lastOf_25 (by decide) ?_
      refine ar_iload_n (i := 2) dX7_lastOf_26 rfl rfl ?_
      refine ar_bipush (v := 9) dX7_lastOf_27 (by decide) ?_
      refine ar_irem dX7_lastOf_29 (by decide) ?_
      refine ar_ishl dX7_lastOf_30 ?_
      refine ar_goto (tgt := 35) dX7_lastOf_31 (by decide) ?_
      refine ar_ior dX7_lastOf_35 ?_
      refine ar_istore_n (i := 1) (lo2 := [_, _, _]) dX7_lastOf_36 rfl (Nat.le_of_ble_eq_true rfl) rfl rfl ?_
      have t := t _ rfl
      refine ar_iinc (i := 2) (v := _ + 1) (lo2 := [_, _, _]) dX7_lastOf_37 rfl (ii_1 _) (Nat.le_of_ble_eq_true rfl) rfl rfl ?_
      refine ar_goto (tgt := 8) dX7_lastOf_40 (by decide) ?_
      exact t
def t_X7_lastOf (E : am_E) (d : Nat) (σ : FH) (Q : Int32 → FH → Prop) : Prop :=
  fMv E d mX7_layLog [.ref 78] σ (fun σ1 => h_X7_lastOf_8 E d 0 0 σ1 Q)
set_option maxRecDepth 100000 in
set_option maxHeartbeats 4000000 in
theorem v_X7_lastOf {E : am_E} {d : Nat} {σ : FH} {Q : Int32 → FH → Prop} (t : t_X7_lastOf E d σ Q) : fMi E (d + 1) mX7_lastOf [.ref 78] σ Q := by
  refine fr_ofG [some (.ref 78), none, none] (by decide) rfl (Nat.le_of_ble_eq_true rfl) ?_
  unfold t_X7_lastOf at t
  refine ar_aload_n (i := 0) dX7_lastOf_0 rfl rfl ?_
  refine fr_callVv (M' := mX7_layLog) [] dX7_lastOf_1 ml_X7_206 mv_X7_layLog rfl rfl o_78 rfl rfl (Nat.le_of_ble_eq_true rfl) ⟨Nat.le_refl _, Nat.le_refl _⟩ t (fun σ1 t => ?_)
  try dsimp only at t
  refine ar_iconst (v := 0) dX7_lastOf_4 (by decide) ?_
  refine ar_istore_n (i := 1) (lo2 := [_, _, none]) dX7_lastOf_5 rfl (Nat.le_of_ble_eq_true rfl) rfl rfl ?_
  refine ar_iconst (v := 0) dX7_lastOf_6 (by decide) ?_
  refine ar_istore_n (i := 2) (lo2 := [_, _, _]) dX7_lastOf_7 rfl (Nat.le_of_ble_eq_true rfl) rfl rfl ?_
  exact t

def t_X7_last (E : am_E) (d : Nat) (σ : FH) (Q : Int32 → FH → Prop) : Prop :=
  fMi E d mX7_lacks [.ref 78] σ (fun r2 σ1 => ((r2 = 0 → fMi E d mX7_lastOf [.ref 78] σ1 (fun r5 σ4 => Q r5 σ4)) ∧
  (¬ r2 = 0 → Q (-103) σ1)))
set_option maxRecDepth 100000 in
set_option maxHeartbeats 4000000 in
theorem v_X7_last {E : am_E} {d : Nat} {σ : FH} {Q : Int32 → FH → Prop} (t : t_X7_last E d σ Q) : fMi E (d + 1) mX7_last [.ref 78] σ Q := by
  refine fr_ofG [some (.ref 78)] (by decide) rfl (Nat.le_of_ble_eq_true rfl) ?_
  unfold t_X7_last at t
  refine ar_aload_n (i := 0) dX7_last_0 rfl rfl ?_
  refine fr_callVi (M' := mX7_lacks) [] dX7_last_1 ml_X7_134 mv_X7_lacks rfl rfl o_78 rfl rfl (Nat.le_of_ble_eq_true rfl) ⟨Nat.le_refl _, Nat.le_refl _⟩ t (fun r2 σ1 t => ?_)
  try dsimp only at t
  refine ar_if_eq (tgt := 12) dX7_last_4 (by decide) (fun h3 => ?_) (fun h3 => ?_)
  · have t := t.1 h3
    refine ar_aload_n (i := 0) dX7_last_12 rfl rfl ?_
    refine fr_callVi (M' := mX7_lastOf) [] dX7_last_13 ml_X7_212 mv_X7_lastOf rfl rfl o_78 rfl rfl (Nat.le_of_ble_eq_true rfl) ⟨Nat.le_refl _, Nat.le_refl _⟩ t (fun r5 σ4 t => ?_)
    try dsimp only at t
    exact fr_iret dX7_last_16 rfl (Nat.le_refl _) (Nat.le_refl _) t
  · have t := t.2 h3
    refine ar_bipush (v := -103) dX7_last_7 (by decide) ?_
    refine ar_goto (tgt := 16) dX7_last_9 (by decide) ?_
    exact fr_iret dX7_last_16 rfl (Nat.le_refl _) (Nat.le_refl _) t

def t_X7_draw (E : am_E) (d : Nat) (x1 : Int32) (σ : FH) (Q : Int32 → FH → Prop) : Prop :=
  (∀ σ1 : FH, σ1 = fsI σ 78 24 ((((1103515245 * ((σ.1 78 24).toInt64)) + 12345) &&& 2147483647).toInt32) → (¬ x1 = 0 ∧ Q (((σ1.1 78 24) / 65536) - ((σ1.1 78 24) / 65536) / x1 * x1) σ1))
set_option maxRecDepth 100000 in
set_option maxHeartbeats 4000000 in
theorem v_X7_draw {E : am_E} {d : Nat} {σ : FH} {Q : Int32 → FH → Prop} {x1 : Int32} (t : t_X7_draw E d x1 σ Q) : fMi E (d + 1) mX7_draw [.ref 78, .int x1] σ Q := by
  refine fr_ofG [some (.ref 78), some (.int x1)] (by decide) rfl (Nat.le_of_ble_eq_true rfl) ?_
  unfold t_X7_draw at t
  refine ar_aload_n (i := 0) dX7_draw_0 rfl rfl ?_
  refine ar_ldc2 dX7_draw_1 ct_X7_215 ?_
  refine ar_aload_n (i := 0) dX7_draw_4 rfl rfl ?_
  refine fr_getI (t := 7) (j := 24) dX7_draw_5 fs_X7_217 o_78 rfl ?_
  refine ar_i2l dX7_draw_8 ?_
  refine ar_lmul dX7_draw_9 ?_
  refine ar_ldc2 dX7_draw_10 ct_X7_220 ?_
  refine ar_ladd dX7_draw_13 ?_
  refine ar_ldc2 dX7_draw_14 ct_X7_222 ?_
  refine ar_land dX7_draw_17 ?_
  refine ar_l2i dX7_draw_18 ?_
  refine fr_putI (t := 7) (j := 24) dX7_draw_19 fq_X7_217 o_78 rfl (Or.inl rfl) ?_
  have t := t _ rfl
  refine ar_aload_n (i := 0) dX7_draw_22 rfl rfl ?_
  refine fr_getI (t := 7) (j := 24) dX7_draw_23 fs_X7_217 o_78 rfl ?_
  refine ar_ldc dX7_draw_26 ct_X7_224 ?_
  refine ar_idiv dX7_draw_28 (by decide) ?_
  refine ar_iload_n (i := 1) dX7_draw_29 rfl rfl ?_
  obtain ⟨h2, t⟩ := t
  refine ar_irem dX7_draw_30 h2 ?_
  exact fr_iret dX7_draw_31 rfl (Nat.le_refl _) (Nat.le_refl _) t

/-- X7.copy: the machine at the loop head 2 -/
def h_X7_copy_2 (E : am_E) (d : Nat) (k0 : Nat) (n0 : Nat) (k1 : Nat) (n1 : Nat) (x2 : Int32) (σ : FH) (Q : FH → Prop) : Prop := fG E (d + 1) mX7_copy 2 [some (.ref k0), some (.ref k1), some (.int x2)] [] σ (qv Q)
def t_X7_copy_2 (E : am_E) (d : Nat) (k0 : Nat) (n0 : Nat) (k1 : Nat) (n1 : Nat) (x2 : Int32) (σ : FH) (Q : FH → Prop) : Prop :=
  (((Int32.ofNat n0) ≤ x2 → Q σ) ∧
  (¬ (Int32.ofNat n0) ≤ x2 → (vp_in x2 n0 ∧ (vp_in x2 n1 ∧ (∀ σ4 : FH, σ4 = fsI σ k1 x2.toNatClampNeg (σ.1 k0 x2.toNatClampNeg) → h_X7_copy_2 E d k0 n0 k1 n1 (x2 + 1) σ4 Q)))))
set_option maxRecDepth 100000 in
set_option maxHeartbeats 4000000 in
theorem v_X7_copy_2 {E : am_E} {d : Nat} {σ : FH} {Q : FH → Prop} {k0 : Nat} {n0 : Nat} {k1 : Nat} {n1 : Nat} {x2 : Int32} (hk0 : fA k0 n0) (hk1 : fA k1 n1) (t : t_X7_copy_2 E d k0 n0 k1 n1 x2 σ Q) : h_X7_copy_2 E d k0 n0 k1 n1 x2 σ Q := by
  unfold h_X7_copy_2
  unfold t_X7_copy_2 at t
  refine ar_iload_n (i := 2) dX7_copy_2 rfl rfl ?_
  refine ar_aload_n (i := 0) dX7_copy_3 rfl rfl ?_
  refine fr_alen (n := n0) dX7_copy_4 hk0 ?_
  refine ar_icmp_ge (tgt := 20) dX7_copy_5 (by decide) (fun h1 => ?_) (fun h1 => ?_)
  · have t := t.1 h1
    exact fr_vret dX7_copy_20 rfl (Nat.le_refl _) (Nat.le_refl _) t
  · have t := t.2 h1
    refine ar_aload_n (i := 1) dX7_copy_8 rfl rfl ?_
    refine ar_iload_n (i := 2) dX7_copy_9 rfl rfl ?_
    refine ar_aload_n (i := 0) dX7_copy_10 rfl rfl ?_
    refine ar_iload_n (i := 2) dX7_copy_11 rfl rfl ?_
    obtain ⟨h2, t⟩ := t
    refine fr_iald (n := n0) dX7_copy_12 hk0 h2 ?_
    obtain ⟨h3, t⟩ := t
    refine fr_iast (n := n1) dX7_copy_13 hk1 h3 ?_
    have t := t _ rfl
    refine ar_iinc (i := 2) (v := _ + 1) (lo2 := [_, _, _]) dX7_copy_14 rfl (ii_1 _) (Nat.le_of_ble_eq_true rfl) rfl rfl ?_
    refine ar_goto (tgt := 2) dX7_copy_17 (by decide) ?_
    exact t
def t_X7_copy (E : am_E) (d : Nat) (k0 : Nat) (n0 : Nat) (k1 : Nat) (n1 : Nat) (σ : FH) (Q : FH → Prop) : Prop :=
  h_X7_copy_2 E d k0 n0 k1 n1 0 σ Q
set_option maxRecDepth 100000 in
set_option maxHeartbeats 4000000 in
theorem v_X7_copy {E : am_E} {d : Nat} {σ : FH} {Q : FH → Prop} {k0 : Nat} {n0 : Nat} {k1 : Nat} {n1 : Nat} (hk0 : fA k0 n0) (hk1 : fA k1 n1) (t : t_X7_copy E d k0 n0 k1 n1 σ Q) : fMv E (d + 1) mX7_copy [.ref k0, .ref k1] σ Q := by
  refine fr_ofG [some (.ref k0), some (.ref k1), none] (by decide) rfl (Nat.le_of_ble_eq_true rfl) ?_
  unfold t_X7_copy at t
  refine ar_iconst (v := 0) dX7_copy_0 (by decide) ?_
  refine ar_istore_n (i := 2) (lo2 := [_, _, _]) dX7_copy_1 rfl (Nat.le_of_ble_eq_true rfl) rfl rfl ?_
  exact t

/-- X7.sumOf: the machine at the loop head 4 -/
def h_X7_sumOf_4 (E : am_E) (d : Nat) (x1 : Int32) (x2 : Int32) (x3 : Int32) (σ : FH) (Q : Int32 → FH → Prop) : Prop := fG E (d + 1) mX7_sumOf 4 [some (.ref 78), some (.int x1), some (.int x2), some (.int x3)] [] σ (qi Q)
def t_X7_sumOf_4 (E : am_E) (d : Nat) (x1 : Int32) (x2 : Int32) (x3 : Int32) (σ : FH) (Q : Int32 → FH → Prop) : Prop :=
  (((σ.1 78 11) ≤ x3 → Q x2 σ) ∧
  (¬ (σ.1 78 11) ≤ x3 → (vp_in ((5 * x3) + x1) 20 ∧ (∀ v3 : Int32, v3 = x2 + (σ.1 82 ((5 * x3) + x1).toNatClampNeg) → h_X7_sumOf_4 E d x1 v3 (x3 + 1) σ Q))))
set_option maxRecDepth 100000 in
set_option maxHeartbeats 4000000 in
theorem v_X7_sumOf_4 {E : am_E} {d : Nat} {σ : FH} {Q : Int32 → FH → Prop} {x1 : Int32} {x2 : Int32} {x3 : Int32} (t : t_X7_sumOf_4 E d x1 x2 x3 σ Q) : h_X7_sumOf_4 E d x1 x2 x3 σ Q := by
  unfold h_X7_sumOf_4
  unfold t_X7_sumOf_4 at t
  refine ar_iload_n (i := 3) dX7_sumOf_4 rfl rfl ?_
  refine ar_aload_n (i := 0) dX7_sumOf_5 rfl rfl ?_
  refine fr_getI (t := 7) (j := 11) dX7_sumOf_6 fs_X7_110 o_78 rfl ?_
  refine ar_icmp_ge (tgt := 31) dX7_sumOf_9 (by decide) (fun h1 => ?_) (fun h1 => ?_)
  · have t := t.1 h1
    refine ar_iload_n (i := 2) dX7_sumOf_31 rfl rfl ?_
    exact fr_iret dX7_sumOf_32 rfl (Nat.le_refl _) (Nat.le_refl _) t
  · have t := t.2 h1
    refine ar_iload_n (i := 2) dX7_sumOf_12 rfl rfl ?_
    refine ar_aload_n (i := 0) dX7_sumOf_13 rfl rfl ?_
    refine fr_getR (t := 7) (j := 12) (r := 82) dX7_sumOf_14 fs_X7_19 o_78 rfl rfl (by decide) ?_
    refine ar_iconst (v := 5) dX7_sumOf_17 (by decide) ?_
    refine ar_iload_n (i := 3) dX7_sumOf_18 rfl rfl ?_
    refine ar_imul dX7_sumOf_19 ?_
    refine ar_iload_n (i := 1) dX7_sumOf_20 rfl rfl ?_
    refine ar_iadd dX7_sumOf_21 ?_
    obtain ⟨h2, t⟩ := t
    refine fr_iald (n := 20) dX7_sumOf_22 a_82 h2 ?_
    refine ar_iadd dX7_sumOf_23 ?_
    refine ar_istore_n (i := 2) (lo2 := [_, _, _, _]) dX7_sumOf_24 rfl (Nat.le_of_ble_eq_true rfl) rfl rfl ?_
    have t := t _ rfl
    refine ar_iinc (i := 3) (v := _ + 1) (lo2 := [_, _, _, _]) dX7_sumOf_25 rfl (ii_1 _) (Nat.le_of_ble_eq_true rfl) rfl rfl ?_
    refine ar_goto (tgt := 4) dX7_sumOf_28 (by decide) ?_
    exact t
def t_X7_sumOf (E : am_E) (d : Nat) (x1 : Int32) (σ : FH) (Q : Int32 → FH → Prop) : Prop :=
  h_X7_sumOf_4 E d x1 0 0 σ Q
set_option maxRecDepth 100000 in
set_option maxHeartbeats 4000000 in
theorem v_X7_sumOf {E : am_E} {d : Nat} {σ : FH} {Q : Int32 → FH → Prop} {x1 : Int32} (t : t_X7_sumOf E d x1 σ Q) : fMi E (d + 1) mX7_sumOf [.ref 78, .int x1] σ Q := by
  refine fr_ofG [some (.ref 78), some (.int x1), none, none] (by decide) rfl (Nat.le_of_ble_eq_true rfl) ?_
  unfold t_X7_sumOf at t
  refine ar_iconst (v := 0) dX7_sumOf_0 (by decide) ?_
  refine ar_istore_n (i := 2) (lo2 := [_, _, _, none]) dX7_sumOf_1 rfl (Nat.le_of_ble_eq_true rfl) rfl rfl ?_
  refine ar_iconst (v := 0) dX7_sumOf_2 (by decide) ?_
  refine ar_istore_n (i := 3) (lo2 := [_, _, _, _]) dX7_sumOf_3 rfl (Nat.le_of_ble_eq_true rfl) rfl rfl ?_
  exact t

/-- X7.months: the machine at the loop head 71 -/
def h_X7_months_71 (E : am_E) (d : Nat) (x1 : Int32) (x3 : Int32) (x4 : Int32) (σ : FH) (Q : Int32 → FH → Prop) : Prop := fG E (d + 1) mX7_months 71 [some (.ref 78), some (.int x1), none, some (.int x3), some (.int x4), none, none] [] σ (qi Q)
/-- X7.months: the machine at the loop head 80 -/
def h_X7_months_80 (E : am_E) (d : Nat) (x1 : Int32) (x3 : Int32) (x4 : Int32) (x5 : Int32) (σ : FH) (Q : Int32 → FH → Prop) : Prop := fG E (d + 1) mX7_months 80 [some (.ref 78), some (.int x1), none, some (.int x3), some (.int x4), some (.int x5), none] [] σ (qi Q)
def t_X7_months_80 (E : am_E) (d : Nat) (x1 : Int32) (x3 : Int32) (x4 : Int32) (x5 : Int32) (σ : FH) (Q : Int32 → FH → Prop) : Prop :=
  (((σ.1 78 11) ≤ x5 → h_X7_months_71 E d x1 x3 (x4 + 1) σ Q) ∧
  (¬ (σ.1 78 11) ≤ x5 → fMi E d mX7_isIn [.ref 78, .int x5] σ (fun r44 σ43 => ((¬ r44 = 0 → h_X7_months_80 E d x1 x3 x4 (x5 + 1) σ43 Q) ∧
    (r44 = 0 → fMi E d mX7_draw [.ref 78, .int (σ43.1 78 6)] σ43 (fun r47 σ46 => (vp_in ((5 * r47) + 3) 45 ∧ fMi E d mX7_mayWalk [.ref 78, .int x5, .int r47, .int (σ46.1 81 ((5 * r47) + 3).toNatClampNeg)] σ46 (fun r50 σ49 => ((r50 = 0 → fMv E d mX7_rests [.ref 78, .int x5] σ49 (fun σ52 => fMv E d mX7_asks [.ref 78, .int x5] σ52 (fun σ54 => h_X7_months_80 E d x1 x3 x4 (x5 + 1) σ54 Q))) ∧
      (¬ r50 = 0 → (vp_in ((5 * r47) + 3) 45 ∧ fMi E d mX7_worthOf [.ref 78, .int r47] σ49 (fun r58 σ57 => fMv E d mX7_goes [.ref 78, .int x5, .int r47, .int (σ49.1 81 ((5 * r47) + 3).toNatClampNeg), .int r58] σ57 (fun σ59 => fMv E d mX7_asks [.ref 78, .int x5] σ59 (fun σ61 => h_X7_months_80 E d x1 x3 x4 (x5 + 1) σ61 Q))))))))))))))
set_option maxRecDepth 100000 in
set_option maxHeartbeats 4000000 in
theorem v_X7_months_80 {E : am_E} {d : Nat} {σ : FH} {Q : Int32 → FH → Prop} {x1 : Int32} {x3 : Int32} {x4 : Int32} {x5 : Int32} (t : t_X7_months_80 E d x1 x3 x4 x5 σ Q) : h_X7_months_80 E d x1 x3 x4 x5 σ Q := by
  unfold h_X7_months_80
  unfold t_X7_months_80 at t
  refine ar_iload (i := 5) dX7_months_80 rfl ?_
  refine ar_aload_n (i := 0) dX7_months_82 rfl rfl ?_
  refine fr_getI (t := 7) (j := 11) dX7_months_83 fs_X7_110 o_78 rfl ?_
  refine ar_icmp_ge (tgt := 176) dX7_months_86 (by decide) (fun h42 => ?_) (fun h42 => ?_)
  · have t := t.1 h42
    refine ar_iinc (i := 4) (v := _ + 1) (lo2 := [_, _, none, _, _, _, none]) dX7_months_176 rfl (ii_1 _) (Nat.le_of_ble_eq_true rfl) rfl rfl ?_
    refine ar_goto (tgt := 71) dX7_months_179 (by decide) ?_
    refine ar_drop 5 (lo2 := [_, _, none, _, _, none, none]) rfl ?_
    exact t
  · have t := t.2 h42
    refine ar_aload_n (i := 0) dX7_months_89 rfl rfl ?_
    refine ar_iload (i := 5) dX7_months_90 rfl ?_
    refine fr_callVi (M' := mX7_isIn) [_] dX7_months_92 ml_X7_148 mv_X7_isIn rfl rfl o_78 rfl rfl (Nat.le_of_ble_eq_true rfl) ⟨Nat.le_refl _, Nat.le_refl _⟩ t (fun r44 σ43 t => ?_)
    try dsimp only at t
    refine ar_if_ne (tgt := 170) dX7_months_95 (by decide) (fun h45 => ?_) (fun h45 => ?_)
    · have t := t.1 h45
      refine ar_iinc (i := 5) (v := _ + 1) (lo2 := [_, _, none, _, _, _, none]) dX7_months_170 rfl (ii_1 _) (Nat.le_of_ble_eq_true rfl) rfl rfl ?_
      refine ar_goto (tgt := 80) dX7_months_173 (by decide) ?_
      exact t
    · have t := t.2 h45
      refine ar_aload_n (i := 0) dX7_months_98 rfl rfl ?_
      refine ar_aload_n (i := 0) dX7_months_99 rfl rfl ?_
      refine fr_getI (t := 7) (j := 6) dX7_months_100 fs_X7_104 o_78 rfl ?_
      refine fr_callVi (M' := mX7_draw) [_] dX7_months_103 ml_X7_231 mv_X7_draw rfl rfl o_78 rfl rfl (Nat.le_of_ble_eq_true rfl) ⟨Nat.le_refl _, Nat.le_refl _⟩ t (fun r47 σ46 t => ?_)
      try dsimp only at t
      refine ar_istore (i := 6) (lo2 := [_, _, none, _, _, _, _]) dX7_months_106 (Nat.le_of_ble_eq_true rfl) rfl rfl ?_
      refine ar_aload_n (i := 0) dX7_months_108 rfl rfl ?_
      refine ar_iload (i := 5) dX7_months_109 rfl ?_
      refine ar_iload (i := 6) dX7_months_111 rfl ?_
      refine ar_aload_n (i := 0) dX7_months_113 rfl rfl ?_
      refine fr_getR (t := 7) (j := 10) (r := 81) dX7_months_114 fs_X7_16 o_78 rfl rfl (by decide) ?_
      refine ar_iconst (v := 5) dX7_months_117 (by decide) ?_
      refine ar_iload (i := 6) dX7_months_118 rfl ?_
      refine ar_imul dX7_months_120 ?_
      refine ar_iconst (v := 3) dX7_months_121 (by decide) ?_
      refine ar_iadd dX7_months_122 ?_
      obtain ⟨h48, t⟩ := t
      refine fr_iald (n := 45) dX7_months_123 a_81 h48 ?_
      refine fr_callVi (M' := mX7_mayWalk) [_, _, _] dX7_months_124 ml_X7_154 mv_X7_mayWalk rfl rfl o_78 rfl rfl (Nat.le_of_ble_eq_true rfl) ⟨Nat.le_refl _, Nat.le_refl _⟩ t (fun r50 σ49 t => ?_)
      try dsimp only at t
      refine ar_if_eq (tgt := 158) dX7_months_127 (by decide) (fun h51 => ?_) (fun h51 => ?_)
      · have t := t.1 h51
        refine ar_aload_n (i := 0) dX7_months_158 rfl rfl ?_
        refine ar_iload (i := 5) dX7_months_159 rfl ?_
        refine fr_callVv (M' := mX7_rests) [_] dX7_months_161 ml_X7_162 mv_X7_rests rfl rfl o_78 rfl rfl (Nat.le_of_ble_eq_true rfl) ⟨Nat.le_refl _, Nat.le_refl _⟩ t (fun σ52 t => ?_)
        try dsimp only at t
        refine ar_aload_n (i := 0) dX7_months_164 rfl rfl ?_
        refine ar_iload (i := 5) dX7_months_165 rfl ?_
        refine fr_callVv (M' := mX7_asks) [_] dX7_months_167 ml_X7_166 mv_X7_asks rfl rfl o_78 rfl rfl (Nat.le_of_ble_eq_true rfl) ⟨Nat.le_refl _, Nat.le_refl _⟩ t (fun σ54 t => ?_)
        try dsimp only at t
        refine ar_iinc (i := 5) (v := _ + 1) (lo2 := [_, _, none, _, _, _, _]) dX7_months_170 rfl (ii_1 _) (Nat.le_of_ble_eq_true rfl) rfl rfl ?_
        refine ar_goto (tgt := 80) dX7_months_173 (by decide) ?_
        refine ar_drop 6 (lo2 := [_, _, none, _, _, _, none]) rfl ?_
        exact t
      · have t := t.2 h51
        refine ar_aload_n (i := 0) dX7_months_130 rfl rfl ?_
        refine ar_iload (i := 5) dX7_months_131 rfl ?_
        refine ar_iload (i := 6) dX7_months_133 rfl ?_
        refine ar_aload_n (i := 0) dX7_months_135 rfl rfl ?_
        refine fr_getR (t := 7) (j := 10) (r := 81) dX7_months_136 fs_X7_16 o_78 rfl rfl (by decide) ?_
        refine ar_iconst (v := 5) dX7_months_139 (by decide) ?_
        refine ar_iload (i := 6) dX7_months_140 rfl ?_
        refine ar_imul dX7_months_142 ?_
        refine ar_iconst (v := 3) dX7_months_143 (by decide) ?_
        refine ar_iadd dX7_months_144 ?_
        obtain ⟨h56, t⟩ := t
        refine fr_iald (n := 45) dX7_months_145 a_81 h56 ?_
        refine ar_aload_n (i := 0) dX7_months_146 rfl rfl ?_
        refine ar_iload (i := 6) dX7_months_147 rfl ?_
        refine fr_callVi (M' := mX7_worthOf) [_] dX7_months_149 ml_X7_122 mv_X7_worthOf rfl rfl o_78 rfl rfl (Nat.le_of_ble_eq_true rfl) ⟨Nat.le_refl _, Nat.le_refl _⟩ t (fun r58 σ57 t => ?_)
        try dsimp only at t
        refine fr_callVv (M' := mX7_goes) [_, _, _, _] dX7_months_152 ml_X7_158 mv_X7_goes rfl rfl o_78 rfl rfl (Nat.le_of_ble_eq_true rfl) ⟨Nat.le_refl _, Nat.le_refl _⟩ t (fun σ59 t => ?_)
        try dsimp only at t
        refine ar_goto (tgt := 164) dX7_months_155 (by decide) ?_
        refine ar_aload_n (i := 0) dX7_months_164 rfl rfl ?_
        refine ar_iload (i := 5) dX7_months_165 rfl ?_
        refine fr_callVv (M' := mX7_asks) [_] dX7_months_167 ml_X7_166 mv_X7_asks rfl rfl o_78 rfl rfl (Nat.le_of_ble_eq_true rfl) ⟨Nat.le_refl _, Nat.le_refl _⟩ t (fun σ61 t => ?_)
        try dsimp only at t
        refine ar_iinc (i := 5) (v := _ + 1) (lo2 := [_, _, none, _, _, _, _]) dX7_months_170 rfl (ii_1 _) (Nat.le_of_ble_eq_true rfl) rfl rfl ?_
        refine ar_goto (tgt := 80) dX7_months_173 (by decide) ?_
        refine ar_drop 6 (lo2 := [_, _, none, _, _, _, none]) rfl ?_
        exact t
def t_X7_months_71 (E : am_E) (d : Nat) (x1 : Int32) (x3 : Int32) (x4 : Int32) (σ : FH) (Q : Int32 → FH → Prop) : Prop :=
  ((x1 ≤ x4 → ((¬ x3 = 0 → ((¬ x3 = 1 → ((¬ x3 = 2 → fMv E d mX7_copy [.ref 90, .ref 82] σ (fun σ20 => fMv E d mX7_copy [.ref 91, .ref 83] σ20 (fun σ22 => Q (σ.1 78 24) σ22))) ∧
        (x3 = 2 → fMi E d mX7_sumOf [.ref 78, .int 2] σ (fun r25 σ24 => fMv E d mX7_copy [.ref 90, .ref 82] σ24 (fun σ26 => fMv E d mX7_copy [.ref 91, .ref 83] σ26 (fun σ28 => Q r25 σ28)))))) ∧
      (x3 = 1 → fMi E d mX7_sumOf [.ref 78, .int 1] σ (fun r31 σ30 => fMv E d mX7_copy [.ref 90, .ref 82] σ30 (fun σ32 => fMv E d mX7_copy [.ref 91, .ref 83] σ32 (fun σ34 => Q r31 σ34)))))) ∧
    (x3 = 0 → fMi E d mX7_sumOf [.ref 78, .int 3] σ (fun r37 σ36 => fMv E d mX7_copy [.ref 90, .ref 82] σ36 (fun σ38 => fMv E d mX7_copy [.ref 91, .ref 83] σ38 (fun σ40 => Q r37 σ40)))))) ∧
  (¬ x1 ≤ x4 → h_X7_months_80 E d x1 x3 x4 0 σ Q))
set_option maxRecDepth 100000 in
set_option maxHeartbeats 4000000 in
theorem v_X7_months_71 {E : am_E} {d : Nat} {σ : FH} {Q : Int32 → FH → Prop} {x1 : Int32} {x3 : Int32} {x4 : Int32} (t : t_X7_months_71 E d x1 x3 x4 σ Q) : h_X7_months_71 E d x1 x3 x4 σ Q := by
  unfold h_X7_months_71
  unfold t_X7_months_71 at t
  refine ar_iload (i := 4) dX7_months_71 rfl ?_
  refine ar_iload_n (i := 1) dX7_months_73 rfl rfl ?_
  refine ar_icmp_ge (tgt := 182) dX7_months_74 (by decide) (fun h16 => ?_) (fun h16 => ?_)
  · have t := t.1 h16
    refine ar_iload_n (i := 3) dX7_months_182 rfl rfl ?_
    refine ar_if_ne (tgt := 194) dX7_months_183 (by decide) (fun h17 => ?_) (fun h17 => ?_)
    · have t := t.1 h17
      refine ar_iload_n (i := 3) dX7_months_194 rfl rfl ?_
      refine ar_iconst (v := 1) dX7_months_195 (by decide) ?_
      refine ar_icmp_ne (tgt := 207) dX7_months_196 (by decide) (fun h18 => ?_) (fun h18 => ?_)
      · have t := t.1 h18
        refine ar_iload_n (i := 3) dX7_months_207 rfl rfl ?_
        refine ar_iconst (v := 2) dX7_months_208 (by decide) ?_
        refine ar_icmp_ne (tgt := 220) dX7_months_209 (by decide) (fun h19 => ?_) (fun h19 => ?_)
        · have t := t.1 h19
          refine ar_aload_n (i := 0) dX7_months_220 rfl rfl ?_
          refine fr_getI (t := 7) (j := 24) dX7_months_221 fs_X7_217 o_78 rfl ?_
          refine ar_istore (i := 4) (lo2 := [_, _, none, _, _, none, none]) dX7_months_224 (Nat.le_of_ble_eq_true rfl) rfl rfl ?_
          refine ar_aload_n (i := 0) dX7_months_226 rfl rfl ?_
          refine fr_getR (t := 7) (j := 25) (r := 90) dX7_months_227 fs_X7_43 o_78 rfl rfl (by decide) ?_
          refine ar_aload_n (i := 0) dX7_months_230 rfl rfl ?_
          refine fr_getR (t := 7) (j := 12) (r := 82) dX7_months_231 fs_X7_19 o_78 rfl rfl (by decide) ?_
          refine fr_callSv (M' := mX7_copy) [_, _] dX7_months_234 ml_X7_227 mv_X7_copy rfl rfl (Nat.le_of_ble_eq_true rfl) ⟨Nat.le_refl _, Nat.le_refl _⟩ t (fun σ20 t => ?_)
          try dsimp only at t
          refine ar_aload_n (i := 0) dX7_months_237 rfl rfl ?_
          refine fr_getR (t := 7) (j := 26) (r := 91) dX7_months_238 fs_X7_46 o_78 rfl rfl (by decide) ?_
          refine ar_aload_n (i := 0) dX7_months_241 rfl rfl ?_
          refine fr_getR (t := 7) (j := 13) (r := 83) dX7_months_242 fs_X7_22 o_78 rfl rfl (by decide) ?_
          refine fr_callSv (M' := mX7_copy) [_, _] dX7_months_245 ml_X7_227 mv_X7_copy rfl rfl (Nat.le_of_ble_eq_true rfl) ⟨Nat.le_refl _, Nat.le_refl _⟩ t (fun σ22 t => ?_)
          try dsimp only at t
          refine ar_iload (i := 4) dX7_months_248 rfl ?_
          exact fr_iret dX7_months_250 rfl (Nat.le_refl _) (Nat.le_refl _) t
        · have t := t.2 h19
          refine ar_aload_n (i := 0) dX7_months_212 rfl rfl ?_
          refine ar_iconst (v := 2) dX7_months_213 (by decide) ?_
          refine fr_callVi (M' := mX7_sumOf) [_] dX7_months_214 ml_X7_234 mv_X7_sumOf rfl rfl o_78 rfl rfl (Nat.le_of_ble_eq_true rfl) ⟨Nat.le_refl _, Nat.le_refl _⟩ t (fun r25 σ24 t => ?_)
          try dsimp only at t
          refine ar_goto (tgt := 224) dX7_months_217 (by decide) ?_
          refine ar_istore (i := 4) (lo2 := [_, _, none, _, _, none, none]) dX7_months_224 (Nat.le_of_ble_eq_true rfl) rfl rfl ?_
          refine ar_aload_n (i := 0) dX7_months_226 rfl rfl ?_
          refine fr_getR (t := 7) (j := 25) (r := 90) dX7_months_227 fs_X7_43 o_78 rfl rfl (by decide) ?_
          refine ar_aload_n (i := 0) dX7_months_230 rfl rfl ?_
          refine fr_getR (t := 7) (j := 12) (r := 82) dX7_months_231 fs_X7_19 o_78 rfl rfl (by decide) ?_
          refine fr_callSv (M' := mX7_copy) [_, _] dX7_months_234 ml_X7_227 mv_X7_copy rfl rfl (Nat.le_of_ble_eq_true rfl) ⟨Nat.le_refl _, Nat.le_refl _⟩ t (fun σ26 t => ?_)
          try dsimp only at t
          refine ar_aload_n (i := 0) dX7_months_237 rfl rfl ?_
          refine fr_getR (t := 7) (j := 26) (r := 91) dX7_months_238 fs_X7_46 o_78 rfl rfl (by decide) ?_
          refine ar_aload_n (i := 0) dX7_months_241 rfl rfl ?_
          refine fr_getR (t := 7) (j := 13) (r := 83) dX7_months_242 fs_X7_22 o_78 rfl rfl (by decide) ?_
          refine fr_callSv (M' := mX7_copy) [_, _] dX7_months_245 ml_X7_227 mv_X7_copy rfl rfl (Nat.le_of_ble_eq_true rfl) ⟨Nat.le_refl _, Nat.le_refl _⟩ t (fun σ28 t => ?_)
          try dsimp only at t
          refine ar_iload (i := 4) dX7_months_248 rfl ?_
          exact fr_iret dX7_months_250 rfl (Nat.le_refl _) (Nat.le_refl _) t
      · have t := t.2 h18
        refine ar_aload_n (i := 0) dX7_months_199 rfl rfl ?_
        refine ar_iconst (v := 1) dX7_months_200 (by decide) ?_
        refine fr_callVi (M' := mX7_sumOf) [_] dX7_months_201 ml_X7_234 mv_X7_sumOf rfl rfl o_78 rfl rfl (Nat.le_of_ble_eq_true rfl) ⟨Nat.le_refl _, Nat.le_refl _⟩ t (fun r31 σ30 t => ?_)
        try dsimp only at t
        refine ar_goto (tgt := 224) dX7_months_204 (by decide) ?_
        refine ar_istore (i := 4) (lo2 := [_, _, none, _, _, none, none]) dX7_months_224 (Nat.le_of_ble_eq_true rfl) rfl rfl ?_
        refine ar_aload_n (i := 0) dX7_months_226 rfl rfl ?_
        refine fr_getR (t := 7) (j := 25) (r := 90) dX7_months_227 fs_X7_43 o_78 rfl rfl (by decide) ?_
        refine ar_aload_n (i := 0) dX7_months_230 rfl rfl ?_
        refine fr_getR (t := 7) (j := 12) (r := 82) dX7_months_231 fs_X7_19 o_78 rfl rfl (by decide) ?_
        refine fr_callSv (M' := mX7_copy) [_, _] dX7_months_234 ml_X7_227 mv_X7_copy rfl rfl (Nat.le_of_ble_eq_true rfl) ⟨Nat.le_refl _, Nat.le_refl _⟩ t (fun σ32 t => ?_)
        try dsimp only at t
        refine ar_aload_n (i := 0) dX7_months_237 rfl rfl ?_
        refine fr_getR (t := 7) (j := 26) (r := 91) dX7_months_238 fs_X7_46 o_78 rfl rfl (by decide) ?_
        refine ar_aload_n (i := 0) dX7_months_241 rfl rfl ?_
        refine fr_getR (t := 7) (j := 13) (r := 83) dX7_months_242 fs_X7_22 o_78 rfl rfl (by decide) ?_
        refine fr_callSv (M' := mX7_copy) [_, _] dX7_months_245 ml_X7_227 mv_X7_copy rfl rfl (Nat.le_of_ble_eq_true rfl) ⟨Nat.le_refl _, Nat.le_refl _⟩ t (fun σ34 t => ?_)
        try dsimp only at t
        refine ar_iload (i := 4) dX7_months_248 rfl ?_
        exact fr_iret dX7_months_250 rfl (Nat.le_refl _) (Nat.le_refl _) t
    · have t := t.2 h17
      refine ar_aload_n (i := 0) dX7_months_186 rfl rfl ?_
      refine ar_iconst (v := 3) dX7_months_187 (by decide) ?_
      refine fr_callVi (M' := mX7_sumOf) [_] dX7_months_188 ml_X7_234 mv_X7_sumOf rfl rfl o_78 rfl rfl (Nat.le_of_ble_eq_true rfl) ⟨Nat.le_refl _, Nat.le_refl _⟩ t (fun r37 σ36 t => ?_)
      try dsimp only at t
      refine ar_goto (tgt := 224) dX7_months_191 (by decide) ?_
      refine ar_istore (i := 4) (lo2 := [_, _, none, _, _, none, none]) dX7_months_224 (Nat.le_of_ble_eq_true rfl) rfl rfl ?_
      refine ar_aload_n (i := 0) dX7_months_226 rfl rfl ?_
      refine fr_getR (t := 7) (j := 25) (r := 90) dX7_months_227 fs_X7_43 o_78 rfl rfl (by decide) ?_
      refine ar_aload_n (i := 0) dX7_months_230 rfl rfl ?_
      refine fr_getR (t := 7) (j := 12) (r := 82) dX7_months_231 fs_X7_19 o_78 rfl rfl (by decide) ?_
      refine fr_callSv (M' := mX7_copy) [_, _] dX7_months_234 ml_X7_227 mv_X7_copy rfl rfl (Nat.le_of_ble_eq_true rfl) ⟨Nat.le_refl _, Nat.le_refl _⟩ t (fun σ38 t => ?_)
      try dsimp only at t
      refine ar_aload_n (i := 0) dX7_months_237 rfl rfl ?_
      refine fr_getR (t := 7) (j := 26) (r := 91) dX7_months_238 fs_X7_46 o_78 rfl rfl (by decide) ?_
      refine ar_aload_n (i := 0) dX7_months_241 rfl rfl ?_
      refine fr_getR (t := 7) (j := 13) (r := 83) dX7_months_242 fs_X7_22 o_78 rfl rfl (by decide) ?_
      refine fr_callSv (M' := mX7_copy) [_, _] dX7_months_245 ml_X7_227 mv_X7_copy rfl rfl (Nat.le_of_ble_eq_true rfl) ⟨Nat.le_refl _, Nat.le_refl _⟩ t (fun σ40 t => ?_)
      try dsimp only at t
      refine ar_iload (i := 4) dX7_months_248 rfl ?_
      exact fr_iret dX7_months_250 rfl (Nat.le_refl _) (Nat.le_refl _) t
  · have t := t.2 h16
    refine ar_iconst (v := 0) dX7_months_77 (by decide) ?_
    refine ar_istore (i := 5) (lo2 := [_, _, none, _, _, _, none]) dX7_months_78 (Nat.le_of_ble_eq_true rfl) rfl rfl ?_
    exact t
def t_X7_months (E : am_E) (d : Nat) (x1 : Int32) (x2 : Int32) (x3 : Int32) (σ : FH) (Q : Int32 → FH → Prop) : Prop :=
  fMi E d mX7_in [.long x1.toInt64, .long 1, .long 60] σ (fun r2 σ1 => ((r2 = 0 → Q (-102) σ1) ∧
  (¬ r2 = 0 → ((x2 < 0 → Q (-102) σ1) ∧
    (¬ x2 < 0 → fMi E d mX7_in [.long x3.toInt64, .long 0, .long 3] σ1 (fun r6 σ5 => ((¬ r6 = 0 → fMi E d mX7_lacks [.ref 78] σ5 (fun r9 σ8 => ((r9 = 0 → fMv E d mX7_copy [.ref 82, .ref 90] σ8 (fun σ11 => fMv E d mX7_copy [.ref 83, .ref 91] σ11 (fun σ13 => (∀ σ15 : FH, σ15 = fsI σ13 78 24 x2 → h_X7_months_71 E d x1 x3 0 σ15 Q)))) ∧
        (¬ r9 = 0 → Q (-103) σ8)))) ∧
      (r6 = 0 → Q (-102) σ5))))))))
set_option maxRecDepth 100000 in
set_option maxHeartbeats 4000000 in
theorem v_X7_months {E : am_E} {d : Nat} {σ : FH} {Q : Int32 → FH → Prop} {x1 : Int32} {x2 : Int32} {x3 : Int32} (t : t_X7_months E d x1 x2 x3 σ Q) : fMi E (d + 1) mX7_months [.ref 78, .int x1, .int x2, .int x3] σ Q := by
  refine fr_ofG [some (.ref 78), some (.int x1), some (.int x2), some (.int x3), none, none, none] (by decide) rfl (Nat.le_of_ble_eq_true rfl) ?_
  unfold t_X7_months at t
  refine ar_iload_n (i := 1) dX7_months_0 rfl rfl ?_
  refine ar_i2l dX7_months_1 ?_
  refine ar_lconst (v := 1) dX7_months_2 (by decide) ?_
  refine ar_ldc2 dX7_months_3 ct_X7_95 ?_
  refine fr_callSi (M' := mX7_in) [_, _, _] dX7_months_6 ml_X7_67 mv_X7_in rfl rfl (Nat.le_of_ble_eq_true rfl) ⟨Nat.le_refl _, Nat.le_refl _⟩ t (fun r2 σ1 t => ?_)
  try dsimp only at t
  refine ar_if_eq (tgt := 28) dX7_months_9 (by decide) (fun h3 => ?_) (fun h3 => ?_)
  · have t := t.1 h3
    refine ar_bipush (v := -102) dX7_months_28 (by decide) ?_
    exact fr_iret dX7_months_30 rfl (Nat.le_refl _) (Nat.le_refl _) t
  · have t := t.2 h3
    refine ar_iload_n (i := 2) dX7_months_12 rfl rfl ?_
    refine ar_if_lt (tgt := 28) dX7_months_13 (by decide) (fun h4 => ?_) (fun h4 => ?_)
    · have t := t.1 h4
      refine ar_bipush (v := -102) dX7_months_28 (by decide) ?_
      exact fr_iret dX7_months_30 rfl (Nat.le_refl _) (Nat.le_refl _) t
    · have t := t.2 h4
      refine ar_iload_n (i := 3) dX7_months_16 rfl rfl ?_
      refine ar_i2l dX7_months_17 ?_
      refine ar_lconst (v := 0) dX7_months_18 (by decide) ?_
      refine ar_ldc2 dX7_months_19 ct_X7_225 ?_
      refine fr_callSi (M' := mX7_in) [_, _, _] dX7_months_22 ml_X7_67 mv_X7_in rfl rfl (Nat.le_of_ble_eq_true rfl) ⟨Nat.le_refl _, Nat.le_refl _⟩ t (fun r6 σ5 t => ?_)
      try dsimp only at t
      refine ar_if_ne (tgt := 31) dX7_months_25 (by decide) (fun h7 => ?_) (fun h7 => ?_)
      · have t := t.1 h7
        refine ar_aload_n (i := 0) dX7_months_31 rfl rfl ?_
        refine fr_callVi (M' := mX7_lacks) [] dX7_months_32 ml_X7_134 mv_X7_lacks rfl rfl o_78 rfl rfl (Nat.le_of_ble_eq_true rfl) ⟨Nat.le_refl _, Nat.le_refl _⟩ t (fun r9 σ8 t => ?_)
        try dsimp only at t
        refine ar_if_eq (tgt := 41) dX7_months_35 (by decide) (fun h10 => ?_) (fun h10 => ?_)
        · have t := t.1 h10
          refine ar_aload_n (i := 0) dX7_months_41 rfl rfl ?_
          refine fr_getR (t := 7) (j := 12) (r := 82) dX7_months_42 fs_X7_19 o_78 rfl rfl (by decide) ?_
          refine ar_aload_n (i := 0) dX7_months_45 rfl rfl ?_
          refine fr_getR (t := 7) (j := 25) (r := 90) dX7_months_46 fs_X7_43 o_78 rfl rfl (by decide) ?_
          refine fr_callSv (M' := mX7_copy) [_, _] dX7_months_49 ml_X7_227 mv_X7_copy rfl rfl (Nat.le_of_ble_eq_true rfl) ⟨Nat.le_refl _, Nat.le_refl _⟩ t (fun σ11 t => ?_)
          try dsimp only at t
          refine ar_aload_n (i := 0) dX7_months_52 rfl rfl ?_
          refine fr_getR (t := 7) (j := 13) (r := 83) dX7_months_53 fs_X7_22 o_78 rfl rfl (by decide) ?_
          refine ar_aload_n (i := 0) dX7_months_56 rfl rfl ?_
          refine fr_getR (t := 7) (j := 26) (r := 91) dX7_months_57 fs_X7_46 o_78 rfl rfl (by decide) ?_
          refine fr_callSv (M' := mX7_copy) [_, _] dX7_months_60 ml_X7_227 mv_X7_copy rfl rfl (Nat.le_of_ble_eq_true rfl) ⟨Nat.le_refl _, Nat.le_refl _⟩ t (fun σ13 t => ?_)
          try dsimp only at t
          refine ar_aload_n (i := 0) dX7_months_63 rfl rfl ?_
          refine ar_iload_n (i := 2) dX7_months_64 rfl rfl ?_
          refine fr_putI (t := 7) (j := 24) dX7_months_65 fq_X7_217 o_78 rfl (Or.inl rfl) ?_
          have t := t _ rfl
          refine ar_iconst (v := 0) dX7_months_68 (by decide) ?_
          refine ar_istore (i := 4) (lo2 := [_, _, _, _, _, none, none]) dX7_months_69 (Nat.le_of_ble_eq_true rfl) rfl rfl ?_
          refine ar_drop 2 (lo2 := [_, _, none, _, _, none, none]) rfl ?_
          exact t
        · have t := t.2 h10
          refine ar_bipush (v := -103) dX7_months_38 (by decide) ?_
          exact fr_iret dX7_months_40 rfl (Nat.le_refl _) (Nat.le_refl _) t
      · have t := t.2 h7
        refine ar_bipush (v := -102) dX7_months_28 (by decide) ?_
        exact fr_iret dX7_months_30 rfl (Nat.le_refl _) (Nat.le_refl _) t

def t_X7_image (E : am_E) (d : Nat) (σ : FH) (Q : Int32 → FH → Prop) : Prop :=
  fMi E d mX7_lacks [.ref 78] σ (fun r2 σ1 => ((r2 = 0 → fMv E d mX7_copy [.ref 81, .ref 92] σ1 (fun σ4 => fMv E d mX7_copy [.ref 82, .ref 93] σ4 (fun σ6 => fMv E d mX7_copy [.ref 83, .ref 94] σ6 (fun σ8 => fMv E d mX7_copy [.ref 87, .ref 95] σ8 (fun σ10 => (∀ σ12 : FH, σ12 = fsI σ10 78 28 (σ10.1 78 11) → (∀ σ13 : FH, σ13 = fsI σ12 78 29 (σ12.1 78 9) → (∀ σ14 : FH, σ14 = fsI σ13 78 30 (σ13.1 78 20) → (∀ σ15 : FH, σ15 = fsI σ14 78 27 (σ14.1 78 8) → Q (σ15.1 78 9) σ15))))))))) ∧
  (¬ r2 = 0 → Q (-103) σ1)))
set_option maxRecDepth 100000 in
set_option maxHeartbeats 4000000 in
theorem v_X7_image {E : am_E} {d : Nat} {σ : FH} {Q : Int32 → FH → Prop} (t : t_X7_image E d σ Q) : fMi E (d + 1) mX7_image [.ref 78] σ Q := by
  refine fr_ofG [some (.ref 78)] (by decide) rfl (Nat.le_of_ble_eq_true rfl) ?_
  unfold t_X7_image at t
  refine ar_aload_n (i := 0) dX7_image_0 rfl rfl ?_
  refine fr_callVi (M' := mX7_lacks) [] dX7_image_1 ml_X7_134 mv_X7_lacks rfl rfl o_78 rfl rfl (Nat.le_of_ble_eq_true rfl) ⟨Nat.le_refl _, Nat.le_refl _⟩ t (fun r2 σ1 t => ?_)
  try dsimp only at t
  refine ar_if_eq (tgt := 10) dX7_image_4 (by decide) (fun h3 => ?_) (fun h3 => ?_)
  · have t := t.1 h3
    refine ar_aload_n (i := 0) dX7_image_10 rfl rfl ?_
    refine fr_getR (t := 7) (j := 10) (r := 81) dX7_image_11 fs_X7_16 o_78 rfl rfl (by decide) ?_
    refine ar_aload_n (i := 0) dX7_image_14 rfl rfl ?_
    refine fr_getR (t := 7) (j := 31) (r := 92) dX7_image_15 fs_X7_49 o_78 rfl rfl (by decide) ?_
    refine fr_callSv (M' := mX7_copy) [_, _] dX7_image_18 ml_X7_227 mv_X7_copy rfl rfl (Nat.le_of_ble_eq_true rfl) ⟨Nat.le_refl _, Nat.le_refl _⟩ t (fun σ4 t => ?_)
    try dsimp only at t
    refine ar_aload_n (i := 0) dX7_image_21 rfl rfl ?_
    refine fr_getR (t := 7) (j := 12) (r := 82) dX7_image_22 fs_X7_19 o_78 rfl rfl (by decide) ?_
    refine ar_aload_n (i := 0) dX7_image_25 rfl rfl ?_
    refine fr_getR (t := 7) (j := 32) (r := 93) dX7_image_26 fs_X7_52 o_78 rfl rfl (by decide) ?_
    refine fr_callSv (M' := mX7_copy) [_, _] dX7_image_29 ml_X7_227 mv_X7_copy rfl rfl (Nat.le_of_ble_eq_true rfl) ⟨Nat.le_refl _, Nat.le_refl _⟩ t (fun σ6 t => ?_)
    try dsimp only at t
    refine ar_aload_n (i := 0) dX7_image_32 rfl rfl ?_
    refine fr_getR (t := 7) (j := 13) (r := 83) dX7_image_33 fs_X7_22 o_78 rfl rfl (by decide) ?_
    refine ar_aload_n (i := 0) dX7_image_36 rfl rfl ?_
    refine fr_getR (t := 7) (j := 33) (r := 94) dX7_image_37 fs_X7_55 o_78 rfl rfl (by decide) ?_
    refine fr_callSv (M' := mX7_copy) [_, _] dX7_image_40 ml_X7_227 mv_X7_copy rfl rfl (Nat.le_of_ble_eq_true rfl) ⟨Nat.le_refl _, Nat.le_refl _⟩ t (fun σ8 t => ?_)
    try dsimp only at t
    refine ar_aload_n (i := 0) dX7_image_43 rfl rfl ?_
    refine fr_getR (t := 7) (j := 21) (r := 87) dX7_image_44 fs_X7_34 o_78 rfl rfl (by decide) ?_
    refine ar_aload_n (i := 0) dX7_image_47 rfl rfl ?_
    refine fr_getR (t := 7) (j := 34) (r := 95) dX7_image_48 fs_X7_58 o_78 rfl rfl (by decide) ?_
    refine fr_callSv (M' := mX7_copy) [_, _] dX7_image_51 ml_X7_227 mv_X7_copy rfl rfl (Nat.le_of_ble_eq_true rfl) ⟨Nat.le_refl _, Nat.le_refl _⟩ t (fun σ10 t => ?_)
    try dsimp only at t
    refine ar_aload_n (i := 0) dX7_image_54 rfl rfl ?_
    refine ar_aload_n (i := 0) dX7_image_55 rfl rfl ?_
    refine fr_getI (t := 7) (j := 11) dX7_image_56 fs_X7_110 o_78 rfl ?_
    refine fr_putI (t := 7) (j := 28) dX7_image_59 fq_X7_237 o_78 rfl (Or.inl rfl) ?_
    have t := t _ rfl
    refine ar_aload_n (i := 0) dX7_image_62 rfl rfl ?_
    refine ar_aload_n (i := 0) dX7_image_63 rfl rfl ?_
    refine fr_getI (t := 7) (j := 9) dX7_image_64 fs_X7_113 o_78 rfl ?_
    refine fr_putI (t := 7) (j := 29) dX7_image_67 fq_X7_240 o_78 rfl (Or.inl rfl) ?_
    have t := t _ rfl
    refine ar_aload_n (i := 0) dX7_image_70 rfl rfl ?_
    refine ar_aload_n (i := 0) dX7_image_71 rfl rfl ?_
    refine fr_getI (t := 7) (j := 20) dX7_image_72 fs_X7_116 o_78 rfl ?_
    refine fr_putI (t := 7) (j := 30) dX7_image_75 fq_X7_243 o_78 rfl (Or.inl rfl) ?_
    have t := t _ rfl
    refine ar_aload_n (i := 0) dX7_image_78 rfl rfl ?_
    refine ar_aload_n (i := 0) dX7_image_79 rfl rfl ?_
    refine fr_getI (t := 7) (j := 8) dX7_image_80 fs_X7_119 o_78 rfl ?_
    refine fr_putI (t := 7) (j := 27) dX7_image_83 fq_X7_61 o_78 rfl (Or.inl rfl) ?_
    have t := t _ rfl
    refine ar_aload_n (i := 0) dX7_image_86 rfl rfl ?_
    refine fr_getI (t := 7) (j := 9) dX7_image_87 fs_X7_113 o_78 rfl ?_
    exact fr_iret dX7_image_90 rfl (Nat.le_refl _) (Nat.le_refl _) t
  · have t := t.2 h3
    refine ar_bipush (v := -103) dX7_image_7 (by decide) ?_
    exact fr_iret dX7_image_9 rfl (Nat.le_refl _) (Nat.le_refl _) t

def t_X7_restore (E : am_E) (d : Nat) (σ : FH) (Q : Int32 → FH → Prop) : Prop :=
  (((σ.1 78 27) = (σ.1 78 8) → fMv E d mX7_copy [.ref 92, .ref 81] σ (fun σ2 => fMv E d mX7_copy [.ref 93, .ref 82] σ2 (fun σ4 => fMv E d mX7_copy [.ref 94, .ref 83] σ4 (fun σ6 => fMv E d mX7_copy [.ref 95, .ref 87] σ6 (fun σ8 => (∀ σ10 : FH, σ10 = fsI σ8 78 11 (σ8.1 78 28) → (∀ σ11 : FH, σ11 = fsI σ10 78 9 (σ10.1 78 29) → (∀ σ12 : FH, σ12 = fsI σ11 78 20 (σ11.1 78 30) → Q (σ12.1 78 9) σ12)))))))) ∧
  (¬ (σ.1 78 27) = (σ.1 78 8) → Q (-103) σ))
set_option maxRecDepth 100000 in
set_option maxHeartbeats 4000000 in
theorem v_X7_restore {E : am_E} {d : Nat} {σ : FH} {Q : Int32 → FH → Prop} (t : t_X7_restore E d σ Q) : fMi E (d + 1) mX7_restore [.ref 78] σ Q := by
  refine fr_ofG [some (.ref 78)] (by decide) rfl (Nat.le_of_ble_eq_true rfl) ?_
  unfold t_X7_restore at t
  refine ar_aload_n (i := 0) dX7_restore_0 rfl rfl ?_
  refine fr_getI (t := 7) (j := 27) dX7_restore_1 fs_X7_61 o_78 rfl ?_
  refine ar_aload_n (i := 0) dX7_restore_4 rfl rfl ?_
  refine fr_getI (t := 7) (j := 8) dX7_restore_5 fs_X7_119 o_78 rfl ?_
  refine ar_icmp_eq (tgt := 14) dX7_restore_8 (by decide) (fun h1 => ?_) (fun h1 => ?_)
  · have t := t.1 h1
    refine ar_aload_n (i := 0) dX7_restore_14 rfl rfl ?_
    refine fr_getR (t := 7) (j := 31) (r := 92) dX7_restore_15 fs_X7_49 o_78 rfl rfl (by decide) ?_
    refine ar_aload_n (i := 0) dX7_restore_18 rfl rfl ?_
    refine fr_getR (t := 7) (j := 10) (r := 81) dX7_restore_19 fs_X7_16 o_78 rfl rfl (by decide) ?_
    refine fr_callSv (M' := mX7_copy) [_, _] dX7_restore_22 ml_X7_227 mv_X7_copy rfl rfl (Nat.le_of_ble_eq_true rfl) ⟨Nat.le_refl _, Nat.le_refl _⟩ t (fun σ2 t => ?_)
    try dsimp only at t
    refine ar_aload_n (i := 0) dX7_restore_25 rfl rfl ?_
    refine fr_getR (t := 7) (j := 32) (r := 93) dX7_restore_26 fs_X7_52 o_78 rfl rfl (by decide) ?_
    refine ar_aload_n (i := 0) dX7_restore_29 rfl rfl ?_
    refine fr_getR (t := 7) (j := 12) (r := 82) dX7_restore_30 fs_X7_19 o_78 rfl rfl (by decide) ?_
    refine fr_callSv (M' := mX7_copy) [_, _] dX7_restore_33 ml_X7_227 mv_X7_copy rfl rfl (Nat.le_of_ble_eq_true rfl) ⟨Nat.le_refl _, Nat.le_refl _⟩ t (fun σ4 t => ?_)
    try dsimp only at t
    refine ar_aload_n (i := 0) dX7_restore_36 rfl rfl ?_
    refine fr_getR (t := 7) (j := 33) (r := 94) dX7_restore_37 fs_X7_55 o_78 rfl rfl (by decide) ?_
    refine ar_aload_n (i := 0) dX7_restore_40 rfl rfl ?_
    refine fr_getR (t := 7) (j := 13) (r := 83) dX7_restore_41 fs_X7_22 o_78 rfl rfl (by decide) ?_
    refine fr_callSv (M' := mX7_copy) [_, _] dX7_restore_44 ml_X7_227 mv_X7_copy rfl rfl (Nat.le_of_ble_eq_true rfl) ⟨Nat.le_refl _, Nat.le_refl _⟩ t (fun σ6 t => ?_)
    try dsimp only at t
    refine ar_aload_n (i := 0) dX7_restore_47 rfl rfl ?_
    refine fr_getR (t := 7) (j := 34) (r := 95) dX7_restore_48 fs_X7_58 o_78 rfl rfl (by decide) ?_
    refine ar_aload_n (i := 0) dX7_restore_51 rfl rfl ?_
    refine fr_getR (t := 7) (j := 21) (r := 87) dX7_restore_52 fs_X7_34 o_78 rfl rfl (by decide) ?_
    refine fr_callSv (M' := mX7_copy) [_, _] dX7_restore_55 ml_X7_227 mv_X7_copy rfl rfl (Nat.le_of_ble_eq_true rfl) ⟨Nat.le_refl _, Nat.le_refl _⟩ t (fun σ8 t => ?_)
    try dsimp only at t
    refine ar_aload_n (i := 0) dX7_restore_58 rfl rfl ?_
    refine ar_aload_n (i := 0) dX7_restore_59 rfl rfl ?_
    refine fr_getI (t := 7) (j := 28) dX7_restore_60 fs_X7_237 o_78 rfl ?_
    refine fr_putI (t := 7) (j := 11) dX7_restore_63 fq_X7_110 o_78 rfl (Or.inl rfl) ?_
    have t := t _ rfl
    refine ar_aload_n (i := 0) dX7_restore_66 rfl rfl ?_
    refine ar_aload_n (i := 0) dX7_restore_67 rfl rfl ?_
    refine fr_getI (t := 7) (j := 29) dX7_restore_68 fs_X7_240 o_78 rfl ?_
    refine fr_putI (t := 7) (j := 9) dX7_restore_71 fq_X7_113 o_78 rfl (Or.inl rfl) ?_
    have t := t _ rfl
    refine ar_aload_n (i := 0) dX7_restore_74 rfl rfl ?_
    refine ar_aload_n (i := 0) dX7_restore_75 rfl rfl ?_
    refine fr_getI (t := 7) (j := 30) dX7_restore_76 fs_X7_243 o_78 rfl ?_
    refine fr_putI (t := 7) (j := 20) dX7_restore_79 fq_X7_116 o_78 rfl (Or.inl rfl) ?_
    have t := t _ rfl
    refine ar_aload_n (i := 0) dX7_restore_82 rfl rfl ?_
    refine fr_getI (t := 7) (j := 9) dX7_restore_83 fs_X7_113 o_78 rfl ?_
    exact fr_iret dX7_restore_86 rfl (Nat.le_refl _) (Nat.le_refl _) t
  · have t := t.2 h1
    refine ar_bipush (v := -103) dX7_restore_11 (by decide) ?_
    exact fr_iret dX7_restore_13 rfl (Nat.le_refl _) (Nat.le_refl _) t

def t_X7_countOf (E : am_E) (d : Nat) (x1 : Int32) (σ : FH) (Q : Int32 → FH → Prop) : Prop :=
  ((x1 = 0 → Q (σ.1 78 6) σ) ∧
  ((x1 = 1 → Q (σ.1 78 7) σ) ∧
  ((x1 = 2 → Q (σ.1 78 11) σ) ∧
  ((x1 = 3 → fMi E d mX7_sumOf [.ref 78, .int 3] σ (fun r6 σ5 => Q r6 σ5)) ∧
  ((x1 = 4 → Q (σ.1 78 9) σ) ∧
  ((x1 = 5 → Q (σ.1 78 20) σ) ∧
  ((x1 = 6 → Q (σ.1 78 1) σ) ∧
  ((x1 = 7 → Q (σ.1 78 8) σ) ∧
  ((x1 = 8 → Q (σ.1 78 14) σ) ∧
  (¬ x1 = 0 → ¬ x1 = 1 → ¬ x1 = 2 → ¬ x1 = 3 → ¬ x1 = 4 → ¬ x1 = 5 → ¬ x1 = 6 → ¬ x1 = 7 → ¬ x1 = 8 → Q (-102) σ))))))))))
set_option maxRecDepth 100000 in
set_option maxHeartbeats 4000000 in
theorem v_X7_countOf {E : am_E} {d : Nat} {σ : FH} {Q : Int32 → FH → Prop} {x1 : Int32} (t : t_X7_countOf E d x1 σ Q) : fMi E (d + 1) mX7_countOf [.ref 78, .int x1] σ Q := by
  refine fr_ofG [some (.ref 78), some (.int x1)] (by decide) rfl (Nat.le_of_ble_eq_true rfl) ?_
  unfold t_X7_countOf at t
  refine ar_iload_n (i := 1) dX7_countOf_0 rfl rfl ?_
  by_cases h1 : x1 = 0
  · have t := t.1 h1
    refine ar_tableIn (tgt := 52) dX7_countOf_1 (by rw [h1]; decide) (by rw [h1]; decide) (by rw [h1]; rfl) (by decide) ?_
    refine ar_aload_n (i := 0) dX7_countOf_52 rfl rfl ?_
    refine fr_getI (t := 7) (j := 6) dX7_countOf_53 fs_X7_104 o_78 rfl ?_
    exact fr_iret dX7_countOf_56 rfl (Nat.le_refl _) (Nat.le_refl _) t
  have t := t.2
  by_cases h2 : x1 = 1
  · have t := t.1 h2
    refine ar_tableIn (tgt := 57) dX7_countOf_1 (by rw [h2]; decide) (by rw [h2]; decide) (by rw [h2]; rfl) (by decide) ?_
    refine ar_aload_n (i := 0) dX7_countOf_57 rfl rfl ?_
    refine fr_getI (t := 7) (j := 7) dX7_countOf_58 fs_X7_107 o_78 rfl ?_
    exact fr_iret dX7_countOf_61 rfl (Nat.le_refl _) (Nat.le_refl _) t
  have t := t.2
  by_cases h3 : x1 = 2
  · have t := t.1 h3
    refine ar_tableIn (tgt := 62) dX7_countOf_1 (by rw [h3]; decide) (by rw [h3]; decide) (by rw [h3]; rfl) (by decide) ?_
    refine ar_aload_n (i := 0) dX7_countOf_62 rfl rfl ?_
    refine fr_getI (t := 7) (j := 11) dX7_countOf_63 fs_X7_110 o_78 rfl ?_
    exact fr_iret dX7_countOf_66 rfl (Nat.le_refl _) (Nat.le_refl _) t
  have t := t.2
  by_cases h4 : x1 = 3
  · have t := t.1 h4
    refine ar_tableIn (tgt := 67) dX7_countOf_1 (by rw [h4]; decide) (by rw [h4]; decide) (by rw [h4]; rfl) (by decide) ?_
    refine ar_aload_n (i := 0) dX7_countOf_67 rfl rfl ?_
    refine ar_iconst (v := 3) dX7_countOf_68 (by decide) ?_
    refine fr_callVi (M' := mX7_sumOf) [_] dX7_countOf_69 ml_X7_234 mv_X7_sumOf rfl rfl o_78 rfl rfl (Nat.le_of_ble_eq_true rfl) ⟨Nat.le_refl _, Nat.le_refl _⟩ t (fun r6 σ5 t => ?_)
    try dsimp only at t
    exact fr_iret dX7_countOf_72 rfl (Nat.le_refl _) (Nat.le_refl _) t
  have t := t.2
  by_cases h7 : x1 = 4
  · have t := t.1 h7
    refine ar_tableIn (tgt := 73) dX7_countOf_1 (by rw [h7]; decide) (by rw [h7]; decide) (by rw [h7]; rfl) (by decide) ?_
    refine ar_aload_n (i := 0) dX7_countOf_73 rfl rfl ?_
    refine fr_getI (t := 7) (j := 9) dX7_countOf_74 fs_X7_113 o_78 rfl ?_
    exact fr_iret dX7_countOf_77 rfl (Nat.le_refl _) (Nat.le_refl _) t
  have t := t.2
  by_cases h8 : x1 = 5
  · have t := t.1 h8
    refine ar_tableIn (tgt := 78) dX7_countOf_1 (by rw [h8]; decide) (by rw [h8]; decide) (by rw [h8]; rfl) (by decide) ?_
    refine ar_aload_n (i := 0) dX7_countOf_78 rfl rfl ?_
    refine fr_getI (t := 7) (j := 20) dX7_countOf_79 fs_X7_116 o_78 rfl ?_
    exact fr_iret dX7_countOf_82 rfl (Nat.le_refl _) (Nat.le_refl _) t
  have t := t.2
  by_cases h9 : x1 = 6
  · have t := t.1 h9
    refine ar_tableIn (tgt := 83) dX7_countOf_1 (by rw [h9]; decide) (by rw [h9]; decide) (by rw [h9]; rfl) (by decide) ?_
    refine ar_aload_n (i := 0) dX7_countOf_83 rfl rfl ?_
    refine fr_getI (t := 7) (j := 1) dX7_countOf_84 fs_X7_71 o_78 rfl ?_
    exact fr_iret dX7_countOf_87 rfl (Nat.le_refl _) (Nat.le_refl _) t
  have t := t.2
  by_cases h10 : x1 = 7
  · have t := t.1 h10
    refine ar_tableIn (tgt := 88) dX7_countOf_1 (by rw [h10]; decide) (by rw [h10]; decide) (by rw [h10]; rfl) (by decide) ?_
    refine ar_aload_n (i := 0) dX7_countOf_88 rfl rfl ?_
    refine fr_getI (t := 7) (j := 8) dX7_countOf_89 fs_X7_119 o_78 rfl ?_
    exact fr_iret dX7_countOf_92 rfl (Nat.le_refl _) (Nat.le_refl _) t
  have t := t.2
  by_cases h11 : x1 = 8
  · have t := t.1 h11
    refine ar_tableIn (tgt := 93) dX7_countOf_1 (by rw [h11]; decide) (by rw [h11]; decide) (by rw [h11]; rfl) (by decide) ?_
    refine ar_aload_n (i := 0) dX7_countOf_93 rfl rfl ?_
    refine fr_getI (t := 7) (j := 14) dX7_countOf_94 fs_X7_185 o_78 rfl ?_
    exact fr_iret dX7_countOf_97 rfl (Nat.le_refl _) (Nat.le_refl _) t
  have t := t.2
  have t := t h1 h2 h3 h4 h7 h8 h9 h10 h11
  refine ar_tableOut (tgt := 98) dX7_countOf_1 (by have q0 := sw_ne h1 (n := 0) (by decide); have q1 := sw_ne h2 (n := 1) (by decide); have q2 := sw_ne h3 (n := 2) (by decide); have q3 := sw_ne h4 (n := 3) (by decide); have q4 := sw_ne h7 (n := 4) (by decide); have q5 := sw_ne h8 (n := 5) (by decide); have q6 := sw_ne h9 (n := 6) (by decide); have q7 := sw_ne h10 (n := 7) (by decide); have q8 := sw_ne h11 (n := 8) (by decide); omega) (by decide) ?_
  refine ar_bipush (v := -102) dX7_countOf_98 (by decide) ?_
  exact fr_iret dX7_countOf_100 rfl (Nat.le_refl _) (Nat.le_refl _) t

def t_X7_count (E : am_E) (d : Nat) (x1 : Int32) (σ : FH) (Q : Int32 → FH → Prop) : Prop :=
  fMi E d mX7_countOf [.ref 78, .int x1] σ (fun r2 σ1 => Q r2 σ1)
set_option maxRecDepth 100000 in
set_option maxHeartbeats 4000000 in
theorem v_X7_count {E : am_E} {d : Nat} {σ : FH} {Q : Int32 → FH → Prop} {x1 : Int32} (t : t_X7_count E d x1 σ Q) : fMi E (d + 1) mX7_count [.ref 78, .int x1] σ Q := by
  refine fr_ofG [some (.ref 78), some (.int x1)] (by decide) rfl (Nat.le_of_ble_eq_true rfl) ?_
  unfold t_X7_count at t
  refine ar_aload_n (i := 0) dX7_count_0 rfl rfl ?_
  refine ar_iload_n (i := 1) dX7_count_1 rfl rfl ?_
  refine fr_callVi (M' := mX7_countOf) [_] dX7_count_2 ml_X7_246 mv_X7_countOf rfl rfl o_78 rfl rfl (Nat.le_of_ble_eq_true rfl) ⟨Nat.le_refl _, Nat.le_refl _⟩ t (fun r2 σ1 t => ?_)
  try dsimp only at t
  exact fr_iret dX7_count_5 rfl (Nat.le_refl _) (Nat.le_refl _) t

def t_X7_say (E : am_E) (d : Nat) (x1 : Int64) (σ : FH) (Q : FH → Prop) : Prop :=
  (∀ σ1 : FH, σ1 = fsJ σ ((31 * σ.2.2) + x1) → Q σ1)
set_option maxRecDepth 100000 in
set_option maxHeartbeats 4000000 in
theorem v_X7_say {E : am_E} {d : Nat} {σ : FH} {Q : FH → Prop} {x1 : Int64} (t : t_X7_say E d x1 σ Q) : fMv E (d + 1) mX7_say [.ref 78, .long x1] σ Q := by
  refine fr_ofG [some (.ref 78), some (.long x1), none] (by decide) rfl (Nat.le_of_ble_eq_true rfl) ?_
  unfold t_X7_say at t
  refine ar_aload_n (i := 0) dX7_say_0 rfl rfl ?_
  refine ar_ldc2 dX7_say_1 ct_X7_249 ?_
  refine ar_aload_n (i := 0) dX7_say_4 rfl rfl ?_
  refine fr_getJ dX7_say_5 fs_X7_251 ?_
  refine ar_lmul dX7_say_8 ?_
  refine ar_lload_n (i := 1) dX7_say_9 rfl rfl ?_
  refine ar_ladd dX7_say_10 ?_
  refine fr_putJ dX7_say_11 fq_X7_251 ?_
  have t := t _ rfl
  exact fr_vret dX7_say_14 rfl (Nat.le_refl _) (Nat.le_refl _) t

/-- X7.digest: the machine at the loop head 9 -/
def h_X7_digest_9 (E : am_E) (d : Nat) (x1 : Int32) (σ : FH) (Q : Int64 → FH → Prop) : Prop := fG E (d + 1) mX7_digest 9 [some (.ref 78), some (.int x1), none] [] σ (qj Q)
/-- X7.digest: the machine at the loop head 50 -/
def h_X7_digest_50 (E : am_E) (d : Nat) (x1 : Int32) (σ : FH) (Q : Int64 → FH → Prop) : Prop := fG E (d + 1) mX7_digest 50 [some (.ref 78), some (.int x1), none] [] σ (qj Q)
/-- X7.digest: the machine at the loop head 141 -/
def h_X7_digest_141 (E : am_E) (d : Nat) (x1 : Int32) (σ : FH) (Q : Int64 → FH → Prop) : Prop := fG E (d + 1) mX7_digest 141 [some (.ref 78), some (.int x1), none] [] σ (qj Q)
/-- X7.digest: the machine at the loop head 168 -/
def h_X7_digest_168 (E : am_E) (d : Nat) (x1 : Int32) (σ : FH) (Q : Int64 → FH → Prop) : Prop := fG E (d + 1) mX7_digest 168 [some (.ref 78), some (.int x1), none] [] σ (qj Q)
/-- X7.digest: the machine at the loop head 60 -/
def h_X7_digest_60 (E : am_E) (d : Nat) (x1 : Int32) (x2 : Int32) (σ : FH) (Q : Int64 → FH → Prop) : Prop := fG E (d + 1) mX7_digest 60 [some (.ref 78), some (.int x1), some (.int x2)] [] σ (qj Q)
/-- X7.digest: the machine at the loop head 19 -/
def h_X7_digest_19 (E : am_E) (d : Nat) (x1 : Int32) (x2 : Int32) (σ : FH) (Q : Int64 → FH → Prop) : Prop := fG E (d + 1) mX7_digest 19 [some (.ref 78), some (.int x1), some (.int x2)] [] σ (qj Q)
def t_X7_digest_168 (E : am_E) (d : Nat) (x1 : Int32) (σ : FH) (Q : Int64 → FH → Prop) : Prop :=
  ((9 ≤ x1 → Q σ.2.2 σ) ∧
  (¬ 9 ≤ x1 → fMi E d mX7_countOf [.ref 78, .int x1] σ (fun r10 σ9 => fMv E d mX7_say [.ref 78, .long r10.toInt64] σ9 (fun σ11 => h_X7_digest_168 E d (x1 + 1) σ11 Q))))
set_option maxRecDepth 100000 in
set_option maxHeartbeats 4000000 in
theorem v_X7_digest_168 {E : am_E} {d : Nat} {σ : FH} {Q : Int64 → FH → Prop} {x1 : Int32} (t : t_X7_digest_168 E d x1 σ Q) : h_X7_digest_168 E d x1 σ Q := by
  unfold h_X7_digest_168
  unfold t_X7_digest_168 at t
  refine ar_iload_n (i := 1) dX7_digest_168 rfl rfl ?_
  refine ar_bipush (v := 9) dX7_digest_169 (by decide) ?_
  refine ar_icmp_ge (tgt := 190) dX7_digest_171 (by decide) (fun h8 => ?_) (fun h8 => ?_)
  · have t := t.1 h8
    refine ar_aload_n (i := 0) dX7_digest_190 rfl rfl ?_
    refine fr_getJ dX7_digest_191 fs_X7_251 ?_
    exact fr_lret dX7_digest_194 rfl (Nat.le_refl _) (Nat.le_refl _) t
  · have t := t.2 h8
    refine ar_aload_n (i := 0) dX7_digest_174 rfl rfl ?_
    refine ar_aload_n (i := 0) dX7_digest_175 rfl rfl ?_
    refine ar_iload_n (i := 1) dX7_digest_176 rfl rfl ?_
    refine fr_callVi (M' := mX7_countOf) [_] dX7_digest_177 ml_X7_246 mv_X7_countOf rfl rfl o_78 rfl rfl (Nat.le_of_ble_eq_true rfl) ⟨Nat.le_refl _, Nat.le_refl _⟩ t (fun r10 σ9 t => ?_)
    try dsimp only at t
    refine ar_i2l dX7_digest_180 ?_
    refine fr_callVv (M' := mX7_say) [_] dX7_digest_181 ml_X7_257 mv_X7_say rfl rfl o_78 rfl rfl (Nat.le_of_ble_eq_true rfl) ⟨Nat.le_refl _, Nat.le_refl _⟩ t (fun σ11 t => ?_)
    try dsimp only at t
    refine ar_iinc (i := 1) (v := _ + 1) (lo2 := [_, _, none]) dX7_digest_184 rfl (ii_1 _) (Nat.le_of_ble_eq_true rfl) rfl rfl ?_
    refine ar_goto (tgt := 168) dX7_digest_187 (by decide) ?_
    exact t
def t_X7_digest_141 (E : am_E) (d : Nat) (x1 : Int32) (σ : FH) (Q : Int64 → FH → Prop) : Prop :=
  (((σ.1 78 1) ≤ x1 → h_X7_digest_168 E d 0 σ Q) ∧
  (¬ (σ.1 78 1) ≤ x1 → (vp_in x1 44 ∧ fMv E d mX7_say [.ref 78, .long ((σ.1 79 x1.toNatClampNeg).toInt64)] σ (fun σ14 => h_X7_digest_141 E d (x1 + 1) σ14 Q))))
set_option maxRecDepth 100000 in
set_option maxHeartbeats 4000000 in
theorem v_X7_digest_141 {E : am_E} {d : Nat} {σ : FH} {Q : Int64 → FH → Prop} {x1 : Int32} (t : t_X7_digest_141 E d x1 σ Q) : h_X7_digest_141 E d x1 σ Q := by
  unfold h_X7_digest_141
  unfold t_X7_digest_141 at t
  refine ar_iload_n (i := 1) dX7_digest_141 rfl rfl ?_
  refine ar_aload_n (i := 0) dX7_digest_142 rfl rfl ?_
  refine fr_getI (t := 7) (j := 1) dX7_digest_143 fs_X7_71 o_78 rfl ?_
  refine ar_icmp_ge (tgt := 166) dX7_digest_146 (by decide) (fun h7 => ?_) (fun h7 => ?_)
  · have t := t.1 h7
    refine ar_iconst (v := 0) dX7_digest_166 (by decide) ?_
    refine ar_istore_n (i := 1) (lo2 := [_, _, none]) dX7_digest_167 rfl (Nat.le_of_ble_eq_true rfl) rfl rfl ?_
    exact t
  · have t := t.2 h7
    refine ar_aload_n (i := 0) dX7_digest_149 rfl rfl ?_
    refine ar_aload_n (i := 0) dX7_digest_150 rfl rfl ?_
    refine fr_getR (t := 7) (j := 0) (r := 79) dX7_digest_151 fs_X7_7 o_78 rfl rfl (by decide) ?_
    refine ar_iload_n (i := 1) dX7_digest_154 rfl rfl ?_
    obtain ⟨h13, t⟩ := t
    refine fr_iald (n := 44) dX7_digest_155 a_79 h13 ?_
    refine ar_i2l dX7_digest_156 ?_
    refine fr_callVv (M' := mX7_say) [_] dX7_digest_157 ml_X7_257 mv_X7_say rfl rfl o_78 rfl rfl (Nat.le_of_ble_eq_true rfl) ⟨Nat.le_refl _, Nat.le_refl _⟩ t (fun σ14 t => ?_)
    try dsimp only at t
    refine ar_iinc (i := 1) (v := _ + 1) (lo2 := [_, _, none]) dX7_digest_160 rfl (ii_1 _) (Nat.le_of_ble_eq_true rfl) rfl rfl ?_
    refine ar_goto (tgt := 141) dX7_digest_163 (by decide) ?_
    exact t
def t_X7_digest_60 (E : am_E) (d : Nat) (x1 : Int32) (x2 : Int32) (σ : FH) (Q : Int64 → FH → Prop) : Prop :=
  ((18 ≤ x2 → h_X7_digest_50 E d (x1 + 1) σ Q) ∧
  (¬ 18 ≤ x2 → ((x2 < 5 → fMi E d mX7_tell [.ref 78, .int x1, .int x2] σ (fun r31 σ30 => fMv E d mX7_say [.ref 78, .long r31.toInt64] σ30 (fun σ32 => h_X7_digest_60 E d x1 (x2 + 1) σ32 Q))) ∧
    (¬ x2 < 5 → ((x2 ≤ 9 → h_X7_digest_60 E d x1 (x2 + 1) σ Q) ∧
      (¬ x2 ≤ 9 → fMi E d mX7_tell [.ref 78, .int x1, .int x2] σ (fun r36 σ35 => fMv E d mX7_say [.ref 78, .long r36.toInt64] σ35 (fun σ37 => h_X7_digest_60 E d x1 (x2 + 1) σ37 Q))))))))
set_option maxRecDepth 100000 in
set_option maxHeartbeats 4000000 in
theorem v_X7_digest_60 {E : am_E} {d : Nat} {σ : FH} {Q : Int64 → FH → Prop} {x1 : Int32} {x2 : Int32} (t : t_X7_digest_60 E d x1 x2 σ Q) : h_X7_digest_60 E d x1 x2 σ Q := by
  unfold h_X7_digest_60
  unfold t_X7_digest_60 at t
  refine ar_iload_n (i := 2) dX7_digest_60 rfl rfl ?_
  refine ar_bipush (v := 18) dX7_digest_61 (by decide) ?_
  refine ar_icmp_ge (tgt := 94) dX7_digest_63 (by decide) (fun h28 => ?_) (fun h28 => ?_)
  · have t := t.1 h28
    refine ar_iinc (i := 1) (v := _ + 1) (lo2 := [_, _, _]) dX7_digest_94 rfl (ii_1 _) (Nat.le_of_ble_eq_true rfl) rfl rfl ?_
    refine ar_goto (tgt := 50) dX7_digest_97 (by decide) ?_
    refine ar_drop 2 (lo2 := [_, _, none]) rfl ?_
    exact t
  · have t := t.2 h28
    refine ar_iload_n (i := 2) dX7_digest_66 rfl rfl ?_
    refine ar_iconst (v := 5) dX7_digest_67 (by decide) ?_
    refine ar_icmp_lt (tgt := 77) dX7_digest_68 (by decide) (fun h29 => ?_) (fun h29 => ?_)
    · have t := t.1 h29
      refine ar_aload_n (i := 0) dX7_digest_77 rfl rfl ?_
      refine ar_aload_n (i := 0) dX7_digest_78 rfl rfl ?_
      refine ar_iload_n (i := 1) dX7_digest_79 rfl rfl ?_
      refine ar_iload_n (i := 2) dX7_digest_80 rfl rfl ?_
      refine fr_callVi (M' := mX7_tell) [_, _] dX7_digest_81 ml_X7_145 mv_X7_tell rfl rfl o_78 rfl rfl (Nat.le_of_ble_eq_true rfl) ⟨Nat.le_refl _, Nat.le_refl _⟩ t (fun r31 σ30 t => ?_)
      try dsimp only at t
      refine ar_i2l dX7_digest_84 ?_
      refine fr_callVv (M' := mX7_say) [_] dX7_digest_85 ml_X7_257 mv_X7_say rfl rfl o_78 rfl rfl (Nat.le_of_ble_eq_true rfl) ⟨Nat.le_refl _, Nat.le_refl _⟩ t (fun σ32 t => ?_)
      try dsimp only at t
      refine ar_iinc (i := 2) (v := _ + 1) (lo2 := [_, _, _]) dX7_digest_88 rfl (ii_1 _) (Nat.le_of_ble_eq_true rfl) rfl rfl ?_
      refine ar_goto (tgt := 60) dX7_digest_91 (by decide) ?_
      exact t
    · have t := t.2 h29
      refine ar_iload_n (i := 2) dX7_digest_71 rfl rfl ?_
      refine ar_bipush (v := 9) dX7_digest_72 (by decide) ?_
      refine ar_icmp_le (tgt := 88) dX7_digest_74 (by decide) (fun h34 => ?_) (fun h34 => ?_)
      · have t := t.1 h34
        refine ar_iinc (i := 2) (v := _ + 1) (lo2 := [_, _, _]) dX7_digest_88 rfl (ii_1 _) (Nat.le_of_ble_eq_true rfl) rfl rfl ?_
        refine ar_goto (tgt := 60) dX7_digest_91 (by decide) ?_
        exact t
      · have t := t.2 h34
        refine ar_aload_n (i := 0) dX7_digest_77 rfl rfl ?_
        refine ar_aload_n (i := 0) dX7_digest_78 rfl rfl ?_
        refine ar_iload_n (i := 1) dX7_digest_79 rfl rfl ?_
        refine ar_iload_n (i := 2) dX7_digest_80 rfl rfl ?_
        refine fr_callVi (M' := mX7_tell) [_, _] dX7_digest_81 ml_X7_145 mv_X7_tell rfl rfl o_78 rfl rfl (Nat.le_of_ble_eq_true rfl) ⟨Nat.le_refl _, Nat.le_refl _⟩ t (fun r36 σ35 t => ?_)
        try dsimp only at t
        refine ar_i2l dX7_digest_84 ?_
        refine fr_callVv (M' := mX7_say) [_] dX7_digest_85 ml_X7_257 mv_X7_say rfl rfl o_78 rfl rfl (Nat.le_of_ble_eq_true rfl) ⟨Nat.le_refl _, Nat.le_refl _⟩ t (fun σ37 t => ?_)
        try dsimp only at t
        refine ar_iinc (i := 2) (v := _ + 1) (lo2 := [_, _, _]) dX7_digest_88 rfl (ii_1 _) (Nat.le_of_ble_eq_true rfl) rfl rfl ?_
        refine ar_goto (tgt := 60) dX7_digest_91 (by decide) ?_
        exact t
def t_X7_digest_50 (E : am_E) (d : Nat) (x1 : Int32) (σ : FH) (Q : Int64 → FH → Prop) : Prop :=
  (((σ.1 78 11) ≤ x1 → fMi E d mX7_lacks [.ref 78] σ (fun r5 σ4 => ((¬ r5 = 0 → h_X7_digest_141 E d 0 σ4 Q) ∧
    (r5 = 0 → fMi E d mX7_rowsBy [.ref 78, .int (-1)] σ4 (fun r17 σ16 => fMv E d mX7_say [.ref 78, .long r17.toInt64] σ16 (fun σ18 => fMi E d mX7_rowsBy [.ref 78, .int (σ18.1 78 7)] σ18 (fun r21 σ20 => fMv E d mX7_say [.ref 78, .long r21.toInt64] σ20 (fun σ22 => fMi E d mX7_lastOf [.ref 78] σ22 (fun r25 σ24 => fMv E d mX7_say [.ref 78, .long r25.toInt64] σ24 (fun σ26 => h_X7_digest_141 E d 0 σ26 Q)))))))))) ∧
  (¬ (σ.1 78 11) ≤ x1 → h_X7_digest_60 E d x1 0 σ Q))
set_option maxRecDepth 100000 in
set_option maxHeartbeats 4000000 in
theorem v_X7_digest_50 {E : am_E} {d : Nat} {σ : FH} {Q : Int64 → FH → Prop} {x1 : Int32} (t : t_X7_digest_50 E d x1 σ Q) : h_X7_digest_50 E d x1 σ Q := by
  unfold h_X7_digest_50
  unfold t_X7_digest_50 at t
  refine ar_iload_n (i := 1) dX7_digest_50 rfl rfl ?_
  refine ar_aload_n (i := 0) dX7_digest_51 rfl rfl ?_
  refine fr_getI (t := 7) (j := 11) dX7_digest_52 fs_X7_110 o_78 rfl ?_
  refine ar_icmp_ge (tgt := 100) dX7_digest_55 (by decide) (fun h3 => ?_) (fun h3 => ?_)
  · have t := t.1 h3
    refine ar_aload_n (i := 0) dX7_digest_100 rfl rfl ?_
    refine fr_callVi (M' := mX7_lacks) [] dX7_digest_101 ml_X7_134 mv_X7_lacks rfl rfl o_78 rfl rfl (Nat.le_of_ble_eq_true rfl) ⟨Nat.le_refl _, Nat.le_refl _⟩ t (fun r5 σ4 t => ?_)
    try dsimp only at t
    refine ar_if_ne (tgt := 139) dX7_digest_104 (by decide) (fun h6 => ?_) (fun h6 => ?_)
    · have t := t.1 h6
      refine ar_iconst (v := 0) dX7_digest_139 (by decide) ?_
      refine ar_istore_n (i := 1) (lo2 := [_, _, none]) dX7_digest_140 rfl (Nat.le_of_ble_eq_true rfl) rfl rfl ?_
      exact t
    · have t := t.2 h6
      refine ar_aload_n (i := 0) dX7_digest_107 rfl rfl ?_
      refine ar_aload_n (i := 0) dX7_digest_108 rfl rfl ?_
      refine ar_iconst (v := -1) dX7_digest_109 (by decide) ?_
      refine fr_callVi (M' := mX7_rowsBy) [_] dX7_digest_110 ml_X7_209 mv_X7_rowsBy rfl rfl o_78 rfl rfl (Nat.le_of_ble_eq_true rfl) ⟨Nat.le_refl _, Nat.le_refl _⟩ t (fun r17 σ16 t => ?_)
      try dsimp only at t
      refine ar_i2l dX7_digest_113 ?_
      refine fr_callVv (M' := mX7_say) [_] dX7_digest_114 ml_X7_257 mv_X7_say rfl rfl o_78 rfl rfl (Nat.le_of_ble_eq_true rfl) ⟨Nat.le_refl _, Nat.le_refl _⟩ t (fun σ18 t => ?_)
      try dsimp only at t
      refine ar_aload_n (i := 0) dX7_digest_117 rfl rfl ?_
      refine ar_aload_n (i := 0) dX7_digest_118 rfl rfl ?_
      refine ar_aload_n (i := 0) dX7_digest_119 rfl rfl ?_
      refine fr_getI (t := 7) (j := 7) dX7_digest_120 fs_X7_107 o_78 rfl ?_
      refine fr_callVi (M' := mX7_rowsBy) [_] dX7_digest_123 ml_X7_209 mv_X7_rowsBy rfl rfl o_78 rfl rfl (Nat.le_of_ble_eq_true rfl) ⟨Nat.le_refl _, Nat.le_refl _⟩ t (fun r21 σ20 t => ?_)
      try dsimp only at t
      refine ar_i2l dX7_digest_126 ?_
      refine fr_callVv (M' := mX7_say) [_] dX7_digest_127 ml_X7_257 mv_X7_say rfl rfl o_78 rfl rfl (Nat.le_of_ble_eq_true rfl) ⟨Nat.le_refl _, Nat.le_refl _⟩ t (fun σ22 t => ?_)
      try dsimp only at t
      refine ar_aload_n (i := 0) dX7_digest_130 rfl rfl ?_
      refine ar_aload_n (i := 0) dX7_digest_131 rfl rfl ?_
      refine fr_callVi (M' := mX7_lastOf) [] dX7_digest_132 ml_X7_212 mv_X7_lastOf rfl rfl o_78 rfl rfl (Nat.le_of_ble_eq_true rfl) ⟨Nat.le_refl _, Nat.le_refl _⟩ t (fun r25 σ24 t => ?_)
      try dsimp only at t
      refine ar_i2l dX7_digest_135 ?_
      refine fr_callVv (M' := mX7_say) [_] dX7_digest_136 ml_X7_257 mv_X7_say rfl rfl o_78 rfl rfl (Nat.le_of_ble_eq_true rfl) ⟨Nat.le_refl _, Nat.le_refl _⟩ t (fun σ26 t => ?_)
      try dsimp only at t
      refine ar_iconst (v := 0) dX7_digest_139 (by decide) ?_
      refine ar_istore_n (i := 1) (lo2 := [_, _, none]) dX7_digest_140 rfl (Nat.le_of_ble_eq_true rfl) rfl rfl ?_
      exact t
  · have t := t.2 h3
    refine ar_iconst (v := 0) dX7_digest_58 (by decide) ?_
    refine ar_istore_n (i := 2) (lo2 := [_, _, _]) dX7_digest_59 rfl (Nat.le_of_ble_eq_true rfl) rfl rfl ?_
    exact t
def t_X7_digest_19 (E : am_E) (d : Nat) (x1 : Int32) (x2 : Int32) (σ : FH) (Q : Int64 → FH → Prop) : Prop :=
  ((6 ≤ x2 → h_X7_digest_9 E d (x1 + 1) σ Q) ∧
  (¬ 6 ≤ x2 → fMi E d mX7_tellRoad [.ref 78, .int x1, .int x2] σ (fun r41 σ40 => fMv E d mX7_say [.ref 78, .long r41.toInt64] σ40 (fun σ42 => h_X7_digest_19 E d x1 (x2 + 1) σ42 Q))))
set_option maxRecDepth 100000 in
set_option maxHeartbeats 4000000 in
theorem v_X7_digest_19 {E : am_E} {d : Nat} {σ : FH} {Q : Int64 → FH → Prop} {x1 : Int32} {x2 : Int32} (t : t_X7_digest_19 E d x1 x2 σ Q) : h_X7_digest_19 E d x1 x2 σ Q := by
  unfold h_X7_digest_19
  unfold t_X7_digest_19 at t
  refine ar_iload_n (i := 2) dX7_digest_19 rfl rfl ?_
  refine ar_bipush (v := 6) dX7_digest_20 (by decide) ?_
  refine ar_icmp_ge (tgt := 42) dX7_digest_22 (by decide) (fun h39 => ?_) (fun h39 => ?_)
  · have t := t.1 h39
    refine ar_iinc (i := 1) (v := _ + 1) (lo2 := [_, _, _]) dX7_digest_42 rfl (ii_1 _) (Nat.le_of_ble_eq_true rfl) rfl rfl ?_
    refine ar_goto (tgt := 9) dX7_digest_45 (by decide) ?_
    refine ar_drop 2 (lo2 := [_, _, none]) rfl ?_
    exact t
  · have t := t.2 h39
    refine ar_aload_n (i := 0) dX7_digest_25 rfl rfl ?_
    refine ar_aload_n (i := 0) dX7_digest_26 rfl rfl ?_
    refine ar_iload_n (i := 1) dX7_digest_27 rfl rfl ?_
    refine ar_iload_n (i := 2) dX7_digest_28 rfl rfl ?_
    refine fr_callVi (M' := mX7_tellRoad) [_, _] dX7_digest_29 ml_X7_128 mv_X7_tellRoad rfl rfl o_78 rfl rfl (Nat.le_of_ble_eq_true rfl) ⟨Nat.le_refl _, Nat.le_refl _⟩ t (fun r41 σ40 t => ?_)
    try dsimp only at t
    refine ar_i2l dX7_digest_32 ?_
    refine fr_callVv (M' := mX7_say) [_] dX7_digest_33 ml_X7_257 mv_X7_say rfl rfl o_78 rfl rfl (Nat.le_of_ble_eq_true rfl) ⟨Nat.le_refl _, Nat.le_refl _⟩ t (fun σ42 t => ?_)
    try dsimp only at t
    refine ar_iinc (i := 2) (v := _ + 1) (lo2 := [_, _, _]) dX7_digest_36 rfl (ii_1 _) (Nat.le_of_ble_eq_true rfl) rfl rfl ?_
    refine ar_goto (tgt := 19) dX7_digest_39 (by decide) ?_
    exact t
def t_X7_digest_9 (E : am_E) (d : Nat) (x1 : Int32) (σ : FH) (Q : Int64 → FH → Prop) : Prop :=
  (((σ.1 78 6) ≤ x1 → h_X7_digest_50 E d 0 σ Q) ∧
  (¬ (σ.1 78 6) ≤ x1 → h_X7_digest_19 E d x1 0 σ Q))
set_option maxRecDepth 100000 in
set_option maxHeartbeats 4000000 in
theorem v_X7_digest_9 {E : am_E} {d : Nat} {σ : FH} {Q : Int64 → FH → Prop} {x1 : Int32} (t : t_X7_digest_9 E d x1 σ Q) : h_X7_digest_9 E d x1 σ Q := by
  unfold h_X7_digest_9
  unfold t_X7_digest_9 at t
  refine ar_iload_n (i := 1) dX7_digest_9 rfl rfl ?_
  refine ar_aload_n (i := 0) dX7_digest_10 rfl rfl ?_
  refine fr_getI (t := 7) (j := 6) dX7_digest_11 fs_X7_104 o_78 rfl ?_
  refine ar_icmp_ge (tgt := 48) dX7_digest_14 (by decide) (fun h2 => ?_) (fun h2 => ?_)
  · have t := t.1 h2
    refine ar_iconst (v := 0) dX7_digest_48 (by decide) ?_
    refine ar_istore_n (i := 1) (lo2 := [_, _, none]) dX7_digest_49 rfl (Nat.le_of_ble_eq_true rfl) rfl rfl ?_
    exact t
  · have t := t.2 h2
    refine ar_iconst (v := 0) dX7_digest_17 (by decide) ?_
    refine ar_istore_n (i := 2) (lo2 := [_, _, _]) dX7_digest_18 rfl (Nat.le_of_ble_eq_true rfl) rfl rfl ?_
    exact t
def t_X7_digest (E : am_E) (d : Nat) (σ : FH) (Q : Int64 → FH → Prop) : Prop :=
  (∀ σ1 : FH, σ1 = fsJ σ 761 → h_X7_digest_9 E d 0 σ1 Q)
set_option maxRecDepth 100000 in
set_option maxHeartbeats 4000000 in
theorem v_X7_digest {E : am_E} {d : Nat} {σ : FH} {Q : Int64 → FH → Prop} (t : t_X7_digest E d σ Q) : fMj E (d + 1) mX7_digest [.ref 78] σ Q := by
  refine fr_ofG [some (.ref 78), none, none] (by decide) rfl (Nat.le_of_ble_eq_true rfl) ?_
  unfold t_X7_digest at t
  refine ar_aload_n (i := 0) dX7_digest_0 rfl rfl ?_
  refine ar_ldc2 dX7_digest_1 ct_X7_255 ?_
  refine fr_putJ dX7_digest_4 fq_X7_251 ?_
  have t := t _ rfl
  refine ar_iconst (v := 0) dX7_digest_7 (by decide) ?_
  refine ar_istore_n (i := 1) (lo2 := [_, _, none]) dX7_digest_8 rfl (Nat.le_of_ble_eq_true rfl) rfl rfl ?_
  exact t

