/-! the verification conditions of CountedTrials (printed by wip/gen/vc.py): t_.. is what is to be shown, v_.. that it is enough -/
def t_X6_letter (E : am_E) (d : Nat) (x1 : Int32) (σ : FH) (Q : Int32 → FH → Prop) : Prop :=
  ((x1 < 1 → Q (-102) σ) ∧
  (¬ x1 < 1 → ((x1 ≤ 126 → fMi E d mX0_append [.ref 2, .int x1] σ (fun r4 σ3 => ((r4 = 0 → Q (-104) σ3) ∧
      (¬ r4 = 0 → Q (σ3.1 2 1) σ3)))) ∧
    (¬ x1 ≤ 126 → Q (-102) σ))))
set_option maxRecDepth 100000 in
set_option maxHeartbeats 4000000 in
theorem v_X6_letter {E : am_E} {d : Nat} {σ : FH} {Q : Int32 → FH → Prop} {x1 : Int32} (t : t_X6_letter E d x1 σ Q) : fMi E (d + 1) mX6_letter [.ref 1, .int x1] σ Q := by
  refine fr_ofG [some (.ref 1), some (.int x1)] (by decide) rfl (Nat.le_of_ble_eq_true rfl) ?_
  unfold t_X6_letter at t
  refine ar_iload_n (i := 1) dX6_letter_0 rfl rfl ?_
  refine ar_iconst (v := 1) dX6_letter_1 (by decide) ?_
  refine ar_icmp_lt (tgt := 11) dX6_letter_2 (by decide) (fun h1 => ?_) (fun h1 => ?_)
  · have t := t.1 h1
    refine ar_bipush (v := -102) dX6_letter_11 (by decide) ?_
    exact fr_iret dX6_letter_13 rfl (Nat.le_refl _) (Nat.le_refl _) t
  · have t := t.2 h1
    refine ar_iload_n (i := 1) dX6_letter_5 rfl rfl ?_
    refine ar_bipush (v := 126) dX6_letter_6 (by decide) ?_
    refine ar_icmp_le (tgt := 14) dX6_letter_8 (by decide) (fun h2 => ?_) (fun h2 => ?_)
    · have t := t.1 h2
      refine ar_aload_n (i := 0) dX6_letter_14 rfl rfl ?_
      refine fr_getR (t := 6) (j := 0) (r := 2) dX6_letter_15 fs_X6_10 o_1 rfl rfl (by decide) ?_
      refine ar_iload_n (i := 1) dX6_letter_18 rfl rfl ?_
      refine fr_callVi (M' := mX0_append) [_] dX6_letter_19 ml_X6_54 mv_X0_append rfl rfl o_2 rfl rfl (Nat.le_of_ble_eq_true rfl) ⟨Nat.le_refl _, Nat.le_refl _⟩ t (fun r4 σ3 t => ?_)
      try dsimp only at t
      refine ar_if_eq (tgt := 35) dX6_letter_22 (by decide) (fun h5 => ?_) (fun h5 => ?_)
      · have t := t.1 h5
        refine ar_bipush (v := -104) dX6_letter_35 (by decide) ?_
        exact fr_iret dX6_letter_37 rfl (Nat.le_refl _) (Nat.le_refl _) t
      · have t := t.2 h5
        refine ar_aload_n (i := 0) dX6_letter_25 rfl rfl ?_
        refine fr_getR (t := 6) (j := 0) (r := 2) dX6_letter_26 fs_X6_10 o_1 rfl rfl (by decide) ?_
        refine fr_getI (t := 0) (j := 1) dX6_letter_29 fs_X6_58 o_2 rfl ?_
        refine ar_goto (tgt := 37) dX6_letter_32 (by decide) ?_
        exact fr_iret dX6_letter_37 rfl (Nat.le_refl _) (Nat.le_refl _) t
    · have t := t.2 h2
      refine ar_bipush (v := -102) dX6_letter_11 (by decide) ?_
      exact fr_iret dX6_letter_13 rfl (Nat.le_refl _) (Nat.le_refl _) t

def t_X6_blank (E : am_E) (d : Nat) (σ : FH) (Q : Int32 → FH → Prop) : Prop :=
  (∀ σ1 : FH, σ1 = fsI σ 2 1 0 → Q (σ.1 2 1) σ1)
set_option maxRecDepth 100000 in
set_option maxHeartbeats 4000000 in
theorem v_X6_blank {E : am_E} {d : Nat} {σ : FH} {Q : Int32 → FH → Prop} (t : t_X6_blank E d σ Q) : fMi E (d + 1) mX6_blank [.ref 1] σ Q := by
  refine fr_ofG [some (.ref 1), none] (by decide) rfl (Nat.le_of_ble_eq_true rfl) ?_
  unfold t_X6_blank at t
  refine ar_aload_n (i := 0) dX6_blank_0 rfl rfl ?_
  refine fr_getR (t := 6) (j := 0) (r := 2) dX6_blank_1 fs_X6_10 o_1 rfl rfl (by decide) ?_
  refine fr_getI (t := 0) (j := 1) dX6_blank_4 fs_X6_58 o_2 rfl ?_
  refine ar_istore_n (i := 1) (lo2 := [_, _]) dX6_blank_7 rfl (Nat.le_of_ble_eq_true rfl) rfl rfl ?_
  refine ar_aload_n (i := 0) dX6_blank_8 rfl rfl ?_
  refine fr_getR (t := 6) (j := 0) (r := 2) dX6_blank_9 fs_X6_10 o_1 rfl rfl (by decide) ?_
  refine ar_iconst (v := 0) dX6_blank_12 (by decide) ?_
  refine fr_putI (t := 0) (j := 1) dX6_blank_13 fq_X6_58 o_2 rfl (Or.inl rfl) ?_
  have t := t _ rfl
  refine ar_iload_n (i := 1) dX6_blank_16 rfl rfl ?_
  exact fr_iret dX6_blank_17 rfl (Nat.le_refl _) (Nat.le_refl _) t

def t_X6_fault (E : am_E) (d : Nat) (σ : FH) (Q : Int32 → FH → Prop) : Prop :=
  fMi E d mX0_firstWrong [.ref 2] σ (fun r2 σ1 => Q r2 σ1)
set_option maxRecDepth 100000 in
set_option maxHeartbeats 4000000 in
theorem v_X6_fault {E : am_E} {d : Nat} {σ : FH} {Q : Int32 → FH → Prop} (t : t_X6_fault E d σ Q) : fMi E (d + 1) mX6_fault [.ref 1] σ Q := by
  refine fr_ofG [some (.ref 1)] (by decide) rfl (Nat.le_of_ble_eq_true rfl) ?_
  unfold t_X6_fault at t
  refine ar_aload_n (i := 0) dX6_fault_0 rfl rfl ?_
  refine fr_getR (t := 6) (j := 0) (r := 2) dX6_fault_1 fs_X6_10 o_1 rfl rfl (by decide) ?_
  refine fr_callVi (M' := mX0_firstWrong) [] dX6_fault_4 ml_X6_61 mv_X0_firstWrong rfl rfl o_2 rfl rfl (Nat.le_of_ble_eq_true rfl) ⟨Nat.le_refl _, Nat.le_refl _⟩ t (fun r2 σ1 t => ?_)
  try dsimp only at t
  exact fr_iret dX6_fault_7 rfl (Nat.le_refl _) (Nat.le_refl _) t

def t_X6_roads (E : am_E) (d : Nat) (σ : FH) (Q : Int32 → FH → Prop) : Prop :=
  fMi E d mX0_isWhole [.ref 2] σ (fun r2 σ1 => ((¬ r2 = 0 → fMv E d mX5_startAnew [.ref 4] σ1 (fun σ4 => fMv E d mX0_layRoads [.ref 2, .ref 4] σ4 (fun σ6 => (∀ σ8 : FH, σ8 = fsI σ6 2 1 0 → (∀ σ9 : FH, σ9 = fsI σ8 1 6 0 → (∀ σ10 : FH, σ10 = fsI σ9 1 7 ((σ9.1 1 7) + 1) → fMv E d mX3_outdate [.ref 71] σ10 (fun σ11 => Q (σ11.1 4 1) σ11))))))) ∧
  (r2 = 0 → Q (-103) σ1)))
set_option maxRecDepth 100000 in
set_option maxHeartbeats 4000000 in
theorem v_X6_roads {E : am_E} {d : Nat} {σ : FH} {Q : Int32 → FH → Prop} (t : t_X6_roads E d σ Q) : fMi E (d + 1) mX6_roads [.ref 1] σ Q := by
  refine fr_ofG [some (.ref 1)] (by decide) rfl (Nat.le_of_ble_eq_true rfl) ?_
  unfold t_X6_roads at t
  refine ar_aload_n (i := 0) dX6_roads_0 rfl rfl ?_
  refine fr_getR (t := 6) (j := 0) (r := 2) dX6_roads_1 fs_X6_10 o_1 rfl rfl (by decide) ?_
  refine fr_callVi (M' := mX0_isWhole) [] dX6_roads_4 ml_X6_65 mv_X0_isWhole rfl rfl o_2 rfl rfl (Nat.le_of_ble_eq_true rfl) ⟨Nat.le_refl _, Nat.le_refl _⟩ t (fun r2 σ1 t => ?_)
  try dsimp only at t
  refine ar_if_ne (tgt := 13) dX6_roads_7 (by decide) (fun h3 => ?_) (fun h3 => ?_)
  · have t := t.1 h3
    refine ar_aload_n (i := 0) dX6_roads_13 rfl rfl ?_
    refine fr_getR (t := 6) (j := 1) (r := 4) dX6_roads_14 fs_X6_19 o_1 rfl rfl (by decide) ?_
    refine fr_callVv (M' := mX5_startAnew) [] dX6_roads_17 ml_X6_69 mv_X5_startAnew rfl rfl wd_4.o rfl rfl (Nat.le_of_ble_eq_true rfl) ⟨Nat.le_refl _, Nat.le_refl _⟩ t (fun σ4 t => ?_)
    try dsimp only at t
    refine ar_aload_n (i := 0) dX6_roads_20 rfl rfl ?_
    refine fr_getR (t := 6) (j := 0) (r := 2) dX6_roads_21 fs_X6_10 o_1 rfl rfl (by decide) ?_
    refine ar_aload_n (i := 0) dX6_roads_24 rfl rfl ?_
    refine fr_getR (t := 6) (j := 1) (r := 4) dX6_roads_25 fs_X6_19 o_1 rfl rfl (by decide) ?_
    refine fr_callVv (M' := mX0_layRoads) [_] dX6_roads_28 ml_X6_72 mv_X0_layRoads rfl rfl o_2 rfl rfl (Nat.le_of_ble_eq_true rfl) ⟨Nat.le_refl _, Nat.le_refl _⟩ t (fun σ6 t => ?_)
    try dsimp only at t
    refine ar_aload_n (i := 0) dX6_roads_31 rfl rfl ?_
    refine fr_getR (t := 6) (j := 0) (r := 2) dX6_roads_32 fs_X6_10 o_1 rfl rfl (by decide) ?_
    refine ar_iconst (v := 0) dX6_roads_35 (by decide) ?_
    refine fr_putI (t := 0) (j := 1) dX6_roads_36 fq_X6_58 o_2 rfl (Or.inl rfl) ?_
    have t := t _ rfl
    refine ar_aload_n (i := 0) dX6_roads_39 rfl rfl ?_
    refine ar_iconst (v := 0) dX6_roads_40 (by decide) ?_
    refine fr_putI (t := 6) (j := 6) dX6_roads_41 fq_X6_43 o_1 rfl (Or.inr (Or.inl rfl)) ?_
    have t := t _ rfl
    refine ar_aload_n (i := 0) dX6_roads_44 rfl rfl ?_
    refine ar_dup dX6_roads_45 rfl ?_
    refine fr_getI (t := 6) (j := 7) dX6_roads_46 fs_X6_47 o_1 rfl ?_
    refine ar_iconst (v := 1) dX6_roads_49 (by decide) ?_
    refine ar_iadd dX6_roads_50 ?_
    refine fr_putI (t := 6) (j := 7) dX6_roads_51 fq_X6_47 o_1 rfl (Or.inl rfl) ?_
    have t := t _ rfl
    refine ar_aload_n (i := 0) dX6_roads_54 rfl rfl ?_
    refine fr_getR (t := 6) (j := 5) (r := 71) dX6_roads_55 fs_X6_39 o_1 rfl rfl (by decide) ?_
    refine fr_callVv (M' := mX3_outdate) [] dX6_roads_58 ml_X6_76 mv_X3_outdate rfl rfl o_71 rfl rfl (Nat.le_of_ble_eq_true rfl) ⟨Nat.le_refl _, Nat.le_refl _⟩ t (fun σ11 t => ?_)
    try dsimp only at t
    refine ar_aload_n (i := 0) dX6_roads_61 rfl rfl ?_
    refine fr_getR (t := 6) (j := 1) (r := 4) dX6_roads_62 fs_X6_19 o_1 rfl rfl (by decide) ?_
    refine fr_getI (t := 5) (j := 1) dX6_roads_65 fs_X6_79 wd_4.o rfl ?_
    exact fr_iret dX6_roads_68 rfl (Nat.le_refl _) (Nat.le_refl _) t
  · have t := t.2 h3
    refine ar_bipush (v := -103) dX6_roads_10 (by decide) ?_
    exact fr_iret dX6_roads_12 rfl (Nat.le_refl _) (Nat.le_refl _) t

def t_X6_road (E : am_E) (d : Nat) (x1 : Int32) (x2 : Int32) (σ : FH) (Q : Int32 → FH → Prop) : Prop :=
  fMi E d mX6_isRoad [.ref 1, .int x1] σ (fun r2 σ1 => ((¬ r2 = 0 → (vp_in x1 8 ∧ ((x2 = 0 → Q (σ1.1 (8 + x1.toNatClampNeg) 1) σ1) ∧
    ((x2 = 1 → Q (σ1.1 (8 + x1.toNatClampNeg) 2) σ1) ∧
    ((x2 = 2 → Q (σ1.1 (8 + x1.toNatClampNeg) 3) σ1) ∧
    ((x2 = 3 → Q (σ1.1 (8 + x1.toNatClampNeg) 4) σ1) ∧
    ((x2 = 4 → fMi E d mX2_worth [.ref (8 + x1.toNatClampNeg)] σ1 (fun r11 σ10 => Q r11 σ10)) ∧
    ((x2 = 5 → fMi E d mX6_asNumber [.int (σ1.1 (8 + x1.toNatClampNeg) 5)] σ1 (fun r14 σ13 => Q r14 σ13)) ∧
    (¬ x2 = 0 → ¬ x2 = 1 → ¬ x2 = 2 → ¬ x2 = 3 → ¬ x2 = 4 → ¬ x2 = 5 → Q (-102) σ1))))))))) ∧
  (r2 = 0 → Q (-101) σ1)))
set_option maxRecDepth 100000 in
set_option maxHeartbeats 4000000 in
theorem v_X6_road {E : am_E} {d : Nat} {σ : FH} {Q : Int32 → FH → Prop} {x1 : Int32} {x2 : Int32} (t : t_X6_road E d x1 x2 σ Q) : fMi E (d + 1) mX6_road [.ref 1, .int x1, .int x2] σ Q := by
  refine fr_ofG [some (.ref 1), some (.int x1), some (.int x2), none] (by decide) rfl (Nat.le_of_ble_eq_true rfl) ?_
  unfold t_X6_road at t
  refine ar_aload_n (i := 0) dX6_road_0 rfl rfl ?_
  refine ar_iload_n (i := 1) dX6_road_1 rfl rfl ?_
  refine fr_callVi (M' := mX6_isRoad) [_] dX6_road_2 ml_X6_82 mv_X6_isRoad rfl rfl o_1 rfl rfl (Nat.le_of_ble_eq_true rfl) ⟨Nat.le_refl _, Nat.le_refl _⟩ t (fun r2 σ1 t => ?_)
  try dsimp only at t
  refine ar_if_ne (tgt := 11) dX6_road_5 (by decide) (fun h3 => ?_) (fun h3 => ?_)
  · have t := t.1 h3
    refine ar_aload_n (i := 0) dX6_road_11 rfl rfl ?_
    refine fr_getR (t := 6) (j := 1) (r := 4) dX6_road_12 fs_X6_19 o_1 rfl rfl (by decide) ?_
    refine fr_getR (t := 5) (j := 6) (r := 6) dX6_road_15 fs_X6_85 wd_4.o rfl rfl (by decide) ?_
    refine ar_iload_n (i := 1) dX6_road_18 rfl rfl ?_
    obtain ⟨h4, t⟩ := t
    refine fr_aaldR (w := 4) dX6_road_19 wd_4 h4 ?_
    refine ar_astore_n (i := 3) (lo2 := [_, _, _, _]) dX6_road_20 rfl (Nat.le_of_ble_eq_true rfl) rfl rfl ?_
    refine ar_iload_n (i := 2) dX6_road_21 rfl rfl ?_
    by_cases h5 : x2 = 0
    · have t := t.1 h5
      refine ar_tableIn (tgt := 60) dX6_road_22 (by rw [h5]; decide) (by rw [h5]; decide) (by rw [h5]; rfl) (by decide) ?_
      refine ar_aload_n (i := 3) dX6_road_60 rfl rfl ?_
      refine fr_getI (t := 2) (j := 1) dX6_road_61 fs_X6_89 (wd_4.rd h4).o rfl ?_
      exact fr_iret dX6_road_64 rfl (Nat.le_refl _) (Nat.le_refl _) t
    have t := t.2
    by_cases h6 : x2 = 1
    · have t := t.1 h6
      refine ar_tableIn (tgt := 65) dX6_road_22 (by rw [h6]; decide) (by rw [h6]; decide) (by rw [h6]; rfl) (by decide) ?_
      refine ar_aload_n (i := 3) dX6_road_65 rfl rfl ?_
      refine fr_getI (t := 2) (j := 2) dX6_road_66 fs_X6_94 (wd_4.rd h4).o rfl ?_
      exact fr_iret dX6_road_69 rfl (Nat.le_refl _) (Nat.le_refl _) t
    have t := t.2
    by_cases h7 : x2 = 2
    · have t := t.1 h7
      refine ar_tableIn (tgt := 70) dX6_road_22 (by rw [h7]; decide) (by rw [h7]; decide) (by rw [h7]; rfl) (by decide) ?_
      refine ar_aload_n (i := 3) dX6_road_70 rfl rfl ?_
      refine fr_getI (t := 2) (j := 3) dX6_road_71 fs_X6_97 (wd_4.rd h4).o rfl ?_
      exact fr_iret dX6_road_74 rfl (Nat.le_refl _) (Nat.le_refl _) t
    have t := t.2
    by_cases h8 : x2 = 3
    · have t := t.1 h8
      refine ar_tableIn (tgt := 75) dX6_road_22 (by rw [h8]; decide) (by rw [h8]; decide) (by rw [h8]; rfl) (by decide) ?_
      refine ar_aload_n (i := 3) dX6_road_75 rfl rfl ?_
      refine fr_getI (t := 2) (j := 4) dX6_road_76 fs_X6_100 (wd_4.rd h4).o rfl ?_
      exact fr_iret dX6_road_79 rfl (Nat.le_refl _) (Nat.le_refl _) t
    have t := t.2
    by_cases h9 : x2 = 4
    · have t := t.1 h9
      refine ar_tableIn (tgt := 80) dX6_road_22 (by rw [h9]; decide) (by rw [h9]; decide) (by rw [h9]; rfl) (by decide) ?_
      refine ar_aload_n (i := 3) dX6_road_80 rfl rfl ?_
      refine fr_callVi (M' := mX2_worth) [] dX6_road_81 ml_X6_103 mv_X2_worth rfl rfl (wd_4.rd h4).o rfl rfl (Nat.le_of_ble_eq_true rfl) ⟨Nat.le_refl _, Nat.le_refl _⟩ t (fun r11 σ10 t => ?_)
      try dsimp only at t
      exact fr_iret dX6_road_84 rfl (Nat.le_refl _) (Nat.le_refl _) t
    have t := t.2
    by_cases h12 : x2 = 5
    · have t := t.1 h12
      refine ar_tableIn (tgt := 85) dX6_road_22 (by rw [h12]; decide) (by rw [h12]; decide) (by rw [h12]; rfl) (by decide) ?_
      refine ar_aload_n (i := 3) dX6_road_85 rfl rfl ?_
      refine fr_getI (t := 2) (j := 5) dX6_road_86 fs_X6_106 (wd_4.rd h4).o rfl ?_
      refine fr_callSi (M' := mX6_asNumber) [_] dX6_road_89 ml_X6_109 mv_X6_asNumber rfl rfl (Nat.le_of_ble_eq_true rfl) ⟨Nat.le_refl _, Nat.le_refl _⟩ t (fun r14 σ13 t => ?_)
      try dsimp only at t
      exact fr_iret dX6_road_92 rfl (Nat.le_refl _) (Nat.le_refl _) t
    have t := t.2
    have t := t h5 h6 h7 h8 h9 h12
    refine ar_tableOut (tgt := 93) dX6_road_22 (by have q0 := sw_ne h5 (n := 0) (by decide); have q1 := sw_ne h6 (n := 1) (by decide); have q2 := sw_ne h7 (n := 2) (by decide); have q3 := sw_ne h8 (n := 3) (by decide); have q4 := sw_ne h9 (n := 4) (by decide); have q5 := sw_ne h12 (n := 5) (by decide); omega) (by decide) ?_
    refine ar_bipush (v := -102) dX6_road_93 (by decide) ?_
    exact fr_iret dX6_road_95 rfl (Nat.le_refl _) (Nat.le_refl _) t
  · have t := t.2 h3
    refine ar_bipush (v := -101) dX6_road_8 (by decide) ?_
    exact fr_iret dX6_road_10 rfl (Nat.le_refl _) (Nat.le_refl _) t

def t_X6_as (E : am_E) (d : Nat) (x1 : Int32) (x2 : Int32) (σ : FH) (Q : Int32 → FH → Prop) : Prop :=
  fMi E d mX6_isRoad [.ref 1, .int x1] σ (fun r2 σ1 => ((¬ r2 = 0 → ((x2 < 0 → Q (-102) σ1) ∧
    (¬ x2 < 0 → ((x2 ≤ 4 → (vp_in x1 8 ∧ fMi E d mX2_isOfKind [.ref (8 + x1.toNatClampNeg), .int x2] σ1 (fun r8 σ7 => ((r8 = 0 → Q (-1) σ7) ∧
        (¬ r8 = 0 → Q x1 σ7))))) ∧
      (¬ x2 ≤ 4 → Q (-102) σ1))))) ∧
  (r2 = 0 → Q (-101) σ1)))
set_option maxRecDepth 100000 in
set_option maxHeartbeats 4000000 in
theorem v_X6_as {E : am_E} {d : Nat} {σ : FH} {Q : Int32 → FH → Prop} {x1 : Int32} {x2 : Int32} (t : t_X6_as E d x1 x2 σ Q) : fMi E (d + 1) mX6_as [.ref 1, .int x1, .int x2] σ Q := by
  refine fr_ofG [some (.ref 1), some (.int x1), some (.int x2)] (by decide) rfl (Nat.le_of_ble_eq_true rfl) ?_
  unfold t_X6_as at t
  refine ar_aload_n (i := 0) dX6_as_0 rfl rfl ?_
  refine ar_iload_n (i := 1) dX6_as_1 rfl rfl ?_
  refine fr_callVi (M' := mX6_isRoad) [_] dX6_as_2 ml_X6_82 mv_X6_isRoad rfl rfl o_1 rfl rfl (Nat.le_of_ble_eq_true rfl) ⟨Nat.le_refl _, Nat.le_refl _⟩ t (fun r2 σ1 t => ?_)
  try dsimp only at t
  refine ar_if_ne (tgt := 11) dX6_as_5 (by decide) (fun h3 => ?_) (fun h3 => ?_)
  · have t := t.1 h3
    refine ar_iload_n (i := 2) dX6_as_11 rfl rfl ?_
    refine ar_if_lt (tgt := 20) dX6_as_12 (by decide) (fun h4 => ?_) (fun h4 => ?_)
    · have t := t.1 h4
      refine ar_bipush (v := -102) dX6_as_20 (by decide) ?_
      exact fr_iret dX6_as_22 rfl (Nat.le_refl _) (Nat.le_refl _) t
    · have t := t.2 h4
      refine ar_iload_n (i := 2) dX6_as_15 rfl rfl ?_
      refine ar_iconst (v := 4) dX6_as_16 (by decide) ?_
      refine ar_icmp_le (tgt := 23) dX6_as_17 (by decide) (fun h5 => ?_) (fun h5 => ?_)
      · have t := t.1 h5
        refine ar_aload_n (i := 0) dX6_as_23 rfl rfl ?_
        refine fr_getR (t := 6) (j := 1) (r := 4) dX6_as_24 fs_X6_19 o_1 rfl rfl (by decide) ?_
        refine fr_getR (t := 5) (j := 6) (r := 6) dX6_as_27 fs_X6_85 wd_4.o rfl rfl (by decide) ?_
        refine ar_iload_n (i := 1) dX6_as_30 rfl rfl ?_
        obtain ⟨h6, t⟩ := t
        refine fr_aaldR (w := 4) dX6_as_31 wd_4 h6 ?_
        refine ar_iload_n (i := 2) dX6_as_32 rfl rfl ?_
        refine fr_callVi (M' := mX2_isOfKind) [_] dX6_as_33 ml_X6_113 mv_X2_isOfKind rfl rfl (wd_4.rd h6).o rfl rfl (Nat.le_of_ble_eq_true rfl) ⟨Nat.le_refl _, Nat.le_refl _⟩ t (fun r8 σ7 t => ?_)
        try dsimp only at t
        refine ar_if_eq (tgt := 43) dX6_as_36 (by decide) (fun h9 => ?_) (fun h9 => ?_)
        · have t := t.1 h9
          refine ar_iconst (v := -1) dX6_as_43 (by decide) ?_
          exact fr_iret dX6_as_44 rfl (Nat.le_refl _) (Nat.le_refl _) t
        · have t := t.2 h9
          refine ar_iload_n (i := 1) dX6_as_39 rfl rfl ?_
          refine ar_goto (tgt := 44) dX6_as_40 (by decide) ?_
          exact fr_iret dX6_as_44 rfl (Nat.le_refl _) (Nat.le_refl _) t
      · have t := t.2 h5
        refine ar_bipush (v := -102) dX6_as_20 (by decide) ?_
        exact fr_iret dX6_as_22 rfl (Nat.le_refl _) (Nat.le_refl _) t
  · have t := t.2 h3
    refine ar_bipush (v := -101) dX6_as_8 (by decide) ?_
    exact fr_iret dX6_as_10 rfl (Nat.le_refl _) (Nat.le_refl _) t

def t_X6_worsen (E : am_E) (d : Nat) (x1 : Int32) (x2 : Int32) (σ : FH) (Q : Int32 → FH → Prop) : Prop :=
  fMi E d mX6_isRoad [.ref 1, .int x1] σ (fun r2 σ1 => ((¬ r2 = 0 → ((x2 < 1 → Q (-102) σ1) ∧
    (¬ x2 < 1 → ((x2 ≤ 9 → (vp_in x1 8 ∧ (∀ v7 : Int32, v7 = (σ1.1 (8 + x1.toNatClampNeg) 4) → (vp_in x1 8 ∧ (∀ σ9 : FH, σ9 = fsI σ1 (8 + x1.toNatClampNeg) 4 x2 → Q v7 σ9))))) ∧
      (¬ x2 ≤ 9 → Q (-102) σ1))))) ∧
  (r2 = 0 → Q (-101) σ1)))
set_option maxRecDepth 100000 in
set_option maxHeartbeats 4000000 in
theorem v_X6_worsen {E : am_E} {d : Nat} {σ : FH} {Q : Int32 → FH → Prop} {x1 : Int32} {x2 : Int32} (t : t_X6_worsen E d x1 x2 σ Q) : fMi E (d + 1) mX6_worsen [.ref 1, .int x1, .int x2] σ Q := by
  refine fr_ofG [some (.ref 1), some (.int x1), some (.int x2), none] (by decide) rfl (Nat.le_of_ble_eq_true rfl) ?_
  unfold t_X6_worsen at t
  refine ar_aload_n (i := 0) dX6_worsen_0 rfl rfl ?_
  refine ar_iload_n (i := 1) dX6_worsen_1 rfl rfl ?_
  refine fr_callVi (M' := mX6_isRoad) [_] dX6_worsen_2 ml_X6_82 mv_X6_isRoad rfl rfl o_1 rfl rfl (Nat.le_of_ble_eq_true rfl) ⟨Nat.le_refl _, Nat.le_refl _⟩ t (fun r2 σ1 t => ?_)
  try dsimp only at t
  refine ar_if_ne (tgt := 11) dX6_worsen_5 (by decide) (fun h3 => ?_) (fun h3 => ?_)
  · have t := t.1 h3
    refine ar_iload_n (i := 2) dX6_worsen_11 rfl rfl ?_
    refine ar_iconst (v := 1) dX6_worsen_12 (by decide) ?_
    refine ar_icmp_lt (tgt := 22) dX6_worsen_13 (by decide) (fun h4 => ?_) (fun h4 => ?_)
    · have t := t.1 h4
      refine ar_bipush (v := -102) dX6_worsen_22 (by decide) ?_
      exact fr_iret dX6_worsen_24 rfl (Nat.le_refl _) (Nat.le_refl _) t
    · have t := t.2 h4
      refine ar_iload_n (i := 2) dX6_worsen_16 rfl rfl ?_
      refine ar_bipush (v := 9) dX6_worsen_17 (by decide) ?_
      refine ar_icmp_le (tgt := 25) dX6_worsen_19 (by decide) (fun h5 => ?_) (fun h5 => ?_)
      · have t := t.1 h5
        refine ar_aload_n (i := 0) dX6_worsen_25 rfl rfl ?_
        refine fr_getR (t := 6) (j := 1) (r := 4) dX6_worsen_26 fs_X6_19 o_1 rfl rfl (by decide) ?_
        refine fr_getR (t := 5) (j := 6) (r := 6) dX6_worsen_29 fs_X6_85 wd_4.o rfl rfl (by decide) ?_
        refine ar_iload_n (i := 1) dX6_worsen_32 rfl rfl ?_
        obtain ⟨h6, t⟩ := t
        refine fr_aaldR (w := 4) dX6_worsen_33 wd_4 h6 ?_
        refine fr_getI (t := 2) (j := 4) dX6_worsen_34 fs_X6_100 (wd_4.rd h6).o rfl ?_
        refine ar_istore_n (i := 3) (lo2 := [_, _, _, _]) dX6_worsen_37 rfl (Nat.le_of_ble_eq_true rfl) rfl rfl ?_
        have t := t _ rfl
        refine ar_aload_n (i := 0) dX6_worsen_38 rfl rfl ?_
        refine fr_getR (t := 6) (j := 1) (r := 4) dX6_worsen_39 fs_X6_19 o_1 rfl rfl (by decide) ?_
        refine fr_getR (t := 5) (j := 6) (r := 6) dX6_worsen_42 fs_X6_85 wd_4.o rfl rfl (by decide) ?_
        refine ar_iload_n (i := 1) dX6_worsen_45 rfl rfl ?_
        obtain ⟨h8, t⟩ := t
        refine fr_aaldR (w := 4) dX6_worsen_46 wd_4 h8 ?_
        refine ar_iload_n (i := 2) dX6_worsen_47 rfl rfl ?_
        refine fr_putI (t := 2) (j := 4) dX6_worsen_48 fq_X6_100 (wd_4.rd h8).o rfl (Or.inl rfl) ?_
        have t := t _ rfl
        refine ar_iload_n (i := 3) dX6_worsen_51 rfl rfl ?_
        exact fr_iret dX6_worsen_52 rfl (Nat.le_refl _) (Nat.le_refl _) t
      · have t := t.2 h5
        refine ar_bipush (v := -102) dX6_worsen_22 (by decide) ?_
        exact fr_iret dX6_worsen_24 rfl (Nat.le_refl _) (Nat.le_refl _) t
  · have t := t.2 h3
    refine ar_bipush (v := -101) dX6_worsen_8 (by decide) ?_
    exact fr_iret dX6_worsen_10 rfl (Nat.le_refl _) (Nat.le_refl _) t

def t_X6_licence (E : am_E) (d : Nat) (x1 : Int32) (x2 : Int32) (σ : FH) (Q : Int32 → FH → Prop) : Prop :=
  fMi E d mX6_isRoad [.ref 1, .int x1] σ (fun r2 σ1 => ((¬ r2 = 0 → (vp_in x1 8 ∧ fMi E d mX6_asNumber [.int (σ1.1 (8 + x1.toNatClampNeg) 5)] σ1 (fun r6 σ5 => (vp_in x1 8 ∧ ((x2 = 0 ∨ x2 = 1) ∧ (∀ σ8 : FH, σ8 = fsI σ5 (8 + x1.toNatClampNeg) 5 x2 → fMv E d mX3_outdate [.ref 71] σ8 (fun σ10 => Q r6 σ10))))))) ∧
  (r2 = 0 → Q (-101) σ1)))
set_option maxRecDepth 100000 in
set_option maxHeartbeats 4000000 in
theorem v_X6_licence {E : am_E} {d : Nat} {σ : FH} {Q : Int32 → FH → Prop} {x1 : Int32} {x2 : Int32} (t : t_X6_licence E d x1 x2 σ Q) : fMi E (d + 1) mX6_licence [.ref 1, .int x1, .int x2] σ Q := by
  refine fr_ofG [some (.ref 1), some (.int x1), some (.int x2), none] (by decide) rfl (Nat.le_of_ble_eq_true rfl) ?_
  unfold t_X6_licence at t
  refine ar_aload_n (i := 0) dX6_licence_0 rfl rfl ?_
  refine ar_iload_n (i := 1) dX6_licence_1 rfl rfl ?_
  refine fr_callVi (M' := mX6_isRoad) [_] dX6_licence_2 ml_X6_82 mv_X6_isRoad rfl rfl o_1 rfl rfl (Nat.le_of_ble_eq_true rfl) ⟨Nat.le_refl _, Nat.le_refl _⟩ t (fun r2 σ1 t => ?_)
  try dsimp only at t
  refine ar_if_ne (tgt := 11) dX6_licence_5 (by decide) (fun h3 => ?_) (fun h3 => ?_)
  · have t := t.1 h3
    refine ar_aload_n (i := 0) dX6_licence_11 rfl rfl ?_
    refine fr_getR (t := 6) (j := 1) (r := 4) dX6_licence_12 fs_X6_19 o_1 rfl rfl (by decide) ?_
    refine fr_getR (t := 5) (j := 6) (r := 6) dX6_licence_15 fs_X6_85 wd_4.o rfl rfl (by decide) ?_
    refine ar_iload_n (i := 1) dX6_licence_18 rfl rfl ?_
    obtain ⟨h4, t⟩ := t
    refine fr_aaldR (w := 4) dX6_licence_19 wd_4 h4 ?_
    refine fr_getI (t := 2) (j := 5) dX6_licence_20 fs_X6_106 (wd_4.rd h4).o rfl ?_
    refine fr_callSi (M' := mX6_asNumber) [_] dX6_licence_23 ml_X6_109 mv_X6_asNumber rfl rfl (Nat.le_of_ble_eq_true rfl) ⟨Nat.le_refl _, Nat.le_refl _⟩ t (fun r6 σ5 t => ?_)
    try dsimp only at t
    refine ar_istore_n (i := 3) (lo2 := [_, _, _, _]) dX6_licence_26 rfl (Nat.le_of_ble_eq_true rfl) rfl rfl ?_
    refine ar_aload_n (i := 0) dX6_licence_27 rfl rfl ?_
    refine fr_getR (t := 6) (j := 1) (r := 4) dX6_licence_28 fs_X6_19 o_1 rfl rfl (by decide) ?_
    refine fr_getR (t := 5) (j := 6) (r := 6) dX6_licence_31 fs_X6_85 wd_4.o rfl rfl (by decide) ?_
    refine ar_iload_n (i := 1) dX6_licence_34 rfl rfl ?_
    obtain ⟨h7, t⟩ := t
    refine fr_aaldR (w := 4) dX6_licence_35 wd_4 h7 ?_
    refine ar_iload_n (i := 2) dX6_licence_36 rfl rfl ?_
    obtain ⟨h9, t⟩ := t
    refine fr_putI (t := 2) (j := 5) dX6_licence_37 fq_X6_106 (wd_4.rd h7).o rfl (Or.inr h9) ?_
    have t := t _ rfl
    refine ar_aload_n (i := 0) dX6_licence_40 rfl rfl ?_
    refine fr_getR (t := 6) (j := 5) (r := 71) dX6_licence_41 fs_X6_39 o_1 rfl rfl (by decide) ?_
    refine fr_callVv (M' := mX3_outdate) [] dX6_licence_44 ml_X6_76 mv_X3_outdate rfl rfl o_71 rfl rfl (Nat.le_of_ble_eq_true rfl) ⟨Nat.le_refl _, Nat.le_refl _⟩ t (fun σ10 t => ?_)
    try dsimp only at t
    refine ar_iload_n (i := 3) dX6_licence_47 rfl rfl ?_
    exact fr_iret dX6_licence_48 rfl (Nat.le_refl _) (Nat.le_refl _) t
  · have t := t.2 h3
    refine ar_bipush (v := -101) dX6_licence_8 (by decide) ?_
    exact fr_iret dX6_licence_10 rfl (Nat.le_refl _) (Nat.le_refl _) t

def t_X6_pilgrim (E : am_E) (d : Nat) (σ : FH) (Q : Int32 → FH → Prop) : Prop :=
  ((¬ (σ.1 4 1) = 0 → (((σ.1 4 2) < 4 → (vp_in (σ.1 4 2) 4 ∧ fMv E d mX1_startAnew [.ref (16 + 2 * (σ.1 4 2).toNatClampNeg)] σ (fun σ4 => (∀ σ6 : FH, σ6 = fsI σ4 4 2 ((σ4.1 4 2) + 1) → Q (σ.1 4 2) σ6)))) ∧
    (¬ (σ.1 4 2) < 4 → Q (-104) σ))) ∧
  ((σ.1 4 1) = 0 → Q (-103) σ))
set_option maxRecDepth 100000 in
set_option maxHeartbeats 4000000 in
theorem v_X6_pilgrim {E : am_E} {d : Nat} {σ : FH} {Q : Int32 → FH → Prop} (t : t_X6_pilgrim E d σ Q) : fMi E (d + 1) mX6_pilgrim [.ref 1] σ Q := by
  refine fr_ofG [some (.ref 1), none] (by decide) rfl (Nat.le_of_ble_eq_true rfl) ?_
  unfold t_X6_pilgrim at t
  refine ar_aload_n (i := 0) dX6_pilgrim_0 rfl rfl ?_
  refine fr_getR (t := 6) (j := 1) (r := 4) dX6_pilgrim_1 fs_X6_19 o_1 rfl rfl (by decide) ?_
  refine fr_getI (t := 5) (j := 1) dX6_pilgrim_4 fs_X6_79 wd_4.o rfl ?_
  refine ar_if_ne (tgt := 13) dX6_pilgrim_7 (by decide) (fun h1 => ?_) (fun h1 => ?_)
  · have t := t.1 h1
    refine ar_aload_n (i := 0) dX6_pilgrim_13 rfl rfl ?_
    refine fr_getR (t := 6) (j := 1) (r := 4) dX6_pilgrim_14 fs_X6_19 o_1 rfl rfl (by decide) ?_
    refine fr_getI (t := 5) (j := 2) dX6_pilgrim_17 fs_X6_116 wd_4.o rfl ?_
    refine ar_iconst (v := 4) dX6_pilgrim_20 (by decide) ?_
    refine ar_icmp_lt (tgt := 27) dX6_pilgrim_21 (by decide) (fun h2 => ?_) (fun h2 => ?_)
    · have t := t.1 h2
      refine ar_aload_n (i := 0) dX6_pilgrim_27 rfl rfl ?_
      refine fr_getR (t := 6) (j := 1) (r := 4) dX6_pilgrim_28 fs_X6_19 o_1 rfl rfl (by decide) ?_
      refine fr_getI (t := 5) (j := 2) dX6_pilgrim_31 fs_X6_116 wd_4.o rfl ?_
      refine ar_istore_n (i := 1) (lo2 := [_, _]) dX6_pilgrim_34 rfl (Nat.le_of_ble_eq_true rfl) rfl rfl ?_
      refine ar_aload_n (i := 0) dX6_pilgrim_35 rfl rfl ?_
      refine fr_getR (t := 6) (j := 1) (r := 4) dX6_pilgrim_36 fs_X6_19 o_1 rfl rfl (by decide) ?_
      refine fr_getR (t := 5) (j := 7) (r := 7) dX6_pilgrim_39 fs_X6_119 wd_4.o rfl rfl (by decide) ?_
      refine ar_iload_n (i := 1) dX6_pilgrim_42 rfl rfl ?_
      obtain ⟨h3, t⟩ := t
      refine fr_aaldP (w := 4) dX6_pilgrim_43 wd_4 h3 ?_
      refine fr_callVv (M' := mX1_startAnew) [] dX6_pilgrim_44 ml_X6_123 mv_X1_startAnew rfl rfl (wd_4.pg h3).f.1 rfl rfl (Nat.le_of_ble_eq_true rfl) ⟨Nat.le_refl _, Nat.le_refl _⟩ t (fun σ4 t => ?_)
      try dsimp only at t
      refine ar_aload_n (i := 0) dX6_pilgrim_47 rfl rfl ?_
      refine fr_getR (t := 6) (j := 1) (r := 4) dX6_pilgrim_48 fs_X6_19 o_1 rfl rfl (by decide) ?_
      refine ar_dup dX6_pilgrim_51 rfl ?_
      refine fr_getI (t := 5) (j := 2) dX6_pilgrim_52 fs_X6_116 wd_4.o rfl ?_
      refine ar_iconst (v := 1) dX6_pilgrim_55 (by decide) ?_
      refine ar_iadd dX6_pilgrim_56 ?_
      refine fr_putI (t := 5) (j := 2) dX6_pilgrim_57 fq_X6_116 wd_4.o rfl (Or.inl rfl) ?_
      have t := t _ rfl
      refine ar_iload_n (i := 1) dX6_pilgrim_60 rfl rfl ?_
      exact fr_iret dX6_pilgrim_61 rfl (Nat.le_refl _) (Nat.le_refl _) t
    · have t := t.2 h2
      refine ar_bipush (v := -104) dX6_pilgrim_24 (by decide) ?_
      exact fr_iret dX6_pilgrim_26 rfl (Nat.le_refl _) (Nat.le_refl _) t
  · have t := t.2 h1
    refine ar_bipush (v := -103) dX6_pilgrim_10 (by decide) ?_
    exact fr_iret dX6_pilgrim_12 rfl (Nat.le_refl _) (Nat.le_refl _) t

def t_X6_about_43 (E : am_E) (d : Nat) (x2 : Int32) (k3 : Nat) (σ : FH) (Q : Int32 → FH → Prop) : Prop :=
  ((x2 = 0 → Q (σ.1 k3 0) σ) ∧
  ((x2 = 1 → Q (σ.1 k3 1) σ) ∧
  ((x2 = 2 → Q (σ.1 k3 2) σ) ∧
  ((x2 = 3 → fMi E d mX6_asNumber [.int (σ.1 k3 4)] σ (fun r11 σ10 => Q r11 σ10)) ∧
  ((x2 = 4 → Q (σ.1 k3 3) σ) ∧
  (¬ x2 = 0 → ¬ x2 = 1 → ¬ x2 = 2 → ¬ x2 = 3 → ¬ x2 = 4 → Q (-102) σ))))))
set_option maxRecDepth 100000 in
set_option maxHeartbeats 4000000 in
theorem v_X6_about_43 {E : am_E} {d : Nat} {σ : FH} {Q : Int32 → FH → Prop} {x2 : Int32} {k3 : Nat} (hk3 : isPg k3) (t : t_X6_about_43 E d x2 k3 σ Q) : fG E (d + 1) mX6_about 43 [none, none, some (.int x2), some (.ref k3)] [] σ (qi Q) := by
  unfold t_X6_about_43 at t
  refine ar_iload_n (i := 2) dX6_about_43 rfl rfl ?_
  by_cases h6 : x2 = 0
  · have t := t.1 h6
    refine ar_tableIn (tgt := 80) dX6_about_44 (by rw [h6]; decide) (by rw [h6]; decide) (by rw [h6]; rfl) (by decide) ?_
    refine ar_aload_n (i := 3) dX6_about_80 rfl rfl ?_
    refine fr_getI (t := 1) (j := 0) dX6_about_81 fs_X6_133 hk3.f.1 rfl ?_
    exact fr_iret dX6_about_84 rfl (Nat.le_refl _) (Nat.le_refl _) t
  have t := t.2
  by_cases h7 : x2 = 1
  · have t := t.1 h7
    refine ar_tableIn (tgt := 85) dX6_about_44 (by rw [h7]; decide) (by rw [h7]; decide) (by rw [h7]; rfl) (by decide) ?_
    refine ar_aload_n (i := 3) dX6_about_85 rfl rfl ?_
    refine fr_getI (t := 1) (j := 1) dX6_about_86 fs_X6_136 hk3.f.1 rfl ?_
    exact fr_iret dX6_about_89 rfl (Nat.le_refl _) (Nat.le_refl _) t
  have t := t.2
  by_cases h8 : x2 = 2
  · have t := t.1 h8
    refine ar_tableIn (tgt := 90) dX6_about_44 (by rw [h8]; decide) (by rw [h8]; decide) (by rw [h8]; rfl) (by decide) ?_
    refine ar_aload_n (i := 3) dX6_about_90 rfl rfl ?_
    refine fr_getI (t := 1) (j := 2) dX6_about_91 fs_X6_139 hk3.f.1 rfl ?_
    exact fr_iret dX6_about_94 rfl (Nat.le_refl _) (Nat.le_refl _) t
  have t := t.2
  by_cases h9 : x2 = 3
  · have t := t.1 h9
    refine ar_tableIn (tgt := 95) dX6_about_44 (by rw [h9]; decide) (by rw [h9]; decide) (by rw [h9]; rfl) (by decide) ?_
    refine ar_aload_n (i := 3) dX6_about_95 rfl rfl ?_
    refine fr_getI (t := 1) (j := 4) dX6_about_96 fs_X6_142 hk3.f.1 rfl ?_
    refine fr_callSi (M' := mX6_asNumber) [_] dX6_about_99 ml_X6_109 mv_X6_asNumber rfl rfl (Nat.le_of_ble_eq_true rfl) ⟨Nat.le_refl _, Nat.le_refl _⟩ t (fun r11 σ10 t => ?_)
    try dsimp only at t
    exact fr_iret dX6_about_102 rfl (Nat.le_refl _) (Nat.le_refl _) t
  have t := t.2
  by_cases h12 : x2 = 4
  · have t := t.1 h12
    refine ar_tableIn (tgt := 103) dX6_about_44 (by rw [h12]; decide) (by rw [h12]; decide) (by rw [h12]; rfl) (by decide) ?_
    refine ar_aload_n (i := 3) dX6_about_103 rfl rfl ?_
    refine fr_getI (t := 1) (j := 3) dX6_about_104 fs_X6_145 hk3.f.1 rfl ?_
    exact fr_iret dX6_about_107 rfl (Nat.le_refl _) (Nat.le_refl _) t
  have t := t.2
  have t := t h6 h7 h8 h9 h12
  refine ar_tableOut (tgt := 108) dX6_about_44 (by have q0 := sw_ne h6 (n := 0) (by decide); have q1 := sw_ne h7 (n := 1) (by decide); have q2 := sw_ne h8 (n := 2) (by decide); have q3 := sw_ne h9 (n := 3) (by decide); have q4 := sw_ne h12 (n := 4) (by decide); omega) (by decide) ?_
  refine ar_bipush (v := -102) dX6_about_108 (by decide) ?_
  exact fr_iret dX6_about_110 rfl (Nat.le_refl _) (Nat.le_refl _) t
def t_X6_about (E : am_E) (d : Nat) (x1 : Int32) (x2 : Int32) (σ : FH) (Q : Int32 → FH → Prop) : Prop :=
  fMi E d mX6_isPilgrim [.ref 1, .int x1] σ (fun r2 σ1 => ((¬ r2 = 0 → (vp_in x1 4 ∧ ((x2 < 10 → t_X6_about_43 E d x2 (16 + 2 * x1.toNatClampNeg) σ1 Q) ∧
    (¬ x2 < 10 → ((18 ≤ x2 → t_X6_about_43 E d x2 (16 + 2 * x1.toNatClampNeg) σ1 Q) ∧
      (¬ 18 ≤ x2 → (vp_in (x2 - 10) 8 ∧ Q (σ1.1 ((16 + 2 * x1.toNatClampNeg) + 1) (x2 - 10).toNatClampNeg) σ1))))))) ∧
  (r2 = 0 → Q (-101) σ1)))
set_option maxRecDepth 100000 in
set_option maxHeartbeats 4000000 in
theorem v_X6_about {E : am_E} {d : Nat} {σ : FH} {Q : Int32 → FH → Prop} {x1 : Int32} {x2 : Int32} (t : t_X6_about E d x1 x2 σ Q) : fMi E (d + 1) mX6_about [.ref 1, .int x1, .int x2] σ Q := by
  refine fr_ofG [some (.ref 1), some (.int x1), some (.int x2), none] (by decide) rfl (Nat.le_of_ble_eq_true rfl) ?_
  unfold t_X6_about at t
  refine ar_aload_n (i := 0) dX6_about_0 rfl rfl ?_
  refine ar_iload_n (i := 1) dX6_about_1 rfl rfl ?_
  refine fr_callVi (M' := mX6_isPilgrim) [_] dX6_about_2 ml_X6_126 mv_X6_isPilgrim rfl rfl o_1 rfl rfl (Nat.le_of_ble_eq_true rfl) ⟨Nat.le_refl _, Nat.le_refl _⟩ t (fun r2 σ1 t => ?_)
  try dsimp only at t
  refine ar_if_ne (tgt := 11) dX6_about_5 (by decide) (fun h3 => ?_) (fun h3 => ?_)
  · have t := t.1 h3
    refine ar_aload_n (i := 0) dX6_about_11 rfl rfl ?_
    refine fr_getR (t := 6) (j := 1) (r := 4) dX6_about_12 fs_X6_19 o_1 rfl rfl (by decide) ?_
    refine fr_getR (t := 5) (j := 7) (r := 7) dX6_about_15 fs_X6_119 wd_4.o rfl rfl (by decide) ?_
    refine ar_iload_n (i := 1) dX6_about_18 rfl rfl ?_
    obtain ⟨h4, t⟩ := t
    refine fr_aaldP (w := 4) dX6_about_19 wd_4 h4 ?_
    refine ar_astore_n (i := 3) (lo2 := [_, _, _, _]) dX6_about_20 rfl (Nat.le_of_ble_eq_true rfl) rfl rfl ?_
    refine ar_iload_n (i := 2) dX6_about_21 rfl rfl ?_
    refine ar_bipush (v := 10) dX6_about_22 (by decide) ?_
    refine ar_icmp_lt (tgt := 43) dX6_about_24 (by decide) (fun h5 => ?_) (fun h5 => ?_)
    · have t := t.1 h5
      refine ar_drop 0 (lo2 := [none, _, _, _]) rfl ?_
      refine ar_drop 1 (lo2 := [none, none, _, _]) rfl ?_
      exact v_X6_about_43 (wd_4.pg h4) t
    · have t := t.2 h5
      refine ar_iload_n (i := 2) dX6_about_27 rfl rfl ?_
      refine ar_bipush (v := 18) dX6_about_28 (by decide) ?_
      refine ar_icmp_ge (tgt := 43) dX6_about_30 (by decide) (fun h13 => ?_) (fun h13 => ?_)
      · have t := t.1 h13
        refine ar_drop 0 (lo2 := [none, _, _, _]) rfl ?_
        refine ar_drop 1 (lo2 := [none, none, _, _]) rfl ?_
        exact v_X6_about_43 (wd_4.pg h4) t
      · have t := t.2 h13
        refine ar_aload_n (i := 3) dX6_about_33 rfl rfl ?_
        refine fr_getR (t := 1) (j := 5) dX6_about_34 fs_X6_129 (wd_4.pg h4).f.1 rfl (frf_c (wd_4.pg h4).f.2.2.2 (wd_4.pg h4).f.2.1) (Nat.succ_ne_zero _) ?_
        refine ar_iload_n (i := 2) dX6_about_37 rfl rfl ?_
        refine ar_bipush (v := 10) dX6_about_38 (by decide) ?_
        refine ar_isub dX6_about_40 ?_
        obtain ⟨h14, t⟩ := t
        refine fr_iald (n := 8) dX6_about_41 ((wd_4.pg h4).f.2.2.1) h14 ?_
        exact fr_iret dX6_about_42 rfl (Nat.le_refl _) (Nat.le_refl _) t
  · have t := t.2 h3
    refine ar_bipush (v := -101) dX6_about_8 (by decide) ?_
    exact fr_iret dX6_about_10 rfl (Nat.le_refl _) (Nat.le_refl _) t

def t_X6_walk (E : am_E) (d : Nat) (x1 : Int32) (x2 : Int32) (σ : FH) (Q : Int32 → FH → Prop) : Prop :=
  fMi E d mX6_isPilgrim [.ref 1, .int x1] σ (fun r2 σ1 => ((r2 = 0 → Q (-101) σ1) ∧
  (¬ r2 = 0 → fMi E d mX6_isRoad [.ref 1, .int x2] σ1 (fun r5 σ4 => ((¬ r5 = 0 → (vp_in x1 4 ∧ (vp_in x2 8 ∧ fMi E d mX1_may [.ref (16 + 2 * x1.toNatClampNeg), .ref (8 + x2.toNatClampNeg), .int (σ4.1 (8 + x2.toNatClampNeg) 4)] σ4 (fun r10 σ9 => ((¬ r10 = 0 → fMi E d mX2_worth [.ref (8 + x2.toNatClampNeg)] σ9 (fun r13 σ12 => fMv E d mX1_go [.ref (16 + 2 * x1.toNatClampNeg), .ref (8 + x2.toNatClampNeg), .int (σ9.1 (8 + x2.toNatClampNeg) 4), .int r13] σ12 (fun σ14 => (∀ σ16 : FH, σ16 = fsI σ14 4 3 ((σ14.1 4 3) + 1) → Q (σ16.1 (16 + 2 * x1.toNatClampNeg) 0) σ16)))) ∧
      (r10 = 0 → Q (-103) σ9)))))) ∧
    (r5 = 0 → Q (-101) σ4))))))
set_option maxRecDepth 100000 in
set_option maxHeartbeats 4000000 in
theorem v_X6_walk {E : am_E} {d : Nat} {σ : FH} {Q : Int32 → FH → Prop} {x1 : Int32} {x2 : Int32} (t : t_X6_walk E d x1 x2 σ Q) : fMi E (d + 1) mX6_walk [.ref 1, .int x1, .int x2] σ Q := by
  refine fr_ofG [some (.ref 1), some (.int x1), some (.int x2), none, none] (by decide) rfl (Nat.le_of_ble_eq_true rfl) ?_
  unfold t_X6_walk at t
  refine ar_aload_n (i := 0) dX6_walk_0 rfl rfl ?_
  refine ar_iload_n (i := 1) dX6_walk_1 rfl rfl ?_
  refine fr_callVi (M' := mX6_isPilgrim) [_] dX6_walk_2 ml_X6_126 mv_X6_isPilgrim rfl rfl o_1 rfl rfl (Nat.le_of_ble_eq_true rfl) ⟨Nat.le_refl _, Nat.le_refl _⟩ t (fun r2 σ1 t => ?_)
  try dsimp only at t
  refine ar_if_eq (tgt := 16) dX6_walk_5 (by decide) (fun h3 => ?_) (fun h3 => ?_)
  · have t := t.1 h3
    refine ar_bipush (v := -101) dX6_walk_16 (by decide) ?_
    exact fr_iret dX6_walk_18 rfl (Nat.le_refl _) (Nat.le_refl _) t
  · have t := t.2 h3
    refine ar_aload_n (i := 0) dX6_walk_8 rfl rfl ?_
    refine ar_iload_n (i := 2) dX6_walk_9 rfl rfl ?_
    refine fr_callVi (M' := mX6_isRoad) [_] dX6_walk_10 ml_X6_82 mv_X6_isRoad rfl rfl o_1 rfl rfl (Nat.le_of_ble_eq_true rfl) ⟨Nat.le_refl _, Nat.le_refl _⟩ t (fun r5 σ4 t => ?_)
    try dsimp only at t
    refine ar_if_ne (tgt := 19) dX6_walk_13 (by decide) (fun h6 => ?_) (fun h6 => ?_)
    · have t := t.1 h6
      refine ar_aload_n (i := 0) dX6_walk_19 rfl rfl ?_
      refine fr_getR (t := 6) (j := 1) (r := 4) dX6_walk_20 fs_X6_19 o_1 rfl rfl (by decide) ?_
      refine fr_getR (t := 5) (j := 7) (r := 7) dX6_walk_23 fs_X6_119 wd_4.o rfl rfl (by decide) ?_
      refine ar_iload_n (i := 1) dX6_walk_26 rfl rfl ?_
      obtain ⟨h7, t⟩ := t
      refine fr_aaldP (w := 4) dX6_walk_27 wd_4 h7 ?_
      refine ar_astore_n (i := 3) (lo2 := [_, _, _, _, none]) dX6_walk_28 rfl (Nat.le_of_ble_eq_true rfl) rfl rfl ?_
      refine ar_aload_n (i := 0) dX6_walk_29 rfl rfl ?_
      refine fr_getR (t := 6) (j := 1) (r := 4) dX6_walk_30 fs_X6_19 o_1 rfl rfl (by decide) ?_
      refine fr_getR (t := 5) (j := 6) (r := 6) dX6_walk_33 fs_X6_85 wd_4.o rfl rfl (by decide) ?_
      refine ar_iload_n (i := 2) dX6_walk_36 rfl rfl ?_
      obtain ⟨h8, t⟩ := t
      refine fr_aaldR (w := 4) dX6_walk_37 wd_4 h8 ?_
      refine ar_astore (i := 4) (lo2 := [_, _, _, _, _]) dX6_walk_38 (Nat.le_of_ble_eq_true rfl) rfl rfl ?_
      refine ar_aload_n (i := 3) dX6_walk_40 rfl rfl ?_
      refine ar_aload (i := 4) dX6_walk_41 rfl ?_
      refine ar_aload (i := 4) dX6_walk_43 rfl ?_
      refine fr_getI (t := 2) (j := 4) dX6_walk_45 fs_X6_100 (wd_4.rd h8).o rfl ?_
      refine fr_callVi (M' := mX1_may) [_, _] dX6_walk_48 ml_X6_148 mv_X1_may rfl rfl (wd_4.pg h7).f.1 rfl rfl (Nat.le_of_ble_eq_true rfl) ⟨Nat.le_refl _, Nat.le_refl _⟩ t (fun r10 σ9 t => ?_)
      try dsimp only at t
      refine ar_if_ne (tgt := 57) dX6_walk_51 (by decide) (fun h11 => ?_) (fun h11 => ?_)
      · have t := t.1 h11
        refine ar_aload_n (i := 3) dX6_walk_57 rfl rfl ?_
        refine ar_aload (i := 4) dX6_walk_58 rfl ?_
        refine ar_aload (i := 4) dX6_walk_60 rfl ?_
        refine fr_getI (t := 2) (j := 4) dX6_walk_62 fs_X6_100 (wd_4.rd h8).o rfl ?_
        refine ar_aload (i := 4) dX6_walk_65 rfl ?_
        refine fr_callVi (M' := mX2_worth) [] dX6_walk_67 ml_X6_103 mv_X2_worth rfl rfl (wd_4.rd h8).o rfl rfl (Nat.le_of_ble_eq_true rfl) ⟨Nat.le_refl _, Nat.le_refl _⟩ t (fun r13 σ12 t => ?_)
        try dsimp only at t
        refine fr_callVv (M' := mX1_go) [_, _, _] dX6_walk_70 ml_X6_152 mv_X1_go rfl rfl (wd_4.pg h7).f.1 rfl rfl (Nat.le_of_ble_eq_true rfl) ⟨Nat.le_refl _, Nat.le_refl _⟩ t (fun σ14 t => ?_)
        try dsimp only at t
        refine ar_aload_n (i := 0) dX6_walk_73 rfl rfl ?_
        refine fr_getR (t := 6) (j := 1) (r := 4) dX6_walk_74 fs_X6_19 o_1 rfl rfl (by decide) ?_
        refine ar_dup dX6_walk_77 rfl ?_
        refine fr_getI (t := 5) (j := 3) dX6_walk_78 fs_X6_156 wd_4.o rfl ?_
        refine ar_iconst (v := 1) dX6_walk_81 (by decide) ?_
        refine ar_iadd dX6_walk_82 ?_
        refine fr_putI (t := 5) (j := 3) dX6_walk_83 fq_X6_156 wd_4.o rfl (Or.inl rfl) ?_
        have t := t _ rfl
        refine ar_aload_n (i := 3) dX6_walk_86 rfl rfl ?_
        refine fr_getI (t := 1) (j := 0) dX6_walk_87 fs_X6_133 (wd_4.pg h7).f.1 rfl ?_
        exact fr_iret dX6_walk_90 rfl (Nat.le_refl _) (Nat.le_refl _) t
      · have t := t.2 h11
        refine ar_bipush (v := -103) dX6_walk_54 (by decide) ?_
        exact fr_iret dX6_walk_56 rfl (Nat.le_refl _) (Nat.le_refl _) t
    · have t := t.2 h6
      refine ar_bipush (v := -101) dX6_walk_16 (by decide) ?_
      exact fr_iret dX6_walk_18 rfl (Nat.le_refl _) (Nat.le_refl _) t

def t_X6_together (E : am_E) (d : Nat) (x1 : Int32) (x2 : Int32) (x3 : Int32) (σ : FH) (Q : Int32 → FH → Prop) : Prop :=
  fMi E d mX6_isPilgrim [.ref 1, .int x1] σ (fun r2 σ1 => ((r2 = 0 → Q (-101) σ1) ∧
  (¬ r2 = 0 → fMi E d mX6_isPilgrim [.ref 1, .int x2] σ1 (fun r5 σ4 => ((r5 = 0 → Q (-101) σ4) ∧
    (¬ r5 = 0 → ((x1 = x2 → Q (-101) σ4) ∧
      (¬ x1 = x2 → fMi E d mX6_isRoad [.ref 1, .int x3] σ4 (fun r9 σ8 => ((¬ r9 = 0 → (vp_in x1 4 ∧ (vp_in x2 4 ∧ (vp_in x3 8 ∧ (∀ v14 : Int32, v14 = ((σ8.1 (8 + x3.toNatClampNeg) 4) + 1) / 2 → ((¬ (σ8.1 (16 + 2 * x1.toNatClampNeg) 0) = (σ8.1 (16 + 2 * x2.toNatClampNeg) 0) → Q (-103) σ8) ∧
          ((σ8.1 (16 + 2 * x1.toNatClampNeg) 0) = (σ8.1 (16 + 2 * x2.toNatClampNeg) 0) → fMi E d mX1_may [.ref (16 + 2 * x1.toNatClampNeg), .ref (8 + x3.toNatClampNeg), .int v14] σ8 (fun r17 σ16 => ((r17 = 0 → Q (-103) σ16) ∧
            (¬ r17 = 0 → fMi E d mX1_may [.ref (16 + 2 * x2.toNatClampNeg), .ref (8 + x3.toNatClampNeg), .int v14] σ16 (fun r20 σ19 => ((¬ r20 = 0 → fMi E d mX2_worth [.ref (8 + x3.toNatClampNeg)] σ19 (fun r23 σ22 => fMv E d mX1_go [.ref (16 + 2 * x1.toNatClampNeg), .ref (8 + x3.toNatClampNeg), .int v14, .int r23] σ22 (fun σ24 => fMi E d mX2_worth [.ref (8 + x3.toNatClampNeg)] σ24 (fun r27 σ26 => fMv E d mX1_go [.ref (16 + 2 * x2.toNatClampNeg), .ref (8 + x3.toNatClampNeg), .int v14, .int (r27 / 2)] σ26 (fun σ28 => (∀ σ30 : FH, σ30 = fsI σ28 4 3 ((σ28.1 4 3) + 1) → Q (σ30.1 (16 + 2 * x1.toNatClampNeg) 0) σ30)))))) ∧
              (r20 = 0 → Q (-103) σ19))))))))))))) ∧
        (r9 = 0 → Q (-101) σ8)))))))))))
set_option maxRecDepth 100000 in
set_option maxHeartbeats 4000000 in
theorem v_X6_together {E : am_E} {d : Nat} {σ : FH} {Q : Int32 → FH → Prop} {x1 : Int32} {x2 : Int32} {x3 : Int32} (t : t_X6_together E d x1 x2 x3 σ Q) : fMi E (d + 1) mX6_together [.ref 1, .int x1, .int x2, .int x3] σ Q := by
  refine fr_ofG [some (.ref 1), some (.int x1), some (.int x2), some (.int x3), none, none, none, none] (by decide) rfl (Nat.le_of_ble_eq_true rfl) ?_
  unfold t_X6_together at t
  refine ar_aload_n (i := 0) dX6_together_0 rfl rfl ?_
  refine ar_iload_n (i := 1) dX6_together_1 rfl rfl ?_
  refine fr_callVi (M' := mX6_isPilgrim) [_] dX6_together_2 ml_X6_126 mv_X6_isPilgrim rfl rfl o_1 rfl rfl (Nat.le_of_ble_eq_true rfl) ⟨Nat.le_refl _, Nat.le_refl _⟩ t (fun r2 σ1 t => ?_)
  try dsimp only at t
  refine ar_if_eq (tgt := 29) dX6_together_5 (by decide) (fun h3 => ?_) (fun h3 => ?_)
  · have t := t.1 h3
    refine ar_bipush (v := -101) dX6_together_29 (by decide) ?_
    exact fr_iret dX6_together_31 rfl (Nat.le_refl _) (Nat.le_refl _) t
  · have t := t.2 h3
    refine ar_aload_n (i := 0) dX6_together_8 rfl rfl ?_
    refine ar_iload_n (i := 2) dX6_together_9 rfl rfl ?_
    refine fr_callVi (M' := mX6_isPilgrim) [_] dX6_together_10 ml_X6_126 mv_X6_isPilgrim rfl rfl o_1 rfl rfl (Nat.le_of_ble_eq_true rfl) ⟨Nat.le_refl _, Nat.le_refl _⟩ t (fun r5 σ4 t => ?_)
    try dsimp only at t
    refine ar_if_eq (tgt := 29) dX6_together_13 (by decide) (fun h6 => ?_) (fun h6 => ?_)
    · have t := t.1 h6
      refine ar_bipush (v := -101) dX6_together_29 (by decide) ?_
      exact fr_iret dX6_together_31 rfl (Nat.le_refl _) (Nat.le_refl _) t
    · have t := t.2 h6
      refine ar_iload_n (i := 1) dX6_together_16 rfl rfl ?_
      refine ar_iload_n (i := 2) dX6_together_17 rfl rfl ?_
      refine ar_icmp_eq (tgt := 29) dX6_together_18 (by decide) (fun h7 => ?_) (fun h7 => ?_)
      · have t := t.1 h7
        refine ar_bipush (v := -101) dX6_together_29 (by decide) ?_
        exact fr_iret dX6_together_31 rfl (Nat.le_refl _) (Nat.le_refl _) t
      · have t := t.2 h7
        refine ar_aload_n (i := 0) dX6_together_21 rfl rfl ?_
        refine ar_iload_n (i := 3) dX6_together_22 rfl rfl ?_
        refine fr_callVi (M' := mX6_isRoad) [_] dX6_together_23 ml_X6_82 mv_X6_isRoad rfl rfl o_1 rfl rfl (Nat.le_of_ble_eq_true rfl) ⟨Nat.le_refl _, Nat.le_refl _⟩ t (fun r9 σ8 t => ?_)
        try dsimp only at t
        refine ar_if_ne (tgt := 32) dX6_together_26 (by decide) (fun h10 => ?_) (fun h10 => ?_)
        · have t := t.1 h10
          refine ar_aload_n (i := 0) dX6_together_32 rfl rfl ?_
          refine fr_getR (t := 6) (j := 1) (r := 4) dX6_together_33 fs_X6_19 o_1 rfl rfl (by decide) ?_
          refine fr_getR (t := 5) (j := 7) (r := 7) dX6_together_36 fs_X6_119 wd_4.o rfl rfl (by decide) ?_
          refine ar_iload_n (i := 1) dX6_together_39 rfl rfl ?_
          obtain ⟨h11, t⟩ := t
          refine fr_aaldP (w := 4) dX6_together_40 wd_4 h11 ?_
          refine ar_astore (i := 4) (lo2 := [_, _, _, _, _, none, none, none]) dX6_together_41 (Nat.le_of_ble_eq_true rfl) rfl rfl ?_
          refine ar_aload_n (i := 0) dX6_together_43 rfl rfl ?_
          refine fr_getR (t := 6) (j := 1) (r := 4) dX6_together_44 fs_X6_19 o_1 rfl rfl (by decide) ?_
          refine fr_getR (t := 5) (j := 7) (r := 7) dX6_together_47 fs_X6_119 wd_4.o rfl rfl (by decide) ?_
          refine ar_iload_n (i := 2) dX6_together_50 rfl rfl ?_
          obtain ⟨h12, t⟩ := t
          refine fr_aaldP (w := 4) dX6_together_51 wd_4 h12 ?_
          refine ar_astore (i := 5) (lo2 := [_, _, _, _, _, _, none, none]) dX6_together_52 (Nat.le_of_ble_eq_true rfl) rfl rfl ?_
          refine ar_aload_n (i := 0) dX6_together_54 rfl rfl ?_
          refine fr_getR (t := 6) (j := 1) (r := 4) dX6_together_55 fs_X6_19 o_1 rfl rfl (by decide) ?_
          refine fr_getR (t := 5) (j := 6) (r := 6) dX6_together_58 fs_X6_85 wd_4.o rfl rfl (by decide) ?_
          refine ar_iload_n (i := 3) dX6_together_61 rfl rfl ?_
          obtain ⟨h13, t⟩ := t
          refine fr_aaldR (w := 4) dX6_together_62 wd_4 h13 ?_
          refine ar_astore (i := 6) (lo2 := [_, _, _, _, _, _, _, none]) dX6_together_63 (Nat.le_of_ble_eq_true rfl) rfl rfl ?_
          refine ar_aload (i := 6) dX6_together_65 rfl ?_
          refine fr_getI (t := 2) (j := 4) dX6_together_67 fs_X6_100 (wd_4.rd h13).o rfl ?_
          refine ar_iconst (v := 1) dX6_together_70 (by decide) ?_
          refine ar_iadd dX6_together_71 ?_
          refine ar_iconst (v := 2) dX6_together_72 (by decide) ?_
          refine ar_idiv dX6_together_73 (by decide) ?_
          refine ar_istore (i := 7) (lo2 := [_, _, _, _, _, _, _, _]) dX6_together_74 (Nat.le_of_ble_eq_true rfl) rfl rfl ?_
          have t := t _ rfl
          refine ar_aload (i := 4) dX6_together_76 rfl ?_
          refine fr_getI (t := 1) (j := 0) dX6_together_78 fs_X6_133 (wd_4.pg h11).f.1 rfl ?_
          refine ar_aload (i := 5) dX6_together_81 rfl ?_
          refine fr_getI (t := 1) (j := 0) dX6_together_83 fs_X6_133 (wd_4.pg h12).f.1 rfl ?_
          refine ar_icmp_ne (tgt := 113) dX6_together_86 (by decide) (fun h15 => ?_) (fun h15 => ?_)
          · have t := t.1 h15
            refine ar_bipush (v := -103) dX6_together_113 (by decide) ?_
            exact fr_iret dX6_together_115 rfl (Nat.le_refl _) (Nat.le_refl _) t
          · have t := t.2 h15
            refine ar_aload (i := 4) dX6_together_89 rfl ?_
            refine ar_aload (i := 6) dX6_together_91 rfl ?_
            refine ar_iload (i := 7) dX6_together_93 rfl ?_
            refine fr_callVi (M' := mX1_may) [_, _] dX6_together_95 ml_X6_148 mv_X1_may rfl rfl (wd_4.pg h11).f.1 rfl rfl (Nat.le_of_ble_eq_true rfl) ⟨Nat.le_refl _, Nat.le_refl _⟩ t (fun r17 σ16 t => ?_)
            try dsimp only at t
            refine ar_if_eq (tgt := 113) dX6_together_98 (by decide) (fun h18 => ?_) (fun h18 => ?_)
            · have t := t.1 h18
              refine ar_bipush (v := -103) dX6_together_113 (by decide) ?_
              exact fr_iret dX6_together_115 rfl (Nat.le_refl _) (Nat.le_refl _) t
            · have t := t.2 h18
              refine ar_aload (i := 5) dX6_together_101 rfl ?_
              refine ar_aload (i := 6) dX6_together_103 rfl ?_
              refine ar_iload (i := 7) dX6_together_105 rfl ?_
              refine fr_callVi (M' := mX1_may) [_, _] dX6_together_107 ml_X6_148 mv_X1_may rfl rfl (wd_4.pg h12).f.1 rfl rfl (Nat.le_of_ble_eq_true rfl) ⟨Nat.le_refl _, Nat.le_refl _⟩ t (fun r20 σ19 t => ?_)
              try dsimp only at t
              refine ar_if_ne (tgt := 116) dX6_together_110 (by decide) (fun h21 => ?_) (fun h21 => ?_)
              · have t := t.1 h21
                refine ar_aload (i := 4) dX6_together_116 rfl ?_
                refine ar_aload (i := 6) dX6_together_118 rfl ?_
                refine ar_iload (i := 7) dX6_together_120 rfl ?_
                refine ar_aload (i := 6) dX6_together_122 rfl ?_
                refine fr_callVi (M' := mX2_worth) [] dX6_together_124 ml_X6_103 mv_X2_worth rfl rfl (wd_4.rd h13).o rfl rfl (Nat.le_of_ble_eq_true rfl) ⟨Nat.le_refl _, Nat.le_refl _⟩ t (fun r23 σ22 t => ?_)
                try dsimp only at t
                refine fr_callVv (M' := mX1_go) [_, _, _] dX6_together_127 ml_X6_152 mv_X1_go rfl rfl (wd_4.pg h11).f.1 rfl rfl (Nat.le_of_ble_eq_true rfl) ⟨Nat.le_refl _, Nat.le_refl _⟩ t (fun σ24 t => ?_)
                try dsimp only at t
                refine ar_aload (i := 5) dX6_together_130 rfl ?_
                refine ar_aload (i := 6) dX6_together_132 rfl ?_
                refine ar_iload (i := 7) dX6_together_134 rfl ?_
                refine ar_aload (i := 6) dX6_together_136 rfl ?_
                refine fr_callVi (M' := mX2_worth) [] dX6_together_138 ml_X6_103 mv_X2_worth rfl rfl (wd_4.rd h13).o rfl rfl (Nat.le_of_ble_eq_true rfl) ⟨Nat.le_refl _, Nat.le_refl _⟩ t (fun r27 σ26 t => ?_)
                try dsimp only at t
                refine ar_iconst (v := 2) dX6_together_141 (by decide) ?_
                refine ar_idiv dX6_together_142 (by decide) ?_
                refine fr_callVv (M' := mX1_go) [_, _, _] dX6_together_143 ml_X6_152 mv_X1_go rfl rfl (wd_4.pg h12).f.1 rfl rfl (Nat.le_of_ble_eq_true rfl) ⟨Nat.le_refl _, Nat.le_refl _⟩ t (fun σ28 t => ?_)
                try dsimp only at t
                refine ar_aload_n (i := 0) dX6_together_146 rfl rfl ?_
                refine fr_getR (t := 6) (j := 1) (r := 4) dX6_together_147 fs_X6_19 o_1 rfl rfl (by decide) ?_
                refine ar_dup dX6_together_150 rfl ?_
                refine fr_getI (t := 5) (j := 3) dX6_together_151 fs_X6_156 wd_4.o rfl ?_
                refine ar_iconst (v := 1) dX6_together_154 (by decide) ?_
                refine ar_iadd dX6_together_155 ?_
                refine fr_putI (t := 5) (j := 3) dX6_together_156 fq_X6_156 wd_4.o rfl (Or.inl rfl) ?_
                have t := t _ rfl
                refine ar_aload (i := 4) dX6_together_159 rfl ?_
                refine fr_getI (t := 1) (j := 0) dX6_together_161 fs_X6_133 (wd_4.pg h11).f.1 rfl ?_
                exact fr_iret dX6_together_164 rfl (Nat.le_refl _) (Nat.le_refl _) t
              · have t := t.2 h21
                refine ar_bipush (v := -103) dX6_together_113 (by decide) ?_
                exact fr_iret dX6_together_115 rfl (Nat.le_refl _) (Nat.le_refl _) t
        · have t := t.2 h10
          refine ar_bipush (v := -101) dX6_together_29 (by decide) ?_
          exact fr_iret dX6_together_31 rfl (Nat.le_refl _) (Nat.le_refl _) t

def t_X6_rest (E : am_E) (d : Nat) (x1 : Int32) (σ : FH) (Q : Int32 → FH → Prop) : Prop :=
  fMi E d mX6_isPilgrim [.ref 1, .int x1] σ (fun r2 σ1 => ((¬ r2 = 0 → (vp_in x1 4 ∧ (((σ1.1 (16 + 2 * x1.toNatClampNeg) 4) = 0 → fMv E d mX1_recover [.ref (16 + 2 * x1.toNatClampNeg)] σ1 (fun σ6 => (∀ σ8 : FH, σ8 = fsI σ6 4 3 ((σ6.1 4 3) + 1) → Q (σ8.1 (16 + 2 * x1.toNatClampNeg) 1) σ8))) ∧
    (¬ (σ1.1 (16 + 2 * x1.toNatClampNeg) 4) = 0 → Q (-103) σ1)))) ∧
  (r2 = 0 → Q (-101) σ1)))
set_option maxRecDepth 100000 in
set_option maxHeartbeats 4000000 in
theorem v_X6_rest {E : am_E} {d : Nat} {σ : FH} {Q : Int32 → FH → Prop} {x1 : Int32} (t : t_X6_rest E d x1 σ Q) : fMi E (d + 1) mX6_rest [.ref 1, .int x1] σ Q := by
  refine fr_ofG [some (.ref 1), some (.int x1), none] (by decide) rfl (Nat.le_of_ble_eq_true rfl) ?_
  unfold t_X6_rest at t
  refine ar_aload_n (i := 0) dX6_rest_0 rfl rfl ?_
  refine ar_iload_n (i := 1) dX6_rest_1 rfl rfl ?_
  refine fr_callVi (M' := mX6_isPilgrim) [_] dX6_rest_2 ml_X6_126 mv_X6_isPilgrim rfl rfl o_1 rfl rfl (Nat.le_of_ble_eq_true rfl) ⟨Nat.le_refl _, Nat.le_refl _⟩ t (fun r2 σ1 t => ?_)
  try dsimp only at t
  refine ar_if_ne (tgt := 11) dX6_rest_5 (by decide) (fun h3 => ?_) (fun h3 => ?_)
  · have t := t.1 h3
    refine ar_aload_n (i := 0) dX6_rest_11 rfl rfl ?_
    refine fr_getR (t := 6) (j := 1) (r := 4) dX6_rest_12 fs_X6_19 o_1 rfl rfl (by decide) ?_
    refine fr_getR (t := 5) (j := 7) (r := 7) dX6_rest_15 fs_X6_119 wd_4.o rfl rfl (by decide) ?_
    refine ar_iload_n (i := 1) dX6_rest_18 rfl rfl ?_
    obtain ⟨h4, t⟩ := t
    refine fr_aaldP (w := 4) dX6_rest_19 wd_4 h4 ?_
    refine ar_astore_n (i := 2) (lo2 := [_, _, _]) dX6_rest_20 rfl (Nat.le_of_ble_eq_true rfl) rfl rfl ?_
    refine ar_aload_n (i := 2) dX6_rest_21 rfl rfl ?_
    refine fr_getI (t := 1) (j := 4) dX6_rest_22 fs_X6_142 (wd_4.pg h4).f.1 rfl ?_
    refine ar_if_eq (tgt := 31) dX6_rest_25 (by decide) (fun h5 => ?_) (fun h5 => ?_)
    · have t := t.1 h5
      refine ar_aload_n (i := 2) dX6_rest_31 rfl rfl ?_
      refine fr_callVv (M' := mX1_recover) [] dX6_rest_32 ml_X6_159 mv_X1_recover rfl rfl (wd_4.pg h4).f.1 rfl rfl (Nat.le_of_ble_eq_true rfl) ⟨Nat.le_refl _, Nat.le_refl _⟩ t (fun σ6 t => ?_)
      try dsimp only at t
      refine ar_aload_n (i := 0) dX6_rest_35 rfl rfl ?_
      refine fr_getR (t := 6) (j := 1) (r := 4) dX6_rest_36 fs_X6_19 o_1 rfl rfl (by decide) ?_
      refine ar_dup dX6_rest_39 rfl ?_
      refine fr_getI (t := 5) (j := 3) dX6_rest_40 fs_X6_156 wd_4.o rfl ?_
      refine ar_iconst (v := 1) dX6_rest_43 (by decide) ?_
      refine ar_iadd dX6_rest_44 ?_
      refine fr_putI (t := 5) (j := 3) dX6_rest_45 fq_X6_156 wd_4.o rfl (Or.inl rfl) ?_
      have t := t _ rfl
      refine ar_aload_n (i := 2) dX6_rest_48 rfl rfl ?_
      refine fr_getI (t := 1) (j := 1) dX6_rest_49 fs_X6_136 (wd_4.pg h4).f.1 rfl ?_
      exact fr_iret dX6_rest_52 rfl (Nat.le_refl _) (Nat.le_refl _) t
    · have t := t.2 h5
      refine ar_bipush (v := -103) dX6_rest_28 (by decide) ?_
      exact fr_iret dX6_rest_30 rfl (Nat.le_refl _) (Nat.le_refl _) t
  · have t := t.2 h3
    refine ar_bipush (v := -101) dX6_rest_8 (by decide) ?_
    exact fr_iret dX6_rest_10 rfl (Nat.le_refl _) (Nat.le_refl _) t

def t_X6_enter (E : am_E) (d : Nat) (x1 : Int32) (σ : FH) (Q : Int32 → FH → Prop) : Prop :=
  fMi E d mX6_isPilgrim [.ref 1, .int x1] σ (fun r2 σ1 => ((¬ r2 = 0 → (vp_in x1 4 ∧ ((¬ (σ1.1 (16 + 2 * x1.toNatClampNeg) 4) = 0 → Q (-103) σ1) ∧
    ((σ1.1 (16 + 2 * x1.toNatClampNeg) 4) = 0 → (((σ1.1 (16 + 2 * x1.toNatClampNeg) 0) = 5 → fMv E d mX1_ask [.ref (16 + 2 * x1.toNatClampNeg), .int (σ1.1 4 0)] σ1 (fun σ7 => Q ((σ7.1 4 0) - (σ7.1 (16 + 2 * x1.toNatClampNeg) 2)) σ7)) ∧
      (¬ (σ1.1 (16 + 2 * x1.toNatClampNeg) 0) = 5 → Q (-103) σ1)))))) ∧
  (r2 = 0 → Q (-101) σ1)))
set_option maxRecDepth 100000 in
set_option maxHeartbeats 4000000 in
theorem v_X6_enter {E : am_E} {d : Nat} {σ : FH} {Q : Int32 → FH → Prop} {x1 : Int32} (t : t_X6_enter E d x1 σ Q) : fMi E (d + 1) mX6_enter [.ref 1, .int x1] σ Q := by
  refine fr_ofG [some (.ref 1), some (.int x1), none] (by decide) rfl (Nat.le_of_ble_eq_true rfl) ?_
  unfold t_X6_enter at t
  refine ar_aload_n (i := 0) dX6_enter_0 rfl rfl ?_
  refine ar_iload_n (i := 1) dX6_enter_1 rfl rfl ?_
  refine fr_callVi (M' := mX6_isPilgrim) [_] dX6_enter_2 ml_X6_126 mv_X6_isPilgrim rfl rfl o_1 rfl rfl (Nat.le_of_ble_eq_true rfl) ⟨Nat.le_refl _, Nat.le_refl _⟩ t (fun r2 σ1 t => ?_)
  try dsimp only at t
  refine ar_if_ne (tgt := 11) dX6_enter_5 (by decide) (fun h3 => ?_) (fun h3 => ?_)
  · have t := t.1 h3
    refine ar_aload_n (i := 0) dX6_enter_11 rfl rfl ?_
    refine fr_getR (t := 6) (j := 1) (r := 4) dX6_enter_12 fs_X6_19 o_1 rfl rfl (by decide) ?_
    refine fr_getR (t := 5) (j := 7) (r := 7) dX6_enter_15 fs_X6_119 wd_4.o rfl rfl (by decide) ?_
    refine ar_iload_n (i := 1) dX6_enter_18 rfl rfl ?_
    obtain ⟨h4, t⟩ := t
    refine fr_aaldP (w := 4) dX6_enter_19 wd_4 h4 ?_
    refine ar_astore_n (i := 2) (lo2 := [_, _, _]) dX6_enter_20 rfl (Nat.le_of_ble_eq_true rfl) rfl rfl ?_
    refine ar_aload_n (i := 2) dX6_enter_21 rfl rfl ?_
    refine fr_getI (t := 1) (j := 4) dX6_enter_22 fs_X6_142 (wd_4.pg h4).f.1 rfl ?_
    refine ar_if_ne (tgt := 36) dX6_enter_25 (by decide) (fun h5 => ?_) (fun h5 => ?_)
    · have t := t.1 h5
      refine ar_bipush (v := -103) dX6_enter_36 (by decide) ?_
      exact fr_iret dX6_enter_38 rfl (Nat.le_refl _) (Nat.le_refl _) t
    · have t := t.2 h5
      refine ar_aload_n (i := 2) dX6_enter_28 rfl rfl ?_
      refine fr_getI (t := 1) (j := 0) dX6_enter_29 fs_X6_133 (wd_4.pg h4).f.1 rfl ?_
      refine ar_iconst (v := 5) dX6_enter_32 (by decide) ?_
      refine ar_icmp_eq (tgt := 39) dX6_enter_33 (by decide) (fun h6 => ?_) (fun h6 => ?_)
      · have t := t.1 h6
        refine ar_aload_n (i := 2) dX6_enter_39 rfl rfl ?_
        refine ar_aload_n (i := 0) dX6_enter_40 rfl rfl ?_
        refine fr_getR (t := 6) (j := 1) (r := 4) dX6_enter_41 fs_X6_19 o_1 rfl rfl (by decide) ?_
        refine fr_getI (t := 5) (j := 0) dX6_enter_44 fs_X6_162 wd_4.o rfl ?_
        refine fr_callVv (M' := mX1_ask) [_] dX6_enter_47 ml_X6_165 mv_X1_ask rfl rfl (wd_4.pg h4).f.1 rfl rfl (Nat.le_of_ble_eq_true rfl) ⟨Nat.le_refl _, Nat.le_refl _⟩ t (fun σ7 t => ?_)
        try dsimp only at t
        refine ar_aload_n (i := 0) dX6_enter_50 rfl rfl ?_
        refine fr_getR (t := 6) (j := 1) (r := 4) dX6_enter_51 fs_X6_19 o_1 rfl rfl (by decide) ?_
        refine fr_getI (t := 5) (j := 0) dX6_enter_54 fs_X6_162 wd_4.o rfl ?_
        refine ar_aload_n (i := 2) dX6_enter_57 rfl rfl ?_
        refine fr_getI (t := 1) (j := 2) dX6_enter_58 fs_X6_139 (wd_4.pg h4).f.1 rfl ?_
        refine ar_isub dX6_enter_61 ?_
        exact fr_iret dX6_enter_62 rfl (Nat.le_refl _) (Nat.le_refl _) t
      · have t := t.2 h6
        refine ar_bipush (v := -103) dX6_enter_36 (by decide) ?_
        exact fr_iret dX6_enter_38 rfl (Nat.le_refl _) (Nat.le_refl _) t
  · have t := t.2 h3
    refine ar_bipush (v := -101) dX6_enter_8 (by decide) ?_
    exact fr_iret dX6_enter_10 rfl (Nat.le_refl _) (Nat.le_refl _) t

def t_X6_way (E : am_E) (d : Nat) (x1 : Int32) (x2 : Int32) (σ : FH) (Q : Int32 → FH → Prop) : Prop :=
  fMi E d mX6_isPilgrim [.ref 1, .int x1] σ (fun r2 σ1 => ((¬ r2 = 0 → ((x2 < 0 → Q (-102) σ1) ∧
    (¬ x2 < 0 → ((x2 ≤ 2 → fMi E d mX6_mayForesee [.ref 1, .int x1] σ1 (fun r7 σ6 => ((¬ r7 = 0 → (∀ σ9 : FH, σ9 = fsI σ6 1 8 ((σ6.1 1 8) + 1) → (vp_in x1 4 ∧ fMi E d mX4_leastWay [.ref 64, .ref 4, .ref (16 + 2 * x1.toNatClampNeg), .int (-1)] σ9 (fun r12 σ11 => ((¬ r12 = 1000000000 → ((x2 = 0 → fMi E d mX4_harmOf [.int r12] σ11 (fun r16 σ15 => Q r16 σ15)) ∧
            ((x2 = 1 → fMi E d mX4_walksOf [.int r12] σ11 (fun r19 σ18 => Q r19 σ18)) ∧
            (¬ x2 = 0 → ¬ x2 = 1 → fMi E d mX4_firstOf [.int r12] σ11 (fun r21 σ20 => Q r21 σ20))))) ∧
          (r12 = 1000000000 → Q (-1) σ11)))))) ∧
        (r7 = 0 → Q (-103) σ6)))) ∧
      (¬ x2 ≤ 2 → Q (-102) σ1))))) ∧
  (r2 = 0 → Q (-101) σ1)))
set_option maxRecDepth 100000 in
set_option maxHeartbeats 4000000 in
theorem v_X6_way {E : am_E} {d : Nat} {σ : FH} {Q : Int32 → FH → Prop} {x1 : Int32} {x2 : Int32} (t : t_X6_way E d x1 x2 σ Q) : fMi E (d + 1) mX6_way [.ref 1, .int x1, .int x2] σ Q := by
  refine fr_ofG [some (.ref 1), some (.int x1), some (.int x2), none] (by decide) rfl (Nat.le_of_ble_eq_true rfl) ?_
  unfold t_X6_way at t
  refine ar_aload_n (i := 0) dX6_way_0 rfl rfl ?_
  refine ar_iload_n (i := 1) dX6_way_1 rfl rfl ?_
  refine fr_callVi (M' := mX6_isPilgrim) [_] dX6_way_2 ml_X6_126 mv_X6_isPilgrim rfl rfl o_1 rfl rfl (Nat.le_of_ble_eq_true rfl) ⟨Nat.le_refl _, Nat.le_refl _⟩ t (fun r2 σ1 t => ?_)
  try dsimp only at t
  refine ar_if_ne (tgt := 11) dX6_way_5 (by decide) (fun h3 => ?_) (fun h3 => ?_)
  · have t := t.1 h3
    refine ar_iload_n (i := 2) dX6_way_11 rfl rfl ?_
    refine ar_if_lt (tgt := 20) dX6_way_12 (by decide) (fun h4 => ?_) (fun h4 => ?_)
    · have t := t.1 h4
      refine ar_bipush (v := -102) dX6_way_20 (by decide) ?_
      exact fr_iret dX6_way_22 rfl (Nat.le_refl _) (Nat.le_refl _) t
    · have t := t.2 h4
      refine ar_iload_n (i := 2) dX6_way_15 rfl rfl ?_
      refine ar_iconst (v := 2) dX6_way_16 (by decide) ?_
      refine ar_icmp_le (tgt := 23) dX6_way_17 (by decide) (fun h5 => ?_) (fun h5 => ?_)
      · have t := t.1 h5
        refine ar_aload_n (i := 0) dX6_way_23 rfl rfl ?_
        refine ar_iload_n (i := 1) dX6_way_24 rfl rfl ?_
        refine fr_callVi (M' := mX6_mayForesee) [_] dX6_way_25 ml_X6_169 mv_X6_mayForesee rfl rfl o_1 rfl rfl (Nat.le_of_ble_eq_true rfl) ⟨Nat.le_refl _, Nat.le_refl _⟩ t (fun r7 σ6 t => ?_)
        try dsimp only at t
        refine ar_if_ne (tgt := 34) dX6_way_28 (by decide) (fun h8 => ?_) (fun h8 => ?_)
        · have t := t.1 h8
          refine ar_aload_n (i := 0) dX6_way_34 rfl rfl ?_
          refine ar_dup dX6_way_35 rfl ?_
          refine fr_getI (t := 6) (j := 8) dX6_way_36 fs_X6_51 o_1 rfl ?_
          refine ar_iconst (v := 1) dX6_way_39 (by decide) ?_
          refine ar_iadd dX6_way_40 ?_
          refine fr_putI (t := 6) (j := 8) dX6_way_41 fq_X6_51 o_1 rfl (Or.inl rfl) ?_
          have t := t _ rfl
          refine ar_aload_n (i := 0) dX6_way_44 rfl rfl ?_
          refine fr_getR (t := 6) (j := 4) (r := 64) dX6_way_45 fs_X6_32 o_1 rfl rfl (by decide) ?_
          refine ar_aload_n (i := 0) dX6_way_48 rfl rfl ?_
          refine fr_getR (t := 6) (j := 1) (r := 4) dX6_way_49 fs_X6_19 o_1 rfl rfl (by decide) ?_
          refine ar_aload_n (i := 0) dX6_way_52 rfl rfl ?_
          refine fr_getR (t := 6) (j := 1) (r := 4) dX6_way_53 fs_X6_19 o_1 rfl rfl (by decide) ?_
          refine fr_getR (t := 5) (j := 7) (r := 7) dX6_way_56 fs_X6_119 wd_4.o rfl rfl (by decide) ?_
          refine ar_iload_n (i := 1) dX6_way_59 rfl rfl ?_
          obtain ⟨h10, t⟩ := t
          refine fr_aaldP (w := 4) dX6_way_60 wd_4 h10 ?_
          refine ar_iconst (v := -1) dX6_way_61 (by decide) ?_
          refine fr_callVi (M' := mX4_leastWay) [_, _, _] dX6_way_62 ml_X6_172 mv_X4_leastWay rfl rfl o_64 rfl rfl (Nat.le_of_ble_eq_true rfl) ⟨Nat.le_refl _, Nat.le_refl _⟩ t (fun r12 σ11 t => ?_)
          try dsimp only at t
          refine ar_istore_n (i := 3) (lo2 := [_, _, _, _]) dX6_way_65 rfl (Nat.le_of_ble_eq_true rfl) rfl rfl ?_
          refine ar_iload_n (i := 3) dX6_way_66 rfl rfl ?_
          refine ar_ldc dX6_way_67 ct_X6_176 ?_
          refine ar_icmp_ne (tgt := 74) dX6_way_69 (by decide) (fun h13 => ?_) (fun h13 => ?_)
          · have t := t.1 h13
            refine ar_iload_n (i := 2) dX6_way_74 rfl rfl ?_
            by_cases h14 : x2 = 0
            · have t := t.1 h14
              refine ar_lookup (tgt := 100) dX6_way_75 (by decide) (by rw [h14]) (by decide) ?_
              refine ar_iload_n (i := 3) dX6_way_100 rfl rfl ?_
              refine fr_callSi (M' := mX4_harmOf) [_] dX6_way_101 ml_X6_177 mv_X4_harmOf rfl rfl (Nat.le_of_ble_eq_true rfl) ⟨Nat.le_refl _, Nat.le_refl _⟩ t (fun r16 σ15 t => ?_)
              try dsimp only at t
              exact fr_iret dX6_way_104 rfl (Nat.le_refl _) (Nat.le_refl _) t
            have t := t.2
            by_cases h17 : x2 = 1
            · have t := t.1 h17
              refine ar_lookup (tgt := 105) dX6_way_75 (by decide) (by rw [h17]) (by decide) ?_
              refine ar_iload_n (i := 3) dX6_way_105 rfl rfl ?_
              refine fr_callSi (M' := mX4_walksOf) [_] dX6_way_106 ml_X6_181 mv_X4_walksOf rfl rfl (Nat.le_of_ble_eq_true rfl) ⟨Nat.le_refl _, Nat.le_refl _⟩ t (fun r19 σ18 t => ?_)
              try dsimp only at t
              exact fr_iret dX6_way_109 rfl (Nat.le_refl _) (Nat.le_refl _) t
            have t := t.2
            have t := t h14 h17
            refine ar_lookup (tgt := 110) dX6_way_75 (by decide) (by have q0 := sw_ne h14 (n := 0) (by decide); have q1 := sw_ne h17 (n := 1) (by decide); simp [Op.lookupswitch.offset_cons, Op.lookupswitch.offset_nil, q0.symm, q1.symm]; rfl) (by decide) ?_
            refine ar_iload_n (i := 3) dX6_way_110 rfl rfl ?_
            refine fr_callSi (M' := mX4_firstOf) [_] dX6_way_111 ml_X6_184 mv_X4_firstOf rfl rfl (Nat.le_of_ble_eq_true rfl) ⟨Nat.le_refl _, Nat.le_refl _⟩ t (fun r21 σ20 t => ?_)
            try dsimp only at t
            exact fr_iret dX6_way_114 rfl (Nat.le_refl _) (Nat.le_refl _) t
          · have t := t.2 h13
            refine ar_iconst (v := -1) dX6_way_72 (by decide) ?_
            exact fr_iret dX6_way_73 rfl (Nat.le_refl _) (Nat.le_refl _) t
        · have t := t.2 h8
          refine ar_bipush (v := -103) dX6_way_31 (by decide) ?_
          exact fr_iret dX6_way_33 rfl (Nat.le_refl _) (Nat.le_refl _) t
      · have t := t.2 h5
        refine ar_bipush (v := -102) dX6_way_20 (by decide) ?_
        exact fr_iret dX6_way_22 rfl (Nat.le_refl _) (Nat.le_refl _) t
  · have t := t.2 h3
    refine ar_bipush (v := -101) dX6_way_8 (by decide) ?_
    exact fr_iret dX6_way_10 rfl (Nat.le_refl _) (Nat.le_refl _) t

def t_X6_bars (E : am_E) (d : Nat) (x1 : Int32) (σ : FH) (Q : Int32 → FH → Prop) : Prop :=
  fMi E d mX6_isPilgrim [.ref 1, .int x1] σ (fun r2 σ1 => ((¬ r2 = 0 → fMi E d mX6_mayForesee [.ref 1, .int x1] σ1 (fun r5 σ4 => ((¬ r5 = 0 → (∀ σ7 : FH, σ7 = fsI σ4 1 8 ((σ4.1 1 8) + 1) → (vp_in x1 4 ∧ fMi E d mX4_leastBar [.ref 64, .ref 4, .ref (16 + 2 * x1.toNatClampNeg)] σ7 (fun r10 σ9 => Q r10 σ9)))) ∧
    (r5 = 0 → Q (-103) σ4)))) ∧
  (r2 = 0 → Q (-101) σ1)))
set_option maxRecDepth 100000 in
set_option maxHeartbeats 4000000 in
theorem v_X6_bars {E : am_E} {d : Nat} {σ : FH} {Q : Int32 → FH → Prop} {x1 : Int32} (t : t_X6_bars E d x1 σ Q) : fMi E (d + 1) mX6_bars [.ref 1, .int x1] σ Q := by
  refine fr_ofG [some (.ref 1), some (.int x1)] (by decide) rfl (Nat.le_of_ble_eq_true rfl) ?_
  unfold t_X6_bars at t
  refine ar_aload_n (i := 0) dX6_bars_0 rfl rfl ?_
  refine ar_iload_n (i := 1) dX6_bars_1 rfl rfl ?_
  refine fr_callVi (M' := mX6_isPilgrim) [_] dX6_bars_2 ml_X6_126 mv_X6_isPilgrim rfl rfl o_1 rfl rfl (Nat.le_of_ble_eq_true rfl) ⟨Nat.le_refl _, Nat.le_refl _⟩ t (fun r2 σ1 t => ?_)
  try dsimp only at t
  refine ar_if_ne (tgt := 11) dX6_bars_5 (by decide) (fun h3 => ?_) (fun h3 => ?_)
  · have t := t.1 h3
    refine ar_aload_n (i := 0) dX6_bars_11 rfl rfl ?_
    refine ar_iload_n (i := 1) dX6_bars_12 rfl rfl ?_
    refine fr_callVi (M' := mX6_mayForesee) [_] dX6_bars_13 ml_X6_169 mv_X6_mayForesee rfl rfl o_1 rfl rfl (Nat.le_of_ble_eq_true rfl) ⟨Nat.le_refl _, Nat.le_refl _⟩ t (fun r5 σ4 t => ?_)
    try dsimp only at t
    refine ar_if_ne (tgt := 22) dX6_bars_16 (by decide) (fun h6 => ?_) (fun h6 => ?_)
    · have t := t.1 h6
      refine ar_aload_n (i := 0) dX6_bars_22 rfl rfl ?_
      refine ar_dup dX6_bars_23 rfl ?_
      refine fr_getI (t := 6) (j := 8) dX6_bars_24 fs_X6_51 o_1 rfl ?_
      refine ar_iconst (v := 1) dX6_bars_27 (by decide) ?_
      refine ar_iadd dX6_bars_28 ?_
      refine fr_putI (t := 6) (j := 8) dX6_bars_29 fq_X6_51 o_1 rfl (Or.inl rfl) ?_
      have t := t _ rfl
      refine ar_aload_n (i := 0) dX6_bars_32 rfl rfl ?_
      refine fr_getR (t := 6) (j := 4) (r := 64) dX6_bars_33 fs_X6_32 o_1 rfl rfl (by decide) ?_
      refine ar_aload_n (i := 0) dX6_bars_36 rfl rfl ?_
      refine fr_getR (t := 6) (j := 1) (r := 4) dX6_bars_37 fs_X6_19 o_1 rfl rfl (by decide) ?_
      refine ar_aload_n (i := 0) dX6_bars_40 rfl rfl ?_
      refine fr_getR (t := 6) (j := 1) (r := 4) dX6_bars_41 fs_X6_19 o_1 rfl rfl (by decide) ?_
      refine fr_getR (t := 5) (j := 7) (r := 7) dX6_bars_44 fs_X6_119 wd_4.o rfl rfl (by decide) ?_
      refine ar_iload_n (i := 1) dX6_bars_47 rfl rfl ?_
      obtain ⟨h8, t⟩ := t
      refine fr_aaldP (w := 4) dX6_bars_48 wd_4 h8 ?_
      refine fr_callVi (M' := mX4_leastBar) [_, _] dX6_bars_49 ml_X6_187 mv_X4_leastBar rfl rfl o_64 rfl rfl (Nat.le_of_ble_eq_true rfl) ⟨Nat.le_refl _, Nat.le_refl _⟩ t (fun r10 σ9 t => ?_)
      try dsimp only at t
      exact fr_iret dX6_bars_52 rfl (Nat.le_refl _) (Nat.le_refl _) t
    · have t := t.2 h6
      refine ar_bipush (v := -103) dX6_bars_19 (by decide) ?_
      exact fr_iret dX6_bars_21 rfl (Nat.le_refl _) (Nat.le_refl _) t
  · have t := t.2 h3
    refine ar_bipush (v := -101) dX6_bars_8 (by decide) ?_
    exact fr_iret dX6_bars_10 rfl (Nat.le_refl _) (Nat.le_refl _) t

def t_X6_most (E : am_E) (d : Nat) (x1 : Int32) (x2 : Int32) (σ : FH) (Q : Int32 → FH → Prop) : Prop :=
  fMi E d mX6_isPilgrim [.ref 1, .int x1] σ (fun r2 σ1 => ((¬ r2 = 0 → ((x2 < 0 → Q (-102) σ1) ∧
    (¬ x2 < 0 → ((x2 ≤ 60 → fMi E d mX6_mayForesee [.ref 1, .int x1] σ1 (fun r7 σ6 => ((¬ r7 = 0 → (∀ σ9 : FH, σ9 = fsI σ6 1 8 ((σ6.1 1 8) + 1) → (vp_in x1 4 ∧ fMi E d mX4_mostCounted [.ref 64, .ref 4, .ref (16 + 2 * x1.toNatClampNeg), .int x2] σ9 (fun r12 σ11 => Q r12 σ11)))) ∧
        (r7 = 0 → Q (-103) σ6)))) ∧
      (¬ x2 ≤ 60 → Q (-102) σ1))))) ∧
  (r2 = 0 → Q (-101) σ1)))
set_option maxRecDepth 100000 in
set_option maxHeartbeats 4000000 in
theorem v_X6_most {E : am_E} {d : Nat} {σ : FH} {Q : Int32 → FH → Prop} {x1 : Int32} {x2 : Int32} (t : t_X6_most E d x1 x2 σ Q) : fMi E (d + 1) mX6_most [.ref 1, .int x1, .int x2] σ Q := by
  refine fr_ofG [some (.ref 1), some (.int x1), some (.int x2)] (by decide) rfl (Nat.le_of_ble_eq_true rfl) ?_
  unfold t_X6_most at t
  refine ar_aload_n (i := 0) dX6_most_0 rfl rfl ?_
  refine ar_iload_n (i := 1) dX6_most_1 rfl rfl ?_
  refine fr_callVi (M' := mX6_isPilgrim) [_] dX6_most_2 ml_X6_126 mv_X6_isPilgrim rfl rfl o_1 rfl rfl (Nat.le_of_ble_eq_true rfl) ⟨Nat.le_refl _, Nat.le_refl _⟩ t (fun r2 σ1 t => ?_)
  try dsimp only at t
  refine ar_if_ne (tgt := 11) dX6_most_5 (by decide) (fun h3 => ?_) (fun h3 => ?_)
  · have t := t.1 h3
    refine ar_iload_n (i := 2) dX6_most_11 rfl rfl ?_
    refine ar_if_lt (tgt := 21) dX6_most_12 (by decide) (fun h4 => ?_) (fun h4 => ?_)
    · have t := t.1 h4
      refine ar_bipush (v := -102) dX6_most_21 (by decide) ?_
      exact fr_iret dX6_most_23 rfl (Nat.le_refl _) (Nat.le_refl _) t
    · have t := t.2 h4
      refine ar_iload_n (i := 2) dX6_most_15 rfl rfl ?_
      refine ar_bipush (v := 60) dX6_most_16 (by decide) ?_
      refine ar_icmp_le (tgt := 24) dX6_most_18 (by decide) (fun h5 => ?_) (fun h5 => ?_)
      · have t := t.1 h5
        refine ar_aload_n (i := 0) dX6_most_24 rfl rfl ?_
        refine ar_iload_n (i := 1) dX6_most_25 rfl rfl ?_
        refine fr_callVi (M' := mX6_mayForesee) [_] dX6_most_26 ml_X6_169 mv_X6_mayForesee rfl rfl o_1 rfl rfl (Nat.le_of_ble_eq_true rfl) ⟨Nat.le_refl _, Nat.le_refl _⟩ t (fun r7 σ6 t => ?_)
        try dsimp only at t
        refine ar_if_ne (tgt := 35) dX6_most_29 (by decide) (fun h8 => ?_) (fun h8 => ?_)
        · have t := t.1 h8
          refine ar_aload_n (i := 0) dX6_most_35 rfl rfl ?_
          refine ar_dup dX6_most_36 rfl ?_
          refine fr_getI (t := 6) (j := 8) dX6_most_37 fs_X6_51 o_1 rfl ?_
          refine ar_iconst (v := 1) dX6_most_40 (by decide) ?_
          refine ar_iadd dX6_most_41 ?_
          refine fr_putI (t := 6) (j := 8) dX6_most_42 fq_X6_51 o_1 rfl (Or.inl rfl) ?_
          have t := t _ rfl
          refine ar_aload_n (i := 0) dX6_most_45 rfl rfl ?_
          refine fr_getR (t := 6) (j := 4) (r := 64) dX6_most_46 fs_X6_32 o_1 rfl rfl (by decide) ?_
          refine ar_aload_n (i := 0) dX6_most_49 rfl rfl ?_
          refine fr_getR (t := 6) (j := 1) (r := 4) dX6_most_50 fs_X6_19 o_1 rfl rfl (by decide) ?_
          refine ar_aload_n (i := 0) dX6_most_53 rfl rfl ?_
          refine fr_getR (t := 6) (j := 1) (r := 4) dX6_most_54 fs_X6_19 o_1 rfl rfl (by decide) ?_
          refine fr_getR (t := 5) (j := 7) (r := 7) dX6_most_57 fs_X6_119 wd_4.o rfl rfl (by decide) ?_
          refine ar_iload_n (i := 1) dX6_most_60 rfl rfl ?_
          obtain ⟨h10, t⟩ := t
          refine fr_aaldP (w := 4) dX6_most_61 wd_4 h10 ?_
          refine ar_iload_n (i := 2) dX6_most_62 rfl rfl ?_
          refine fr_callVi (M' := mX4_mostCounted) [_, _, _] dX6_most_63 ml_X6_191 mv_X4_mostCounted rfl rfl o_64 rfl rfl (Nat.le_of_ble_eq_true rfl) ⟨Nat.le_refl _, Nat.le_refl _⟩ t (fun r12 σ11 t => ?_)
          try dsimp only at t
          exact fr_iret dX6_most_66 rfl (Nat.le_refl _) (Nat.le_refl _) t
        · have t := t.2 h8
          refine ar_bipush (v := -103) dX6_most_32 (by decide) ?_
          exact fr_iret dX6_most_34 rfl (Nat.le_refl _) (Nat.le_refl _) t
      · have t := t.2 h5
        refine ar_bipush (v := -102) dX6_most_21 (by decide) ?_
        exact fr_iret dX6_most_23 rfl (Nat.le_refl _) (Nat.le_refl _) t
  · have t := t.2 h3
    refine ar_bipush (v := -101) dX6_most_8 (by decide) ?_
    exact fr_iret dX6_most_10 rfl (Nat.le_refl _) (Nat.le_refl _) t

def t_X6_bridge (E : am_E) (d : Nat) (x1 : Int32) (σ : FH) (Q : Int32 → FH → Prop) : Prop :=
  fMi E d mX6_isPilgrim [.ref 1, .int x1] σ (fun r2 σ1 => ((¬ r2 = 0 → fMi E d mX6_mayForesee [.ref 1, .int x1] σ1 (fun r5 σ4 => ((¬ r5 = 0 → (∀ σ7 : FH, σ7 = fsI σ4 1 8 ((σ4.1 1 8) + 1) → (vp_in x1 4 ∧ fMi E d mX4_bestBridge [.ref 64, .ref 4, .ref (16 + 2 * x1.toNatClampNeg)] σ7 (fun r10 σ9 => Q r10 σ9)))) ∧
    (r5 = 0 → Q (-103) σ4)))) ∧
  (r2 = 0 → Q (-101) σ1)))
set_option maxRecDepth 100000 in
set_option maxHeartbeats 4000000 in
theorem v_X6_bridge {E : am_E} {d : Nat} {σ : FH} {Q : Int32 → FH → Prop} {x1 : Int32} (t : t_X6_bridge E d x1 σ Q) : fMi E (d + 1) mX6_bridge [.ref 1, .int x1] σ Q := by
  refine fr_ofG [some (.ref 1), some (.int x1)] (by decide) rfl (Nat.le_of_ble_eq_true rfl) ?_
  unfold t_X6_bridge at t
  refine ar_aload_n (i := 0) dX6_bridge_0 rfl rfl ?_
  refine ar_iload_n (i := 1) dX6_bridge_1 rfl rfl ?_
  refine fr_callVi (M' := mX6_isPilgrim) [_] dX6_bridge_2 ml_X6_126 mv_X6_isPilgrim rfl rfl o_1 rfl rfl (Nat.le_of_ble_eq_true rfl) ⟨Nat.le_refl _, Nat.le_refl _⟩ t (fun r2 σ1 t => ?_)
  try dsimp only at t
  refine ar_if_ne (tgt := 11) dX6_bridge_5 (by decide) (fun h3 => ?_) (fun h3 => ?_)
  · have t := t.1 h3
    refine ar_aload_n (i := 0) dX6_bridge_11 rfl rfl ?_
    refine ar_iload_n (i := 1) dX6_bridge_12 rfl rfl ?_
    refine fr_callVi (M' := mX6_mayForesee) [_] dX6_bridge_13 ml_X6_169 mv_X6_mayForesee rfl rfl o_1 rfl rfl (Nat.le_of_ble_eq_true rfl) ⟨Nat.le_refl _, Nat.le_refl _⟩ t (fun r5 σ4 t => ?_)
    try dsimp only at t
    refine ar_if_ne (tgt := 22) dX6_bridge_16 (by decide) (fun h6 => ?_) (fun h6 => ?_)
    · have t := t.1 h6
      refine ar_aload_n (i := 0) dX6_bridge_22 rfl rfl ?_
      refine ar_dup dX6_bridge_23 rfl ?_
      refine fr_getI (t := 6) (j := 8) dX6_bridge_24 fs_X6_51 o_1 rfl ?_
      refine ar_iconst (v := 1) dX6_bridge_27 (by decide) ?_
      refine ar_iadd dX6_bridge_28 ?_
      refine fr_putI (t := 6) (j := 8) dX6_bridge_29 fq_X6_51 o_1 rfl (Or.inl rfl) ?_
      have t := t _ rfl
      refine ar_aload_n (i := 0) dX6_bridge_32 rfl rfl ?_
      refine fr_getR (t := 6) (j := 4) (r := 64) dX6_bridge_33 fs_X6_32 o_1 rfl rfl (by decide) ?_
      refine ar_aload_n (i := 0) dX6_bridge_36 rfl rfl ?_
      refine fr_getR (t := 6) (j := 1) (r := 4) dX6_bridge_37 fs_X6_19 o_1 rfl rfl (by decide) ?_
      refine ar_aload_n (i := 0) dX6_bridge_40 rfl rfl ?_
      refine fr_getR (t := 6) (j := 1) (r := 4) dX6_bridge_41 fs_X6_19 o_1 rfl rfl (by decide) ?_
      refine fr_getR (t := 5) (j := 7) (r := 7) dX6_bridge_44 fs_X6_119 wd_4.o rfl rfl (by decide) ?_
      refine ar_iload_n (i := 1) dX6_bridge_47 rfl rfl ?_
      obtain ⟨h8, t⟩ := t
      refine fr_aaldP (w := 4) dX6_bridge_48 wd_4 h8 ?_
      refine fr_callVi (M' := mX4_bestBridge) [_, _] dX6_bridge_49 ml_X6_194 mv_X4_bestBridge rfl rfl o_64 rfl rfl (Nat.le_of_ble_eq_true rfl) ⟨Nat.le_refl _, Nat.le_refl _⟩ t (fun r10 σ9 t => ?_)
      try dsimp only at t
      exact fr_iret dX6_bridge_52 rfl (Nat.le_refl _) (Nat.le_refl _) t
    · have t := t.2 h6
      refine ar_bipush (v := -103) dX6_bridge_19 (by decide) ?_
      exact fr_iret dX6_bridge_21 rfl (Nat.le_refl _) (Nat.le_refl _) t
  · have t := t.2 h3
    refine ar_bipush (v := -101) dX6_bridge_8 (by decide) ?_
    exact fr_iret dX6_bridge_10 rfl (Nat.le_refl _) (Nat.le_refl _) t

def t_X6_log_18 (E : am_E) (d : Nat) (x1 : Int32) (σ : FH) (Q : Int32 → FH → Prop) : Prop :=
  (((σ.1 4 4) < 7 → (vp_in (σ.1 4 4) 7 ∧ (∀ σ4 : FH, σ4 = fsI σ 5 (σ.1 4 4).toNatClampNeg x1 → (∀ σ5 : FH, σ5 = fsI σ4 4 4 ((σ4.1 4 4) + 1) → fMv E d mX3_outdate [.ref 71] σ5 (fun σ6 => Q (σ6.1 4 4) σ6))))) ∧
  (¬ (σ.1 4 4) < 7 → Q (-104) σ))
set_option maxRecDepth 100000 in
set_option maxHeartbeats 4000000 in
theorem v_X6_log_18 {E : am_E} {d : Nat} {σ : FH} {Q : Int32 → FH → Prop} {x1 : Int32} (t : t_X6_log_18 E d x1 σ Q) : fG E (d + 1) mX6_log 18 [some (.ref 1), some (.int x1)] [] σ (qi Q) := by
  unfold t_X6_log_18 at t
  refine ar_aload_n (i := 0) dX6_log_18 rfl rfl ?_
  refine fr_getR (t := 6) (j := 1) (r := 4) dX6_log_19 fs_X6_19 o_1 rfl rfl (by decide) ?_
  refine fr_getI (t := 5) (j := 4) dX6_log_22 fs_X6_197 wd_4.o rfl ?_
  refine ar_bipush (v := 7) dX6_log_25 (by decide) ?_
  refine ar_icmp_lt (tgt := 33) dX6_log_27 (by decide) (fun h2 => ?_) (fun h2 => ?_)
  · have t := t.1 h2
    refine ar_aload_n (i := 0) dX6_log_33 rfl rfl ?_
    refine fr_getR (t := 6) (j := 1) (r := 4) dX6_log_34 fs_X6_19 o_1 rfl rfl (by decide) ?_
    refine fr_getR (t := 5) (j := 5) (r := 5) dX6_log_37 fs_X6_200 wd_4.o rfl rfl (by decide) ?_
    refine ar_aload_n (i := 0) dX6_log_40 rfl rfl ?_
    refine fr_getR (t := 6) (j := 1) (r := 4) dX6_log_41 fs_X6_19 o_1 rfl rfl (by decide) ?_
    refine fr_getI (t := 5) (j := 4) dX6_log_44 fs_X6_197 wd_4.o rfl ?_
    refine ar_iload_n (i := 1) dX6_log_47 rfl rfl ?_
    obtain ⟨h3, t⟩ := t
    refine fr_iast (n := 7) dX6_log_48 a_5 h3 ?_
    have t := t _ rfl
    refine ar_aload_n (i := 0) dX6_log_49 rfl rfl ?_
    refine fr_getR (t := 6) (j := 1) (r := 4) dX6_log_50 fs_X6_19 o_1 rfl rfl (by decide) ?_
    refine ar_dup dX6_log_53 rfl ?_
    refine fr_getI (t := 5) (j := 4) dX6_log_54 fs_X6_197 wd_4.o rfl ?_
    refine ar_iconst (v := 1) dX6_log_57 (by decide) ?_
    refine ar_iadd dX6_log_58 ?_
    refine fr_putI (t := 5) (j := 4) dX6_log_59 fq_X6_197 wd_4.o rfl (Or.inl rfl) ?_
    have t := t _ rfl
    refine ar_aload_n (i := 0) dX6_log_62 rfl rfl ?_
    refine fr_getR (t := 6) (j := 5) (r := 71) dX6_log_63 fs_X6_39 o_1 rfl rfl (by decide) ?_
    refine fr_callVv (M' := mX3_outdate) [] dX6_log_66 ml_X6_76 mv_X3_outdate rfl rfl o_71 rfl rfl (Nat.le_of_ble_eq_true rfl) ⟨Nat.le_refl _, Nat.le_refl _⟩ t (fun σ6 t => ?_)
    try dsimp only at t
    refine ar_aload_n (i := 0) dX6_log_69 rfl rfl ?_
    refine fr_getR (t := 6) (j := 1) (r := 4) dX6_log_70 fs_X6_19 o_1 rfl rfl (by decide) ?_
    refine fr_getI (t := 5) (j := 4) dX6_log_73 fs_X6_197 wd_4.o rfl ?_
    exact fr_iret dX6_log_76 rfl (Nat.le_refl _) (Nat.le_refl _) t
  · have t := t.2 h2
    refine ar_bipush (v := -104) dX6_log_30 (by decide) ?_
    exact fr_iret dX6_log_32 rfl (Nat.le_refl _) (Nat.le_refl _) t
def t_X6_log (E : am_E) (d : Nat) (x1 : Int32) (σ : FH) (Q : Int32 → FH → Prop) : Prop :=
  ((x1 = (-1) → t_X6_log_18 E d x1 σ Q) ∧
  (¬ x1 = (-1) → ((x1 < 0 → Q (-101) σ) ∧
    (¬ x1 < 0 → ((x1 < 6 → t_X6_log_18 E d x1 σ Q) ∧
      (¬ x1 < 6 → Q (-101) σ))))))
set_option maxRecDepth 100000 in
set_option maxHeartbeats 4000000 in
theorem v_X6_log {E : am_E} {d : Nat} {σ : FH} {Q : Int32 → FH → Prop} {x1 : Int32} (t : t_X6_log E d x1 σ Q) : fMi E (d + 1) mX6_log [.ref 1, .int x1] σ Q := by
  refine fr_ofG [some (.ref 1), some (.int x1)] (by decide) rfl (Nat.le_of_ble_eq_true rfl) ?_
  unfold t_X6_log at t
  refine ar_iload_n (i := 1) dX6_log_0 rfl rfl ?_
  refine ar_iconst (v := -1) dX6_log_1 (by decide) ?_
  refine ar_icmp_eq (tgt := 18) dX6_log_2 (by decide) (fun h1 => ?_) (fun h1 => ?_)
  · have t := t.1 h1
    exact v_X6_log_18 t
  · have t := t.2 h1
    refine ar_iload_n (i := 1) dX6_log_5 rfl rfl ?_
    refine ar_if_lt (tgt := 15) dX6_log_6 (by decide) (fun h8 => ?_) (fun h8 => ?_)
    · have t := t.1 h8
      refine ar_bipush (v := -101) dX6_log_15 (by decide) ?_
      exact fr_iret dX6_log_17 rfl (Nat.le_refl _) (Nat.le_refl _) t
    · have t := t.2 h8
      refine ar_iload_n (i := 1) dX6_log_9 rfl rfl ?_
      refine ar_bipush (v := 6) dX6_log_10 (by decide) ?_
      refine ar_icmp_lt (tgt := 18) dX6_log_12 (by decide) (fun h9 => ?_) (fun h9 => ?_)
      · have t := t.1 h9
        exact v_X6_log_18 t
      · have t := t.2 h9
        refine ar_bipush (v := -101) dX6_log_15 (by decide) ?_
        exact fr_iret dX6_log_17 rfl (Nat.le_refl _) (Nat.le_refl _) t

def t_X6_forget (E : am_E) (d : Nat) (σ : FH) (Q : Int32 → FH → Prop) : Prop :=
  (∀ σ1 : FH, σ1 = fsI σ 4 4 0 → fMv E d mX3_outdate [.ref 71] σ1 (fun σ2 => Q (σ.1 4 4) σ2))
set_option maxRecDepth 100000 in
set_option maxHeartbeats 4000000 in
theorem v_X6_forget {E : am_E} {d : Nat} {σ : FH} {Q : Int32 → FH → Prop} (t : t_X6_forget E d σ Q) : fMi E (d + 1) mX6_forget [.ref 1] σ Q := by
  refine fr_ofG [some (.ref 1), none] (by decide) rfl (Nat.le_of_ble_eq_true rfl) ?_
  unfold t_X6_forget at t
  refine ar_aload_n (i := 0) dX6_forget_0 rfl rfl ?_
  refine fr_getR (t := 6) (j := 1) (r := 4) dX6_forget_1 fs_X6_19 o_1 rfl rfl (by decide) ?_
  refine fr_getI (t := 5) (j := 4) dX6_forget_4 fs_X6_197 wd_4.o rfl ?_
  refine ar_istore_n (i := 1) (lo2 := [_, _]) dX6_forget_7 rfl (Nat.le_of_ble_eq_true rfl) rfl rfl ?_
  refine ar_aload_n (i := 0) dX6_forget_8 rfl rfl ?_
  refine fr_getR (t := 6) (j := 1) (r := 4) dX6_forget_9 fs_X6_19 o_1 rfl rfl (by decide) ?_
  refine ar_iconst (v := 0) dX6_forget_12 (by decide) ?_
  refine fr_putI (t := 5) (j := 4) dX6_forget_13 fq_X6_197 wd_4.o rfl (Or.inl rfl) ?_
  have t := t _ rfl
  refine ar_aload_n (i := 0) dX6_forget_16 rfl rfl ?_
  refine fr_getR (t := 6) (j := 5) (r := 71) dX6_forget_17 fs_X6_39 o_1 rfl rfl (by decide) ?_
  refine fr_callVv (M' := mX3_outdate) [] dX6_forget_20 ml_X6_76 mv_X3_outdate rfl rfl o_71 rfl rfl (Nat.le_of_ble_eq_true rfl) ⟨Nat.le_refl _, Nat.le_refl _⟩ t (fun σ2 t => ?_)
  try dsimp only at t
  refine ar_iload_n (i := 1) dX6_forget_23 rfl rfl ?_
  exact fr_iret dX6_forget_24 rfl (Nat.le_refl _) (Nat.le_refl _) t

def t_X6_walks (E : am_E) (d : Nat) (σ : FH) (Q : Int32 → FH → Prop) : Prop :=
  ((¬ (σ.1 4 1) = 0 → fMv E d mX3_tally [.ref 71, .ref 4] σ (fun σ2 => Q (σ2.1 71 0) σ2)) ∧
  ((σ.1 4 1) = 0 → Q (-103) σ))
set_option maxRecDepth 100000 in
set_option maxHeartbeats 4000000 in
theorem v_X6_walks {E : am_E} {d : Nat} {σ : FH} {Q : Int32 → FH → Prop} (t : t_X6_walks E d σ Q) : fMi E (d + 1) mX6_walks [.ref 1] σ Q := by
  refine fr_ofG [some (.ref 1)] (by decide) rfl (Nat.le_of_ble_eq_true rfl) ?_
  unfold t_X6_walks at t
  refine ar_aload_n (i := 0) dX6_walks_0 rfl rfl ?_
  refine fr_getR (t := 6) (j := 1) (r := 4) dX6_walks_1 fs_X6_19 o_1 rfl rfl (by decide) ?_
  refine fr_getI (t := 5) (j := 1) dX6_walks_4 fs_X6_79 wd_4.o rfl ?_
  refine ar_if_ne (tgt := 13) dX6_walks_7 (by decide) (fun h1 => ?_) (fun h1 => ?_)
  · have t := t.1 h1
    refine ar_aload_n (i := 0) dX6_walks_13 rfl rfl ?_
    refine fr_getR (t := 6) (j := 5) (r := 71) dX6_walks_14 fs_X6_39 o_1 rfl rfl (by decide) ?_
    refine ar_aload_n (i := 0) dX6_walks_17 rfl rfl ?_
    refine fr_getR (t := 6) (j := 1) (r := 4) dX6_walks_18 fs_X6_19 o_1 rfl rfl (by decide) ?_
    refine fr_callVv (M' := mX3_tally) [_] dX6_walks_21 ml_X6_203 mv_X3_tally rfl rfl o_71 rfl rfl (Nat.le_of_ble_eq_true rfl) ⟨Nat.le_refl _, Nat.le_refl _⟩ t (fun σ2 t => ?_)
    try dsimp only at t
    refine ar_aload_n (i := 0) dX6_walks_24 rfl rfl ?_
    refine fr_getR (t := 6) (j := 5) (r := 71) dX6_walks_25 fs_X6_39 o_1 rfl rfl (by decide) ?_
    refine fr_getI (t := 3) (j := 0) dX6_walks_28 fs_X6_206 o_71 rfl ?_
    exact fr_iret dX6_walks_31 rfl (Nat.le_refl _) (Nat.le_refl _) t
  · have t := t.2 h1
    refine ar_bipush (v := -103) dX6_walks_10 (by decide) ?_
    exact fr_iret dX6_walks_12 rfl (Nat.le_refl _) (Nat.le_refl _) t

def t_X6_walksBy (E : am_E) (d : Nat) (x1 : Int32) (σ : FH) (Q : Int32 → FH → Prop) : Prop :=
  ((x1 < 0 → Q (-102) σ) ∧
  (¬ x1 < 0 → ((x1 ≤ 60 → ((¬ (σ.1 4 1) = 0 → fMv E d mX3_tally [.ref 71, .ref 4] σ (fun σ4 => (vp_in x1 61 ∧ Q (σ4.1 72 x1.toNatClampNeg) σ4))) ∧
      ((σ.1 4 1) = 0 → Q (-103) σ))) ∧
    (¬ x1 ≤ 60 → Q (-102) σ))))
set_option maxRecDepth 100000 in
set_option maxHeartbeats 4000000 in
theorem v_X6_walksBy {E : am_E} {d : Nat} {σ : FH} {Q : Int32 → FH → Prop} {x1 : Int32} (t : t_X6_walksBy E d x1 σ Q) : fMi E (d + 1) mX6_walksBy [.ref 1, .int x1] σ Q := by
  refine fr_ofG [some (.ref 1), some (.int x1)] (by decide) rfl (Nat.le_of_ble_eq_true rfl) ?_
  unfold t_X6_walksBy at t
  refine ar_iload_n (i := 1) dX6_walksBy_0 rfl rfl ?_
  refine ar_if_lt (tgt := 10) dX6_walksBy_1 (by decide) (fun h1 => ?_) (fun h1 => ?_)
  · have t := t.1 h1
    refine ar_bipush (v := -102) dX6_walksBy_10 (by decide) ?_
    exact fr_iret dX6_walksBy_12 rfl (Nat.le_refl _) (Nat.le_refl _) t
  · have t := t.2 h1
    refine ar_iload_n (i := 1) dX6_walksBy_4 rfl rfl ?_
    refine ar_bipush (v := 60) dX6_walksBy_5 (by decide) ?_
    refine ar_icmp_le (tgt := 13) dX6_walksBy_7 (by decide) (fun h2 => ?_) (fun h2 => ?_)
    · have t := t.1 h2
      refine ar_aload_n (i := 0) dX6_walksBy_13 rfl rfl ?_
      refine fr_getR (t := 6) (j := 1) (r := 4) dX6_walksBy_14 fs_X6_19 o_1 rfl rfl (by decide) ?_
      refine fr_getI (t := 5) (j := 1) dX6_walksBy_17 fs_X6_79 wd_4.o rfl ?_
      refine ar_if_ne (tgt := 26) dX6_walksBy_20 (by decide) (fun h3 => ?_) (fun h3 => ?_)
      · have t := t.1 h3
        refine ar_aload_n (i := 0) dX6_walksBy_26 rfl rfl ?_
        refine fr_getR (t := 6) (j := 5) (r := 71) dX6_walksBy_27 fs_X6_39 o_1 rfl rfl (by decide) ?_
        refine ar_aload_n (i := 0) dX6_walksBy_30 rfl rfl ?_
        refine fr_getR (t := 6) (j := 1) (r := 4) dX6_walksBy_31 fs_X6_19 o_1 rfl rfl (by decide) ?_
        refine fr_callVv (M' := mX3_tally) [_] dX6_walksBy_34 ml_X6_203 mv_X3_tally rfl rfl o_71 rfl rfl (Nat.le_of_ble_eq_true rfl) ⟨Nat.le_refl _, Nat.le_refl _⟩ t (fun σ4 t => ?_)
        try dsimp only at t
        refine ar_aload_n (i := 0) dX6_walksBy_37 rfl rfl ?_
        refine fr_getR (t := 6) (j := 5) (r := 71) dX6_walksBy_38 fs_X6_39 o_1 rfl rfl (by decide) ?_
        refine fr_getR (t := 3) (j := 2) (r := 72) dX6_walksBy_41 fs_X6_209 o_71 rfl rfl (by decide) ?_
        refine ar_iload_n (i := 1) dX6_walksBy_44 rfl rfl ?_
        obtain ⟨h6, t⟩ := t
        refine fr_iald (n := 61) dX6_walksBy_45 a_72 h6 ?_
        exact fr_iret dX6_walksBy_46 rfl (Nat.le_refl _) (Nat.le_refl _) t
      · have t := t.2 h3
        refine ar_bipush (v := -103) dX6_walksBy_23 (by decide) ?_
        exact fr_iret dX6_walksBy_25 rfl (Nat.le_refl _) (Nat.le_refl _) t
    · have t := t.2 h2
      refine ar_bipush (v := -102) dX6_walksBy_10 (by decide) ?_
      exact fr_iret dX6_walksBy_12 rfl (Nat.le_refl _) (Nat.le_refl _) t

def t_X6_last (E : am_E) (d : Nat) (σ : FH) (Q : Int32 → FH → Prop) : Prop :=
  ((¬ (σ.1 4 1) = 0 → fMv E d mX3_tally [.ref 71, .ref 4] σ (fun σ2 => Q (σ2.1 71 1) σ2)) ∧
  ((σ.1 4 1) = 0 → Q (-103) σ))
set_option maxRecDepth 100000 in
set_option maxHeartbeats 4000000 in
theorem v_X6_last {E : am_E} {d : Nat} {σ : FH} {Q : Int32 → FH → Prop} (t : t_X6_last E d σ Q) : fMi E (d + 1) mX6_last [.ref 1] σ Q := by
  refine fr_ofG [some (.ref 1)] (by decide) rfl (Nat.le_of_ble_eq_true rfl) ?_
  unfold t_X6_last at t
  refine ar_aload_n (i := 0) dX6_last_0 rfl rfl ?_
  refine fr_getR (t := 6) (j := 1) (r := 4) dX6_last_1 fs_X6_19 o_1 rfl rfl (by decide) ?_
  refine fr_getI (t := 5) (j := 1) dX6_last_4 fs_X6_79 wd_4.o rfl ?_
  refine ar_if_ne (tgt := 13) dX6_last_7 (by decide) (fun h1 => ?_) (fun h1 => ?_)
  · have t := t.1 h1
    refine ar_aload_n (i := 0) dX6_last_13 rfl rfl ?_
    refine fr_getR (t := 6) (j := 5) (r := 71) dX6_last_14 fs_X6_39 o_1 rfl rfl (by decide) ?_
    refine ar_aload_n (i := 0) dX6_last_17 rfl rfl ?_
    refine fr_getR (t := 6) (j := 1) (r := 4) dX6_last_18 fs_X6_19 o_1 rfl rfl (by decide) ?_
    refine fr_callVv (M' := mX3_tally) [_] dX6_last_21 ml_X6_203 mv_X3_tally rfl rfl o_71 rfl rfl (Nat.le_of_ble_eq_true rfl) ⟨Nat.le_refl _, Nat.le_refl _⟩ t (fun σ2 t => ?_)
    try dsimp only at t
    refine ar_aload_n (i := 0) dX6_last_24 rfl rfl ?_
    refine fr_getR (t := 6) (j := 5) (r := 71) dX6_last_25 fs_X6_39 o_1 rfl rfl (by decide) ?_
    refine fr_getI (t := 3) (j := 1) dX6_last_28 fs_X6_212 o_71 rfl ?_
    exact fr_iret dX6_last_31 rfl (Nat.le_refl _) (Nat.le_refl _) t
  · have t := t.2 h1
    refine ar_bipush (v := -103) dX6_last_10 (by decide) ?_
    exact fr_iret dX6_last_12 rfl (Nat.le_refl _) (Nat.le_refl _) t

def t_X6_months (E : am_E) (d : Nat) (x1 : Int32) (x2 : Int32) (x3 : Int32) (σ : FH) (Q : Int32 → FH → Prop) : Prop :=
  ((x1 < 1 → Q (-102) σ) ∧
  (¬ x1 < 1 → ((60 < x1 → Q (-102) σ) ∧
    (¬ 60 < x1 → ((x2 < 0 → Q (-102) σ) ∧
      (¬ x2 < 0 → ((x3 < 0 → Q (-102) σ) ∧
        (¬ x3 < 0 → ((x3 ≤ 3 → ((¬ (σ.1 4 1) = 0 → fMv E d mX5_become [.ref 44, .ref 4] σ (fun σ7 => fMi E d mX5_live [.ref 44, .int x1, .int x2] σ7 (fun r10 σ9 => ((x3 = 0 → fMi E d mX5_letInCount [.ref 44] σ9 (fun r13 σ12 => Q r13 σ12)) ∧
              ((x3 = 1 → fMi E d mX5_hurtOfAll [.ref 44] σ9 (fun r16 σ15 => Q r16 σ15)) ∧
              ((x3 = 2 → fMi E d mX5_countedByAll [.ref 44] σ9 (fun r19 σ18 => Q r19 σ18)) ∧
              (¬ x3 = 0 → ¬ x3 = 1 → ¬ x3 = 2 → Q r10 σ9))))))) ∧
            ((σ.1 4 1) = 0 → Q (-103) σ))) ∧
          (¬ x3 ≤ 3 → Q (-102) σ))))))))))
set_option maxRecDepth 100000 in
set_option maxHeartbeats 4000000 in
theorem v_X6_months {E : am_E} {d : Nat} {σ : FH} {Q : Int32 → FH → Prop} {x1 : Int32} {x2 : Int32} {x3 : Int32} (t : t_X6_months E d x1 x2 x3 σ Q) : fMi E (d + 1) mX6_months [.ref 1, .int x1, .int x2, .int x3] σ Q := by
  refine fr_ofG [some (.ref 1), some (.int x1), some (.int x2), some (.int x3), none] (by decide) rfl (Nat.le_of_ble_eq_true rfl) ?_
  unfold t_X6_months at t
  refine ar_iload_n (i := 1) dX6_months_0 rfl rfl ?_
  refine ar_iconst (v := 1) dX6_months_1 (by decide) ?_
  refine ar_icmp_lt (tgt := 24) dX6_months_2 (by decide) (fun h1 => ?_) (fun h1 => ?_)
  · have t := t.1 h1
    refine ar_bipush (v := -102) dX6_months_24 (by decide) ?_
    exact fr_iret dX6_months_26 rfl (Nat.le_refl _) (Nat.le_refl _) t
  · have t := t.2 h1
    refine ar_iload_n (i := 1) dX6_months_5 rfl rfl ?_
    refine ar_bipush (v := 60) dX6_months_6 (by decide) ?_
    refine ar_icmp_gt (tgt := 24) dX6_months_8 (by decide) (fun h2 => ?_) (fun h2 => ?_)
    · have t := t.1 h2
      refine ar_bipush (v := -102) dX6_months_24 (by decide) ?_
      exact fr_iret dX6_months_26 rfl (Nat.le_refl _) (Nat.le_refl _) t
    · have t := t.2 h2
      refine ar_iload_n (i := 2) dX6_months_11 rfl rfl ?_
      refine ar_if_lt (tgt := 24) dX6_months_12 (by decide) (fun h3 => ?_) (fun h3 => ?_)
      · have t := t.1 h3
        refine ar_bipush (v := -102) dX6_months_24 (by decide) ?_
        exact fr_iret dX6_months_26 rfl (Nat.le_refl _) (Nat.le_refl _) t
      · have t := t.2 h3
        refine ar_iload_n (i := 3) dX6_months_15 rfl rfl ?_
        refine ar_if_lt (tgt := 24) dX6_months_16 (by decide) (fun h4 => ?_) (fun h4 => ?_)
        · have t := t.1 h4
          refine ar_bipush (v := -102) dX6_months_24 (by decide) ?_
          exact fr_iret dX6_months_26 rfl (Nat.le_refl _) (Nat.le_refl _) t
        · have t := t.2 h4
          refine ar_iload_n (i := 3) dX6_months_19 rfl rfl ?_
          refine ar_iconst (v := 3) dX6_months_20 (by decide) ?_
          refine ar_icmp_le (tgt := 27) dX6_months_21 (by decide) (fun h5 => ?_) (fun h5 => ?_)
          · have t := t.1 h5
            refine ar_aload_n (i := 0) dX6_months_27 rfl rfl ?_
            refine fr_getR (t := 6) (j := 1) (r := 4) dX6_months_28 fs_X6_19 o_1 rfl rfl (by decide) ?_
            refine fr_getI (t := 5) (j := 1) dX6_months_31 fs_X6_79 wd_4.o rfl ?_
            refine ar_if_ne (tgt := 40) dX6_months_34 (by decide) (fun h6 => ?_) (fun h6 => ?_)
            · have t := t.1 h6
              refine ar_aload_n (i := 0) dX6_months_40 rfl rfl ?_
              refine fr_getR (t := 6) (j := 3) (r := 44) dX6_months_41 fs_X6_26 o_1 rfl rfl (by decide) ?_
              refine ar_aload_n (i := 0) dX6_months_44 rfl rfl ?_
              refine fr_getR (t := 6) (j := 1) (r := 4) dX6_months_45 fs_X6_19 o_1 rfl rfl (by decide) ?_
              refine fr_callVv (M' := mX5_become) [_] dX6_months_48 ml_X6_215 mv_X5_become rfl rfl wd_44.o rfl rfl (Nat.le_of_ble_eq_true rfl) ⟨Nat.le_refl _, Nat.le_refl _⟩ t (fun σ7 t => ?_)
              try dsimp only at t
              refine ar_aload_n (i := 0) dX6_months_51 rfl rfl ?_
              refine fr_getR (t := 6) (j := 3) (r := 44) dX6_months_52 fs_X6_26 o_1 rfl rfl (by decide) ?_
              refine ar_iload_n (i := 1) dX6_months_55 rfl rfl ?_
              refine ar_iload_n (i := 2) dX6_months_56 rfl rfl ?_
              refine fr_callVi (M' := mX5_live) [_, _] dX6_months_57 ml_X6_218 mv_X5_live rfl rfl wd_44.o rfl rfl (Nat.le_of_ble_eq_true rfl) ⟨Nat.le_refl _, Nat.le_refl _⟩ t (fun r10 σ9 t => ?_)
              try dsimp only at t
              refine ar_istore (i := 4) (lo2 := [_, _, _, _, _]) dX6_months_60 (Nat.le_of_ble_eq_true rfl) rfl rfl ?_
              refine ar_iload_n (i := 3) dX6_months_62 rfl rfl ?_
              by_cases h11 : x3 = 0
              · have t := t.1 h11
                refine ar_tableIn (tgt := 88) dX6_months_63 (by rw [h11]; decide) (by rw [h11]; decide) (by rw [h11]; rfl) (by decide) ?_
                refine ar_aload_n (i := 0) dX6_months_88 rfl rfl ?_
                refine fr_getR (t := 6) (j := 3) (r := 44) dX6_months_89 fs_X6_26 o_1 rfl rfl (by decide) ?_
                refine fr_callVi (M' := mX5_letInCount) [] dX6_months_92 ml_X6_222 mv_X5_letInCount rfl rfl wd_44.o rfl rfl (Nat.le_of_ble_eq_true rfl) ⟨Nat.le_refl _, Nat.le_refl _⟩ t (fun r13 σ12 t => ?_)
                try dsimp only at t
                exact fr_iret dX6_months_95 rfl (Nat.le_refl _) (Nat.le_refl _) t
              have t := t.2
              by_cases h14 : x3 = 1
              · have t := t.1 h14
                refine ar_tableIn (tgt := 96) dX6_months_63 (by rw [h14]; decide) (by rw [h14]; decide) (by rw [h14]; rfl) (by decide) ?_
                refine ar_aload_n (i := 0) dX6_months_96 rfl rfl ?_
                refine fr_getR (t := 6) (j := 3) (r := 44) dX6_months_97 fs_X6_26 o_1 rfl rfl (by decide) ?_
                refine fr_callVi (M' := mX5_hurtOfAll) [] dX6_months_100 ml_X6_225 mv_X5_hurtOfAll rfl rfl wd_44.o rfl rfl (Nat.le_of_ble_eq_true rfl) ⟨Nat.le_refl _, Nat.le_refl _⟩ t (fun r16 σ15 t => ?_)
                try dsimp only at t
                exact fr_iret dX6_months_103 rfl (Nat.le_refl _) (Nat.le_refl _) t
              have t := t.2
              by_cases h17 : x3 = 2
              · have t := t.1 h17
                refine ar_tableIn (tgt := 104) dX6_months_63 (by rw [h17]; decide) (by rw [h17]; decide) (by rw [h17]; rfl) (by decide) ?_
                refine ar_aload_n (i := 0) dX6_months_104 rfl rfl ?_
                refine fr_getR (t := 6) (j := 3) (r := 44) dX6_months_105 fs_X6_26 o_1 rfl rfl (by decide) ?_
                refine fr_callVi (M' := mX5_countedByAll) [] dX6_months_108 ml_X6_228 mv_X5_countedByAll rfl rfl wd_44.o rfl rfl (Nat.le_of_ble_eq_true rfl) ⟨Nat.le_refl _, Nat.le_refl _⟩ t (fun r19 σ18 t => ?_)
                try dsimp only at t
                exact fr_iret dX6_months_111 rfl (Nat.le_refl _) (Nat.le_refl _) t
              have t := t.2
              have t := t h11 h14 h17
              refine ar_tableOut (tgt := 112) dX6_months_63 (by have q0 := sw_ne h11 (n := 0) (by decide); have q1 := sw_ne h14 (n := 1) (by decide); have q2 := sw_ne h17 (n := 2) (by decide); omega) (by decide) ?_
              refine ar_iload (i := 4) dX6_months_112 rfl ?_
              exact fr_iret dX6_months_114 rfl (Nat.le_refl _) (Nat.le_refl _) t
            · have t := t.2 h6
              refine ar_bipush (v := -103) dX6_months_37 (by decide) ?_
              exact fr_iret dX6_months_39 rfl (Nat.le_refl _) (Nat.le_refl _) t
          · have t := t.2 h5
            refine ar_bipush (v := -102) dX6_months_24 (by decide) ?_
            exact fr_iret dX6_months_26 rfl (Nat.le_refl _) (Nat.le_refl _) t

def t_X6_image (E : am_E) (d : Nat) (σ : FH) (Q : Int32 → FH → Prop) : Prop :=
  ((¬ (σ.1 4 1) = 0 → fMv E d mX5_become [.ref 24, .ref 4] σ (fun σ2 => (∀ σ4 : FH, σ4 = fsI σ2 1 6 1 → Q (σ4.1 4 3) σ4))) ∧
  ((σ.1 4 1) = 0 → Q (-103) σ))
set_option maxRecDepth 100000 in
set_option maxHeartbeats 4000000 in
theorem v_X6_image {E : am_E} {d : Nat} {σ : FH} {Q : Int32 → FH → Prop} (t : t_X6_image E d σ Q) : fMi E (d + 1) mX6_image [.ref 1] σ Q := by
  refine fr_ofG [some (.ref 1)] (by decide) rfl (Nat.le_of_ble_eq_true rfl) ?_
  unfold t_X6_image at t
  refine ar_aload_n (i := 0) dX6_image_0 rfl rfl ?_
  refine fr_getR (t := 6) (j := 1) (r := 4) dX6_image_1 fs_X6_19 o_1 rfl rfl (by decide) ?_
  refine fr_getI (t := 5) (j := 1) dX6_image_4 fs_X6_79 wd_4.o rfl ?_
  refine ar_if_ne (tgt := 13) dX6_image_7 (by decide) (fun h1 => ?_) (fun h1 => ?_)
  · have t := t.1 h1
    refine ar_aload_n (i := 0) dX6_image_13 rfl rfl ?_
    refine fr_getR (t := 6) (j := 2) (r := 24) dX6_image_14 fs_X6_23 o_1 rfl rfl (by decide) ?_
    refine ar_aload_n (i := 0) dX6_image_17 rfl rfl ?_
    refine fr_getR (t := 6) (j := 1) (r := 4) dX6_image_18 fs_X6_19 o_1 rfl rfl (by decide) ?_
    refine fr_callVv (M' := mX5_become) [_] dX6_image_21 ml_X6_215 mv_X5_become rfl rfl wd_24.o rfl rfl (Nat.le_of_ble_eq_true rfl) ⟨Nat.le_refl _, Nat.le_refl _⟩ t (fun σ2 t => ?_)
    try dsimp only at t
    refine ar_aload_n (i := 0) dX6_image_24 rfl rfl ?_
    refine ar_iconst (v := 1) dX6_image_25 (by decide) ?_
    refine fr_putI (t := 6) (j := 6) dX6_image_26 fq_X6_43 o_1 rfl (Or.inr (Or.inr rfl)) ?_
    have t := t _ rfl
    refine ar_aload_n (i := 0) dX6_image_29 rfl rfl ?_
    refine fr_getR (t := 6) (j := 1) (r := 4) dX6_image_30 fs_X6_19 o_1 rfl rfl (by decide) ?_
    refine fr_getI (t := 5) (j := 3) dX6_image_33 fs_X6_156 wd_4.o rfl ?_
    exact fr_iret dX6_image_36 rfl (Nat.le_refl _) (Nat.le_refl _) t
  · have t := t.2 h1
    refine ar_bipush (v := -103) dX6_image_10 (by decide) ?_
    exact fr_iret dX6_image_12 rfl (Nat.le_refl _) (Nat.le_refl _) t

def t_X6_restore (E : am_E) (d : Nat) (σ : FH) (Q : Int32 → FH → Prop) : Prop :=
  ((¬ (σ.1 1 6) = 0 → fMv E d mX5_become [.ref 4, .ref 24] σ (fun σ2 => fMv E d mX3_outdate [.ref 71] σ2 (fun σ4 => Q (σ4.1 4 3) σ4))) ∧
  ((σ.1 1 6) = 0 → Q (-103) σ))
set_option maxRecDepth 100000 in
set_option maxHeartbeats 4000000 in
theorem v_X6_restore {E : am_E} {d : Nat} {σ : FH} {Q : Int32 → FH → Prop} (t : t_X6_restore E d σ Q) : fMi E (d + 1) mX6_restore [.ref 1] σ Q := by
  refine fr_ofG [some (.ref 1)] (by decide) rfl (Nat.le_of_ble_eq_true rfl) ?_
  unfold t_X6_restore at t
  refine ar_aload_n (i := 0) dX6_restore_0 rfl rfl ?_
  refine fr_getI (t := 6) (j := 6) dX6_restore_1 fs_X6_43 o_1 rfl ?_
  refine ar_if_ne (tgt := 10) dX6_restore_4 (by decide) (fun h1 => ?_) (fun h1 => ?_)
  · have t := t.1 h1
    refine ar_aload_n (i := 0) dX6_restore_10 rfl rfl ?_
    refine fr_getR (t := 6) (j := 1) (r := 4) dX6_restore_11 fs_X6_19 o_1 rfl rfl (by decide) ?_
    refine ar_aload_n (i := 0) dX6_restore_14 rfl rfl ?_
    refine fr_getR (t := 6) (j := 2) (r := 24) dX6_restore_15 fs_X6_23 o_1 rfl rfl (by decide) ?_
    refine fr_callVv (M' := mX5_become) [_] dX6_restore_18 ml_X6_215 mv_X5_become rfl rfl wd_4.o rfl rfl (Nat.le_of_ble_eq_true rfl) ⟨Nat.le_refl _, Nat.le_refl _⟩ t (fun σ2 t => ?_)
    try dsimp only at t
    refine ar_aload_n (i := 0) dX6_restore_21 rfl rfl ?_
    refine fr_getR (t := 6) (j := 5) (r := 71) dX6_restore_22 fs_X6_39 o_1 rfl rfl (by decide) ?_
    refine fr_callVv (M' := mX3_outdate) [] dX6_restore_25 ml_X6_76 mv_X3_outdate rfl rfl o_71 rfl rfl (Nat.le_of_ble_eq_true rfl) ⟨Nat.le_refl _, Nat.le_refl _⟩ t (fun σ4 t => ?_)
    try dsimp only at t
    refine ar_aload_n (i := 0) dX6_restore_28 rfl rfl ?_
    refine fr_getR (t := 6) (j := 1) (r := 4) dX6_restore_29 fs_X6_19 o_1 rfl rfl (by decide) ?_
    refine fr_getI (t := 5) (j := 3) dX6_restore_32 fs_X6_156 wd_4.o rfl ?_
    exact fr_iret dX6_restore_35 rfl (Nat.le_refl _) (Nat.le_refl _) t
  · have t := t.2 h1
    refine ar_bipush (v := -103) dX6_restore_7 (by decide) ?_
    exact fr_iret dX6_restore_9 rfl (Nat.le_refl _) (Nat.le_refl _) t

def t_X6_count (E : am_E) (d : Nat) (x1 : Int32) (σ : FH) (Q : Int32 → FH → Prop) : Prop :=
  ((x1 = 0 → Q (σ.1 4 1) σ) ∧
  ((x1 = 1 → Q (σ.1 4 0) σ) ∧
  ((x1 = 2 → Q (σ.1 4 2) σ) ∧
  ((x1 = 3 → fMi E d mX5_letInCount [.ref 4] σ (fun r6 σ5 => Q r6 σ5)) ∧
  ((x1 = 4 → Q (σ.1 4 3) σ) ∧
  ((x1 = 5 → Q (σ.1 4 4) σ) ∧
  ((x1 = 6 → Q (σ.1 2 1) σ) ∧
  ((x1 = 7 → Q (σ.1 1 7) σ) ∧
  ((x1 = 8 → Q (σ.1 1 8) σ) ∧
  (¬ x1 = 0 → ¬ x1 = 1 → ¬ x1 = 2 → ¬ x1 = 3 → ¬ x1 = 4 → ¬ x1 = 5 → ¬ x1 = 6 → ¬ x1 = 7 → ¬ x1 = 8 → Q (-102) σ))))))))))
set_option maxRecDepth 100000 in
set_option maxHeartbeats 4000000 in
theorem v_X6_count {E : am_E} {d : Nat} {σ : FH} {Q : Int32 → FH → Prop} {x1 : Int32} (t : t_X6_count E d x1 σ Q) : fMi E (d + 1) mX6_count [.ref 1, .int x1] σ Q := by
  refine fr_ofG [some (.ref 1), some (.int x1)] (by decide) rfl (Nat.le_of_ble_eq_true rfl) ?_
  unfold t_X6_count at t
  refine ar_iload_n (i := 1) dX6_count_0 rfl rfl ?_
  by_cases h1 : x1 = 0
  · have t := t.1 h1
    refine ar_tableIn (tgt := 52) dX6_count_1 (by rw [h1]; decide) (by rw [h1]; decide) (by rw [h1]; rfl) (by decide) ?_
    refine ar_aload_n (i := 0) dX6_count_52 rfl rfl ?_
    refine fr_getR (t := 6) (j := 1) (r := 4) dX6_count_53 fs_X6_19 o_1 rfl rfl (by decide) ?_
    refine fr_getI (t := 5) (j := 1) dX6_count_56 fs_X6_79 wd_4.o rfl ?_
    exact fr_iret dX6_count_59 rfl (Nat.le_refl _) (Nat.le_refl _) t
  have t := t.2
  by_cases h2 : x1 = 1
  · have t := t.1 h2
    refine ar_tableIn (tgt := 60) dX6_count_1 (by rw [h2]; decide) (by rw [h2]; decide) (by rw [h2]; rfl) (by decide) ?_
    refine ar_aload_n (i := 0) dX6_count_60 rfl rfl ?_
    refine fr_getR (t := 6) (j := 1) (r := 4) dX6_count_61 fs_X6_19 o_1 rfl rfl (by decide) ?_
    refine fr_getI (t := 5) (j := 0) dX6_count_64 fs_X6_162 wd_4.o rfl ?_
    exact fr_iret dX6_count_67 rfl (Nat.le_refl _) (Nat.le_refl _) t
  have t := t.2
  by_cases h3 : x1 = 2
  · have t := t.1 h3
    refine ar_tableIn (tgt := 68) dX6_count_1 (by rw [h3]; decide) (by rw [h3]; decide) (by rw [h3]; rfl) (by decide) ?_
    refine ar_aload_n (i := 0) dX6_count_68 rfl rfl ?_
    refine fr_getR (t := 6) (j := 1) (r := 4) dX6_count_69 fs_X6_19 o_1 rfl rfl (by decide) ?_
    refine fr_getI (t := 5) (j := 2) dX6_count_72 fs_X6_116 wd_4.o rfl ?_
    exact fr_iret dX6_count_75 rfl (Nat.le_refl _) (Nat.le_refl _) t
  have t := t.2
  by_cases h4 : x1 = 3
  · have t := t.1 h4
    refine ar_tableIn (tgt := 76) dX6_count_1 (by rw [h4]; decide) (by rw [h4]; decide) (by rw [h4]; rfl) (by decide) ?_
    refine ar_aload_n (i := 0) dX6_count_76 rfl rfl ?_
    refine fr_getR (t := 6) (j := 1) (r := 4) dX6_count_77 fs_X6_19 o_1 rfl rfl (by decide) ?_
    refine fr_callVi (M' := mX5_letInCount) [] dX6_count_80 ml_X6_222 mv_X5_letInCount rfl rfl wd_4.o rfl rfl (Nat.le_of_ble_eq_true rfl) ⟨Nat.le_refl _, Nat.le_refl _⟩ t (fun r6 σ5 t => ?_)
    try dsimp only at t
    exact fr_iret dX6_count_83 rfl (Nat.le_refl _) (Nat.le_refl _) t
  have t := t.2
  by_cases h7 : x1 = 4
  · have t := t.1 h7
    refine ar_tableIn (tgt := 84) dX6_count_1 (by rw [h7]; decide) (by rw [h7]; decide) (by rw [h7]; rfl) (by decide) ?_
    refine ar_aload_n (i := 0) dX6_count_84 rfl rfl ?_
    refine fr_getR (t := 6) (j := 1) (r := 4) dX6_count_85 fs_X6_19 o_1 rfl rfl (by decide) ?_
    refine fr_getI (t := 5) (j := 3) dX6_count_88 fs_X6_156 wd_4.o rfl ?_
    exact fr_iret dX6_count_91 rfl (Nat.le_refl _) (Nat.le_refl _) t
  have t := t.2
  by_cases h8 : x1 = 5
  · have t := t.1 h8
    refine ar_tableIn (tgt := 92) dX6_count_1 (by rw [h8]; decide) (by rw [h8]; decide) (by rw [h8]; rfl) (by decide) ?_
    refine ar_aload_n (i := 0) dX6_count_92 rfl rfl ?_
    refine fr_getR (t := 6) (j := 1) (r := 4) dX6_count_93 fs_X6_19 o_1 rfl rfl (by decide) ?_
    refine fr_getI (t := 5) (j := 4) dX6_count_96 fs_X6_197 wd_4.o rfl ?_
    exact fr_iret dX6_count_99 rfl (Nat.le_refl _) (Nat.le_refl _) t
  have t := t.2
  by_cases h9 : x1 = 6
  · have t := t.1 h9
    refine ar_tableIn (tgt := 100) dX6_count_1 (by rw [h9]; decide) (by rw [h9]; decide) (by rw [h9]; rfl) (by decide) ?_
    refine ar_aload_n (i := 0) dX6_count_100 rfl rfl ?_
    refine fr_getR (t := 6) (j := 0) (r := 2) dX6_count_101 fs_X6_10 o_1 rfl rfl (by decide) ?_
    refine fr_getI (t := 0) (j := 1) dX6_count_104 fs_X6_58 o_2 rfl ?_
    exact fr_iret dX6_count_107 rfl (Nat.le_refl _) (Nat.le_refl _) t
  have t := t.2
  by_cases h10 : x1 = 7
  · have t := t.1 h10
    refine ar_tableIn (tgt := 108) dX6_count_1 (by rw [h10]; decide) (by rw [h10]; decide) (by rw [h10]; rfl) (by decide) ?_
    refine ar_aload_n (i := 0) dX6_count_108 rfl rfl ?_
    refine fr_getI (t := 6) (j := 7) dX6_count_109 fs_X6_47 o_1 rfl ?_
    exact fr_iret dX6_count_112 rfl (Nat.le_refl _) (Nat.le_refl _) t
  have t := t.2
  by_cases h11 : x1 = 8
  · have t := t.1 h11
    refine ar_tableIn (tgt := 113) dX6_count_1 (by rw [h11]; decide) (by rw [h11]; decide) (by rw [h11]; rfl) (by decide) ?_
    refine ar_aload_n (i := 0) dX6_count_113 rfl rfl ?_
    refine fr_getI (t := 6) (j := 8) dX6_count_114 fs_X6_51 o_1 rfl ?_
    exact fr_iret dX6_count_117 rfl (Nat.le_refl _) (Nat.le_refl _) t
  have t := t.2
  have t := t h1 h2 h3 h4 h7 h8 h9 h10 h11
  refine ar_tableOut (tgt := 118) dX6_count_1 (by have q0 := sw_ne h1 (n := 0) (by decide); have q1 := sw_ne h2 (n := 1) (by decide); have q2 := sw_ne h3 (n := 2) (by decide); have q3 := sw_ne h4 (n := 3) (by decide); have q4 := sw_ne h7 (n := 4) (by decide); have q5 := sw_ne h8 (n := 5) (by decide); have q6 := sw_ne h9 (n := 6) (by decide); have q7 := sw_ne h10 (n := 7) (by decide); have q8 := sw_ne h11 (n := 8) (by decide); omega) (by decide) ?_
  refine ar_bipush (v := -102) dX6_count_118 (by decide) ?_
  exact fr_iret dX6_count_120 rfl (Nat.le_refl _) (Nat.le_refl _) t

/-- X6.digest: the machine at the loop head 67 -/
def h_X6_digest_67 (E : am_E) (d : Nat) (x1 : Int64) (x3 : Int32) (σ : FH) (Q : Int64 → FH → Prop) : Prop := fG E (d + 1) mX6_digest 67 [some (.ref 1), some (.long x1), none, some (.int x3)] [] σ (qj Q)
/-- X6.digest: the machine at the loop head 109 -/
def h_X6_digest_109 (E : am_E) (d : Nat) (x1 : Int64) (x3 : Int32) (σ : FH) (Q : Int64 → FH → Prop) : Prop := fG E (d + 1) mX6_digest 109 [some (.ref 1), some (.long x1), none, some (.int x3)] [] σ (qj Q)
def t_X6_digest_109 (E : am_E) (d : Nat) (x1 : Int64) (x3 : Int32) (σ : FH) (Q : Int64 → FH → Prop) : Prop :=
  ((8 < x3 → Q x1 σ) ∧
  (¬ 8 < x3 → fMi E d mX6_count [.ref 1, .int x3] σ (fun r9 σ8 => h_X6_digest_109 E d ((31 * x1) + r9.toInt64) (x3 + 1) σ8 Q)))
set_option maxRecDepth 100000 in
set_option maxHeartbeats 4000000 in
theorem v_X6_digest_109 {E : am_E} {d : Nat} {σ : FH} {Q : Int64 → FH → Prop} {x1 : Int64} {x3 : Int32} (t : t_X6_digest_109 E d x1 x3 σ Q) : h_X6_digest_109 E d x1 x3 σ Q := by
  unfold h_X6_digest_109
  unfold t_X6_digest_109 at t
  refine ar_iload_n (i := 3) dX6_digest_109 rfl rfl ?_
  refine ar_bipush (v := 8) dX6_digest_110 (by decide) ?_
  refine ar_icmp_gt (tgt := 134) dX6_digest_112 (by decide) (fun h7 => ?_) (fun h7 => ?_)
  · have t := t.1 h7
    refine ar_lload_n (i := 1) dX6_digest_134 rfl rfl ?_
    exact fr_lret dX6_digest_135 rfl (Nat.le_refl _) (Nat.le_refl _) t
  · have t := t.2 h7
    refine ar_ldc2 dX6_digest_115 ct_X6_240 ?_
    refine ar_lload_n (i := 1) dX6_digest_118 rfl rfl ?_
    refine ar_lmul dX6_digest_119 ?_
    refine ar_aload_n (i := 0) dX6_digest_120 rfl rfl ?_
    refine ar_iload_n (i := 3) dX6_digest_121 rfl rfl ?_
    refine fr_callVi (M' := mX6_count) [_] dX6_digest_122 ml_X6_254 mv_X6_count rfl rfl o_1 rfl rfl (Nat.le_of_ble_eq_true rfl) ⟨Nat.le_refl _, Nat.le_refl _⟩ t (fun r9 σ8 t => ?_)
    try dsimp only at t
    refine ar_i2l dX6_digest_125 ?_
    refine ar_ladd dX6_digest_126 ?_
    refine ar_lstore_n (i := 1) (lo2 := [_, _, none, _]) dX6_digest_127 rfl (Nat.le_of_ble_eq_true rfl) rfl rfl ?_
    refine ar_iinc (i := 3) (v := _ + 1) (lo2 := [_, _, none, _]) dX6_digest_128 rfl (ii_1 _) (Nat.le_of_ble_eq_true rfl) rfl rfl ?_
    refine ar_goto (tgt := 109) dX6_digest_131 (by decide) ?_
    exact t
def t_X6_digest_67 (E : am_E) (d : Nat) (x1 : Int64) (x3 : Int32) (σ : FH) (Q : Int64 → FH → Prop) : Prop :=
  (((σ.1 2 1) ≤ x3 → h_X6_digest_109 E d x1 0 σ Q) ∧
  (¬ (σ.1 2 1) ≤ x3 → ((44 ≤ x3 → h_X6_digest_109 E d x1 0 σ Q) ∧
    (¬ 44 ≤ x3 → (vp_in x3 44 ∧ (∀ v12 : Int64, v12 = (31 * x1) + ((σ.1 3 x3.toNatClampNeg).toInt64) → h_X6_digest_67 E d v12 (x3 + 1) σ Q))))))
set_option maxRecDepth 100000 in
set_option maxHeartbeats 4000000 in
theorem v_X6_digest_67 {E : am_E} {d : Nat} {σ : FH} {Q : Int64 → FH → Prop} {x1 : Int64} {x3 : Int32} (t : t_X6_digest_67 E d x1 x3 σ Q) : h_X6_digest_67 E d x1 x3 σ Q := by
  unfold h_X6_digest_67
  unfold t_X6_digest_67 at t
  refine ar_iload_n (i := 3) dX6_digest_67 rfl rfl ?_
  refine ar_aload_n (i := 0) dX6_digest_68 rfl rfl ?_
  refine fr_getR (t := 6) (j := 0) (r := 2) dX6_digest_69 fs_X6_10 o_1 rfl rfl (by decide) ?_
  refine fr_getI (t := 0) (j := 1) dX6_digest_72 fs_X6_58 o_2 rfl ?_
  refine ar_icmp_ge (tgt := 107) dX6_digest_75 (by decide) (fun h6 => ?_) (fun h6 => ?_)
  · have t := t.1 h6
    refine ar_iconst (v := 0) dX6_digest_107 (by decide) ?_
    refine ar_istore_n (i := 3) (lo2 := [_, _, none, _]) dX6_digest_108 rfl (Nat.le_of_ble_eq_true rfl) rfl rfl ?_
    exact t
  · have t := t.2 h6
    refine ar_iload_n (i := 3) dX6_digest_78 rfl rfl ?_
    refine ar_bipush (v := 44) dX6_digest_79 (by decide) ?_
    refine ar_icmp_ge (tgt := 107) dX6_digest_81 (by decide) (fun h10 => ?_) (fun h10 => ?_)
    · have t := t.1 h10
      refine ar_iconst (v := 0) dX6_digest_107 (by decide) ?_
      refine ar_istore_n (i := 3) (lo2 := [_, _, none, _]) dX6_digest_108 rfl (Nat.le_of_ble_eq_true rfl) rfl rfl ?_
      exact t
    · have t := t.2 h10
      refine ar_ldc2 dX6_digest_84 ct_X6_240 ?_
      refine ar_lload_n (i := 1) dX6_digest_87 rfl rfl ?_
      refine ar_lmul dX6_digest_88 ?_
      refine ar_aload_n (i := 0) dX6_digest_89 rfl rfl ?_
      refine fr_getR (t := 6) (j := 0) (r := 2) dX6_digest_90 fs_X6_10 o_1 rfl rfl (by decide) ?_
      refine fr_getR (t := 0) (j := 0) (r := 3) dX6_digest_93 fs_X6_251 o_2 rfl rfl (by decide) ?_
      refine ar_iload_n (i := 3) dX6_digest_96 rfl rfl ?_
      obtain ⟨h11, t⟩ := t
      refine fr_iald (n := 44) dX6_digest_97 a_3 h11 ?_
      refine ar_i2l dX6_digest_98 ?_
      refine ar_ladd dX6_digest_99 ?_
      refine ar_lstore_n (i := 1) (lo2 := [_, _, none, _]) dX6_digest_100 rfl (Nat.le_of_ble_eq_true rfl) rfl rfl ?_
      have t := t _ rfl
      refine ar_iinc (i := 3) (v := _ + 1) (lo2 := [_, _, none, _]) dX6_digest_101 rfl (ii_1 _) (Nat.le_of_ble_eq_true rfl) rfl rfl ?_
      refine ar_goto (tgt := 67) dX6_digest_104 (by decide) ?_
      exact t
def t_X6_digest (E : am_E) (d : Nat) (σ : FH) (Q : Int64 → FH → Prop) : Prop :=
  fMj E d mX6_digestOfRoads [.ref 1, .long 761] σ (fun r2 σ1 => fMj E d mX6_digestOfPilgrims [.ref 1, .long r2] σ1 (fun r4 σ3 => (((σ3.1 4 1) ≤ 0 → h_X6_digest_67 E d r4 0 σ3 Q) ∧
  (¬ (σ3.1 4 1) ≤ 0 → fMi E d mX6_walks [.ref 1] σ3 (fun r14 σ13 => fMi E d mX6_walksBy [.ref 1, .int (σ13.1 4 0)] σ13 (fun r16 σ15 => (∀ v17 : Int64, v17 = (31 * ((31 * r4) + r14.toInt64)) + r16.toInt64 → fMi E d mX6_last [.ref 1] σ15 (fun r19 σ18 => h_X6_digest_67 E d ((31 * v17) + r19.toInt64) 0 σ18 Q))))))))
set_option maxRecDepth 100000 in
set_option maxHeartbeats 4000000 in
theorem v_X6_digest {E : am_E} {d : Nat} {σ : FH} {Q : Int64 → FH → Prop} (t : t_X6_digest E d σ Q) : fMj E (d + 1) mX6_digest [.ref 1] σ Q := by
  refine fr_ofG [some (.ref 1), none, none, none] (by decide) rfl (Nat.le_of_ble_eq_true rfl) ?_
  unfold t_X6_digest at t
  refine ar_aload_n (i := 0) dX6_digest_0 rfl rfl ?_
  refine ar_aload_n (i := 0) dX6_digest_1 rfl rfl ?_
  refine ar_ldc2 dX6_digest_2 ct_X6_231 ?_
  refine fr_callVj (M' := mX6_digestOfRoads) [_] dX6_digest_5 ml_X6_233 mv_X6_digestOfRoads rfl rfl o_1 rfl rfl (Nat.le_of_ble_eq_true rfl) ⟨Nat.le_refl _, Nat.le_refl _⟩ t (fun r2 σ1 t => ?_)
  try dsimp only at t
  refine fr_callVj (M' := mX6_digestOfPilgrims) [_] dX6_digest_8 ml_X6_237 mv_X6_digestOfPilgrims rfl rfl o_1 rfl rfl (Nat.le_of_ble_eq_true rfl) ⟨Nat.le_refl _, Nat.le_refl _⟩ t (fun r4 σ3 t => ?_)
  try dsimp only at t
  refine ar_lstore_n (i := 1) (lo2 := [_, _, none, none]) dX6_digest_11 rfl (Nat.le_of_ble_eq_true rfl) rfl rfl ?_
  refine ar_aload_n (i := 0) dX6_digest_12 rfl rfl ?_
  refine fr_getR (t := 6) (j := 1) (r := 4) dX6_digest_13 fs_X6_19 o_1 rfl rfl (by decide) ?_
  refine fr_getI (t := 5) (j := 1) dX6_digest_16 fs_X6_79 wd_4.o rfl ?_
  refine ar_if_le (tgt := 65) dX6_digest_19 (by decide) (fun h5 => ?_) (fun h5 => ?_)
  · have t := t.1 h5
    refine ar_iconst (v := 0) dX6_digest_65 (by decide) ?_
    refine ar_istore_n (i := 3) (lo2 := [_, _, none, _]) dX6_digest_66 rfl (Nat.le_of_ble_eq_true rfl) rfl rfl ?_
    exact t
  · have t := t.2 h5
    refine ar_ldc2 dX6_digest_22 ct_X6_240 ?_
    refine ar_lload_n (i := 1) dX6_digest_25 rfl rfl ?_
    refine ar_lmul dX6_digest_26 ?_
    refine ar_aload_n (i := 0) dX6_digest_27 rfl rfl ?_
    refine fr_callVi (M' := mX6_walks) [] dX6_digest_28 ml_X6_242 mv_X6_walks rfl rfl o_1 rfl rfl (Nat.le_of_ble_eq_true rfl) ⟨Nat.le_refl _, Nat.le_refl _⟩ t (fun r14 σ13 t => ?_)
    try dsimp only at t
    refine ar_i2l dX6_digest_31 ?_
    refine ar_ladd dX6_digest_32 ?_
    refine ar_lstore_n (i := 1) (lo2 := [_, _, none, none]) dX6_digest_33 rfl (Nat.le_of_ble_eq_true rfl) rfl rfl ?_
    refine ar_ldc2 dX6_digest_34 ct_X6_240 ?_
    refine ar_lload_n (i := 1) dX6_digest_37 rfl rfl ?_
    refine ar_lmul dX6_digest_38 ?_
    refine ar_aload_n (i := 0) dX6_digest_39 rfl rfl ?_
    refine ar_aload_n (i := 0) dX6_digest_40 rfl rfl ?_
    refine fr_getR (t := 6) (j := 1) (r := 4) dX6_digest_41 fs_X6_19 o_1 rfl rfl (by decide) ?_
    refine fr_getI (t := 5) (j := 0) dX6_digest_44 fs_X6_162 wd_4.o rfl ?_
    refine fr_callVi (M' := mX6_walksBy) [_] dX6_digest_47 ml_X6_245 mv_X6_walksBy rfl rfl o_1 rfl rfl (Nat.le_of_ble_eq_true rfl) ⟨Nat.le_refl _, Nat.le_refl _⟩ t (fun r16 σ15 t => ?_)
    try dsimp only at t
    refine ar_i2l dX6_digest_50 ?_
    refine ar_ladd dX6_digest_51 ?_
    refine ar_lstore_n (i := 1) (lo2 := [_, _, none, none]) dX6_digest_52 rfl (Nat.le_of_ble_eq_true rfl) rfl rfl ?_
    have t := t _ rfl
    refine ar_ldc2 dX6_digest_53 ct_X6_240 ?_
    refine ar_lload_n (i := 1) dX6_digest_56 rfl rfl ?_
    refine ar_lmul dX6_digest_57 ?_
    refine ar_aload_n (i := 0) dX6_digest_58 rfl rfl ?_
    refine fr_callVi (M' := mX6_last) [] dX6_digest_59 ml_X6_248 mv_X6_last rfl rfl o_1 rfl rfl (Nat.le_of_ble_eq_true rfl) ⟨Nat.le_refl _, Nat.le_refl _⟩ t (fun r19 σ18 t => ?_)
    try dsimp only at t
    refine ar_i2l dX6_digest_62 ?_
    refine ar_ladd dX6_digest_63 ?_
    refine ar_lstore_n (i := 1) (lo2 := [_, _, none, none]) dX6_digest_64 rfl (Nat.le_of_ble_eq_true rfl) rfl rfl ?_
    refine ar_iconst (v := 0) dX6_digest_65 (by decide) ?_
    refine ar_istore_n (i := 3) (lo2 := [_, _, none, _]) dX6_digest_66 rfl (Nat.le_of_ble_eq_true rfl) rfl rfl ?_
    exact t

/-- X6.digestOfRoads: the machine at the loop head 5 -/
def h_X6_digestOfRoads_5 (E : am_E) (d : Nat) (x3 : Int64) (x5 : Int32) (σ : FH) (Q : Int64 → FH → Prop) : Prop := fG E (d + 1) mX6_digestOfRoads 5 [some (.ref 1), none, none, some (.long x3), none, some (.int x5), none] [] σ (qj Q)
/-- X6.digestOfRoads: the machine at the loop head 20 -/
def h_X6_digestOfRoads_20 (E : am_E) (d : Nat) (x3 : Int64) (x5 : Int32) (x6 : Int32) (σ : FH) (Q : Int64 → FH → Prop) : Prop := fG E (d + 1) mX6_digestOfRoads 20 [some (.ref 1), none, none, some (.long x3), none, some (.int x5), some (.int x6)] [] σ (qj Q)
def t_X6_digestOfRoads_20 (E : am_E) (d : Nat) (x3 : Int64) (x5 : Int32) (x6 : Int32) (σ : FH) (Q : Int64 → FH → Prop) : Prop :=
  ((5 < x6 → h_X6_digestOfRoads_5 E d x3 (x5 + 1) σ Q) ∧
  (¬ 5 < x6 → fMi E d mX6_road [.ref 1, .int x5, .int x6] σ (fun r4 σ3 => h_X6_digestOfRoads_20 E d ((31 * x3) + r4.toInt64) x5 (x6 + 1) σ3 Q)))
set_option maxRecDepth 100000 in
set_option maxHeartbeats 4000000 in
theorem v_X6_digestOfRoads_20 {E : am_E} {d : Nat} {σ : FH} {Q : Int64 → FH → Prop} {x3 : Int64} {x5 : Int32} {x6 : Int32} (t : t_X6_digestOfRoads_20 E d x3 x5 x6 σ Q) : h_X6_digestOfRoads_20 E d x3 x5 x6 σ Q := by
  unfold h_X6_digestOfRoads_20
  unfold t_X6_digestOfRoads_20 at t
  refine ar_iload (i := 6) dX6_digestOfRoads_20 rfl ?_
  refine ar_iconst (v := 5) dX6_digestOfRoads_22 (by decide) ?_
  refine ar_icmp_gt (tgt := 48) dX6_digestOfRoads_23 (by decide) (fun h2 => ?_) (fun h2 => ?_)
  · have t := t.1 h2
    refine ar_iinc (i := 5) (v := _ + 1) (lo2 := [_, none, none, _, none, _, _]) dX6_digestOfRoads_48 rfl (ii_1 _) (Nat.le_of_ble_eq_true rfl) rfl rfl ?_
    refine ar_goto (tgt := 5) dX6_digestOfRoads_51 (by decide) ?_
    refine ar_drop 6 (lo2 := [_, none, none, _, none, _, none]) rfl ?_
    exact t
  · have t := t.2 h2
    refine ar_ldc2 dX6_digestOfRoads_26 ct_X6_240 ?_
    refine ar_lload_n (i := 3) dX6_digestOfRoads_29 rfl rfl ?_
    refine ar_lmul dX6_digestOfRoads_30 ?_
    refine ar_aload_n (i := 0) dX6_digestOfRoads_31 rfl rfl ?_
    refine ar_iload (i := 5) dX6_digestOfRoads_32 rfl ?_
    refine ar_iload (i := 6) dX6_digestOfRoads_34 rfl ?_
    refine fr_callVi (M' := mX6_road) [_, _] dX6_digestOfRoads_36 ml_X6_257 mv_X6_road rfl rfl o_1 rfl rfl (Nat.le_of_ble_eq_true rfl) ⟨Nat.le_refl _, Nat.le_refl _⟩ t (fun r4 σ3 t => ?_)
    try dsimp only at t
    refine ar_i2l dX6_digestOfRoads_39 ?_
    refine ar_ladd dX6_digestOfRoads_40 ?_
    refine ar_lstore_n (i := 3) (lo2 := [_, none, none, _, none, _, _]) dX6_digestOfRoads_41 rfl (Nat.le_of_ble_eq_true rfl) rfl rfl ?_
    refine ar_iinc (i := 6) (v := _ + 1) (lo2 := [_, none, none, _, none, _, _]) dX6_digestOfRoads_42 rfl (ii_1 _) (Nat.le_of_ble_eq_true rfl) rfl rfl ?_
    refine ar_goto (tgt := 20) dX6_digestOfRoads_45 (by decide) ?_
    exact t
def t_X6_digestOfRoads_5 (E : am_E) (d : Nat) (x3 : Int64) (x5 : Int32) (σ : FH) (Q : Int64 → FH → Prop) : Prop :=
  (((σ.1 4 1) ≤ x5 → Q x3 σ) ∧
  (¬ (σ.1 4 1) ≤ x5 → h_X6_digestOfRoads_20 E d x3 x5 0 σ Q))
set_option maxRecDepth 100000 in
set_option maxHeartbeats 4000000 in
theorem v_X6_digestOfRoads_5 {E : am_E} {d : Nat} {σ : FH} {Q : Int64 → FH → Prop} {x3 : Int64} {x5 : Int32} (t : t_X6_digestOfRoads_5 E d x3 x5 σ Q) : h_X6_digestOfRoads_5 E d x3 x5 σ Q := by
  unfold h_X6_digestOfRoads_5
  unfold t_X6_digestOfRoads_5 at t
  refine ar_iload (i := 5) dX6_digestOfRoads_5 rfl ?_
  refine ar_aload_n (i := 0) dX6_digestOfRoads_7 rfl rfl ?_
  refine fr_getR (t := 6) (j := 1) (r := 4) dX6_digestOfRoads_8 fs_X6_19 o_1 rfl rfl (by decide) ?_
  refine fr_getI (t := 5) (j := 1) dX6_digestOfRoads_11 fs_X6_79 wd_4.o rfl ?_
  refine ar_icmp_ge (tgt := 54) dX6_digestOfRoads_14 (by decide) (fun h1 => ?_) (fun h1 => ?_)
  · have t := t.1 h1
    refine ar_lload_n (i := 3) dX6_digestOfRoads_54 rfl rfl ?_
    exact fr_lret dX6_digestOfRoads_55 rfl (Nat.le_refl _) (Nat.le_refl _) t
  · have t := t.2 h1
    refine ar_iconst (v := 0) dX6_digestOfRoads_17 (by decide) ?_
    refine ar_istore (i := 6) (lo2 := [_, none, none, _, none, _, _]) dX6_digestOfRoads_18 (Nat.le_of_ble_eq_true rfl) rfl rfl ?_
    exact t
def t_X6_digestOfRoads (E : am_E) (d : Nat) (x1 : Int64) (σ : FH) (Q : Int64 → FH → Prop) : Prop :=
  h_X6_digestOfRoads_5 E d x1 0 σ Q
set_option maxRecDepth 100000 in
set_option maxHeartbeats 4000000 in
theorem v_X6_digestOfRoads {E : am_E} {d : Nat} {σ : FH} {Q : Int64 → FH → Prop} {x1 : Int64} (t : t_X6_digestOfRoads E d x1 σ Q) : fMj E (d + 1) mX6_digestOfRoads [.ref 1, .long x1] σ Q := by
  refine fr_ofG [some (.ref 1), some (.long x1), none, none, none, none, none] (by decide) rfl (Nat.le_of_ble_eq_true rfl) ?_
  unfold t_X6_digestOfRoads at t
  refine ar_lload_n (i := 1) dX6_digestOfRoads_0 rfl rfl ?_
  refine ar_lstore_n (i := 3) (lo2 := [_, _, none, _, none, none, none]) dX6_digestOfRoads_1 rfl (Nat.le_of_ble_eq_true rfl) rfl rfl ?_
  refine ar_iconst (v := 0) dX6_digestOfRoads_2 (by decide) ?_
  refine ar_istore (i := 5) (lo2 := [_, _, none, _, none, _, none]) dX6_digestOfRoads_3 (Nat.le_of_ble_eq_true rfl) rfl rfl ?_
  refine ar_drop 1 (lo2 := [_, none, none, _, none, _, none]) rfl ?_
  exact t

/-- X6.digestOfPilgrims: the machine at the loop head 5 -/
def h_X6_digestOfPilgrims_5 (E : am_E) (d : Nat) (x3 : Int64) (x5 : Int32) (σ : FH) (Q : Int64 → FH → Prop) : Prop := fG E (d + 1) mX6_digestOfPilgrims 5 [some (.ref 1), none, none, some (.long x3), none, some (.int x5), none] [] σ (qj Q)
/-- X6.digestOfPilgrims: the machine at the loop head 20 -/
def h_X6_digestOfPilgrims_20 (E : am_E) (d : Nat) (x3 : Int64) (x5 : Int32) (x6 : Int32) (σ : FH) (Q : Int64 → FH → Prop) : Prop := fG E (d + 1) mX6_digestOfPilgrims 20 [some (.ref 1), none, none, some (.long x3), none, some (.int x5), some (.int x6)] [] σ (qj Q)
/-- X6.digestOfPilgrims: the machine at the loop head 52 -/
def h_X6_digestOfPilgrims_52 (E : am_E) (d : Nat) (x3 : Int64) (x5 : Int32) (x6 : Int32) (σ : FH) (Q : Int64 → FH → Prop) : Prop := fG E (d + 1) mX6_digestOfPilgrims 52 [some (.ref 1), none, none, some (.long x3), none, some (.int x5), some (.int x6)] [] σ (qj Q)
def t_X6_digestOfPilgrims_52 (E : am_E) (d : Nat) (x3 : Int64) (x5 : Int32) (x6 : Int32) (σ : FH) (Q : Int64 → FH → Prop) : Prop :=
  ((18 ≤ x6 → h_X6_digestOfPilgrims_5 E d x3 (x5 + 1) σ Q) ∧
  (¬ 18 ≤ x6 → fMi E d mX6_about [.ref 1, .int x5, .int x6] σ (fun r5 σ4 => h_X6_digestOfPilgrims_52 E d ((31 * x3) + r5.toInt64) x5 (x6 + 1) σ4 Q)))
set_option maxRecDepth 100000 in
set_option maxHeartbeats 4000000 in
theorem v_X6_digestOfPilgrims_52 {E : am_E} {d : Nat} {σ : FH} {Q : Int64 → FH → Prop} {x3 : Int64} {x5 : Int32} {x6 : Int32} (t : t_X6_digestOfPilgrims_52 E d x3 x5 x6 σ Q) : h_X6_digestOfPilgrims_52 E d x3 x5 x6 σ Q := by
  unfold h_X6_digestOfPilgrims_52
  unfold t_X6_digestOfPilgrims_52 at t
  refine ar_iload (i := 6) dX6_digestOfPilgrims_52 rfl ?_
  refine ar_bipush (v := 18) dX6_digestOfPilgrims_54 (by decide) ?_
  refine ar_icmp_ge (tgt := 81) dX6_digestOfPilgrims_56 (by decide) (fun h3 => ?_) (fun h3 => ?_)
  · have t := t.1 h3
    refine ar_iinc (i := 5) (v := _ + 1) (lo2 := [_, none, none, _, none, _, _]) dX6_digestOfPilgrims_81 rfl (ii_1 _) (Nat.le_of_ble_eq_true rfl) rfl rfl ?_
    refine ar_goto (tgt := 5) dX6_digestOfPilgrims_84 (by decide) ?_
    refine ar_drop 6 (lo2 := [_, none, none, _, none, _, none]) rfl ?_
    exact t
  · have t := t.2 h3
    refine ar_ldc2 dX6_digestOfPilgrims_59 ct_X6_240 ?_
    refine ar_lload_n (i := 3) dX6_digestOfPilgrims_62 rfl rfl ?_
    refine ar_lmul dX6_digestOfPilgrims_63 ?_
    refine ar_aload_n (i := 0) dX6_digestOfPilgrims_64 rfl rfl ?_
    refine ar_iload (i := 5) dX6_digestOfPilgrims_65 rfl ?_
    refine ar_iload (i := 6) dX6_digestOfPilgrims_67 rfl ?_
    refine fr_callVi (M' := mX6_about) [_, _] dX6_digestOfPilgrims_69 ml_X6_260 mv_X6_about rfl rfl o_1 rfl rfl (Nat.le_of_ble_eq_true rfl) ⟨Nat.le_refl _, Nat.le_refl _⟩ t (fun r5 σ4 t => ?_)
    try dsimp only at t
    refine ar_i2l dX6_digestOfPilgrims_72 ?_
    refine ar_ladd dX6_digestOfPilgrims_73 ?_
    refine ar_lstore_n (i := 3) (lo2 := [_, none, none, _, none, _, _]) dX6_digestOfPilgrims_74 rfl (Nat.le_of_ble_eq_true rfl) rfl rfl ?_
    refine ar_iinc (i := 6) (v := _ + 1) (lo2 := [_, none, none, _, none, _, _]) dX6_digestOfPilgrims_75 rfl (ii_1 _) (Nat.le_of_ble_eq_true rfl) rfl rfl ?_
    refine ar_goto (tgt := 52) dX6_digestOfPilgrims_78 (by decide) ?_
    exact t
def t_X6_digestOfPilgrims_20 (E : am_E) (d : Nat) (x3 : Int64) (x5 : Int32) (x6 : Int32) (σ : FH) (Q : Int64 → FH → Prop) : Prop :=
  ((4 < x6 → h_X6_digestOfPilgrims_52 E d x3 x5 10 σ Q) ∧
  (¬ 4 < x6 → fMi E d mX6_about [.ref 1, .int x5, .int x6] σ (fun r7 σ6 => h_X6_digestOfPilgrims_20 E d ((31 * x3) + r7.toInt64) x5 (x6 + 1) σ6 Q)))
set_option maxRecDepth 100000 in
set_option maxHeartbeats 4000000 in
theorem v_X6_digestOfPilgrims_20 {E : am_E} {d : Nat} {σ : FH} {Q : Int64 → FH → Prop} {x3 : Int64} {x5 : Int32} {x6 : Int32} (t : t_X6_digestOfPilgrims_20 E d x3 x5 x6 σ Q) : h_X6_digestOfPilgrims_20 E d x3 x5 x6 σ Q := by
  unfold h_X6_digestOfPilgrims_20
  unfold t_X6_digestOfPilgrims_20 at t
  refine ar_iload (i := 6) dX6_digestOfPilgrims_20 rfl ?_
  refine ar_iconst (v := 4) dX6_digestOfPilgrims_22 (by decide) ?_
  refine ar_icmp_gt (tgt := 48) dX6_digestOfPilgrims_23 (by decide) (fun h2 => ?_) (fun h2 => ?_)
  · have t := t.1 h2
    refine ar_bipush (v := 10) dX6_digestOfPilgrims_48 (by decide) ?_
    refine ar_istore (i := 6) (lo2 := [_, none, none, _, none, _, _]) dX6_digestOfPilgrims_50 (Nat.le_of_ble_eq_true rfl) rfl rfl ?_
    exact t
  · have t := t.2 h2
    refine ar_ldc2 dX6_digestOfPilgrims_26 ct_X6_240 ?_
    refine ar_lload_n (i := 3) dX6_digestOfPilgrims_29 rfl rfl ?_
    refine ar_lmul dX6_digestOfPilgrims_30 ?_
    refine ar_aload_n (i := 0) dX6_digestOfPilgrims_31 rfl rfl ?_
    refine ar_iload (i := 5) dX6_digestOfPilgrims_32 rfl ?_
    refine ar_iload (i := 6) dX6_digestOfPilgrims_34 rfl ?_
    refine fr_callVi (M' := mX6_about) [_, _] dX6_digestOfPilgrims_36 ml_X6_260 mv_X6_about rfl rfl o_1 rfl rfl (Nat.le_of_ble_eq_true rfl) ⟨Nat.le_refl _, Nat.le_refl _⟩ t (fun r7 σ6 t => ?_)
    try dsimp only at t
    refine ar_i2l dX6_digestOfPilgrims_39 ?_
    refine ar_ladd dX6_digestOfPilgrims_40 ?_
    refine ar_lstore_n (i := 3) (lo2 := [_, none, none, _, none, _, _]) dX6_digestOfPilgrims_41 rfl (Nat.le_of_ble_eq_true rfl) rfl rfl ?_
    refine ar_iinc (i := 6) (v := _ + 1) (lo2 := [_, none, none, _, none, _, _]) dX6_digestOfPilgrims_42 rfl (ii_1 _) (Nat.le_of_ble_eq_true rfl) rfl rfl ?_
    refine ar_goto (tgt := 20) dX6_digestOfPilgrims_45 (by decide) ?_
    exact t
def t_X6_digestOfPilgrims_5 (E : am_E) (d : Nat) (x3 : Int64) (x5 : Int32) (σ : FH) (Q : Int64 → FH → Prop) : Prop :=
  (((σ.1 4 2) ≤ x5 → Q x3 σ) ∧
  (¬ (σ.1 4 2) ≤ x5 → h_X6_digestOfPilgrims_20 E d x3 x5 0 σ Q))
set_option maxRecDepth 100000 in
set_option maxHeartbeats 4000000 in
theorem v_X6_digestOfPilgrims_5 {E : am_E} {d : Nat} {σ : FH} {Q : Int64 → FH → Prop} {x3 : Int64} {x5 : Int32} (t : t_X6_digestOfPilgrims_5 E d x3 x5 σ Q) : h_X6_digestOfPilgrims_5 E d x3 x5 σ Q := by
  unfold h_X6_digestOfPilgrims_5
  unfold t_X6_digestOfPilgrims_5 at t
  refine ar_iload (i := 5) dX6_digestOfPilgrims_5 rfl ?_
  refine ar_aload_n (i := 0) dX6_digestOfPilgrims_7 rfl rfl ?_
  refine fr_getR (t := 6) (j := 1) (r := 4) dX6_digestOfPilgrims_8 fs_X6_19 o_1 rfl rfl (by decide) ?_
  refine fr_getI (t := 5) (j := 2) dX6_digestOfPilgrims_11 fs_X6_116 wd_4.o rfl ?_
  refine ar_icmp_ge (tgt := 87) dX6_digestOfPilgrims_14 (by decide) (fun h1 => ?_) (fun h1 => ?_)
  · have t := t.1 h1
    refine ar_lload_n (i := 3) dX6_digestOfPilgrims_87 rfl rfl ?_
    exact fr_lret dX6_digestOfPilgrims_88 rfl (Nat.le_refl _) (Nat.le_refl _) t
  · have t := t.2 h1
    refine ar_iconst (v := 0) dX6_digestOfPilgrims_17 (by decide) ?_
    refine ar_istore (i := 6) (lo2 := [_, none, none, _, none, _, _]) dX6_digestOfPilgrims_18 (Nat.le_of_ble_eq_true rfl) rfl rfl ?_
    exact t
def t_X6_digestOfPilgrims (E : am_E) (d : Nat) (x1 : Int64) (σ : FH) (Q : Int64 → FH → Prop) : Prop :=
  h_X6_digestOfPilgrims_5 E d x1 0 σ Q
set_option maxRecDepth 100000 in
set_option maxHeartbeats 4000000 in
theorem v_X6_digestOfPilgrims {E : am_E} {d : Nat} {σ : FH} {Q : Int64 → FH → Prop} {x1 : Int64} (t : t_X6_digestOfPilgrims E d x1 σ Q) : fMj E (d + 1) mX6_digestOfPilgrims [.ref 1, .long x1] σ Q := by
  refine fr_ofG [some (.ref 1), some (.long x1), none, none, none, none, none] (by decide) rfl (Nat.le_of_ble_eq_true rfl) ?_
  unfold t_X6_digestOfPilgrims at t
  refine ar_lload_n (i := 1) dX6_digestOfPilgrims_0 rfl rfl ?_
  refine ar_lstore_n (i := 3) (lo2 := [_, _, none, _, none, none, none]) dX6_digestOfPilgrims_1 rfl (Nat.le_of_ble_eq_true rfl) rfl rfl ?_
  refine ar_iconst (v := 0) dX6_digestOfPilgrims_2 (by decide) ?_
  refine ar_istore (i := 5) (lo2 := [_, _, none, _, none, _, none]) dX6_digestOfPilgrims_3 (Nat.le_of_ble_eq_true rfl) rfl rfl ?_
  refine ar_drop 1 (lo2 := [_, none, none, _, none, _, none]) rfl ?_
  exact t

def t_X6_isRoad (E : am_E) (d : Nat) (x1 : Int32) (σ : FH) (Q : Int32 → FH → Prop) : Prop :=
  ((x1 < 0 → Q 0 σ) ∧
  (¬ x1 < 0 → (((σ.1 4 1) ≤ x1 → Q 0 σ) ∧
    (¬ (σ.1 4 1) ≤ x1 → Q 1 σ))))
set_option maxRecDepth 100000 in
set_option maxHeartbeats 4000000 in
theorem v_X6_isRoad {E : am_E} {d : Nat} {σ : FH} {Q : Int32 → FH → Prop} {x1 : Int32} (t : t_X6_isRoad E d x1 σ Q) : fMi E (d + 1) mX6_isRoad [.ref 1, .int x1] σ Q := by
  refine fr_ofG [some (.ref 1), some (.int x1)] (by decide) rfl (Nat.le_of_ble_eq_true rfl) ?_
  unfold t_X6_isRoad at t
  refine ar_iload_n (i := 1) dX6_isRoad_0 rfl rfl ?_
  refine ar_if_lt (tgt := 19) dX6_isRoad_1 (by decide) (fun h1 => ?_) (fun h1 => ?_)
  · have t := t.1 h1
    refine ar_iconst (v := 0) dX6_isRoad_19 (by decide) ?_
    exact fr_zret dX6_isRoad_20 rfl (Nat.le_refl _) (Nat.le_refl _) (Or.inl rfl) t
  · have t := t.2 h1
    refine ar_iload_n (i := 1) dX6_isRoad_4 rfl rfl ?_
    refine ar_aload_n (i := 0) dX6_isRoad_5 rfl rfl ?_
    refine fr_getR (t := 6) (j := 1) (r := 4) dX6_isRoad_6 fs_X6_19 o_1 rfl rfl (by decide) ?_
    refine fr_getI (t := 5) (j := 1) dX6_isRoad_9 fs_X6_79 wd_4.o rfl ?_
    refine ar_icmp_ge (tgt := 19) dX6_isRoad_12 (by decide) (fun h2 => ?_) (fun h2 => ?_)
    · have t := t.1 h2
      refine ar_iconst (v := 0) dX6_isRoad_19 (by decide) ?_
      exact fr_zret dX6_isRoad_20 rfl (Nat.le_refl _) (Nat.le_refl _) (Or.inl rfl) t
    · have t := t.2 h2
      refine ar_iconst (v := 1) dX6_isRoad_15 (by decide) ?_
      refine ar_goto (tgt := 20) dX6_isRoad_16 (by decide) ?_
      exact fr_zret dX6_isRoad_20 rfl (Nat.le_refl _) (Nat.le_refl _) (Or.inr rfl) t

def t_X6_isPilgrim (E : am_E) (d : Nat) (x1 : Int32) (σ : FH) (Q : Int32 → FH → Prop) : Prop :=
  ((x1 < 0 → Q 0 σ) ∧
  (¬ x1 < 0 → (((σ.1 4 2) ≤ x1 → Q 0 σ) ∧
    (¬ (σ.1 4 2) ≤ x1 → Q 1 σ))))
set_option maxRecDepth 100000 in
set_option maxHeartbeats 4000000 in
theorem v_X6_isPilgrim {E : am_E} {d : Nat} {σ : FH} {Q : Int32 → FH → Prop} {x1 : Int32} (t : t_X6_isPilgrim E d x1 σ Q) : fMi E (d + 1) mX6_isPilgrim [.ref 1, .int x1] σ Q := by
  refine fr_ofG [some (.ref 1), some (.int x1)] (by decide) rfl (Nat.le_of_ble_eq_true rfl) ?_
  unfold t_X6_isPilgrim at t
  refine ar_iload_n (i := 1) dX6_isPilgrim_0 rfl rfl ?_
  refine ar_if_lt (tgt := 19) dX6_isPilgrim_1 (by decide) (fun h1 => ?_) (fun h1 => ?_)
  · have t := t.1 h1
    refine ar_iconst (v := 0) dX6_isPilgrim_19 (by decide) ?_
    exact fr_zret dX6_isPilgrim_20 rfl (Nat.le_refl _) (Nat.le_refl _) (Or.inl rfl) t
  · have t := t.2 h1
    refine ar_iload_n (i := 1) dX6_isPilgrim_4 rfl rfl ?_
    refine ar_aload_n (i := 0) dX6_isPilgrim_5 rfl rfl ?_
    refine fr_getR (t := 6) (j := 1) (r := 4) dX6_isPilgrim_6 fs_X6_19 o_1 rfl rfl (by decide) ?_
    refine fr_getI (t := 5) (j := 2) dX6_isPilgrim_9 fs_X6_116 wd_4.o rfl ?_
    refine ar_icmp_ge (tgt := 19) dX6_isPilgrim_12 (by decide) (fun h2 => ?_) (fun h2 => ?_)
    · have t := t.1 h2
      refine ar_iconst (v := 0) dX6_isPilgrim_19 (by decide) ?_
      exact fr_zret dX6_isPilgrim_20 rfl (Nat.le_refl _) (Nat.le_refl _) (Or.inl rfl) t
    · have t := t.2 h2
      refine ar_iconst (v := 1) dX6_isPilgrim_15 (by decide) ?_
      refine ar_goto (tgt := 20) dX6_isPilgrim_16 (by decide) ?_
      exact fr_zret dX6_isPilgrim_20 rfl (Nat.le_refl _) (Nat.le_refl _) (Or.inr rfl) t

def t_X6_mayForesee (E : am_E) (d : Nat) (x1 : Int32) (σ : FH) (Q : Int32 → FH → Prop) : Prop :=
  (vp_in x1 4 ∧ ((¬ (σ.1 (16 + 2 * x1.toNatClampNeg) 4) = 0 → Q 0 σ) ∧
  ((σ.1 (16 + 2 * x1.toNatClampNeg) 4) = 0 → ((24 ≤ (σ.1 1 8) → Q 0 σ) ∧
    (¬ 24 ≤ (σ.1 1 8) → Q 1 σ)))))
set_option maxRecDepth 100000 in
set_option maxHeartbeats 4000000 in
theorem v_X6_mayForesee {E : am_E} {d : Nat} {σ : FH} {Q : Int32 → FH → Prop} {x1 : Int32} (t : t_X6_mayForesee E d x1 σ Q) : fMi E (d + 1) mX6_mayForesee [.ref 1, .int x1] σ Q := by
  refine fr_ofG [some (.ref 1), some (.int x1)] (by decide) rfl (Nat.le_of_ble_eq_true rfl) ?_
  unfold t_X6_mayForesee at t
  refine ar_aload_n (i := 0) dX6_mayForesee_0 rfl rfl ?_
  refine fr_getR (t := 6) (j := 1) (r := 4) dX6_mayForesee_1 fs_X6_19 o_1 rfl rfl (by decide) ?_
  refine fr_getR (t := 5) (j := 7) (r := 7) dX6_mayForesee_4 fs_X6_119 wd_4.o rfl rfl (by decide) ?_
  refine ar_iload_n (i := 1) dX6_mayForesee_7 rfl rfl ?_
  obtain ⟨h1, t⟩ := t
  refine fr_aaldP (w := 4) dX6_mayForesee_8 wd_4 h1 ?_
  refine fr_getI (t := 1) (j := 4) dX6_mayForesee_9 fs_X6_142 (wd_4.pg h1).f.1 rfl ?_
  refine ar_if_ne (tgt := 28) dX6_mayForesee_12 (by decide) (fun h2 => ?_) (fun h2 => ?_)
  · have t := t.1 h2
    refine ar_iconst (v := 0) dX6_mayForesee_28 (by decide) ?_
    exact fr_zret dX6_mayForesee_29 rfl (Nat.le_refl _) (Nat.le_refl _) (Or.inl rfl) t
  · have t := t.2 h2
    refine ar_aload_n (i := 0) dX6_mayForesee_15 rfl rfl ?_
    refine fr_getI (t := 6) (j := 8) dX6_mayForesee_16 fs_X6_51 o_1 rfl ?_
    refine ar_bipush (v := 24) dX6_mayForesee_19 (by decide) ?_
    refine ar_icmp_ge (tgt := 28) dX6_mayForesee_21 (by decide) (fun h3 => ?_) (fun h3 => ?_)
    · have t := t.1 h3
      refine ar_iconst (v := 0) dX6_mayForesee_28 (by decide) ?_
      exact fr_zret dX6_mayForesee_29 rfl (Nat.le_refl _) (Nat.le_refl _) (Or.inl rfl) t
    · have t := t.2 h3
      refine ar_iconst (v := 1) dX6_mayForesee_24 (by decide) ?_
      refine ar_goto (tgt := 29) dX6_mayForesee_25 (by decide) ?_
      exact fr_zret dX6_mayForesee_29 rfl (Nat.le_refl _) (Nat.le_refl _) (Or.inr rfl) t

def t_X6_asNumber (E : am_E) (d : Nat) (x0 : Int32) (σ : FH) (Q : Int32 → FH → Prop) : Prop :=
  ((x0 = 0 → Q 0 σ) ∧
  (¬ x0 = 0 → Q 1 σ))
set_option maxRecDepth 100000 in
set_option maxHeartbeats 4000000 in
theorem v_X6_asNumber {E : am_E} {d : Nat} {σ : FH} {Q : Int32 → FH → Prop} {x0 : Int32} (t : t_X6_asNumber E d x0 σ Q) : fMi E (d + 1) mX6_asNumber [.int x0] σ Q := by
  refine fr_ofG [some (.int x0)] (by decide) rfl (Nat.le_of_ble_eq_true rfl) ?_
  unfold t_X6_asNumber at t
  refine ar_iload_n (i := 0) dX6_asNumber_0 rfl rfl ?_
  refine ar_if_eq (tgt := 8) dX6_asNumber_1 (by decide) (fun h1 => ?_) (fun h1 => ?_)
  · have t := t.1 h1
    refine ar_iconst (v := 0) dX6_asNumber_8 (by decide) ?_
    exact fr_iret dX6_asNumber_9 rfl (Nat.le_refl _) (Nat.le_refl _) t
  · have t := t.2 h1
    refine ar_iconst (v := 1) dX6_asNumber_4 (by decide) ?_
    refine ar_goto (tgt := 9) dX6_asNumber_5 (by decide) ?_
    exact fr_iret dX6_asNumber_9 rfl (Nat.le_refl _) (Nat.le_refl _) t

