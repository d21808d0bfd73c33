/-! the verification conditions of CountedTrials$Search (printed by wip/gen/vc.py): t_.. is what is to be shown, v_.. that it is enough -/
def t_X4_harmOf (E : am_E) (d : Nat) (x0 : Int32) (σ : FH) (Q : Int32 → FH → Prop) : Prop :=
  Q (x0 >>> ((11 : Int32) &&& 31)) σ
set_option maxRecDepth 100000 in
set_option maxHeartbeats 4000000 in
theorem v_X4_harmOf {E : am_E} {d : Nat} {σ : FH} {Q : Int32 → FH → Prop} {x0 : Int32} (t : t_X4_harmOf E d x0 σ Q) : fMi E (d + 1) mX4_harmOf [.int x0] σ Q := by
  refine fr_ofG [some (.int x0)] (by decide) rfl (Nat.le_of_ble_eq_true rfl) ?_
  unfold t_X4_harmOf at t
  refine ar_iload_n (i := 0) dX4_harmOf_0 rfl rfl ?_
  refine ar_bipush (v := 11) dX4_harmOf_1 (by decide) ?_
  refine ar_ishr dX4_harmOf_3 ?_
  exact fr_iret dX4_harmOf_4 rfl (Nat.le_refl _) (Nat.le_refl _) t

def t_X4_walksOf (E : am_E) (d : Nat) (x0 : Int32) (σ : FH) (Q : Int32 → FH → Prop) : Prop :=
  Q ((x0 >>> ((4 : Int32) &&& 31)) &&& 127) σ
set_option maxRecDepth 100000 in
set_option maxHeartbeats 4000000 in
theorem v_X4_walksOf {E : am_E} {d : Nat} {σ : FH} {Q : Int32 → FH → Prop} {x0 : Int32} (t : t_X4_walksOf E d x0 σ Q) : fMi E (d + 1) mX4_walksOf [.int x0] σ Q := by
  refine fr_ofG [some (.int x0)] (by decide) rfl (Nat.le_of_ble_eq_true rfl) ?_
  unfold t_X4_walksOf at t
  refine ar_iload_n (i := 0) dX4_walksOf_0 rfl rfl ?_
  refine ar_iconst (v := 4) dX4_walksOf_1 (by decide) ?_
  refine ar_ishr dX4_walksOf_2 ?_
  refine ar_bipush (v := 127) dX4_walksOf_3 (by decide) ?_
  refine ar_iand dX4_walksOf_5 ?_
  exact fr_iret dX4_walksOf_6 rfl (Nat.le_refl _) (Nat.le_refl _) t

def t_X4_firstOf (E : am_E) (d : Nat) (x0 : Int32) (σ : FH) (Q : Int32 → FH → Prop) : Prop :=
  ((¬ x0 = 0 → Q (x0 &&& 15) σ) ∧
  (x0 = 0 → Q (-1) σ))
set_option maxRecDepth 100000 in
set_option maxHeartbeats 4000000 in
theorem v_X4_firstOf {E : am_E} {d : Nat} {σ : FH} {Q : Int32 → FH → Prop} {x0 : Int32} (t : t_X4_firstOf E d x0 σ Q) : fMi E (d + 1) mX4_firstOf [.int x0] σ Q := by
  refine fr_ofG [some (.int x0)] (by decide) rfl (Nat.le_of_ble_eq_true rfl) ?_
  unfold t_X4_firstOf at t
  refine ar_iload_n (i := 0) dX4_firstOf_0 rfl rfl ?_
  refine ar_if_ne (tgt := 8) dX4_firstOf_1 (by decide) (fun h1 => ?_) (fun h1 => ?_)
  · have t := t.1 h1
    refine ar_iload_n (i := 0) dX4_firstOf_8 rfl rfl ?_
    refine ar_bipush (v := 15) dX4_firstOf_9 (by decide) ?_
    refine ar_iand dX4_firstOf_11 ?_
    exact fr_iret dX4_firstOf_12 rfl (Nat.le_refl _) (Nat.le_refl _) t
  · have t := t.2 h1
    refine ar_iconst (v := -1) dX4_firstOf_4 (by decide) ?_
    refine ar_goto (tgt := 12) dX4_firstOf_5 (by decide) ?_
    exact fr_iret dX4_firstOf_12 rfl (Nat.le_refl _) (Nat.le_refl _) t

def t_X4_leastWay (E : am_E) (d : Nat) (k1 : Nat) (k2 : Nat) (x3 : Int32) (σ : FH) (Q : Int32 → FH → Prop) : Prop :=
  fMv E d mX4_takeRoads [.ref 64, .ref k1, .ref k2, .int x3] σ (fun σ1 => (∀ σ3 : FH, σ3 = fsI σ1 64 8 (99 - (σ1.1 k2 1)) → fMi E d mX4_leastCost [.ref 64, .int (σ3.1 k2 0), .int ((σ3.1 k1 0) - (σ3.1 k2 2))] σ3 (fun r5 σ4 => Q r5 σ4)))
set_option maxRecDepth 100000 in
set_option maxHeartbeats 4000000 in
theorem v_X4_leastWay {E : am_E} {d : Nat} {σ : FH} {Q : Int32 → FH → Prop} {k1 : Nat} {k2 : Nat} {x3 : Int32} (hk1 : isWd k1) (hk2 : isPg k2) (t : t_X4_leastWay E d k1 k2 x3 σ Q) : fMi E (d + 1) mX4_leastWay [.ref 64, .ref k1, .ref k2, .int x3] σ Q := by
  refine fr_ofG [some (.ref 64), some (.ref k1), some (.ref k2), some (.int x3)] (by decide) rfl (Nat.le_of_ble_eq_true rfl) ?_
  unfold t_X4_leastWay at t
  refine ar_aload_n (i := 0) dX4_leastWay_0 rfl rfl ?_
  refine ar_aload_n (i := 1) dX4_leastWay_1 rfl rfl ?_
  refine ar_aload_n (i := 2) dX4_leastWay_2 rfl rfl ?_
  refine ar_iload_n (i := 3) dX4_leastWay_3 rfl rfl ?_
  refine fr_callVv (M' := mX4_takeRoads) [_, _, _] dX4_leastWay_4 ml_X4_40 mv_X4_takeRoads rfl rfl o_64 rfl rfl (Nat.le_of_ble_eq_true rfl) ⟨Nat.le_refl _, Nat.le_refl _⟩ t (fun σ1 t => ?_)
  try dsimp only at t
  refine ar_aload_n (i := 0) dX4_leastWay_7 rfl rfl ?_
  refine ar_bipush (v := 99) dX4_leastWay_8 (by decide) ?_
  refine ar_aload_n (i := 2) dX4_leastWay_10 rfl rfl ?_
  refine fr_getI (t := 1) (j := 1) dX4_leastWay_11 fs_X4_44 hk2.f.1 rfl ?_
  refine ar_isub dX4_leastWay_14 ?_
  refine fr_putI (t := 4) (j := 8) dX4_leastWay_15 fq_X4_37 o_64 rfl (Or.inl rfl) ?_
  have t := t _ rfl
  refine ar_aload_n (i := 0) dX4_leastWay_18 rfl rfl ?_
  refine ar_aload_n (i := 2) dX4_leastWay_19 rfl rfl ?_
  refine fr_getI (t := 1) (j := 0) dX4_leastWay_20 fs_X4_49 hk2.f.1 rfl ?_
  refine ar_aload_n (i := 1) dX4_leastWay_23 rfl rfl ?_
  refine fr_getI (t := 5) (j := 0) dX4_leastWay_24 fs_X4_52 hk1.o rfl ?_
  refine ar_aload_n (i := 2) dX4_leastWay_27 rfl rfl ?_
  refine fr_getI (t := 1) (j := 2) dX4_leastWay_28 fs_X4_57 hk2.f.1 rfl ?_
  refine ar_isub dX4_leastWay_31 ?_
  refine fr_callVi (M' := mX4_leastCost) [_, _] dX4_leastWay_32 ml_X4_60 mv_X4_leastCost rfl rfl o_64 rfl rfl (Nat.le_of_ble_eq_true rfl) ⟨Nat.le_refl _, Nat.le_refl _⟩ t (fun r5 σ4 t => ?_)
  try dsimp only at t
  exact fr_iret dX4_leastWay_35 rfl (Nat.le_refl _) (Nat.le_refl _) t

/-- X4.leastBar: the machine at the loop head 16 -/
def h_X4_leastBar_16 (E : am_E) (d : Nat) (k1 : Nat) (k2 : Nat) (x3 : Int32) (σ : FH) (Q : Int32 → FH → Prop) : Prop := fG E (d + 1) mX4_leastBar 16 [some (.ref 64), some (.ref k1), some (.ref k2), some (.int x3)] [] σ (qi Q)
def t_X4_leastBar_16 (E : am_E) (d : Nat) (k1 : Nat) (k2 : Nat) (x3 : Int32) (σ : FH) (Q : Int32 → FH → Prop) : Prop :=
  (((σ.1 k1 1) ≤ x3 → Q (-1) σ) ∧
  (¬ (σ.1 k1 1) ≤ x3 → fMi E d mX4_leastWay [.ref 64, .ref k1, .ref k2, .int x3] σ (fun r6 σ5 => ((¬ r6 = 1000000000 → h_X4_leastBar_16 E d k1 k2 (x3 + 1) σ5 Q) ∧
    (r6 = 1000000000 → Q x3 σ5)))))
set_option maxRecDepth 100000 in
set_option maxHeartbeats 4000000 in
theorem v_X4_leastBar_16 {E : am_E} {d : Nat} {σ : FH} {Q : Int32 → FH → Prop} {k1 : Nat} {k2 : Nat} {x3 : Int32} (hk1 : isWd k1) (hk2 : isPg k2) (t : t_X4_leastBar_16 E d k1 k2 x3 σ Q) : h_X4_leastBar_16 E d k1 k2 x3 σ Q := by
  unfold h_X4_leastBar_16
  unfold t_X4_leastBar_16 at t
  refine ar_iload_n (i := 3) dX4_leastBar_16 rfl rfl ?_
  refine ar_aload_n (i := 1) dX4_leastBar_17 rfl rfl ?_
  refine fr_getI (t := 5) (j := 1) dX4_leastBar_18 fs_X4_69 hk1.o rfl ?_
  refine ar_icmp_ge (tgt := 44) dX4_leastBar_21 (by decide) (fun h4 => ?_) (fun h4 => ?_)
  · have t := t.1 h4
    refine ar_iconst (v := -1) dX4_leastBar_44 (by decide) ?_
    exact fr_iret dX4_leastBar_45 rfl (Nat.le_refl _) (Nat.le_refl _) t
  · have t := t.2 h4
    refine ar_aload_n (i := 0) dX4_leastBar_24 rfl rfl ?_
    refine ar_aload_n (i := 1) dX4_leastBar_25 rfl rfl ?_
    refine ar_aload_n (i := 2) dX4_leastBar_26 rfl rfl ?_
    refine ar_iload_n (i := 3) dX4_leastBar_27 rfl rfl ?_
    refine fr_callVi (M' := mX4_leastWay) [_, _, _] dX4_leastBar_28 ml_X4_64 mv_X4_leastWay rfl rfl o_64 rfl rfl (Nat.le_of_ble_eq_true rfl) ⟨Nat.le_refl _, Nat.le_refl _⟩ t (fun r6 σ5 t => ?_)
    try dsimp only at t
    refine ar_ldc dX4_leastBar_31 ct_X4_68 ?_
    refine ar_icmp_ne (tgt := 38) dX4_leastBar_33 (by decide) (fun h7 => ?_) (fun h7 => ?_)
    · have t := t.1 h7
      refine ar_iinc (i := 3) (v := _ + 1) (lo2 := [_, _, _, _]) dX4_leastBar_38 rfl (ii_1 _) (Nat.le_of_ble_eq_true rfl) rfl rfl ?_
      refine ar_goto (tgt := 16) dX4_leastBar_41 (by decide) ?_
      exact t
    · have t := t.2 h7
      refine ar_iload_n (i := 3) dX4_leastBar_36 rfl rfl ?_
      exact fr_iret dX4_leastBar_37 rfl (Nat.le_refl _) (Nat.le_refl _) t
def t_X4_leastBar (E : am_E) (d : Nat) (k1 : Nat) (k2 : Nat) (σ : FH) (Q : Int32 → FH → Prop) : Prop :=
  fMi E d mX4_leastWay [.ref 64, .ref k1, .ref k2, .int (-1)] σ (fun r2 σ1 => ((¬ r2 = 1000000000 → h_X4_leastBar_16 E d k1 k2 0 σ1 Q) ∧
  (r2 = 1000000000 → Q (-1) σ1)))
set_option maxRecDepth 100000 in
set_option maxHeartbeats 4000000 in
theorem v_X4_leastBar {E : am_E} {d : Nat} {σ : FH} {Q : Int32 → FH → Prop} {k1 : Nat} {k2 : Nat} (hk1 : isWd k1) (hk2 : isPg k2) (t : t_X4_leastBar E d k1 k2 σ Q) : fMi E (d + 1) mX4_leastBar [.ref 64, .ref k1, .ref k2] σ Q := by
  refine fr_ofG [some (.ref 64), some (.ref k1), some (.ref k2), none] (by decide) rfl (Nat.le_of_ble_eq_true rfl) ?_
  unfold t_X4_leastBar at t
  refine ar_aload_n (i := 0) dX4_leastBar_0 rfl rfl ?_
  refine ar_aload_n (i := 1) dX4_leastBar_1 rfl rfl ?_
  refine ar_aload_n (i := 2) dX4_leastBar_2 rfl rfl ?_
  refine ar_iconst (v := -1) dX4_leastBar_3 (by decide) ?_
  refine fr_callVi (M' := mX4_leastWay) [_, _, _] dX4_leastBar_4 ml_X4_64 mv_X4_leastWay rfl rfl o_64 rfl rfl (Nat.le_of_ble_eq_true rfl) ⟨Nat.le_refl _, Nat.le_refl _⟩ t (fun r2 σ1 t => ?_)
  try dsimp only at t
  refine ar_ldc dX4_leastBar_7 ct_X4_68 ?_
  refine ar_icmp_ne (tgt := 14) dX4_leastBar_9 (by decide) (fun h3 => ?_) (fun h3 => ?_)
  · have t := t.1 h3
    refine ar_iconst (v := 0) dX4_leastBar_14 (by decide) ?_
    refine ar_istore_n (i := 3) (lo2 := [_, _, _, _]) dX4_leastBar_15 rfl (Nat.le_of_ble_eq_true rfl) rfl rfl ?_
    exact t
  · have t := t.2 h3
    refine ar_iconst (v := -1) dX4_leastBar_12 (by decide) ?_
    exact fr_iret dX4_leastBar_13 rfl (Nat.le_refl _) (Nat.le_refl _) t

/-- X4.mostCounted: the machine at the loop head 38 -/
def h_X4_mostCounted_38 (E : am_E) (d : Nat) (k2 : Nat) (x4 : Int32) (x5 : Int32) (σ : FH) (Q : Int32 → FH → Prop) : Prop := fG E (d + 1) mX4_mostCounted 38 [some (.ref 64), none, some (.ref k2), none, some (.int x4), some (.int x5)] [] σ (qi Q)
def t_X4_mostCounted_38 (E : am_E) (d : Nat) (k2 : Nat) (x4 : Int32) (x5 : Int32) (σ : FH) (Q : Int32 → FH → Prop) : Prop :=
  (((σ.1 64 7) ≤ x5 → Q ((σ.1 k2 2) + x4) σ) ∧
  (¬ (σ.1 64 7) ≤ x5 → (vp_in x5 512 ∧ (((σ.1 69 x5.toNatClampNeg) ≤ x4 → h_X4_mostCounted_38 E d k2 x4 (x5 + 1) σ Q) ∧
    (¬ (σ.1 69 x5.toNatClampNeg) ≤ x4 → fMi E d mX4_isReached [.ref 64, .int x5] σ (fun r10 σ9 => ((r10 = 0 → h_X4_mostCounted_38 E d k2 x4 (x5 + 1) σ9 Q) ∧
      (¬ r10 = 0 → (vp_in x5 512 ∧ h_X4_mostCounted_38 E d k2 (σ9.1 69 x5.toNatClampNeg) (x5 + 1) σ9 Q)))))))))
set_option maxRecDepth 100000 in
set_option maxHeartbeats 4000000 in
theorem v_X4_mostCounted_38 {E : am_E} {d : Nat} {σ : FH} {Q : Int32 → FH → Prop} {k2 : Nat} {x4 : Int32} {x5 : Int32} (hk2 : isPg k2) (t : t_X4_mostCounted_38 E d k2 x4 x5 σ Q) : h_X4_mostCounted_38 E d k2 x4 x5 σ Q := by
  unfold h_X4_mostCounted_38
  unfold t_X4_mostCounted_38 at t
  refine ar_iload (i := 5) dX4_mostCounted_38 rfl ?_
  refine ar_aload_n (i := 0) dX4_mostCounted_40 rfl rfl ?_
  refine fr_getI (t := 4) (j := 7) dX4_mostCounted_41 fs_X4_34 o_64 rfl ?_
  refine ar_icmp_ge (tgt := 83) dX4_mostCounted_44 (by decide) (fun h6 => ?_) (fun h6 => ?_)
  · have t := t.1 h6
    refine ar_aload_n (i := 2) dX4_mostCounted_83 rfl rfl ?_
    refine fr_getI (t := 1) (j := 2) dX4_mostCounted_84 fs_X4_57 hk2.f.1 rfl ?_
    refine ar_iload (i := 4) dX4_mostCounted_87 rfl ?_
    refine ar_iadd dX4_mostCounted_89 ?_
    exact fr_iret dX4_mostCounted_90 rfl (Nat.le_refl _) (Nat.le_refl _) t
  · have t := t.2 h6
    refine ar_aload_n (i := 0) dX4_mostCounted_47 rfl rfl ?_
    refine fr_getR (t := 4) (j := 4) (r := 69) dX4_mostCounted_48 fs_X4_24 o_64 rfl rfl (by decide) ?_
    refine ar_iload (i := 5) dX4_mostCounted_51 rfl ?_
    obtain ⟨h7, t⟩ := t
    refine fr_iald (n := 512) dX4_mostCounted_53 a_69 h7 ?_
    refine ar_iload (i := 4) dX4_mostCounted_54 rfl ?_
    refine ar_icmp_le (tgt := 77) dX4_mostCounted_56 (by decide) (fun h8 => ?_) (fun h8 => ?_)
    · have t := t.1 h8
      refine ar_iinc (i := 5) (v := _ + 1) (lo2 := [_, none, _, none, _, _]) dX4_mostCounted_77 rfl (ii_1 _) (Nat.le_of_ble_eq_true rfl) rfl rfl ?_
      refine ar_goto (tgt := 38) dX4_mostCounted_80 (by decide) ?_
      exact t
    · have t := t.2 h8
      refine ar_aload_n (i := 0) dX4_mostCounted_59 rfl rfl ?_
      refine ar_iload (i := 5) dX4_mostCounted_60 rfl ?_
      refine fr_callVi (M' := mX4_isReached) [_] dX4_mostCounted_62 ml_X4_79 mv_X4_isReached rfl rfl o_64 rfl rfl (Nat.le_of_ble_eq_true rfl) ⟨Nat.le_refl _, Nat.le_refl _⟩ t (fun r10 σ9 t => ?_)
      try dsimp only at t
      refine ar_if_eq (tgt := 77) dX4_mostCounted_65 (by decide) (fun h11 => ?_) (fun h11 => ?_)
      · have t := t.1 h11
        refine ar_iinc (i := 5) (v := _ + 1) (lo2 := [_, none, _, none, _, _]) dX4_mostCounted_77 rfl (ii_1 _) (Nat.le_of_ble_eq_true rfl) rfl rfl ?_
        refine ar_goto (tgt := 38) dX4_mostCounted_80 (by decide) ?_
        exact t
      · have t := t.2 h11
        refine ar_aload_n (i := 0) dX4_mostCounted_68 rfl rfl ?_
        refine fr_getR (t := 4) (j := 4) (r := 69) dX4_mostCounted_69 fs_X4_24 o_64 rfl rfl (by decide) ?_
        refine ar_iload (i := 5) dX4_mostCounted_72 rfl ?_
        obtain ⟨h12, t⟩ := t
        refine fr_iald (n := 512) dX4_mostCounted_74 a_69 h12 ?_
        refine ar_istore (i := 4) (lo2 := [_, none, _, none, _, _]) dX4_mostCounted_75 (Nat.le_of_ble_eq_true rfl) rfl rfl ?_
        refine ar_iinc (i := 5) (v := _ + 1) (lo2 := [_, none, _, none, _, _]) dX4_mostCounted_77 rfl (ii_1 _) (Nat.le_of_ble_eq_true rfl) rfl rfl ?_
        refine ar_goto (tgt := 38) dX4_mostCounted_80 (by decide) ?_
        exact t
def t_X4_mostCounted (E : am_E) (d : Nat) (k1 : Nat) (k2 : Nat) (x3 : Int32) (σ : FH) (Q : Int32 → FH → Prop) : Prop :=
  fMv E d mX4_takeRoads [.ref 64, .ref k1, .ref k2, .int (-1)] σ (fun σ1 => (∀ σ3 : FH, σ3 = fsI σ1 64 8 (if (99 - (σ1.1 k2 1)) < x3 then (99 - (σ1.1 k2 1)) else x3) → fMv E d mX4_spread [.ref 64, .int (σ3.1 k2 0), .int 1000000000] σ3 (fun σ4 => h_X4_mostCounted_38 E d k2 0 0 σ4 Q)))
set_option maxRecDepth 100000 in
set_option maxHeartbeats 4000000 in
theorem v_X4_mostCounted {E : am_E} {d : Nat} {σ : FH} {Q : Int32 → FH → Prop} {k1 : Nat} {k2 : Nat} {x3 : Int32} (hk1 : isWd k1) (hk2 : isPg k2) (t : t_X4_mostCounted E d k1 k2 x3 σ Q) : fMi E (d + 1) mX4_mostCounted [.ref 64, .ref k1, .ref k2, .int x3] σ Q := by
  refine fr_ofG [some (.ref 64), some (.ref k1), some (.ref k2), some (.int x3), none, none] (by decide) rfl (Nat.le_of_ble_eq_true rfl) ?_
  unfold t_X4_mostCounted at t
  refine ar_aload_n (i := 0) dX4_mostCounted_0 rfl rfl ?_
  refine ar_aload_n (i := 1) dX4_mostCounted_1 rfl rfl ?_
  refine ar_aload_n (i := 2) dX4_mostCounted_2 rfl rfl ?_
  refine ar_iconst (v := -1) dX4_mostCounted_3 (by decide) ?_
  refine fr_callVv (M' := mX4_takeRoads) [_, _, _] dX4_mostCounted_4 ml_X4_40 mv_X4_takeRoads rfl rfl o_64 rfl rfl (Nat.le_of_ble_eq_true rfl) ⟨Nat.le_refl _, Nat.le_refl _⟩ t (fun σ1 t => ?_)
  try dsimp only at t
  refine ar_aload_n (i := 0) dX4_mostCounted_7 rfl rfl ?_
  refine ar_iload_n (i := 3) dX4_mostCounted_8 rfl rfl ?_
  refine ar_bipush (v := 99) dX4_mostCounted_9 (by decide) ?_
  refine ar_aload_n (i := 2) dX4_mostCounted_11 rfl rfl ?_
  refine fr_getI (t := 1) (j := 1) dX4_mostCounted_12 fs_X4_44 hk2.f.1 rfl ?_
  refine ar_isub dX4_mostCounted_15 ?_
  refine ar_min dX4_mostCounted_16 ml_X4_70 jm_min.1 jm_min.2.1 jm_min.2.2 (Nat.le_of_ble_eq_true rfl) (Nat.le_refl _) (Nat.le_refl _) ?_
  refine fr_putI (t := 4) (j := 8) dX4_mostCounted_19 fq_X4_37 o_64 rfl (Or.inl rfl) ?_
  have t := t _ rfl
  refine ar_aload_n (i := 0) dX4_mostCounted_22 rfl rfl ?_
  refine ar_aload_n (i := 2) dX4_mostCounted_23 rfl rfl ?_
  refine fr_getI (t := 1) (j := 0) dX4_mostCounted_24 fs_X4_49 hk2.f.1 rfl ?_
  refine ar_ldc dX4_mostCounted_27 ct_X4_68 ?_
  refine fr_callVv (M' := mX4_spread) [_, _] dX4_mostCounted_29 ml_X4_75 mv_X4_spread rfl rfl o_64 rfl rfl (Nat.le_of_ble_eq_true rfl) ⟨Nat.le_refl _, Nat.le_refl _⟩ t (fun σ4 t => ?_)
  try dsimp only at t
  refine ar_iconst (v := 0) dX4_mostCounted_32 (by decide) ?_
  refine ar_istore (i := 4) (lo2 := [_, _, _, _, _, none]) dX4_mostCounted_33 (Nat.le_of_ble_eq_true rfl) rfl rfl ?_
  refine ar_iconst (v := 0) dX4_mostCounted_35 (by decide) ?_
  refine ar_istore (i := 5) (lo2 := [_, _, _, _, _, _]) dX4_mostCounted_36 (Nat.le_of_ble_eq_true rfl) rfl rfl ?_
  refine ar_drop 1 (lo2 := [_, none, _, _, _, _]) rfl ?_
  refine ar_drop 3 (lo2 := [_, none, _, none, _, _]) rfl ?_
  exact t

/-- X4.bestBridge: the machine at the loop head 55 -/
def h_X4_bestBridge_55 (E : am_E) (d : Nat) (k2 : Nat) (x4 : Int32) (x5 : Int32) (x6 : Int32) (x7 : Int32) (σ : FH) (Q : Int32 → FH → Prop) : Prop := fG E (d + 1) mX4_bestBridge 55 [some (.ref 64), none, some (.ref k2), none, some (.int x4), some (.int x5), some (.int x6), some (.int x7), none, none] [] σ (qi Q)
/-- X4.bestBridge: the machine at the loop head 68 -/
def h_X4_bestBridge_68 (E : am_E) (d : Nat) (k2 : Nat) (x4 : Int32) (x5 : Int32) (x6 : Int32) (x7 : Int32) (x8 : Int32) (σ : FH) (Q : Int32 → FH → Prop) : Prop := fG E (d + 1) mX4_bestBridge 68 [some (.ref 64), none, some (.ref k2), none, some (.int x4), some (.int x5), some (.int x6), some (.int x7), some (.int x8), none] [] σ (qi Q)
def t_X4_bestBridge_68 (E : am_E) (d : Nat) (k2 : Nat) (x4 : Int32) (x5 : Int32) (x6 : Int32) (x7 : Int32) (x8 : Int32) (σ : FH) (Q : Int32 → FH → Prop) : Prop :=
  ((6 ≤ x8 → h_X4_bestBridge_55 E d k2 x4 x5 x6 (x7 + 1) σ Q) ∧
  (¬ 6 ≤ x8 → (((σ.1 64 8) ≤ 0 → h_X4_bestBridge_55 E d k2 x4 x5 x6 (x7 + 1) σ Q) ∧
    (¬ (σ.1 64 8) ≤ 0 → (vp_in x6 9 ∧ (∀ σ10 : FH, σ10 = fsI σ 65 x6.toNatClampNeg x7 → (vp_in x6 9 ∧ (∀ σ12 : FH, σ12 = fsI σ10 66 x6.toNatClampNeg x8 → fMi E d mX4_leastCost [.ref 64, .int (σ12.1 k2 0), .int x4] σ12 (fun r14 σ13 => ((r14 = 1000000000 → h_X4_bestBridge_68 E d k2 x4 x5 x6 x7 (x8 + 1) σ13 Q) ∧
      (¬ r14 = 1000000000 → fMi E d mX4_harmOf [.int r14] σ13 (fun r17 σ16 => (∀ σ18 : FH, σ18 = fsI σ16 64 8 (r17 - 1) → h_X4_bestBridge_68 E d k2 x4 ((6 * x7) + x8) x6 x7 (x8 + 1) σ18 Q)))))))))))))
set_option maxRecDepth 100000 in
set_option maxHeartbeats 4000000 in
theorem v_X4_bestBridge_68 {E : am_E} {d : Nat} {σ : FH} {Q : Int32 → FH → Prop} {k2 : Nat} {x4 : Int32} {x5 : Int32} {x6 : Int32} {x7 : Int32} {x8 : Int32} (hk2 : isPg k2) (t : t_X4_bestBridge_68 E d k2 x4 x5 x6 x7 x8 σ Q) : h_X4_bestBridge_68 E d k2 x4 x5 x6 x7 x8 σ Q := by
  unfold h_X4_bestBridge_68
  unfold t_X4_bestBridge_68 at t
  refine ar_iload (i := 8) dX4_bestBridge_68 rfl ?_
  refine ar_bipush (v := 6) dX4_bestBridge_70 (by decide) ?_
  refine ar_icmp_ge (tgt := 146) dX4_bestBridge_72 (by decide) (fun h7 => ?_) (fun h7 => ?_)
  · have t := t.1 h7
    refine ar_iinc (i := 7) (v := _ + 1) (lo2 := [_, none, _, none, _, _, _, _, _, none]) dX4_bestBridge_146 rfl (ii_1 _) (Nat.le_of_ble_eq_true rfl) rfl rfl ?_
    refine ar_goto (tgt := 55) dX4_bestBridge_149 (by decide) ?_
    refine ar_drop 8 (lo2 := [_, none, _, none, _, _, _, _, none, none]) rfl ?_
    exact t
  · have t := t.2 h7
    refine ar_aload_n (i := 0) dX4_bestBridge_75 rfl rfl ?_
    refine fr_getI (t := 4) (j := 8) dX4_bestBridge_76 fs_X4_37 o_64 rfl ?_
    refine ar_if_le (tgt := 146) dX4_bestBridge_79 (by decide) (fun h8 => ?_) (fun h8 => ?_)
    · have t := t.1 h8
      refine ar_iinc (i := 7) (v := _ + 1) (lo2 := [_, none, _, none, _, _, _, _, _, none]) dX4_bestBridge_146 rfl (ii_1 _) (Nat.le_of_ble_eq_true rfl) rfl rfl ?_
      refine ar_goto (tgt := 55) dX4_bestBridge_149 (by decide) ?_
      refine ar_drop 8 (lo2 := [_, none, _, none, _, _, _, _, none, none]) rfl ?_
      exact t
    · have t := t.2 h8
      refine ar_aload_n (i := 0) dX4_bestBridge_82 rfl rfl ?_
      refine fr_getR (t := 4) (j := 0) (r := 65) dX4_bestBridge_83 fs_X4_11 o_64 rfl rfl (by decide) ?_
      refine ar_iload (i := 6) dX4_bestBridge_86 rfl ?_
      refine ar_iload (i := 7) dX4_bestBridge_88 rfl ?_
      obtain ⟨h9, t⟩ := t
      refine fr_iast (n := 9) dX4_bestBridge_90 a_65 h9 ?_
      have t := t _ rfl
      refine ar_aload_n (i := 0) dX4_bestBridge_91 rfl rfl ?_
      refine fr_getR (t := 4) (j := 1) (r := 66) dX4_bestBridge_92 fs_X4_15 o_64 rfl rfl (by decide) ?_
      refine ar_iload (i := 6) dX4_bestBridge_95 rfl ?_
      refine ar_iload (i := 8) dX4_bestBridge_97 rfl ?_
      obtain ⟨h11, t⟩ := t
      refine fr_iast (n := 9) dX4_bestBridge_99 a_66 h11 ?_
      have t := t _ rfl
      refine ar_aload_n (i := 0) dX4_bestBridge_100 rfl rfl ?_
      refine ar_aload_n (i := 2) dX4_bestBridge_101 rfl rfl ?_
      refine fr_getI (t := 1) (j := 0) dX4_bestBridge_102 fs_X4_49 hk2.f.1 rfl ?_
      refine ar_iload (i := 4) dX4_bestBridge_105 rfl ?_
      refine fr_callVi (M' := mX4_leastCost) [_, _] dX4_bestBridge_107 ml_X4_60 mv_X4_leastCost rfl rfl o_64 rfl rfl (Nat.le_of_ble_eq_true rfl) ⟨Nat.le_refl _, Nat.le_refl _⟩ t (fun r14 σ13 t => ?_)
      try dsimp only at t
      refine ar_istore (i := 9) (lo2 := [_, none, _, none, _, _, _, _, _, _]) dX4_bestBridge_110 (Nat.le_of_ble_eq_true rfl) rfl rfl ?_
      refine ar_iload (i := 9) dX4_bestBridge_112 rfl ?_
      refine ar_ldc dX4_bestBridge_114 ct_X4_68 ?_
      refine ar_icmp_eq (tgt := 140) dX4_bestBridge_116 (by decide) (fun h15 => ?_) (fun h15 => ?_)
      · have t := t.1 h15
        refine ar_iinc (i := 8) (v := _ + 1) (lo2 := [_, none, _, none, _, _, _, _, _, _]) dX4_bestBridge_140 rfl (ii_1 _) (Nat.le_of_ble_eq_true rfl) rfl rfl ?_
        refine ar_goto (tgt := 68) dX4_bestBridge_143 (by decide) ?_
        refine ar_drop 9 (lo2 := [_, none, _, none, _, _, _, _, _, none]) rfl ?_
        exact t
      · have t := t.2 h15
        refine ar_bipush (v := 6) dX4_bestBridge_119 (by decide) ?_
        refine ar_iload (i := 7) dX4_bestBridge_121 rfl ?_
        refine ar_imul dX4_bestBridge_123 ?_
        refine ar_iload (i := 8) dX4_bestBridge_124 rfl ?_
        refine ar_iadd dX4_bestBridge_126 ?_
        refine ar_istore (i := 5) (lo2 := [_, none, _, none, _, _, _, _, _, _]) dX4_bestBridge_127 (Nat.le_of_ble_eq_true rfl) rfl rfl ?_
        refine ar_aload_n (i := 0) dX4_bestBridge_129 rfl rfl ?_
        refine ar_iload (i := 9) dX4_bestBridge_130 rfl ?_
        refine fr_callSi (M' := mX4_harmOf) [_] dX4_bestBridge_132 ml_X4_83 mv_X4_harmOf rfl rfl (Nat.le_of_ble_eq_true rfl) ⟨Nat.le_refl _, Nat.le_refl _⟩ t (fun r17 σ16 t => ?_)
        try dsimp only at t
        refine ar_iconst (v := 1) dX4_bestBridge_135 (by decide) ?_
        refine ar_isub dX4_bestBridge_136 ?_
        refine fr_putI (t := 4) (j := 8) dX4_bestBridge_137 fq_X4_37 o_64 rfl (Or.inl rfl) ?_
        have t := t _ rfl
        refine ar_iinc (i := 8) (v := _ + 1) (lo2 := [_, none, _, none, _, _, _, _, _, _]) dX4_bestBridge_140 rfl (ii_1 _) (Nat.le_of_ble_eq_true rfl) rfl rfl ?_
        refine ar_goto (tgt := 68) dX4_bestBridge_143 (by decide) ?_
        refine ar_drop 9 (lo2 := [_, none, _, none, _, _, _, _, _, none]) rfl ?_
        exact t
def t_X4_bestBridge_55 (E : am_E) (d : Nat) (k2 : Nat) (x4 : Int32) (x5 : Int32) (x6 : Int32) (x7 : Int32) (σ : FH) (Q : Int32 → FH → Prop) : Prop :=
  ((6 ≤ x7 → Q x5 σ) ∧
  (¬ 6 ≤ x7 → h_X4_bestBridge_68 E d k2 x4 x5 x6 x7 (x7 + 1) σ Q))
set_option maxRecDepth 100000 in
set_option maxHeartbeats 4000000 in
theorem v_X4_bestBridge_55 {E : am_E} {d : Nat} {σ : FH} {Q : Int32 → FH → Prop} {k2 : Nat} {x4 : Int32} {x5 : Int32} {x6 : Int32} {x7 : Int32} (hk2 : isPg k2) (t : t_X4_bestBridge_55 E d k2 x4 x5 x6 x7 σ Q) : h_X4_bestBridge_55 E d k2 x4 x5 x6 x7 σ Q := by
  unfold h_X4_bestBridge_55
  unfold t_X4_bestBridge_55 at t
  refine ar_iload (i := 7) dX4_bestBridge_55 rfl ?_
  refine ar_bipush (v := 6) dX4_bestBridge_57 (by decide) ?_
  refine ar_icmp_ge (tgt := 152) dX4_bestBridge_59 (by decide) (fun h6 => ?_) (fun h6 => ?_)
  · have t := t.1 h6
    refine ar_iload (i := 5) dX4_bestBridge_152 rfl ?_
    exact fr_iret dX4_bestBridge_154 rfl (Nat.le_refl _) (Nat.le_refl _) t
  · have t := t.2 h6
    refine ar_iload (i := 7) dX4_bestBridge_62 rfl ?_
    refine ar_iconst (v := 1) dX4_bestBridge_64 (by decide) ?_
    refine ar_iadd dX4_bestBridge_65 ?_
    refine ar_istore (i := 8) (lo2 := [_, none, _, none, _, _, _, _, _, none]) dX4_bestBridge_66 (Nat.le_of_ble_eq_true rfl) rfl rfl ?_
    exact t
def t_X4_bestBridge_24 (E : am_E) (d : Nat) (k1 : Nat) (k2 : Nat) (σ : FH) (Q : Int32 → FH → Prop) : Prop :=
  fMv E d mX4_addRoad [.ref 64, .int 0, .int 0, .int 1, .int 2] σ (fun σ4 => h_X4_bestBridge_55 E d k2 ((σ.1 k1 0) - (σ.1 k2 2)) (-1) (σ.1 64 6) 0 σ4 Q)
set_option maxRecDepth 100000 in
set_option maxHeartbeats 4000000 in
theorem v_X4_bestBridge_24 {E : am_E} {d : Nat} {σ : FH} {Q : Int32 → FH → Prop} {k1 : Nat} {k2 : Nat} (hk1 : isWd k1) (hk2 : isPg k2) (t : t_X4_bestBridge_24 E d k1 k2 σ Q) : fG E (d + 1) mX4_bestBridge 24 [some (.ref 64), some (.ref k1), some (.ref k2), none, none, none, none, none, none, none] [] σ (qi Q) := by
  unfold t_X4_bestBridge_24 at t
  refine ar_aload_n (i := 1) dX4_bestBridge_24 rfl rfl ?_
  refine fr_getI (t := 5) (j := 0) dX4_bestBridge_25 fs_X4_52 hk1.o rfl ?_
  refine ar_aload_n (i := 2) dX4_bestBridge_28 rfl rfl ?_
  refine fr_getI (t := 1) (j := 2) dX4_bestBridge_29 fs_X4_57 hk2.f.1 rfl ?_
  refine ar_isub dX4_bestBridge_32 ?_
  refine ar_istore (i := 4) (lo2 := [_, _, _, none, _, none, none, none, none, none]) dX4_bestBridge_33 (Nat.le_of_ble_eq_true rfl) rfl rfl ?_
  refine ar_iconst (v := -1) dX4_bestBridge_35 (by decide) ?_
  refine ar_istore (i := 5) (lo2 := [_, _, _, none, _, _, none, none, none, none]) dX4_bestBridge_36 (Nat.le_of_ble_eq_true rfl) rfl rfl ?_
  refine ar_aload_n (i := 0) dX4_bestBridge_38 rfl rfl ?_
  refine fr_getI (t := 4) (j := 6) dX4_bestBridge_39 fs_X4_30 o_64 rfl ?_
  refine ar_istore (i := 6) (lo2 := [_, _, _, none, _, _, _, none, none, none]) dX4_bestBridge_42 (Nat.le_of_ble_eq_true rfl) rfl rfl ?_
  refine ar_aload_n (i := 0) dX4_bestBridge_44 rfl rfl ?_
  refine ar_iconst (v := 0) dX4_bestBridge_45 (by decide) ?_
  refine ar_iconst (v := 0) dX4_bestBridge_46 (by decide) ?_
  refine ar_iconst (v := 1) dX4_bestBridge_47 (by decide) ?_
  refine ar_iconst (v := 2) dX4_bestBridge_48 (by decide) ?_
  refine fr_callVv (M' := mX4_addRoad) [_, _, _, _] dX4_bestBridge_49 ml_X4_87 mv_X4_addRoad rfl rfl o_64 rfl rfl (Nat.le_of_ble_eq_true rfl) ⟨Nat.le_refl _, Nat.le_refl _⟩ t (fun σ4 t => ?_)
  try dsimp only at t
  refine ar_iconst (v := 0) dX4_bestBridge_52 (by decide) ?_
  refine ar_istore (i := 7) (lo2 := [_, _, _, none, _, _, _, _, none, none]) dX4_bestBridge_53 (Nat.le_of_ble_eq_true rfl) rfl rfl ?_
  refine ar_drop 1 (lo2 := [_, none, _, none, _, _, _, _, none, none]) rfl ?_
  exact t
def t_X4_bestBridge (E : am_E) (d : Nat) (k1 : Nat) (k2 : Nat) (σ : FH) (Q : Int32 → FH → Prop) : Prop :=
  fMi E d mX4_leastWay [.ref 64, .ref k1, .ref k2, .int (-1)] σ (fun r2 σ1 => ((r2 = 1000000000 → t_X4_bestBridge_24 E d k1 k2 σ1 Q) ∧
  (¬ r2 = 1000000000 → fMi E d mX4_harmOf [.int r2] σ1 (fun r20 σ19 => (∀ σ21 : FH, σ21 = fsI σ19 64 8 (r20 - 1) → t_X4_bestBridge_24 E d k1 k2 σ21 Q)))))
set_option maxRecDepth 100000 in
set_option maxHeartbeats 4000000 in
theorem v_X4_bestBridge {E : am_E} {d : Nat} {σ : FH} {Q : Int32 → FH → Prop} {k1 : Nat} {k2 : Nat} (hk1 : isWd k1) (hk2 : isPg k2) (t : t_X4_bestBridge E d k1 k2 σ Q) : fMi E (d + 1) mX4_bestBridge [.ref 64, .ref k1, .ref k2] σ Q := by
  refine fr_ofG [some (.ref 64), some (.ref k1), some (.ref k2), none, none, none, none, none, none, none] (by decide) rfl (Nat.le_of_ble_eq_true rfl) ?_
  unfold t_X4_bestBridge at t
  refine ar_aload_n (i := 0) dX4_bestBridge_0 rfl rfl ?_
  refine ar_aload_n (i := 1) dX4_bestBridge_1 rfl rfl ?_
  refine ar_aload_n (i := 2) dX4_bestBridge_2 rfl rfl ?_
  refine ar_iconst (v := -1) dX4_bestBridge_3 (by decide) ?_
  refine fr_callVi (M' := mX4_leastWay) [_, _, _] dX4_bestBridge_4 ml_X4_64 mv_X4_leastWay rfl rfl o_64 rfl rfl (Nat.le_of_ble_eq_true rfl) ⟨Nat.le_refl _, Nat.le_refl _⟩ t (fun r2 σ1 t => ?_)
  try dsimp only at t
  refine ar_istore_n (i := 3) (lo2 := [_, _, _, _, none, none, none, none, none, none]) dX4_bestBridge_7 rfl (Nat.le_of_ble_eq_true rfl) rfl rfl ?_
  refine ar_iload_n (i := 3) dX4_bestBridge_8 rfl rfl ?_
  refine ar_ldc dX4_bestBridge_9 ct_X4_68 ?_
  refine ar_icmp_eq (tgt := 24) dX4_bestBridge_11 (by decide) (fun h3 => ?_) (fun h3 => ?_)
  · have t := t.1 h3
    refine ar_drop 3 (lo2 := [_, _, _, none, none, none, none, none, none, none]) rfl ?_
    exact v_X4_bestBridge_24 hk1 hk2 t
  · have t := t.2 h3
    refine ar_aload_n (i := 0) dX4_bestBridge_14 rfl rfl ?_
    refine ar_iload_n (i := 3) dX4_bestBridge_15 rfl rfl ?_
    refine fr_callSi (M' := mX4_harmOf) [_] dX4_bestBridge_16 ml_X4_83 mv_X4_harmOf rfl rfl (Nat.le_of_ble_eq_true rfl) ⟨Nat.le_refl _, Nat.le_refl _⟩ t (fun r20 σ19 t => ?_)
    try dsimp only at t
    refine ar_iconst (v := 1) dX4_bestBridge_19 (by decide) ?_
    refine ar_isub dX4_bestBridge_20 ?_
    refine fr_putI (t := 4) (j := 8) dX4_bestBridge_21 fq_X4_37 o_64 rfl (Or.inl rfl) ?_
    have t := t _ rfl
    refine ar_drop 3 (lo2 := [_, _, _, none, none, none, none, none, none, none]) rfl ?_
    exact v_X4_bestBridge_24 hk1 hk2 t

/-- X4.takeRoads: the machine at the loop head 13 -/
def h_X4_takeRoads_13 (E : am_E) (d : Nat) (k1 : Nat) (k2 : Nat) (x3 : Int32) (x4 : Int32) (σ : FH) (Q : FH → Prop) : Prop := fG E (d + 1) mX4_takeRoads 13 [some (.ref 64), some (.ref k1), some (.ref k2), some (.int x3), some (.int x4), none] [] σ (qv Q)
def t_X4_takeRoads_13 (E : am_E) (d : Nat) (k1 : Nat) (k2 : Nat) (x3 : Int32) (x4 : Int32) (σ : FH) (Q : FH → Prop) : Prop :=
  (((σ.1 k1 1) ≤ x4 → Q σ) ∧
  (¬ (σ.1 k1 1) ≤ x4 → (vp_in x4 8 ∧ ((x4 = x3 → h_X4_takeRoads_13 E d k1 k2 x3 (x4 + 1) σ Q) ∧
    (¬ x4 = x3 → fMi E d mX1_wouldCount [.ref k2, .ref (k1 + 4 + x4.toNatClampNeg)] σ (fun r7 σ6 => ((r7 = 0 → fMv E d mX4_addRoad [.ref 64, .int (σ.1 (k1 + 4 + x4.toNatClampNeg) 2), .int (σ.1 (k1 + 4 + x4.toNatClampNeg) 3), .int (σ.1 (k1 + 4 + x4.toNatClampNeg) 4), .int 0] σ6 (fun σ9 => h_X4_takeRoads_13 E d k1 k2 x3 (x4 + 1) σ9 Q)) ∧
      (¬ r7 = 0 → fMi E d mX2_worth [.ref (k1 + 4 + x4.toNatClampNeg)] σ6 (fun r12 σ11 => fMv E d mX4_addRoad [.ref 64, .int (σ.1 (k1 + 4 + x4.toNatClampNeg) 2), .int (σ.1 (k1 + 4 + x4.toNatClampNeg) 3), .int (σ.1 (k1 + 4 + x4.toNatClampNeg) 4), .int r12] σ11 (fun σ13 => h_X4_takeRoads_13 E d k1 k2 x3 (x4 + 1) σ13 Q))))))))))
set_option maxRecDepth 100000 in
set_option maxHeartbeats 4000000 in
theorem v_X4_takeRoads_13 {E : am_E} {d : Nat} {σ : FH} {Q : FH → Prop} {k1 : Nat} {k2 : Nat} {x3 : Int32} {x4 : Int32} (hk1 : isWd k1) (hk2 : isPg k2) (t : t_X4_takeRoads_13 E d k1 k2 x3 x4 σ Q) : h_X4_takeRoads_13 E d k1 k2 x3 x4 σ Q := by
  unfold h_X4_takeRoads_13
  unfold t_X4_takeRoads_13 at t
  refine ar_iload (i := 4) dX4_takeRoads_13 rfl ?_
  refine ar_aload_n (i := 1) dX4_takeRoads_15 rfl rfl ?_
  refine fr_getI (t := 5) (j := 1) dX4_takeRoads_16 fs_X4_69 hk1.o rfl ?_
  refine ar_icmp_ge (tgt := 80) dX4_takeRoads_19 (by decide) (fun h3 => ?_) (fun h3 => ?_)
  · have t := t.1 h3
    exact fr_vret dX4_takeRoads_80 rfl (Nat.le_refl _) (Nat.le_refl _) t
  · have t := t.2 h3
    refine ar_aload_n (i := 1) dX4_takeRoads_22 rfl rfl ?_
    refine fr_getR (t := 5) (j := 6) dX4_takeRoads_23 fs_X4_91 hk1.o rfl (frf_c hk1.ne.1 hk1.r6) (Nat.succ_ne_zero _) ?_
    refine ar_iload (i := 4) dX4_takeRoads_26 rfl ?_
    obtain ⟨h4, t⟩ := t
    refine fr_aaldR (w := k1) dX4_takeRoads_28 hk1 h4 ?_
    refine ar_astore (i := 5) (lo2 := [_, _, _, _, _, _]) dX4_takeRoads_29 (Nat.le_of_ble_eq_true rfl) rfl rfl ?_
    refine ar_iload (i := 4) dX4_takeRoads_31 rfl ?_
    refine ar_iload_n (i := 3) dX4_takeRoads_33 rfl rfl ?_
    refine ar_icmp_eq (tgt := 74) dX4_takeRoads_34 (by decide) (fun h5 => ?_) (fun h5 => ?_)
    · have t := t.1 h5
      refine ar_iinc (i := 4) (v := _ + 1) (lo2 := [_, _, _, _, _, _]) dX4_takeRoads_74 rfl (ii_1 _) (Nat.le_of_ble_eq_true rfl) rfl rfl ?_
      refine ar_goto (tgt := 13) dX4_takeRoads_77 (by decide) ?_
      refine ar_drop 5 (lo2 := [_, _, _, _, _, none]) rfl ?_
      exact t
    · have t := t.2 h5
      refine ar_aload_n (i := 0) dX4_takeRoads_37 rfl rfl ?_
      refine ar_aload (i := 5) dX4_takeRoads_38 rfl ?_
      refine fr_getI (t := 2) (j := 2) dX4_takeRoads_40 fs_X4_95 (hk1.rd h4).o rfl ?_
      refine ar_aload (i := 5) dX4_takeRoads_43 rfl ?_
      refine fr_getI (t := 2) (j := 3) dX4_takeRoads_45 fs_X4_99 (hk1.rd h4).o rfl ?_
      refine ar_aload (i := 5) dX4_takeRoads_48 rfl ?_
      refine fr_getI (t := 2) (j := 4) dX4_takeRoads_50 fs_X4_101 (hk1.rd h4).o rfl ?_
      refine ar_aload_n (i := 2) dX4_takeRoads_53 rfl rfl ?_
      refine ar_aload (i := 5) dX4_takeRoads_54 rfl ?_
      refine fr_callVi (M' := mX1_wouldCount) [_] dX4_takeRoads_56 ml_X4_103 mv_X1_wouldCount rfl rfl hk2.f.1 rfl rfl (Nat.le_of_ble_eq_true rfl) ⟨Nat.le_refl _, Nat.le_refl _⟩ t (fun r7 σ6 t => ?_)
      try dsimp only at t
      refine ar_if_eq (tgt := 70) dX4_takeRoads_59 (by decide) (fun h8 => ?_) (fun h8 => ?_)
      · have t := t.1 h8
        refine ar_iconst (v := 0) dX4_takeRoads_70 (by decide) ?_
        refine fr_callVv (M' := mX4_addRoad) [_, _, _, _] dX4_takeRoads_71 ml_X4_87 mv_X4_addRoad rfl rfl o_64 rfl rfl (Nat.le_of_ble_eq_true rfl) ⟨Nat.le_refl _, Nat.le_refl _⟩ t (fun σ9 t => ?_)
        try dsimp only at t
        refine ar_iinc (i := 4) (v := _ + 1) (lo2 := [_, _, _, _, _, _]) dX4_takeRoads_74 rfl (ii_1 _) (Nat.le_of_ble_eq_true rfl) rfl rfl ?_
        refine ar_goto (tgt := 13) dX4_takeRoads_77 (by decide) ?_
        refine ar_drop 5 (lo2 := [_, _, _, _, _, none]) rfl ?_
        exact t
      · have t := t.2 h8
        refine ar_aload (i := 5) dX4_takeRoads_62 rfl ?_
        refine fr_callVi (M' := mX2_worth) [] dX4_takeRoads_64 ml_X4_107 mv_X2_worth rfl rfl (hk1.rd h4).o rfl rfl (Nat.le_of_ble_eq_true rfl) ⟨Nat.le_refl _, Nat.le_refl _⟩ t (fun r12 σ11 t => ?_)
        try dsimp only at t
        refine ar_goto (tgt := 71) dX4_takeRoads_67 (by decide) ?_
        refine fr_callVv (M' := mX4_addRoad) [_, _, _, _] dX4_takeRoads_71 ml_X4_87 mv_X4_addRoad rfl rfl o_64 rfl rfl (Nat.le_of_ble_eq_true rfl) ⟨Nat.le_refl _, Nat.le_refl _⟩ t (fun σ13 t => ?_)
        try dsimp only at t
        refine ar_iinc (i := 4) (v := _ + 1) (lo2 := [_, _, _, _, _, _]) dX4_takeRoads_74 rfl (ii_1 _) (Nat.le_of_ble_eq_true rfl) rfl rfl ?_
        refine ar_goto (tgt := 13) dX4_takeRoads_77 (by decide) ?_
        refine ar_drop 5 (lo2 := [_, _, _, _, _, none]) rfl ?_
        exact t
def t_X4_takeRoads (E : am_E) (d : Nat) (k1 : Nat) (k2 : Nat) (x3 : Int32) (σ : FH) (Q : FH → Prop) : Prop :=
  (∀ σ1 : FH, σ1 = fsI σ 64 6 0 → (∀ σ2 : FH, σ2 = fsI σ1 64 7 1 → h_X4_takeRoads_13 E d k1 k2 x3 0 σ2 Q))
set_option maxRecDepth 100000 in
set_option maxHeartbeats 4000000 in
theorem v_X4_takeRoads {E : am_E} {d : Nat} {σ : FH} {Q : FH → Prop} {k1 : Nat} {k2 : Nat} {x3 : Int32} (hk1 : isWd k1) (hk2 : isPg k2) (t : t_X4_takeRoads E d k1 k2 x3 σ Q) : fMv E (d + 1) mX4_takeRoads [.ref 64, .ref k1, .ref k2, .int x3] σ Q := by
  refine fr_ofG [some (.ref 64), some (.ref k1), some (.ref k2), some (.int x3), none, none] (by decide) rfl (Nat.le_of_ble_eq_true rfl) ?_
  unfold t_X4_takeRoads at t
  refine ar_aload_n (i := 0) dX4_takeRoads_0 rfl rfl ?_
  refine ar_iconst (v := 0) dX4_takeRoads_1 (by decide) ?_
  refine fr_putI (t := 4) (j := 6) dX4_takeRoads_2 fq_X4_30 o_64 rfl (Or.inl rfl) ?_
  have t := t _ rfl
  refine ar_aload_n (i := 0) dX4_takeRoads_5 rfl rfl ?_
  refine ar_iconst (v := 1) dX4_takeRoads_6 (by decide) ?_
  refine fr_putI (t := 4) (j := 7) dX4_takeRoads_7 fq_X4_34 o_64 rfl (Or.inl rfl) ?_
  have t := t _ rfl
  refine ar_iconst (v := 0) dX4_takeRoads_10 (by decide) ?_
  refine ar_istore (i := 4) (lo2 := [_, _, _, _, _, none]) dX4_takeRoads_11 (Nat.le_of_ble_eq_true rfl) rfl rfl ?_
  exact t

/-- X4.addRoad: the machine at the loop head 81 -/
def h_X4_addRoad_81 (E : am_E) (d : Nat) (x4 : Int32) (x5 : Int32) (σ : FH) (Q : FH → Prop) : Prop := fG E (d + 1) mX4_addRoad 81 [some (.ref 64), none, none, none, some (.int x4), some (.int x5)] [] σ (qv Q)
def t_X4_addRoad_81 (E : am_E) (d : Nat) (x4 : Int32) (x5 : Int32) (σ : FH) (Q : FH → Prop) : Prop :=
  (((σ.1 64 7) ≤ x5 → (∀ σ17 : FH, σ17 = fsI σ 64 7 ((σ.1 64 7) + (σ.1 64 7)) → (∀ σ18 : FH, σ18 = fsI σ17 64 6 ((σ17.1 64 6) + 1) → Q σ18))) ∧
  (¬ (σ.1 64 7) ≤ x5 → (vp_in x5 512 ∧ (vp_in ((σ.1 64 7) + x5) 512 ∧ (∀ σ21 : FH, σ21 = fsI σ 69 ((σ.1 64 7) + x5).toNatClampNeg ((σ.1 69 x5.toNatClampNeg) + x4) → h_X4_addRoad_81 E d x4 (x5 + 1) σ21 Q)))))
set_option maxRecDepth 100000 in
set_option maxHeartbeats 4000000 in
theorem v_X4_addRoad_81 {E : am_E} {d : Nat} {σ : FH} {Q : FH → Prop} {x4 : Int32} {x5 : Int32} (t : t_X4_addRoad_81 E d x4 x5 σ Q) : h_X4_addRoad_81 E d x4 x5 σ Q := by
  unfold h_X4_addRoad_81
  unfold t_X4_addRoad_81 at t
  refine ar_iload (i := 5) dX4_addRoad_81 rfl ?_
  refine ar_aload_n (i := 0) dX4_addRoad_83 rfl rfl ?_
  refine fr_getI (t := 4) (j := 7) dX4_addRoad_84 fs_X4_34 o_64 rfl ?_
  refine ar_icmp_ge (tgt := 118) dX4_addRoad_87 (by decide) (fun h16 => ?_) (fun h16 => ?_)
  · have t := t.1 h16
    refine ar_aload_n (i := 0) dX4_addRoad_118 rfl rfl ?_
    refine ar_dup dX4_addRoad_119 rfl ?_
    refine fr_getI (t := 4) (j := 7) dX4_addRoad_120 fs_X4_34 o_64 rfl ?_
    refine ar_aload_n (i := 0) dX4_addRoad_123 rfl rfl ?_
    refine fr_getI (t := 4) (j := 7) dX4_addRoad_124 fs_X4_34 o_64 rfl ?_
    refine ar_iadd dX4_addRoad_127 ?_
    refine fr_putI (t := 4) (j := 7) dX4_addRoad_128 fq_X4_34 o_64 rfl (Or.inl rfl) ?_
    have t := t _ rfl
    refine ar_aload_n (i := 0) dX4_addRoad_131 rfl rfl ?_
    refine ar_dup dX4_addRoad_132 rfl ?_
    refine fr_getI (t := 4) (j := 6) dX4_addRoad_133 fs_X4_30 o_64 rfl ?_
    refine ar_iconst (v := 1) dX4_addRoad_136 (by decide) ?_
    refine ar_iadd dX4_addRoad_137 ?_
    refine fr_putI (t := 4) (j := 6) dX4_addRoad_138 fq_X4_30 o_64 rfl (Or.inl rfl) ?_
    have t := t _ rfl
    exact fr_vret dX4_addRoad_141 rfl (Nat.le_refl _) (Nat.le_refl _) t
  · have t := t.2 h16
    refine ar_aload_n (i := 0) dX4_addRoad_90 rfl rfl ?_
    refine fr_getR (t := 4) (j := 4) (r := 69) dX4_addRoad_91 fs_X4_24 o_64 rfl rfl (by decide) ?_
    refine ar_aload_n (i := 0) dX4_addRoad_94 rfl rfl ?_
    refine fr_getI (t := 4) (j := 7) dX4_addRoad_95 fs_X4_34 o_64 rfl ?_
    refine ar_iload (i := 5) dX4_addRoad_98 rfl ?_
    refine ar_iadd dX4_addRoad_100 ?_
    refine ar_aload_n (i := 0) dX4_addRoad_101 rfl rfl ?_
    refine fr_getR (t := 4) (j := 4) (r := 69) dX4_addRoad_102 fs_X4_24 o_64 rfl rfl (by decide) ?_
    refine ar_iload (i := 5) dX4_addRoad_105 rfl ?_
    obtain ⟨h19, t⟩ := t
    refine fr_iald (n := 512) dX4_addRoad_107 a_69 h19 ?_
    refine ar_iload (i := 4) dX4_addRoad_108 rfl ?_
    refine ar_iadd dX4_addRoad_110 ?_
    obtain ⟨h20, t⟩ := t
    refine fr_iast (n := 512) dX4_addRoad_111 a_69 h20 ?_
    have t := t _ rfl
    refine ar_iinc (i := 5) (v := _ + 1) (lo2 := [_, none, none, none, _, _]) dX4_addRoad_112 rfl (ii_1 _) (Nat.le_of_ble_eq_true rfl) rfl rfl ?_
    refine ar_goto (tgt := 81) dX4_addRoad_115 (by decide) ?_
    exact t
def t_X4_addRoad (E : am_E) (d : Nat) (x1 : Int32) (x2 : Int32) (x3 : Int32) (x4 : Int32) (σ : FH) (Q : FH → Prop) : Prop :=
  (((σ.1 64 6) < 9 → (vp_in (σ.1 64 6) 9 ∧ (∀ σ3 : FH, σ3 = fsI σ 65 (σ.1 64 6).toNatClampNeg x1 → (vp_in (σ3.1 64 6) 9 ∧ (∀ σ5 : FH, σ5 = fsI σ3 66 (σ3.1 64 6).toNatClampNeg x2 → (vp_in (σ5.1 64 6) 9 ∧ (∀ σ7 : FH, σ7 = fsI σ5 67 (σ5.1 64 6).toNatClampNeg x3 → (vp_in (σ7.1 64 6) 9 ∧ (∀ σ9 : FH, σ9 = fsI σ7 68 (σ7.1 64 6).toNatClampNeg 0 → ((x4 ≤ 0 → (∀ σ11 : FH, σ11 = fsI σ9 64 6 ((σ9.1 64 6) + 1) → Q σ11)) ∧
    (¬ x4 ≤ 0 → ((512 ≤ (σ9.1 64 7) → (∀ σ13 : FH, σ13 = fsI σ9 64 6 ((σ9.1 64 6) + 1) → Q σ13)) ∧
      (¬ 512 ≤ (σ9.1 64 7) → (vp_in (σ9.1 64 6) 9 ∧ (∀ σ15 : FH, σ15 = fsI σ9 68 (σ9.1 64 6).toNatClampNeg (σ9.1 64 7) → h_X4_addRoad_81 E d x4 0 σ15 Q))))))))))))))) ∧
  (¬ (σ.1 64 6) < 9 → Q σ))
set_option maxRecDepth 100000 in
set_option maxHeartbeats 4000000 in
theorem v_X4_addRoad {E : am_E} {d : Nat} {σ : FH} {Q : FH → Prop} {x1 : Int32} {x2 : Int32} {x3 : Int32} {x4 : Int32} (t : t_X4_addRoad E d x1 x2 x3 x4 σ Q) : fMv E (d + 1) mX4_addRoad [.ref 64, .int x1, .int x2, .int x3, .int x4] σ Q := by
  refine fr_ofG [some (.ref 64), some (.int x1), some (.int x2), some (.int x3), some (.int x4), none] (by decide) rfl (Nat.le_of_ble_eq_true rfl) ?_
  unfold t_X4_addRoad at t
  refine ar_aload_n (i := 0) dX4_addRoad_0 rfl rfl ?_
  refine fr_getI (t := 4) (j := 6) dX4_addRoad_1 fs_X4_30 o_64 rfl ?_
  refine ar_bipush (v := 9) dX4_addRoad_4 (by decide) ?_
  refine ar_icmp_lt (tgt := 10) dX4_addRoad_6 (by decide) (fun h1 => ?_) (fun h1 => ?_)
  · have t := t.1 h1
    refine ar_aload_n (i := 0) dX4_addRoad_10 rfl rfl ?_
    refine fr_getR (t := 4) (j := 0) (r := 65) dX4_addRoad_11 fs_X4_11 o_64 rfl rfl (by decide) ?_
    refine ar_aload_n (i := 0) dX4_addRoad_14 rfl rfl ?_
    refine fr_getI (t := 4) (j := 6) dX4_addRoad_15 fs_X4_30 o_64 rfl ?_
    refine ar_iload_n (i := 1) dX4_addRoad_18 rfl rfl ?_
    obtain ⟨h2, t⟩ := t
    refine fr_iast (n := 9) dX4_addRoad_19 a_65 h2 ?_
    have t := t _ rfl
    refine ar_aload_n (i := 0) dX4_addRoad_20 rfl rfl ?_
    refine fr_getR (t := 4) (j := 1) (r := 66) dX4_addRoad_21 fs_X4_15 o_64 rfl rfl (by decide) ?_
    refine ar_aload_n (i := 0) dX4_addRoad_24 rfl rfl ?_
    refine fr_getI (t := 4) (j := 6) dX4_addRoad_25 fs_X4_30 o_64 rfl ?_
    refine ar_iload_n (i := 2) dX4_addRoad_28 rfl rfl ?_
    obtain ⟨h4, t⟩ := t
    refine fr_iast (n := 9) dX4_addRoad_29 a_66 h4 ?_
    have t := t _ rfl
    refine ar_aload_n (i := 0) dX4_addRoad_30 rfl rfl ?_
    refine fr_getR (t := 4) (j := 2) (r := 67) dX4_addRoad_31 fs_X4_18 o_64 rfl rfl (by decide) ?_
    refine ar_aload_n (i := 0) dX4_addRoad_34 rfl rfl ?_
    refine fr_getI (t := 4) (j := 6) dX4_addRoad_35 fs_X4_30 o_64 rfl ?_
    refine ar_iload_n (i := 3) dX4_addRoad_38 rfl rfl ?_
    obtain ⟨h6, t⟩ := t
    refine fr_iast (n := 9) dX4_addRoad_39 a_67 h6 ?_
    have t := t _ rfl
    refine ar_aload_n (i := 0) dX4_addRoad_40 rfl rfl ?_
    refine fr_getR (t := 4) (j := 3) (r := 68) dX4_addRoad_41 fs_X4_21 o_64 rfl rfl (by decide) ?_
    refine ar_aload_n (i := 0) dX4_addRoad_44 rfl rfl ?_
    refine fr_getI (t := 4) (j := 6) dX4_addRoad_45 fs_X4_30 o_64 rfl ?_
    refine ar_iconst (v := 0) dX4_addRoad_48 (by decide) ?_
    obtain ⟨h8, t⟩ := t
    refine fr_iast (n := 9) dX4_addRoad_49 a_68 h8 ?_
    have t := t _ rfl
    refine ar_iload (i := 4) dX4_addRoad_50 rfl ?_
    refine ar_if_le (tgt := 131) dX4_addRoad_52 (by decide) (fun h10 => ?_) (fun h10 => ?_)
    · have t := t.1 h10
      refine ar_aload_n (i := 0) dX4_addRoad_131 rfl rfl ?_
      refine ar_dup dX4_addRoad_132 rfl ?_
      refine fr_getI (t := 4) (j := 6) dX4_addRoad_133 fs_X4_30 o_64 rfl ?_
      refine ar_iconst (v := 1) dX4_addRoad_136 (by decide) ?_
      refine ar_iadd dX4_addRoad_137 ?_
      refine fr_putI (t := 4) (j := 6) dX4_addRoad_138 fq_X4_30 o_64 rfl (Or.inl rfl) ?_
      have t := t _ rfl
      exact fr_vret dX4_addRoad_141 rfl (Nat.le_refl _) (Nat.le_refl _) t
    · have t := t.2 h10
      refine ar_aload_n (i := 0) dX4_addRoad_55 rfl rfl ?_
      refine fr_getI (t := 4) (j := 7) dX4_addRoad_56 fs_X4_34 o_64 rfl ?_
      refine ar_sipush (v := 512) dX4_addRoad_59 (by decide) ?_
      refine ar_icmp_ge (tgt := 131) dX4_addRoad_62 (by decide) (fun h12 => ?_) (fun h12 => ?_)
      · have t := t.1 h12
        refine ar_aload_n (i := 0) dX4_addRoad_131 rfl rfl ?_
        refine ar_dup dX4_addRoad_132 rfl ?_
        refine fr_getI (t := 4) (j := 6) dX4_addRoad_133 fs_X4_30 o_64 rfl ?_
        refine ar_iconst (v := 1) dX4_addRoad_136 (by decide) ?_
        refine ar_iadd dX4_addRoad_137 ?_
        refine fr_putI (t := 4) (j := 6) dX4_addRoad_138 fq_X4_30 o_64 rfl (Or.inl rfl) ?_
        have t := t _ rfl
        exact fr_vret dX4_addRoad_141 rfl (Nat.le_refl _) (Nat.le_refl _) t
      · have t := t.2 h12
        refine ar_aload_n (i := 0) dX4_addRoad_65 rfl rfl ?_
        refine fr_getR (t := 4) (j := 3) (r := 68) dX4_addRoad_66 fs_X4_21 o_64 rfl rfl (by decide) ?_
        refine ar_aload_n (i := 0) dX4_addRoad_69 rfl rfl ?_
        refine fr_getI (t := 4) (j := 6) dX4_addRoad_70 fs_X4_30 o_64 rfl ?_
        refine ar_aload_n (i := 0) dX4_addRoad_73 rfl rfl ?_
        refine fr_getI (t := 4) (j := 7) dX4_addRoad_74 fs_X4_34 o_64 rfl ?_
        obtain ⟨h14, t⟩ := t
        refine fr_iast (n := 9) dX4_addRoad_77 a_68 h14 ?_
        have t := t _ rfl
        refine ar_iconst (v := 0) dX4_addRoad_78 (by decide) ?_
        refine ar_istore (i := 5) (lo2 := [_, _, _, _, _, _]) dX4_addRoad_79 (Nat.le_of_ble_eq_true rfl) rfl rfl ?_
        refine ar_drop 1 (lo2 := [_, none, _, _, _, _]) rfl ?_
        refine ar_drop 2 (lo2 := [_, none, none, _, _, _]) rfl ?_
        refine ar_drop 3 (lo2 := [_, none, none, none, _, _]) rfl ?_
        exact t
  · have t := t.2 h1
    exact fr_vret dX4_addRoad_9 rfl (Nat.le_refl _) (Nat.le_refl _) t

/-- X4.leastCost: the machine at the loop head 19 -/
def h_X4_leastCost_19 (E : am_E) (d : Nat) (x2 : Int32) (x3 : Int32) (x4 : Int32) (σ : FH) (Q : Int32 → FH → Prop) : Prop := fG E (d + 1) mX4_leastCost 19 [some (.ref 64), none, some (.int x2), some (.int x3), some (.int x4)] [] σ (qi Q)
def t_X4_leastCost_19 (E : am_E) (d : Nat) (x2 : Int32) (x3 : Int32) (x4 : Int32) (σ : FH) (Q : Int32 → FH → Prop) : Prop :=
  (((σ.1 64 7) ≤ x4 → Q x3 σ) ∧
  (¬ (σ.1 64 7) ≤ x4 → (vp_in x4 512 ∧ ((¬ (σ.1 69 x4.toNatClampNeg) = x2 → h_X4_leastCost_19 E d x2 x3 (x4 + 1) σ Q) ∧
    ((σ.1 69 x4.toNatClampNeg) = x2 → (vp_in ((x4 * 6) + 5) 3072 ∧ (∀ v8 : Int32, v8 = (if (σ.1 70 ((x4 * 6) + 5).toNatClampNeg) < x3 then (σ.1 70 ((x4 * 6) + 5).toNatClampNeg) else x3) → h_X4_leastCost_19 E d x2 v8 (x4 + 1) σ Q)))))))
set_option maxRecDepth 100000 in
set_option maxHeartbeats 4000000 in
theorem v_X4_leastCost_19 {E : am_E} {d : Nat} {σ : FH} {Q : Int32 → FH → Prop} {x2 : Int32} {x3 : Int32} {x4 : Int32} (t : t_X4_leastCost_19 E d x2 x3 x4 σ Q) : h_X4_leastCost_19 E d x2 x3 x4 σ Q := by
  unfold h_X4_leastCost_19
  unfold t_X4_leastCost_19 at t
  refine ar_iload (i := 4) dX4_leastCost_19 rfl ?_
  refine ar_aload_n (i := 0) dX4_leastCost_21 rfl rfl ?_
  refine fr_getI (t := 4) (j := 7) dX4_leastCost_22 fs_X4_34 o_64 rfl ?_
  refine ar_icmp_ge (tgt := 62) dX4_leastCost_25 (by decide) (fun h4 => ?_) (fun h4 => ?_)
  · have t := t.1 h4
    refine ar_iload_n (i := 3) dX4_leastCost_62 rfl rfl ?_
    exact fr_iret dX4_leastCost_63 rfl (Nat.le_refl _) (Nat.le_refl _) t
  · have t := t.2 h4
    refine ar_aload_n (i := 0) dX4_leastCost_28 rfl rfl ?_
    refine fr_getR (t := 4) (j := 4) (r := 69) dX4_leastCost_29 fs_X4_24 o_64 rfl rfl (by decide) ?_
    refine ar_iload (i := 4) dX4_leastCost_32 rfl ?_
    obtain ⟨h5, t⟩ := t
    refine fr_iald (n := 512) dX4_leastCost_34 a_69 h5 ?_
    refine ar_iload_n (i := 2) dX4_leastCost_35 rfl rfl ?_
    refine ar_icmp_ne (tgt := 56) dX4_leastCost_36 (by decide) (fun h6 => ?_) (fun h6 => ?_)
    · have t := t.1 h6
      refine ar_iinc (i := 4) (v := _ + 1) (lo2 := [_, none, _, _, _]) dX4_leastCost_56 rfl (ii_1 _) (Nat.le_of_ble_eq_true rfl) rfl rfl ?_
      refine ar_goto (tgt := 19) dX4_leastCost_59 (by decide) ?_
      exact t
    · have t := t.2 h6
      refine ar_iload_n (i := 3) dX4_leastCost_39 rfl rfl ?_
      refine ar_aload_n (i := 0) dX4_leastCost_40 rfl rfl ?_
      refine fr_getR (t := 4) (j := 5) (r := 70) dX4_leastCost_41 fs_X4_27 o_64 rfl rfl (by decide) ?_
      refine ar_iload (i := 4) dX4_leastCost_44 rfl ?_
      refine ar_bipush (v := 6) dX4_leastCost_46 (by decide) ?_
      refine ar_imul dX4_leastCost_48 ?_
      refine ar_iconst (v := 5) dX4_leastCost_49 (by decide) ?_
      refine ar_iadd dX4_leastCost_50 ?_
      obtain ⟨h7, t⟩ := t
      refine fr_iald (n := 3072) dX4_leastCost_51 a_70 h7 ?_
      refine ar_min dX4_leastCost_52 ml_X4_70 jm_min.1 jm_min.2.1 jm_min.2.2 (Nat.le_of_ble_eq_true rfl) (Nat.le_refl _) (Nat.le_refl _) ?_
      refine ar_istore_n (i := 3) (lo2 := [_, none, _, _, _]) dX4_leastCost_55 rfl (Nat.le_of_ble_eq_true rfl) rfl rfl ?_
      have t := t _ rfl
      refine ar_iinc (i := 4) (v := _ + 1) (lo2 := [_, none, _, _, _]) dX4_leastCost_56 rfl (ii_1 _) (Nat.le_of_ble_eq_true rfl) rfl rfl ?_
      refine ar_goto (tgt := 19) dX4_leastCost_59 (by decide) ?_
      exact t
def t_X4_leastCost (E : am_E) (d : Nat) (x1 : Int32) (x2 : Int32) (σ : FH) (Q : Int32 → FH → Prop) : Prop :=
  ((0 ≤ x2 → fMv E d mX4_spread [.ref 64, .int x1, .int x2] σ (fun σ2 => h_X4_leastCost_19 E d x2 1000000000 0 σ2 Q)) ∧
  (¬ 0 ≤ x2 → Q 1000000000 σ))
set_option maxRecDepth 100000 in
set_option maxHeartbeats 4000000 in
theorem v_X4_leastCost {E : am_E} {d : Nat} {σ : FH} {Q : Int32 → FH → Prop} {x1 : Int32} {x2 : Int32} (t : t_X4_leastCost E d x1 x2 σ Q) : fMi E (d + 1) mX4_leastCost [.ref 64, .int x1, .int x2] σ Q := by
  refine fr_ofG [some (.ref 64), some (.int x1), some (.int x2), none, none] (by decide) rfl (Nat.le_of_ble_eq_true rfl) ?_
  unfold t_X4_leastCost at t
  refine ar_iload_n (i := 2) dX4_leastCost_0 rfl rfl ?_
  refine ar_if_ge (tgt := 7) dX4_leastCost_1 (by decide) (fun h1 => ?_) (fun h1 => ?_)
  · have t := t.1 h1
    refine ar_aload_n (i := 0) dX4_leastCost_7 rfl rfl ?_
    refine ar_iload_n (i := 1) dX4_leastCost_8 rfl rfl ?_
    refine ar_iload_n (i := 2) dX4_leastCost_9 rfl rfl ?_
    refine fr_callVv (M' := mX4_spread) [_, _] dX4_leastCost_10 ml_X4_75 mv_X4_spread rfl rfl o_64 rfl rfl (Nat.le_of_ble_eq_true rfl) ⟨Nat.le_refl _, Nat.le_refl _⟩ t (fun σ2 t => ?_)
    try dsimp only at t
    refine ar_ldc dX4_leastCost_13 ct_X4_68 ?_
    refine ar_istore_n (i := 3) (lo2 := [_, _, _, _, none]) dX4_leastCost_15 rfl (Nat.le_of_ble_eq_true rfl) rfl rfl ?_
    refine ar_iconst (v := 0) dX4_leastCost_16 (by decide) ?_
    refine ar_istore (i := 4) (lo2 := [_, _, _, _, _]) dX4_leastCost_17 (Nat.le_of_ble_eq_true rfl) rfl rfl ?_
    refine ar_drop 1 (lo2 := [_, none, _, _, _]) rfl ?_
    exact t
  · have t := t.2 h1
    refine ar_ldc dX4_leastCost_4 ct_X4_68 ?_
    exact fr_iret dX4_leastCost_6 rfl (Nat.le_refl _) (Nat.le_refl _) t

/-- X4.spread: the machine at the loop head 11 -/
def h_X4_spread_11 (E : am_E) (d : Nat) (x1 : Int32) (x2 : Int32) (x3 : Int32) (x4 : Int32) (σ : FH) (Q : FH → Prop) : Prop := fG E (d + 1) mX4_spread 11 [some (.ref 64), some (.int x1), some (.int x2), some (.int x3), some (.int x4)] [] σ (qv Q)
/-- X4.spread: the machine at the loop head 42 -/
def h_X4_spread_42 (E : am_E) (d : Nat) (x2 : Int32) (x4 : Int32) (σ : FH) (Q : FH → Prop) : Prop := fG E (d + 1) mX4_spread 42 [some (.ref 64), none, some (.int x2), none, some (.int x4)] [] σ (qv Q)
def t_X4_spread_42 (E : am_E) (d : Nat) (x2 : Int32) (x4 : Int32) (σ : FH) (Q : FH → Prop) : Prop :=
  (((σ.1 64 7) ≤ x4 → Q σ) ∧
  (¬ (σ.1 64 7) ≤ x4 → fMi E d mX4_isReached [.ref 64, .int x4] σ (fun r6 σ5 => ((r6 = 0 → h_X4_spread_42 E d x2 (x4 + 1) σ5 Q) ∧
    (¬ r6 = 0 → fMv E d mX4_settle [.ref 64, .int x4] σ5 (fun σ8 => fMv E d mX4_leave [.ref 64, .int x4, .int x2] σ8 (fun σ10 => h_X4_spread_42 E d x2 (x4 + 1) σ10 Q)))))))
set_option maxRecDepth 100000 in
set_option maxHeartbeats 4000000 in
theorem v_X4_spread_42 {E : am_E} {d : Nat} {σ : FH} {Q : FH → Prop} {x2 : Int32} {x4 : Int32} (t : t_X4_spread_42 E d x2 x4 σ Q) : h_X4_spread_42 E d x2 x4 σ Q := by
  unfold h_X4_spread_42
  unfold t_X4_spread_42 at t
  refine ar_iload (i := 4) dX4_spread_42 rfl ?_
  refine ar_aload_n (i := 0) dX4_spread_44 rfl rfl ?_
  refine fr_getI (t := 4) (j := 7) dX4_spread_45 fs_X4_34 o_64 rfl ?_
  refine ar_icmp_ge (tgt := 79) dX4_spread_48 (by decide) (fun h4 => ?_) (fun h4 => ?_)
  · have t := t.1 h4
    exact fr_vret dX4_spread_79 rfl (Nat.le_refl _) (Nat.le_refl _) t
  · have t := t.2 h4
    refine ar_aload_n (i := 0) dX4_spread_51 rfl rfl ?_
    refine ar_iload (i := 4) dX4_spread_52 rfl ?_
    refine fr_callVi (M' := mX4_isReached) [_] dX4_spread_54 ml_X4_79 mv_X4_isReached rfl rfl o_64 rfl rfl (Nat.le_of_ble_eq_true rfl) ⟨Nat.le_refl _, Nat.le_refl _⟩ t (fun r6 σ5 t => ?_)
    try dsimp only at t
    refine ar_if_eq (tgt := 73) dX4_spread_57 (by decide) (fun h7 => ?_) (fun h7 => ?_)
    · have t := t.1 h7
      refine ar_iinc (i := 4) (v := _ + 1) (lo2 := [_, none, _, none, _]) dX4_spread_73 rfl (ii_1 _) (Nat.le_of_ble_eq_true rfl) rfl rfl ?_
      refine ar_goto (tgt := 42) dX4_spread_76 (by decide) ?_
      exact t
    · have t := t.2 h7
      refine ar_aload_n (i := 0) dX4_spread_60 rfl rfl ?_
      refine ar_iload (i := 4) dX4_spread_61 rfl ?_
      refine fr_callVv (M' := mX4_settle) [_] dX4_spread_63 ml_X4_111 mv_X4_settle rfl rfl o_64 rfl rfl (Nat.le_of_ble_eq_true rfl) ⟨Nat.le_refl _, Nat.le_refl _⟩ t (fun σ8 t => ?_)
      try dsimp only at t
      refine ar_aload_n (i := 0) dX4_spread_66 rfl rfl ?_
      refine ar_iload (i := 4) dX4_spread_67 rfl ?_
      refine ar_iload_n (i := 2) dX4_spread_69 rfl rfl ?_
      refine fr_callVv (M' := mX4_leave) [_, _] dX4_spread_70 ml_X4_115 mv_X4_leave rfl rfl o_64 rfl rfl (Nat.le_of_ble_eq_true rfl) ⟨Nat.le_refl _, Nat.le_refl _⟩ t (fun σ10 t => ?_)
      try dsimp only at t
      refine ar_iinc (i := 4) (v := _ + 1) (lo2 := [_, none, _, none, _]) dX4_spread_73 rfl (ii_1 _) (Nat.le_of_ble_eq_true rfl) rfl rfl ?_
      refine ar_goto (tgt := 42) dX4_spread_76 (by decide) ?_
      exact t
def t_X4_spread_11 (E : am_E) (d : Nat) (x1 : Int32) (x2 : Int32) (x3 : Int32) (x4 : Int32) (σ : FH) (Q : FH → Prop) : Prop :=
  ((x3 ≤ x4 → (vp_in x1 3072 ∧ (∀ σ3 : FH, σ3 = fsI σ 70 x1.toNatClampNeg 0 → h_X4_spread_42 E d x2 0 σ3 Q))) ∧
  (¬ x3 ≤ x4 → (vp_in x4 3072 ∧ (∀ σ13 : FH, σ13 = fsI σ 70 x4.toNatClampNeg 1000000000 → h_X4_spread_11 E d x1 x2 x3 (x4 + 1) σ13 Q))))
set_option maxRecDepth 100000 in
set_option maxHeartbeats 4000000 in
theorem v_X4_spread_11 {E : am_E} {d : Nat} {σ : FH} {Q : FH → Prop} {x1 : Int32} {x2 : Int32} {x3 : Int32} {x4 : Int32} (t : t_X4_spread_11 E d x1 x2 x3 x4 σ Q) : h_X4_spread_11 E d x1 x2 x3 x4 σ Q := by
  unfold h_X4_spread_11
  unfold t_X4_spread_11 at t
  refine ar_iload (i := 4) dX4_spread_11 rfl ?_
  refine ar_iload_n (i := 3) dX4_spread_13 rfl rfl ?_
  refine ar_icmp_ge (tgt := 32) dX4_spread_14 (by decide) (fun h1 => ?_) (fun h1 => ?_)
  · have t := t.1 h1
    refine ar_aload_n (i := 0) dX4_spread_32 rfl rfl ?_
    refine fr_getR (t := 4) (j := 5) (r := 70) dX4_spread_33 fs_X4_27 o_64 rfl rfl (by decide) ?_
    refine ar_iload_n (i := 1) dX4_spread_36 rfl rfl ?_
    refine ar_iconst (v := 0) dX4_spread_37 (by decide) ?_
    obtain ⟨h2, t⟩ := t
    refine fr_iast (n := 3072) dX4_spread_38 a_70 h2 ?_
    have t := t _ rfl
    refine ar_iconst (v := 0) dX4_spread_39 (by decide) ?_
    refine ar_istore (i := 4) (lo2 := [_, _, _, _, _]) dX4_spread_40 (Nat.le_of_ble_eq_true rfl) rfl rfl ?_
    refine ar_drop 1 (lo2 := [_, none, _, _, _]) rfl ?_
    refine ar_drop 3 (lo2 := [_, none, _, none, _]) rfl ?_
    exact t
  · have t := t.2 h1
    refine ar_aload_n (i := 0) dX4_spread_17 rfl rfl ?_
    refine fr_getR (t := 4) (j := 5) (r := 70) dX4_spread_18 fs_X4_27 o_64 rfl rfl (by decide) ?_
    refine ar_iload (i := 4) dX4_spread_21 rfl ?_
    refine ar_ldc dX4_spread_23 ct_X4_68 ?_
    obtain ⟨h12, t⟩ := t
    refine fr_iast (n := 3072) dX4_spread_25 a_70 h12 ?_
    have t := t _ rfl
    refine ar_iinc (i := 4) (v := _ + 1) (lo2 := [_, _, _, _, _]) dX4_spread_26 rfl (ii_1 _) (Nat.le_of_ble_eq_true rfl) rfl rfl ?_
    refine ar_goto (tgt := 11) dX4_spread_29 (by decide) ?_
    exact t
def t_X4_spread (E : am_E) (d : Nat) (x1 : Int32) (x2 : Int32) (σ : FH) (Q : FH → Prop) : Prop :=
  h_X4_spread_11 E d x1 x2 ((σ.1 64 7) * 6) 0 σ Q
set_option maxRecDepth 100000 in
set_option maxHeartbeats 4000000 in
theorem v_X4_spread {E : am_E} {d : Nat} {σ : FH} {Q : FH → Prop} {x1 : Int32} {x2 : Int32} (t : t_X4_spread E d x1 x2 σ Q) : fMv E (d + 1) mX4_spread [.ref 64, .int x1, .int x2] σ Q := by
  refine fr_ofG [some (.ref 64), some (.int x1), some (.int x2), none, none] (by decide) rfl (Nat.le_of_ble_eq_true rfl) ?_
  unfold t_X4_spread at t
  refine ar_aload_n (i := 0) dX4_spread_0 rfl rfl ?_
  refine fr_getI (t := 4) (j := 7) dX4_spread_1 fs_X4_34 o_64 rfl ?_
  refine ar_bipush (v := 6) dX4_spread_4 (by decide) ?_
  refine ar_imul dX4_spread_6 ?_
  refine ar_istore_n (i := 3) (lo2 := [_, _, _, _, none]) dX4_spread_7 rfl (Nat.le_of_ble_eq_true rfl) rfl rfl ?_
  refine ar_iconst (v := 0) dX4_spread_8 (by decide) ?_
  refine ar_istore (i := 4) (lo2 := [_, _, _, _, _]) dX4_spread_9 (Nat.le_of_ble_eq_true rfl) rfl rfl ?_
  exact t

/-- X4.isReached: the machine at the loop head 7 -/
def h_X4_isReached_7 (E : am_E) (d : Nat) (x2 : Int32) (x3 : Int32) (σ : FH) (Q : Int32 → FH → Prop) : Prop := fG E (d + 1) mX4_isReached 7 [some (.ref 64), none, some (.int x2), some (.int x3)] [] σ (qi Q)
def t_X4_isReached_7 (E : am_E) (d : Nat) (x2 : Int32) (x3 : Int32) (σ : FH) (Q : Int32 → FH → Prop) : Prop :=
  ((6 ≤ x3 → Q 0 σ) ∧
  (¬ 6 ≤ x3 → (vp_in (x2 + x3) 3072 ∧ (((σ.1 70 (x2 + x3).toNatClampNeg) = 1000000000 → h_X4_isReached_7 E d x2 (x3 + 1) σ Q) ∧
    (¬ (σ.1 70 (x2 + x3).toNatClampNeg) = 1000000000 → Q 1 σ)))))
set_option maxRecDepth 100000 in
set_option maxHeartbeats 4000000 in
theorem v_X4_isReached_7 {E : am_E} {d : Nat} {σ : FH} {Q : Int32 → FH → Prop} {x2 : Int32} {x3 : Int32} (t : t_X4_isReached_7 E d x2 x3 σ Q) : h_X4_isReached_7 E d x2 x3 σ Q := by
  unfold h_X4_isReached_7
  unfold t_X4_isReached_7 at t
  refine ar_iload_n (i := 3) dX4_isReached_7 rfl rfl ?_
  refine ar_bipush (v := 6) dX4_isReached_8 (by decide) ?_
  refine ar_icmp_ge (tgt := 34) dX4_isReached_10 (by decide) (fun h1 => ?_) (fun h1 => ?_)
  · have t := t.1 h1
    refine ar_iconst (v := 0) dX4_isReached_34 (by decide) ?_
    exact fr_zret dX4_isReached_35 rfl (Nat.le_refl _) (Nat.le_refl _) (Or.inl rfl) t
  · have t := t.2 h1
    refine ar_aload_n (i := 0) dX4_isReached_13 rfl rfl ?_
    refine fr_getR (t := 4) (j := 5) (r := 70) dX4_isReached_14 fs_X4_27 o_64 rfl rfl (by decide) ?_
    refine ar_iload_n (i := 2) dX4_isReached_17 rfl rfl ?_
    refine ar_iload_n (i := 3) dX4_isReached_18 rfl rfl ?_
    refine ar_iadd dX4_isReached_19 ?_
    obtain ⟨h2, t⟩ := t
    refine fr_iald (n := 3072) dX4_isReached_20 a_70 h2 ?_
    refine ar_ldc dX4_isReached_21 ct_X4_68 ?_
    refine ar_icmp_eq (tgt := 28) dX4_isReached_23 (by decide) (fun h3 => ?_) (fun h3 => ?_)
    · have t := t.1 h3
      refine ar_iinc (i := 3) (v := _ + 1) (lo2 := [_, none, _, _]) dX4_isReached_28 rfl (ii_1 _) (Nat.le_of_ble_eq_true rfl) rfl rfl ?_
      refine ar_goto (tgt := 7) dX4_isReached_31 (by decide) ?_
      exact t
    · have t := t.2 h3
      refine ar_iconst (v := 1) dX4_isReached_26 (by decide) ?_
      exact fr_zret dX4_isReached_27 rfl (Nat.le_refl _) (Nat.le_refl _) (Or.inr rfl) t
def t_X4_isReached (E : am_E) (d : Nat) (x1 : Int32) (σ : FH) (Q : Int32 → FH → Prop) : Prop :=
  h_X4_isReached_7 E d (x1 * 6) 0 σ Q
set_option maxRecDepth 100000 in
set_option maxHeartbeats 4000000 in
theorem v_X4_isReached {E : am_E} {d : Nat} {σ : FH} {Q : Int32 → FH → Prop} {x1 : Int32} (t : t_X4_isReached E d x1 σ Q) : fMi E (d + 1) mX4_isReached [.ref 64, .int x1] σ Q := by
  refine fr_ofG [some (.ref 64), some (.int x1), none, none] (by decide) rfl (Nat.le_of_ble_eq_true rfl) ?_
  unfold t_X4_isReached at t
  refine ar_iload_n (i := 1) dX4_isReached_0 rfl rfl ?_
  refine ar_bipush (v := 6) dX4_isReached_1 (by decide) ?_
  refine ar_imul dX4_isReached_3 ?_
  refine ar_istore_n (i := 2) (lo2 := [_, _, _, none]) dX4_isReached_4 rfl (Nat.le_of_ble_eq_true rfl) rfl rfl ?_
  refine ar_iconst (v := 0) dX4_isReached_5 (by decide) ?_
  refine ar_istore_n (i := 3) (lo2 := [_, _, _, _]) dX4_isReached_6 rfl (Nat.le_of_ble_eq_true rfl) rfl rfl ?_
  refine ar_drop 1 (lo2 := [_, none, _, _]) rfl ?_
  exact t

/-- X4.settle: the machine at the loop head 10 -/
def h_X4_settle_10 (E : am_E) (d : Nat) (x1 : Int32) (x2 : Int32) (x3 : Int32) (x4 : Int32) (σ : FH) (Q : FH → Prop) : Prop := fG E (d + 1) mX4_settle 10 [some (.ref 64), some (.int x1), some (.int x2), some (.int x3), some (.int x4), none] [] σ (qv Q)
/-- X4.settle: the machine at the loop head 26 -/
def h_X4_settle_26 (E : am_E) (d : Nat) (x1 : Int32) (x2 : Int32) (x3 : Int32) (x4 : Int32) (x5 : Int32) (σ : FH) (Q : FH → Prop) : Prop := fG E (d + 1) mX4_settle 26 [some (.ref 64), some (.int x1), some (.int x2), some (.int x3), some (.int x4), some (.int x5)] [] σ (qv Q)
def t_X4_settle_26 (E : am_E) (d : Nat) (x1 : Int32) (x2 : Int32) (x3 : Int32) (x4 : Int32) (x5 : Int32) (σ : FH) (Q : FH → Prop) : Prop :=
  (((σ.1 64 6) ≤ x5 → h_X4_settle_10 E d x1 x2 x3 (x4 + 1) σ Q) ∧
  (¬ (σ.1 64 6) ≤ x5 → (vp_in x5 9 ∧ ((¬ ((σ.1 68 x5.toNatClampNeg) &&& (x1 ^^^ (-1))) = 0 → h_X4_settle_26 E d x1 x2 x3 x4 (x5 + 1) σ Q) ∧
    (((σ.1 68 x5.toNatClampNeg) &&& (x1 ^^^ (-1))) = 0 → (vp_in x5 9 ∧ (vp_in x5 9 ∧ fMi E d mX4_improve [.ref 64, .int x5, .int (x2 + (σ.1 65 x5.toNatClampNeg)), .int (x2 + (σ.1 66 x5.toNatClampNeg))] σ (fun r9 σ8 => (vp_in x5 9 ∧ (vp_in x5 9 ∧ fMi E d mX4_improve [.ref 64, .int x5, .int (x2 + (σ8.1 66 x5.toNatClampNeg)), .int (x2 + (σ8.1 65 x5.toNatClampNeg))] σ8 (fun r13 σ12 => h_X4_settle_26 E d x1 x2 ((x3 ||| r9) ||| r13) x4 (x5 + 1) σ12 Q)))))))))))
set_option maxRecDepth 100000 in
set_option maxHeartbeats 4000000 in
theorem v_X4_settle_26 {E : am_E} {d : Nat} {σ : FH} {Q : FH → Prop} {x1 : Int32} {x2 : Int32} {x3 : Int32} {x4 : Int32} {x5 : Int32} (t : t_X4_settle_26 E d x1 x2 x3 x4 x5 σ Q) : h_X4_settle_26 E d x1 x2 x3 x4 x5 σ Q := by
  unfold h_X4_settle_26
  unfold t_X4_settle_26 at t
  refine ar_iload (i := 5) dX4_settle_26 rfl ?_
  refine ar_aload_n (i := 0) dX4_settle_28 rfl rfl ?_
  refine fr_getI (t := 4) (j := 6) dX4_settle_29 fs_X4_30 o_64 rfl ?_
  refine ar_icmp_ge (tgt := 109) dX4_settle_32 (by decide) (fun h3 => ?_) (fun h3 => ?_)
  · have t := t.1 h3
    refine ar_iinc (i := 4) (v := _ + 1) (lo2 := [_, _, _, _, _, _]) dX4_settle_109 rfl (ii_1 _) (Nat.le_of_ble_eq_true rfl) rfl rfl ?_
    refine ar_goto (tgt := 10) dX4_settle_112 (by decide) ?_
    refine ar_drop 5 (lo2 := [_, _, _, _, _, none]) rfl ?_
    exact t
  · have t := t.2 h3
    refine ar_aload_n (i := 0) dX4_settle_35 rfl rfl ?_
    refine fr_getR (t := 4) (j := 3) (r := 68) dX4_settle_36 fs_X4_21 o_64 rfl rfl (by decide) ?_
    refine ar_iload (i := 5) dX4_settle_39 rfl ?_
    obtain ⟨h4, t⟩ := t
    refine fr_iald (n := 9) dX4_settle_41 a_68 h4 ?_
    refine ar_iload_n (i := 1) dX4_settle_42 rfl rfl ?_
    refine ar_iconst (v := -1) dX4_settle_43 (by decide) ?_
    refine ar_ixor dX4_settle_44 ?_
    refine ar_iand dX4_settle_45 ?_
    refine ar_if_ne (tgt := 103) dX4_settle_46 (by decide) (fun h5 => ?_) (fun h5 => ?_)
    · have t := t.1 h5
      refine ar_iinc (i := 5) (v := _ + 1) (lo2 := [_, _, _, _, _, _]) dX4_settle_103 rfl (ii_1 _) (Nat.le_of_ble_eq_true rfl) rfl rfl ?_
      refine ar_goto (tgt := 26) dX4_settle_106 (by decide) ?_
      exact t
    · have t := t.2 h5
      refine ar_iload_n (i := 3) dX4_settle_49 rfl rfl ?_
      refine ar_aload_n (i := 0) dX4_settle_50 rfl rfl ?_
      refine ar_iload (i := 5) dX4_settle_51 rfl ?_
      refine ar_iload_n (i := 2) dX4_settle_53 rfl rfl ?_
      refine ar_aload_n (i := 0) dX4_settle_54 rfl rfl ?_
      refine fr_getR (t := 4) (j := 0) (r := 65) dX4_settle_55 fs_X4_11 o_64 rfl rfl (by decide) ?_
      refine ar_iload (i := 5) dX4_settle_58 rfl ?_
      obtain ⟨h6, t⟩ := t
      refine fr_iald (n := 9) dX4_settle_60 a_65 h6 ?_
      refine ar_iadd dX4_settle_61 ?_
      refine ar_iload_n (i := 2) dX4_settle_62 rfl rfl ?_
      refine ar_aload_n (i := 0) dX4_settle_63 rfl rfl ?_
      refine fr_getR (t := 4) (j := 1) (r := 66) dX4_settle_64 fs_X4_15 o_64 rfl rfl (by decide) ?_
      refine ar_iload (i := 5) dX4_settle_67 rfl ?_
      obtain ⟨h7, t⟩ := t
      refine fr_iald (n := 9) dX4_settle_69 a_66 h7 ?_
      refine ar_iadd dX4_settle_70 ?_
      refine fr_callVi (M' := mX4_improve) [_, _, _] dX4_settle_71 ml_X4_118 mv_X4_improve rfl rfl o_64 rfl rfl (Nat.le_of_ble_eq_true rfl) ⟨Nat.le_refl _, Nat.le_refl _⟩ t (fun r9 σ8 t => ?_)
      try dsimp only at t
      refine ar_ior dX4_settle_74 ?_
      refine ar_istore_n (i := 3) (lo2 := [_, _, _, _, _, _]) dX4_settle_75 rfl (Nat.le_of_ble_eq_true rfl) rfl rfl ?_
      refine ar_iload_n (i := 3) dX4_settle_76 rfl rfl ?_
      refine ar_aload_n (i := 0) dX4_settle_77 rfl rfl ?_
      refine ar_iload (i := 5) dX4_settle_78 rfl ?_
      refine ar_iload_n (i := 2) dX4_settle_80 rfl rfl ?_
      refine ar_aload_n (i := 0) dX4_settle_81 rfl rfl ?_
      refine fr_getR (t := 4) (j := 1) (r := 66) dX4_settle_82 fs_X4_15 o_64 rfl rfl (by decide) ?_
      refine ar_iload (i := 5) dX4_settle_85 rfl ?_
      obtain ⟨h10, t⟩ := t
      refine fr_iald (n := 9) dX4_settle_87 a_66 h10 ?_
      refine ar_iadd dX4_settle_88 ?_
      refine ar_iload_n (i := 2) dX4_settle_89 rfl rfl ?_
      refine ar_aload_n (i := 0) dX4_settle_90 rfl rfl ?_
      refine fr_getR (t := 4) (j := 0) (r := 65) dX4_settle_91 fs_X4_11 o_64 rfl rfl (by decide) ?_
      refine ar_iload (i := 5) dX4_settle_94 rfl ?_
      obtain ⟨h11, t⟩ := t
      refine fr_iald (n := 9) dX4_settle_96 a_65 h11 ?_
      refine ar_iadd dX4_settle_97 ?_
      refine fr_callVi (M' := mX4_improve) [_, _, _] dX4_settle_98 ml_X4_118 mv_X4_improve rfl rfl o_64 rfl rfl (Nat.le_of_ble_eq_true rfl) ⟨Nat.le_refl _, Nat.le_refl _⟩ t (fun r13 σ12 t => ?_)
      try dsimp only at t
      refine ar_ior dX4_settle_101 ?_
      refine ar_istore_n (i := 3) (lo2 := [_, _, _, _, _, _]) dX4_settle_102 rfl (Nat.le_of_ble_eq_true rfl) rfl rfl ?_
      refine ar_iinc (i := 5) (v := _ + 1) (lo2 := [_, _, _, _, _, _]) dX4_settle_103 rfl (ii_1 _) (Nat.le_of_ble_eq_true rfl) rfl rfl ?_
      refine ar_goto (tgt := 26) dX4_settle_106 (by decide) ?_
      exact t
def t_X4_settle_10 (E : am_E) (d : Nat) (x1 : Int32) (x2 : Int32) (x3 : Int32) (x4 : Int32) (σ : FH) (Q : FH → Prop) : Prop :=
  ((6 ≤ x4 → Q σ) ∧
  (¬ 6 ≤ x4 → ((x3 = 0 → Q σ) ∧
    (¬ x3 = 0 → h_X4_settle_26 E d x1 x2 0 x4 0 σ Q))))
set_option maxRecDepth 100000 in
set_option maxHeartbeats 4000000 in
theorem v_X4_settle_10 {E : am_E} {d : Nat} {σ : FH} {Q : FH → Prop} {x1 : Int32} {x2 : Int32} {x3 : Int32} {x4 : Int32} (t : t_X4_settle_10 E d x1 x2 x3 x4 σ Q) : h_X4_settle_10 E d x1 x2 x3 x4 σ Q := by
  unfold h_X4_settle_10
  unfold t_X4_settle_10 at t
  refine ar_iload (i := 4) dX4_settle_10 rfl ?_
  refine ar_bipush (v := 6) dX4_settle_12 (by decide) ?_
  refine ar_icmp_ge (tgt := 115) dX4_settle_14 (by decide) (fun h1 => ?_) (fun h1 => ?_)
  · have t := t.1 h1
    exact fr_vret dX4_settle_115 rfl (Nat.le_refl _) (Nat.le_refl _) t
  · have t := t.2 h1
    refine ar_iload_n (i := 3) dX4_settle_17 rfl rfl ?_
    refine ar_if_eq (tgt := 115) dX4_settle_18 (by decide) (fun h2 => ?_) (fun h2 => ?_)
    · have t := t.1 h2
      exact fr_vret dX4_settle_115 rfl (Nat.le_refl _) (Nat.le_refl _) t
    · have t := t.2 h2
      refine ar_iconst (v := 0) dX4_settle_21 (by decide) ?_
      refine ar_istore_n (i := 3) (lo2 := [_, _, _, _, _, none]) dX4_settle_22 rfl (Nat.le_of_ble_eq_true rfl) rfl rfl ?_
      refine ar_iconst (v := 0) dX4_settle_23 (by decide) ?_
      refine ar_istore (i := 5) (lo2 := [_, _, _, _, _, _]) dX4_settle_24 (Nat.le_of_ble_eq_true rfl) rfl rfl ?_
      exact t
def t_X4_settle (E : am_E) (d : Nat) (x1 : Int32) (σ : FH) (Q : FH → Prop) : Prop :=
  h_X4_settle_10 E d x1 (x1 * 6) 1 0 σ Q
set_option maxRecDepth 100000 in
set_option maxHeartbeats 4000000 in
theorem v_X4_settle {E : am_E} {d : Nat} {σ : FH} {Q : FH → Prop} {x1 : Int32} (t : t_X4_settle E d x1 σ Q) : fMv E (d + 1) mX4_settle [.ref 64, .int x1] σ Q := by
  refine fr_ofG [some (.ref 64), some (.int x1), none, none, none, none] (by decide) rfl (Nat.le_of_ble_eq_true rfl) ?_
  unfold t_X4_settle at t
  refine ar_iload_n (i := 1) dX4_settle_0 rfl rfl ?_
  refine ar_bipush (v := 6) dX4_settle_1 (by decide) ?_
  refine ar_imul dX4_settle_3 ?_
  refine ar_istore_n (i := 2) (lo2 := [_, _, _, none, none, none]) dX4_settle_4 rfl (Nat.le_of_ble_eq_true rfl) rfl rfl ?_
  refine ar_iconst (v := 1) dX4_settle_5 (by decide) ?_
  refine ar_istore_n (i := 3) (lo2 := [_, _, _, _, none, none]) dX4_settle_6 rfl (Nat.le_of_ble_eq_true rfl) rfl rfl ?_
  refine ar_iconst (v := 0) dX4_settle_7 (by decide) ?_
  refine ar_istore (i := 4) (lo2 := [_, _, _, _, _, none]) dX4_settle_8 (Nat.le_of_ble_eq_true rfl) rfl rfl ?_
  exact t

/-- X4.leave: the machine at the loop head 8 -/
def h_X4_leave_8 (E : am_E) (d : Nat) (x1 : Int32) (x2 : Int32) (x3 : Int32) (x4 : Int32) (σ : FH) (Q : FH → Prop) : Prop := fG E (d + 1) mX4_leave 8 [some (.ref 64), some (.int x1), some (.int x2), some (.int x3), some (.int x4), none] [] σ (qv Q)
def t_X4_leave_8 (E : am_E) (d : Nat) (x1 : Int32) (x2 : Int32) (x3 : Int32) (x4 : Int32) (σ : FH) (Q : FH → Prop) : Prop :=
  (((σ.1 64 6) ≤ x4 → Q σ) ∧
  (¬ (σ.1 64 6) ≤ x4 → (vp_in x4 9 ∧ ((((σ.1 68 x4.toNatClampNeg) &&& (x1 ^^^ (-1))) = 0 → h_X4_leave_8 E d x1 x2 x3 (x4 + 1) σ Q) ∧
    (¬ ((σ.1 68 x4.toNatClampNeg) &&& (x1 ^^^ (-1))) = 0 → (vp_in x4 9 ∧ (vp_in (x1 ||| (σ.1 68 x4.toNatClampNeg)) 512 ∧ ((x2 < (σ.1 69 (x1 ||| (σ.1 68 x4.toNatClampNeg)).toNatClampNeg) → h_X4_leave_8 E d x1 x2 x3 (x4 + 1) σ Q) ∧
      (¬ x2 < (σ.1 69 (x1 ||| (σ.1 68 x4.toNatClampNeg)).toNatClampNeg) → (vp_in x4 9 ∧ (∀ v8 : Int32, v8 = (x1 ||| (σ.1 68 x4.toNatClampNeg)) * 6 → (vp_in x4 9 ∧ (vp_in x4 9 ∧ fMi E d mX4_improve [.ref 64, .int x4, .int (x3 + (σ.1 65 x4.toNatClampNeg)), .int (v8 + (σ.1 66 x4.toNatClampNeg))] σ (fun r12 σ11 => (vp_in x4 9 ∧ (vp_in x4 9 ∧ fMi E d mX4_improve [.ref 64, .int x4, .int (x3 + (σ11.1 66 x4.toNatClampNeg)), .int (v8 + (σ11.1 65 x4.toNatClampNeg))] σ11 (fun r16 σ15 => h_X4_leave_8 E d x1 x2 x3 (x4 + 1) σ15 Q)))))))))))))))))
set_option maxRecDepth 100000 in
set_option maxHeartbeats 4000000 in
theorem v_X4_leave_8 {E : am_E} {d : Nat} {σ : FH} {Q : FH → Prop} {x1 : Int32} {x2 : Int32} {x3 : Int32} {x4 : Int32} (t : t_X4_leave_8 E d x1 x2 x3 x4 σ Q) : h_X4_leave_8 E d x1 x2 x3 x4 σ Q := by
  unfold h_X4_leave_8
  unfold t_X4_leave_8 at t
  refine ar_iload (i := 4) dX4_leave_8 rfl ?_
  refine ar_aload_n (i := 0) dX4_leave_10 rfl rfl ?_
  refine fr_getI (t := 4) (j := 6) dX4_leave_11 fs_X4_30 o_64 rfl ?_
  refine ar_icmp_ge (tgt := 121) dX4_leave_14 (by decide) (fun h1 => ?_) (fun h1 => ?_)
  · have t := t.1 h1
    exact fr_vret dX4_leave_121 rfl (Nat.le_refl _) (Nat.le_refl _) t
  · have t := t.2 h1
    refine ar_aload_n (i := 0) dX4_leave_17 rfl rfl ?_
    refine fr_getR (t := 4) (j := 3) (r := 68) dX4_leave_18 fs_X4_21 o_64 rfl rfl (by decide) ?_
    refine ar_iload (i := 4) dX4_leave_21 rfl ?_
    obtain ⟨h2, t⟩ := t
    refine fr_iald (n := 9) dX4_leave_23 a_68 h2 ?_
    refine ar_iload_n (i := 1) dX4_leave_24 rfl rfl ?_
    refine ar_iconst (v := -1) dX4_leave_25 (by decide) ?_
    refine ar_ixor dX4_leave_26 ?_
    refine ar_iand dX4_leave_27 ?_
    refine ar_if_eq (tgt := 115) dX4_leave_28 (by decide) (fun h3 => ?_) (fun h3 => ?_)
    · have t := t.1 h3
      refine ar_iinc (i := 4) (v := _ + 1) (lo2 := [_, _, _, _, _, none]) dX4_leave_115 rfl (ii_1 _) (Nat.le_of_ble_eq_true rfl) rfl rfl ?_
      refine ar_goto (tgt := 8) dX4_leave_118 (by decide) ?_
      exact t
    · have t := t.2 h3
      refine ar_aload_n (i := 0) dX4_leave_31 rfl rfl ?_
      refine fr_getR (t := 4) (j := 4) (r := 69) dX4_leave_32 fs_X4_24 o_64 rfl rfl (by decide) ?_
      refine ar_iload_n (i := 1) dX4_leave_35 rfl rfl ?_
      refine ar_aload_n (i := 0) dX4_leave_36 rfl rfl ?_
      refine fr_getR (t := 4) (j := 3) (r := 68) dX4_leave_37 fs_X4_21 o_64 rfl rfl (by decide) ?_
      refine ar_iload (i := 4) dX4_leave_40 rfl ?_
      obtain ⟨h4, t⟩ := t
      refine fr_iald (n := 9) dX4_leave_42 a_68 h4 ?_
      refine ar_ior dX4_leave_43 ?_
      obtain ⟨h5, t⟩ := t
      refine fr_iald (n := 512) dX4_leave_44 a_69 h5 ?_
      refine ar_iload_n (i := 2) dX4_leave_45 rfl rfl ?_
      refine ar_icmp_gt (tgt := 115) dX4_leave_46 (by decide) (fun h6 => ?_) (fun h6 => ?_)
      · have t := t.1 h6
        refine ar_iinc (i := 4) (v := _ + 1) (lo2 := [_, _, _, _, _, none]) dX4_leave_115 rfl (ii_1 _) (Nat.le_of_ble_eq_true rfl) rfl rfl ?_
        refine ar_goto (tgt := 8) dX4_leave_118 (by decide) ?_
        exact t
      · have t := t.2 h6
        refine ar_iload_n (i := 1) dX4_leave_49 rfl rfl ?_
        refine ar_aload_n (i := 0) dX4_leave_50 rfl rfl ?_
        refine fr_getR (t := 4) (j := 3) (r := 68) dX4_leave_51 fs_X4_21 o_64 rfl rfl (by decide) ?_
        refine ar_iload (i := 4) dX4_leave_54 rfl ?_
        obtain ⟨h7, t⟩ := t
        refine fr_iald (n := 9) dX4_leave_56 a_68 h7 ?_
        refine ar_ior dX4_leave_57 ?_
        refine ar_bipush (v := 6) dX4_leave_58 (by decide) ?_
        refine ar_imul dX4_leave_60 ?_
        refine ar_istore (i := 5) (lo2 := [_, _, _, _, _, _]) dX4_leave_61 (Nat.le_of_ble_eq_true rfl) rfl rfl ?_
        have t := t _ rfl
        refine ar_aload_n (i := 0) dX4_leave_63 rfl rfl ?_
        refine ar_iload (i := 4) dX4_leave_64 rfl ?_
        refine ar_iload_n (i := 3) dX4_leave_66 rfl rfl ?_
        refine ar_aload_n (i := 0) dX4_leave_67 rfl rfl ?_
        refine fr_getR (t := 4) (j := 0) (r := 65) dX4_leave_68 fs_X4_11 o_64 rfl rfl (by decide) ?_
        refine ar_iload (i := 4) dX4_leave_71 rfl ?_
        obtain ⟨h9, t⟩ := t
        refine fr_iald (n := 9) dX4_leave_73 a_65 h9 ?_
        refine ar_iadd dX4_leave_74 ?_
        refine ar_iload (i := 5) dX4_leave_75 rfl ?_
        refine ar_aload_n (i := 0) dX4_leave_77 rfl rfl ?_
        refine fr_getR (t := 4) (j := 1) (r := 66) dX4_leave_78 fs_X4_15 o_64 rfl rfl (by decide) ?_
        refine ar_iload (i := 4) dX4_leave_81 rfl ?_
        obtain ⟨h10, t⟩ := t
        refine fr_iald (n := 9) dX4_leave_83 a_66 h10 ?_
        refine ar_iadd dX4_leave_84 ?_
        refine fr_callVi (M' := mX4_improve) [_, _, _] dX4_leave_85 ml_X4_118 mv_X4_improve rfl rfl o_64 rfl rfl (Nat.le_of_ble_eq_true rfl) ⟨Nat.le_refl _, Nat.le_refl _⟩ t (fun r12 σ11 t => ?_)
        try dsimp only at t
        refine ar_pop dX4_leave_88 rfl ?_
        refine ar_aload_n (i := 0) dX4_leave_89 rfl rfl ?_
        refine ar_iload (i := 4) dX4_leave_90 rfl ?_
        refine ar_iload_n (i := 3) dX4_leave_92 rfl rfl ?_
        refine ar_aload_n (i := 0) dX4_leave_93 rfl rfl ?_
        refine fr_getR (t := 4) (j := 1) (r := 66) dX4_leave_94 fs_X4_15 o_64 rfl rfl (by decide) ?_
        refine ar_iload (i := 4) dX4_leave_97 rfl ?_
        obtain ⟨h13, t⟩ := t
        refine fr_iald (n := 9) dX4_leave_99 a_66 h13 ?_
        refine ar_iadd dX4_leave_100 ?_
        refine ar_iload (i := 5) dX4_leave_101 rfl ?_
        refine ar_aload_n (i := 0) dX4_leave_103 rfl rfl ?_
        refine fr_getR (t := 4) (j := 0) (r := 65) dX4_leave_104 fs_X4_11 o_64 rfl rfl (by decide) ?_
        refine ar_iload (i := 4) dX4_leave_107 rfl ?_
        obtain ⟨h14, t⟩ := t
        refine fr_iald (n := 9) dX4_leave_109 a_65 h14 ?_
        refine ar_iadd dX4_leave_110 ?_
        refine fr_callVi (M' := mX4_improve) [_, _, _] dX4_leave_111 ml_X4_118 mv_X4_improve rfl rfl o_64 rfl rfl (Nat.le_of_ble_eq_true rfl) ⟨Nat.le_refl _, Nat.le_refl _⟩ t (fun r16 σ15 t => ?_)
        try dsimp only at t
        refine ar_pop dX4_leave_114 rfl ?_
        refine ar_iinc (i := 4) (v := _ + 1) (lo2 := [_, _, _, _, _, _]) dX4_leave_115 rfl (ii_1 _) (Nat.le_of_ble_eq_true rfl) rfl rfl ?_
        refine ar_goto (tgt := 8) dX4_leave_118 (by decide) ?_
        refine ar_drop 5 (lo2 := [_, _, _, _, _, none]) rfl ?_
        exact t
def t_X4_leave (E : am_E) (d : Nat) (x1 : Int32) (x2 : Int32) (σ : FH) (Q : FH → Prop) : Prop :=
  h_X4_leave_8 E d x1 x2 (x1 * 6) 0 σ Q
set_option maxRecDepth 100000 in
set_option maxHeartbeats 4000000 in
theorem v_X4_leave {E : am_E} {d : Nat} {σ : FH} {Q : FH → Prop} {x1 : Int32} {x2 : Int32} (t : t_X4_leave E d x1 x2 σ Q) : fMv E (d + 1) mX4_leave [.ref 64, .int x1, .int x2] σ Q := by
  refine fr_ofG [some (.ref 64), some (.int x1), some (.int x2), none, none, none] (by decide) rfl (Nat.le_of_ble_eq_true rfl) ?_
  unfold t_X4_leave at t
  refine ar_iload_n (i := 1) dX4_leave_0 rfl rfl ?_
  refine ar_bipush (v := 6) dX4_leave_1 (by decide) ?_
  refine ar_imul dX4_leave_3 ?_
  refine ar_istore_n (i := 3) (lo2 := [_, _, _, _, none, none]) dX4_leave_4 rfl (Nat.le_of_ble_eq_true rfl) rfl rfl ?_
  refine ar_iconst (v := 0) dX4_leave_5 (by decide) ?_
  refine ar_istore (i := 4) (lo2 := [_, _, _, _, _, none]) dX4_leave_6 (Nat.le_of_ble_eq_true rfl) rfl rfl ?_
  exact t

def t_X4_improve_27 (E : am_E) (d : Nat) (x1 : Int32) (x2 : Int32) (x3 : Int32) (xs0 : Int32) (σ : FH) (Q : Int32 → FH → Prop) : Prop :=
  (vp_in x2 3072 ∧ (vp_in x1 9 ∧ (∀ v7 : Int32, v7 = (((σ.1 70 x2.toNatClampNeg) + ((σ.1 67 x1.toNatClampNeg) <<< ((11 : Int32) &&& 31))) + 16) + xs0 → (vp_in x3 3072 ∧ (((σ.1 70 x3.toNatClampNeg) ≤ v7 → Q 0 σ) ∧
  (¬ (σ.1 70 x3.toNatClampNeg) ≤ v7 → (((v7 >>> ((11 : Int32) &&& 31)) ≤ (σ.1 64 8) → (vp_in x3 3072 ∧ (∀ σ12 : FH, σ12 = fsI σ 70 x3.toNatClampNeg v7 → Q 1 σ12))) ∧
    (¬ (v7 >>> ((11 : Int32) &&& 31)) ≤ (σ.1 64 8) → Q 0 σ))))))))
set_option maxRecDepth 100000 in
set_option maxHeartbeats 4000000 in
theorem v_X4_improve_27 {E : am_E} {d : Nat} {σ : FH} {Q : Int32 → FH → Prop} {x1 : Int32} {x2 : Int32} {x3 : Int32} {xs0 : Int32} (t : t_X4_improve_27 E d x1 x2 x3 xs0 σ Q) : fG E (d + 1) mX4_improve 27 [some (.ref 64), some (.int x1), some (.int x2), some (.int x3), none, none] [.int xs0] σ (qi Q) := by
  unfold t_X4_improve_27 at t
  refine ar_istore (i := 4) (lo2 := [_, _, _, _, _, none]) dX4_improve_27 (Nat.le_of_ble_eq_true rfl) rfl rfl ?_
  refine ar_aload_n (i := 0) dX4_improve_29 rfl rfl ?_
  refine fr_getR (t := 4) (j := 5) (r := 70) dX4_improve_30 fs_X4_27 o_64 rfl rfl (by decide) ?_
  refine ar_iload_n (i := 2) dX4_improve_33 rfl rfl ?_
  obtain ⟨h5, t⟩ := t
  refine fr_iald (n := 3072) dX4_improve_34 a_70 h5 ?_
  refine ar_aload_n (i := 0) dX4_improve_35 rfl rfl ?_
  refine fr_getR (t := 4) (j := 2) (r := 67) dX4_improve_36 fs_X4_18 o_64 rfl rfl (by decide) ?_
  refine ar_iload_n (i := 1) dX4_improve_39 rfl rfl ?_
  obtain ⟨h6, t⟩ := t
  refine fr_iald (n := 9) dX4_improve_40 a_67 h6 ?_
  refine ar_bipush (v := 11) dX4_improve_41 (by decide) ?_
  refine ar_ishl dX4_improve_43 ?_
  refine ar_iadd dX4_improve_44 ?_
  refine ar_bipush (v := 16) dX4_improve_45 (by decide) ?_
  refine ar_iadd dX4_improve_47 ?_
  refine ar_iload (i := 4) dX4_improve_48 rfl ?_
  refine ar_iadd dX4_improve_50 ?_
  refine ar_istore (i := 5) (lo2 := [_, _, _, _, _, _]) dX4_improve_51 (Nat.le_of_ble_eq_true rfl) rfl rfl ?_
  have t := t _ rfl
  refine ar_iload (i := 5) dX4_improve_53 rfl ?_
  refine ar_aload_n (i := 0) dX4_improve_55 rfl rfl ?_
  refine fr_getR (t := 4) (j := 5) (r := 70) dX4_improve_56 fs_X4_27 o_64 rfl rfl (by decide) ?_
  refine ar_iload_n (i := 3) dX4_improve_59 rfl rfl ?_
  obtain ⟨h8, t⟩ := t
  refine fr_iald (n := 3072) dX4_improve_60 a_70 h8 ?_
  refine ar_icmp_ge (tgt := 76) dX4_improve_61 (by decide) (fun h9 => ?_) (fun h9 => ?_)
  · have t := t.1 h9
    refine ar_iconst (v := 0) dX4_improve_76 (by decide) ?_
    exact fr_zret dX4_improve_77 rfl (Nat.le_refl _) (Nat.le_refl _) (Or.inl rfl) t
  · have t := t.2 h9
    refine ar_iload (i := 5) dX4_improve_64 rfl ?_
    refine ar_bipush (v := 11) dX4_improve_66 (by decide) ?_
    refine ar_ishr dX4_improve_68 ?_
    refine ar_aload_n (i := 0) dX4_improve_69 rfl rfl ?_
    refine fr_getI (t := 4) (j := 8) dX4_improve_70 fs_X4_37 o_64 rfl ?_
    refine ar_icmp_le (tgt := 78) dX4_improve_73 (by decide) (fun h10 => ?_) (fun h10 => ?_)
    · have t := t.1 h10
      refine ar_aload_n (i := 0) dX4_improve_78 rfl rfl ?_
      refine fr_getR (t := 4) (j := 5) (r := 70) dX4_improve_79 fs_X4_27 o_64 rfl rfl (by decide) ?_
      refine ar_iload_n (i := 3) dX4_improve_82 rfl rfl ?_
      refine ar_iload (i := 5) dX4_improve_83 rfl ?_
      obtain ⟨h11, t⟩ := t
      refine fr_iast (n := 3072) dX4_improve_85 a_70 h11 ?_
      have t := t _ rfl
      refine ar_iconst (v := 1) dX4_improve_86 (by decide) ?_
      exact fr_zret dX4_improve_87 rfl (Nat.le_refl _) (Nat.le_refl _) (Or.inr rfl) t
    · have t := t.2 h10
      refine ar_iconst (v := 0) dX4_improve_76 (by decide) ?_
      exact fr_zret dX4_improve_77 rfl (Nat.le_refl _) (Nat.le_refl _) (Or.inl rfl) t
def t_X4_improve (E : am_E) (d : Nat) (x1 : Int32) (x2 : Int32) (x3 : Int32) (σ : FH) (Q : Int32 → FH → Prop) : Prop :=
  (vp_in x2 3072 ∧ ((¬ (σ.1 70 x2.toNatClampNeg) = 1000000000 → (vp_in x2 3072 ∧ ((¬ (σ.1 70 x2.toNatClampNeg) = 0 → t_X4_improve_27 E d x1 x2 x3 0 σ Q) ∧
    ((σ.1 70 x2.toNatClampNeg) = 0 → t_X4_improve_27 E d x1 x2 x3 x1 σ Q)))) ∧
  ((σ.1 70 x2.toNatClampNeg) = 1000000000 → Q 0 σ)))
set_option maxRecDepth 100000 in
set_option maxHeartbeats 4000000 in
theorem v_X4_improve {E : am_E} {d : Nat} {σ : FH} {Q : Int32 → FH → Prop} {x1 : Int32} {x2 : Int32} {x3 : Int32} (t : t_X4_improve E d x1 x2 x3 σ Q) : fMi E (d + 1) mX4_improve [.ref 64, .int x1, .int x2, .int x3] σ Q := by
  refine fr_ofG [some (.ref 64), some (.int x1), some (.int x2), some (.int x3), none, none] (by decide) rfl (Nat.le_of_ble_eq_true rfl) ?_
  unfold t_X4_improve at t
  refine ar_aload_n (i := 0) dX4_improve_0 rfl rfl ?_
  refine fr_getR (t := 4) (j := 5) (r := 70) dX4_improve_1 fs_X4_27 o_64 rfl rfl (by decide) ?_
  refine ar_iload_n (i := 2) dX4_improve_4 rfl rfl ?_
  obtain ⟨h1, t⟩ := t
  refine fr_iald (n := 3072) dX4_improve_5 a_70 h1 ?_
  refine ar_ldc dX4_improve_6 ct_X4_68 ?_
  refine ar_icmp_ne (tgt := 13) dX4_improve_8 (by decide) (fun h2 => ?_) (fun h2 => ?_)
  · have t := t.1 h2
    refine ar_aload_n (i := 0) dX4_improve_13 rfl rfl ?_
    refine fr_getR (t := 4) (j := 5) (r := 70) dX4_improve_14 fs_X4_27 o_64 rfl rfl (by decide) ?_
    refine ar_iload_n (i := 2) dX4_improve_17 rfl rfl ?_
    obtain ⟨h3, t⟩ := t
    refine fr_iald (n := 3072) dX4_improve_18 a_70 h3 ?_
    refine ar_if_ne (tgt := 26) dX4_improve_19 (by decide) (fun h4 => ?_) (fun h4 => ?_)
    · have t := t.1 h4
      refine ar_iconst (v := 0) dX4_improve_26 (by decide) ?_
      exact v_X4_improve_27 t
    · have t := t.2 h4
      refine ar_iload_n (i := 1) dX4_improve_22 rfl rfl ?_
      refine ar_goto (tgt := 27) dX4_improve_23 (by decide) ?_
      exact v_X4_improve_27 t
  · have t := t.2 h2
    refine ar_iconst (v := 0) dX4_improve_11 (by decide) ?_
    exact fr_zret dX4_improve_12 rfl (Nat.le_refl _) (Nat.le_refl _) (Or.inl rfl) t

