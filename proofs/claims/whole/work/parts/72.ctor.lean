/-! constructors that only make rows (printed by wip/gen/ctor2.py) -/
section CT1
variable {E : am_E} {d : Nat} {R : Nat → Nat → Nat} {I : Nat → Nat → Int32} {Q : Option Value → AH → Prop}
set_option maxRecDepth 100000 in
set_option maxHeartbeats 4000000 in
theorem c_X0_init (hz : ∀ a j, 2 ≤ a → R a j = 0 ∧ I a j = 0) (k : ∀ R' I', bt 2 4 R R' I I' → Q none (hp 4 R' I')) : am_Mt E (d + 1) (1, 44) mX0_init [.ref 2] (hp 3 R I) Q := by
  refine am_ofG [some (.ref 2)] (by decide) rfl (Nat.le_of_ble_eq_true rfl) ?_
  refine ar_aload_n (i := 0) dX0_init_0 rfl rfl ?_
  refine ar_objInit dX0_init_1 ml_X0_3 jo_init.1 jo_init.2 (Nat.le_of_ble_eq_true rfl) ?_
  refine ar_aload_n (i := 0) dX0_init_4 rfl rfl ?_
  refine ar_bipush (v := 44) dX0_init_5 (by decide) ?_
  refine hr_newa (N := 44) dX0_init_7 (by decide) (by decide) (by decide) (by decide) (by decide) rfl (fun j => ⟨by (repeat rw [uR_ne (by decide)]); exact (hz _ _ (by omega)).1, by (repeat rw [uI_ne (by decide)]); exact (hz _ _ (by omega)).2⟩) ?_
  refine hr_putR (t := 0) (j := 0) dX0_init_9 (Or.inr ⟨fp_X0_11, rfl⟩) o_2 (by decide) (Or.inr ⟨.int, rfl⟩) (by decide) ?_
  refine ar_aload_n (i := 0) dX0_init_12 rfl rfl ?_
  refine ar_iconst (v := 0) dX0_init_13 (by decide) ?_
  refine hr_putI (t := 0) (j := 1) dX0_init_14 (Or.inl fq_X0_15) o_2 (by decide) rfl (Or.inl rfl) ?_
  refine ar_aload_n (i := 0) dX0_init_17 rfl rfl ?_
  refine ar_iconst (v := 0) dX0_init_18 (by decide) ?_
  refine hr_putI (t := 0) (j := 2) dX0_init_19 (Or.inl fq_X0_19) o_2 (by decide) rfl (Or.inl rfl) ?_
  refine ar_vret dX0_init_22 rfl (by decide) (by decide) ?_
  refine k _ _ ⟨fun a j ha => ⟨?_, ?_⟩, fun a j h1 h2 => ?_, fun a j ha => ⟨?_, ?_⟩⟩
  · repeat rw [uR_ne (by omega)]
  · repeat rw [uI_ne (by omega)]
  · by_cases e : a = 2
    · subst e
      simp only [uR_eq, uI_eq]
      rw [(hz 2 j (by omega)).1, (hz 2 j (by omega)).2]
      rcases Nat.lt_or_ge j 36 with q | q
      · revert q
        revert j
        decide +kernel
      · rw [crg_hi q, cin_hi q]
        refine ⟨?_, ?_⟩ <;> (repeat rw [if_neg (by omega)])
    · have s : (shp a).1 = 0 := by
        have key : ∀ a, a < 4 → 3 ≤ a → (shp a).1 = 0 := by decide +kernel
        exact key a h2 (by omega)
      rw [crg_ar s, cin_z (by omega) (by omega) (by omega) (by omega)]
      refine ⟨?_, ?_⟩
      · (repeat rw [uR_ne (by omega)]); exact (hz _ _ (by omega)).1
      · (repeat rw [uI_ne (by omega)]); exact (hz _ _ (by omega)).2
  · (repeat rw [uR_ne (by omega)]); exact (hz _ _ (by omega)).1
  · (repeat rw [uI_ne (by omega)]); exact (hz _ _ (by omega)).2
set_option maxRecDepth 100000 in
set_option maxHeartbeats 4000000 in
theorem c_X4_init (hz : ∀ a j, 64 ≤ a → R a j = 0 ∧ I a j = 0) (k : ∀ R' I', bt 64 71 R R' I I' → Q none (hp 71 R' I')) : am_Mt E (d + 1) (6, 3620) mX4_init [.ref 64] (hp 65 R I) Q := by
  refine am_ofG [some (.ref 64)] (by decide) rfl (Nat.le_of_ble_eq_true rfl) ?_
  refine ar_aload_n (i := 0) dX4_init_0 rfl rfl ?_
  refine ar_objInit dX4_init_1 ml_X4_5 jo_init.1 jo_init.2 (Nat.le_of_ble_eq_true rfl) ?_
  refine ar_aload_n (i := 0) dX4_init_4 rfl rfl ?_
  refine ar_bipush (v := 9) dX4_init_5 (by decide) ?_
  refine hr_newa (N := 9) dX4_init_7 (by decide) (by decide) (by decide) (by decide) (by decide) rfl (fun j => ⟨by (repeat rw [uR_ne (by decide)]); exact (hz _ _ (by omega)).1, by (repeat rw [uI_ne (by decide)]); exact (hz _ _ (by omega)).2⟩) ?_
  refine hr_putR (t := 4) (j := 0) dX4_init_9 (Or.inr ⟨fp_X4_11, rfl⟩) o_64 (by decide) (Or.inr ⟨.int, rfl⟩) (by decide) ?_
  refine ar_aload_n (i := 0) dX4_init_12 rfl rfl ?_
  refine ar_bipush (v := 9) dX4_init_13 (by decide) ?_
  refine hr_newa (N := 9) dX4_init_15 (by decide) (by decide) (by decide) (by decide) (by decide) rfl (fun j => ⟨by (repeat rw [uR_ne (by decide)]); exact (hz _ _ (by omega)).1, by (repeat rw [uI_ne (by decide)]); exact (hz _ _ (by omega)).2⟩) ?_
  refine hr_putR (t := 4) (j := 1) dX4_init_17 (Or.inr ⟨fp_X4_15, rfl⟩) o_64 (by decide) (Or.inr ⟨.int, rfl⟩) (by decide) ?_
  refine ar_aload_n (i := 0) dX4_init_20 rfl rfl ?_
  refine ar_bipush (v := 9) dX4_init_21 (by decide) ?_
  refine hr_newa (N := 9) dX4_init_23 (by decide) (by decide) (by decide) (by decide) (by decide) rfl (fun j => ⟨by (repeat rw [uR_ne (by decide)]); exact (hz _ _ (by omega)).1, by (repeat rw [uI_ne (by decide)]); exact (hz _ _ (by omega)).2⟩) ?_
  refine hr_putR (t := 4) (j := 2) dX4_init_25 (Or.inr ⟨fp_X4_18, rfl⟩) o_64 (by decide) (Or.inr ⟨.int, rfl⟩) (by decide) ?_
  refine ar_aload_n (i := 0) dX4_init_28 rfl rfl ?_
  refine ar_bipush (v := 9) dX4_init_29 (by decide) ?_
  refine hr_newa (N := 9) dX4_init_31 (by decide) (by decide) (by decide) (by decide) (by decide) rfl (fun j => ⟨by (repeat rw [uR_ne (by decide)]); exact (hz _ _ (by omega)).1, by (repeat rw [uI_ne (by decide)]); exact (hz _ _ (by omega)).2⟩) ?_
  refine hr_putR (t := 4) (j := 3) dX4_init_33 (Or.inr ⟨fp_X4_21, rfl⟩) o_64 (by decide) (Or.inr ⟨.int, rfl⟩) (by decide) ?_
  refine ar_aload_n (i := 0) dX4_init_36 rfl rfl ?_
  refine ar_sipush (v := 512) dX4_init_37 (by decide) ?_
  refine hr_newa (N := 512) dX4_init_40 (by decide) (by decide) (by decide) (by decide) (by decide) rfl (fun j => ⟨by (repeat rw [uR_ne (by decide)]); exact (hz _ _ (by omega)).1, by (repeat rw [uI_ne (by decide)]); exact (hz _ _ (by omega)).2⟩) ?_
  refine hr_putR (t := 4) (j := 4) dX4_init_42 (Or.inr ⟨fp_X4_24, rfl⟩) o_64 (by decide) (Or.inr ⟨.int, rfl⟩) (by decide) ?_
  refine ar_aload_n (i := 0) dX4_init_45 rfl rfl ?_
  refine ar_sipush (v := 3072) dX4_init_46 (by decide) ?_
  refine hr_newa (N := 3072) dX4_init_49 (by decide) (by decide) (by decide) (by decide) (by decide) rfl (fun j => ⟨by (repeat rw [uR_ne (by decide)]); exact (hz _ _ (by omega)).1, by (repeat rw [uI_ne (by decide)]); exact (hz _ _ (by omega)).2⟩) ?_
  refine hr_putR (t := 4) (j := 5) dX4_init_51 (Or.inr ⟨fp_X4_27, rfl⟩) o_64 (by decide) (Or.inr ⟨.int, rfl⟩) (by decide) ?_
  refine ar_aload_n (i := 0) dX4_init_54 rfl rfl ?_
  refine ar_iconst (v := 0) dX4_init_55 (by decide) ?_
  refine hr_putI (t := 4) (j := 6) dX4_init_56 (Or.inl fq_X4_30) o_64 (by decide) rfl (Or.inl rfl) ?_
  refine ar_aload_n (i := 0) dX4_init_59 rfl rfl ?_
  refine ar_iconst (v := 1) dX4_init_60 (by decide) ?_
  refine hr_putI (t := 4) (j := 7) dX4_init_61 (Or.inl fq_X4_34) o_64 (by decide) rfl (Or.inl rfl) ?_
  refine ar_aload_n (i := 0) dX4_init_64 rfl rfl ?_
  refine ar_iconst (v := 0) dX4_init_65 (by decide) ?_
  refine hr_putI (t := 4) (j := 8) dX4_init_66 (Or.inl fq_X4_37) o_64 (by decide) rfl (Or.inl rfl) ?_
  refine ar_vret dX4_init_69 rfl (by decide) (by decide) ?_
  refine k _ _ ⟨fun a j ha => ⟨?_, ?_⟩, fun a j h1 h2 => ?_, fun a j ha => ⟨?_, ?_⟩⟩
  · repeat rw [uR_ne (by omega)]
  · repeat rw [uI_ne (by omega)]
  · by_cases e : a = 64
    · subst e
      simp only [uR_eq, uI_eq]
      rw [(hz 64 j (by omega)).1, (hz 64 j (by omega)).2]
      rcases Nat.lt_or_ge j 36 with q | q
      · revert q
        revert j
        decide +kernel
      · rw [crg_hi q, cin_hi q]
        refine ⟨?_, ?_⟩ <;> (repeat rw [if_neg (by omega)])
    · have s : (shp a).1 = 0 := by
        have key : ∀ a, a < 71 → 65 ≤ a → (shp a).1 = 0 := by decide +kernel
        exact key a h2 (by omega)
      rw [crg_ar s, cin_z (by omega) (by omega) (by omega) (by omega)]
      refine ⟨?_, ?_⟩
      · (repeat rw [uR_ne (by omega)]); exact (hz _ _ (by omega)).1
      · (repeat rw [uI_ne (by omega)]); exact (hz _ _ (by omega)).2
  · (repeat rw [uR_ne (by omega)]); exact (hz _ _ (by omega)).1
  · (repeat rw [uI_ne (by omega)]); exact (hz _ _ (by omega)).2
set_option maxRecDepth 100000 in
set_option maxHeartbeats 4000000 in
theorem c_X3_init (hz : ∀ a j, 71 ≤ a → R a j = 0 ∧ I a j = 0) (k : ∀ R' I', bt 71 78 R R' I I' → Q none (hp 78 R' I')) : am_Mt E (d + 1) (6, 6213) mX3_init [.ref 71] (hp 72 R I) Q := by
  refine am_ofG [some (.ref 71)] (by decide) rfl (Nat.le_of_ble_eq_true rfl) ?_
  refine ar_aload_n (i := 0) dX3_init_0 rfl rfl ?_
  refine ar_objInit dX3_init_1 ml_X3_3 jo_init.1 jo_init.2 (Nat.le_of_ble_eq_true rfl) ?_
  refine ar_aload_n (i := 0) dX3_init_4 rfl rfl ?_
  refine ar_iconst (v := 0) dX3_init_5 (by decide) ?_
  refine hr_putI (t := 3) (j := 0) dX3_init_6 (Or.inl fq_X3_9) o_71 (by decide) rfl (Or.inl rfl) ?_
  refine ar_aload_n (i := 0) dX3_init_9 rfl rfl ?_
  refine ar_iconst (v := (-1)) dX3_init_10 (by decide) ?_
  refine hr_putI (t := 3) (j := 1) dX3_init_11 (Or.inl fq_X3_15) o_71 (by decide) rfl (Or.inl rfl) ?_
  refine ar_aload_n (i := 0) dX3_init_14 rfl rfl ?_
  refine ar_bipush (v := 61) dX3_init_15 (by decide) ?_
  refine hr_newa (N := 61) dX3_init_17 (by decide) (by decide) (by decide) (by decide) (by decide) rfl (fun j => ⟨by (repeat rw [uR_ne (by decide)]); exact (hz _ _ (by omega)).1, by (repeat rw [uI_ne (by decide)]); exact (hz _ _ (by omega)).2⟩) ?_
  refine hr_putR (t := 3) (j := 2) dX3_init_19 (Or.inr ⟨fp_X3_18, rfl⟩) o_71 (by decide) (Or.inr ⟨.int, rfl⟩) (by decide) ?_
  refine ar_aload_n (i := 0) dX3_init_22 rfl rfl ?_
  refine ar_bipush (v := 8) dX3_init_23 (by decide) ?_
  refine hr_newa (N := 8) dX3_init_25 (by decide) (by decide) (by decide) (by decide) (by decide) rfl (fun j => ⟨by (repeat rw [uR_ne (by decide)]); exact (hz _ _ (by omega)).1, by (repeat rw [uI_ne (by decide)]); exact (hz _ _ (by omega)).2⟩) ?_
  refine hr_putR (t := 3) (j := 3) dX3_init_27 (Or.inr ⟨fp_X3_22, rfl⟩) o_71 (by decide) (Or.inr ⟨.int, rfl⟩) (by decide) ?_
  refine ar_aload_n (i := 0) dX3_init_30 rfl rfl ?_
  refine ar_sipush (v := 1536) dX3_init_31 (by decide) ?_
  refine hr_newa (N := 1536) dX3_init_34 (by decide) (by decide) (by decide) (by decide) (by decide) rfl (fun j => ⟨by (repeat rw [uR_ne (by decide)]); exact (hz _ _ (by omega)).1, by (repeat rw [uI_ne (by decide)]); exact (hz _ _ (by omega)).2⟩) ?_
  refine hr_putR (t := 3) (j := 4) dX3_init_36 (Or.inl fq_X3_25) o_71 (by decide) (Or.inr ⟨.int, rfl⟩) (by decide) ?_
  refine ar_aload_n (i := 0) dX3_init_39 rfl rfl ?_
  refine ar_sipush (v := 1536) dX3_init_40 (by decide) ?_
  refine hr_newa (N := 1536) dX3_init_43 (by decide) (by decide) (by decide) (by decide) (by decide) rfl (fun j => ⟨by (repeat rw [uR_ne (by decide)]); exact (hz _ _ (by omega)).1, by (repeat rw [uI_ne (by decide)]); exact (hz _ _ (by omega)).2⟩) ?_
  refine hr_putR (t := 3) (j := 5) dX3_init_45 (Or.inl fq_X3_28) o_71 (by decide) (Or.inr ⟨.int, rfl⟩) (by decide) ?_
  refine ar_aload_n (i := 0) dX3_init_48 rfl rfl ?_
  refine ar_sipush (v := 1536) dX3_init_49 (by decide) ?_
  refine hr_newa (N := 1536) dX3_init_52 (by decide) (by decide) (by decide) (by decide) (by decide) rfl (fun j => ⟨by (repeat rw [uR_ne (by decide)]); exact (hz _ _ (by omega)).1, by (repeat rw [uI_ne (by decide)]); exact (hz _ _ (by omega)).2⟩) ?_
  refine hr_putR (t := 3) (j := 6) dX3_init_54 (Or.inl fq_X3_31) o_71 (by decide) (Or.inr ⟨.int, rfl⟩) (by decide) ?_
  refine ar_aload_n (i := 0) dX3_init_57 rfl rfl ?_
  refine ar_sipush (v := 1536) dX3_init_58 (by decide) ?_
  refine hr_newa (N := 1536) dX3_init_61 (by decide) (by decide) (by decide) (by decide) (by decide) rfl (fun j => ⟨by (repeat rw [uR_ne (by decide)]); exact (hz _ _ (by omega)).1, by (repeat rw [uI_ne (by decide)]); exact (hz _ _ (by omega)).2⟩) ?_
  refine hr_putR (t := 3) (j := 7) dX3_init_63 (Or.inl fq_X3_34) o_71 (by decide) (Or.inr ⟨.int, rfl⟩) (by decide) ?_
  refine ar_aload_n (i := 0) dX3_init_66 rfl rfl ?_
  refine ar_iconst (v := 1) dX3_init_67 (by decide) ?_
  refine hr_putI (t := 3) (j := 8) dX3_init_68 (Or.inl fq_X3_37) o_71 (by decide) rfl (Or.inl rfl) ?_
  refine ar_aload_n (i := 0) dX3_init_71 rfl rfl ?_
  refine ar_iconst (v := 0) dX3_init_72 (by decide) ?_
  refine hr_putI (t := 3) (j := 9) dX3_init_73 (Or.inl fq_X3_40) o_71 (by decide) rfl (Or.inr (Or.inl rfl)) ?_
  refine ar_vret dX3_init_76 rfl (by decide) (by decide) ?_
  refine k _ _ ⟨fun a j ha => ⟨?_, ?_⟩, fun a j h1 h2 => ?_, fun a j ha => ⟨?_, ?_⟩⟩
  · repeat rw [uR_ne (by omega)]
  · repeat rw [uI_ne (by omega)]
  · by_cases e : a = 71
    · subst e
      simp only [uR_eq, uI_eq]
      rw [(hz 71 j (by omega)).1, (hz 71 j (by omega)).2]
      rcases Nat.lt_or_ge j 36 with q | q
      · revert q
        revert j
        decide +kernel
      · rw [crg_hi q, cin_hi q]
        refine ⟨?_, ?_⟩ <;> (repeat rw [if_neg (by omega)])
    · have s : (shp a).1 = 0 := by
        have key : ∀ a, a < 78 → 72 ≤ a → (shp a).1 = 0 := by decide +kernel
        exact key a h2 (by omega)
      rw [crg_ar s, cin_z (by omega) (by omega) (by omega) (by omega)]
      refine ⟨?_, ?_⟩
      · (repeat rw [uR_ne (by omega)]); exact (hz _ _ (by omega)).1
      · (repeat rw [uI_ne (by omega)]); exact (hz _ _ (by omega)).2
  · (repeat rw [uR_ne (by omega)]); exact (hz _ _ (by omega)).1
  · (repeat rw [uI_ne (by omega)]); exact (hz _ _ (by omega)).2
set_option maxRecDepth 100000 in
set_option maxHeartbeats 4000000 in
theorem c_X7_init (hz : ∀ a j, 78 ≤ a → R a j = 0 ∧ I a j = 0) (k : ∀ R' I', bt 78 96 R R' I I' → Q none (hp 96 R' I')) : am_Mt E (d + 1) (17, 37200) mX7_init [.ref 78] (hp 79 R I) Q := by
  refine am_ofG [some (.ref 78)] (by decide) rfl (Nat.le_of_ble_eq_true rfl) ?_
  refine ar_aload_n (i := 0) dX7_init_0 rfl rfl ?_
  refine ar_objInit dX7_init_1 ml_X7_1 jo_init.1 jo_init.2 (Nat.le_of_ble_eq_true rfl) ?_
  refine ar_aload_n (i := 0) dX7_init_4 rfl rfl ?_
  refine ar_bipush (v := 44) dX7_init_5 (by decide) ?_
  refine hr_newa (N := 44) dX7_init_7 (by decide) (by decide) (by decide) (by decide) (by decide) rfl (fun j => ⟨by (repeat rw [uR_ne (by decide)]); exact (hz _ _ (by omega)).1, by (repeat rw [uI_ne (by decide)]); exact (hz _ _ (by omega)).2⟩) ?_
  refine hr_putR (t := 7) (j := 0) dX7_init_9 (Or.inr ⟨fp_X7_7, rfl⟩) o_78 (by decide) (Or.inr ⟨.int, rfl⟩) (by decide) ?_
  refine ar_aload_n (i := 0) dX7_init_12 rfl rfl ?_
  refine ar_bipush (v := 32) dX7_init_13 (by decide) ?_
  refine hr_newa (N := 32) dX7_init_15 (by decide) (by decide) (by decide) (by decide) (by decide) rfl (fun j => ⟨by (repeat rw [uR_ne (by decide)]); exact (hz _ _ (by omega)).1, by (repeat rw [uI_ne (by decide)]); exact (hz _ _ (by omega)).2⟩) ?_
  refine hr_putR (t := 7) (j := 2) dX7_init_17 (Or.inr ⟨fp_X7_13, rfl⟩) o_78 (by decide) (Or.inr ⟨.int, rfl⟩) (by decide) ?_
  refine ar_aload_n (i := 0) dX7_init_20 rfl rfl ?_
  refine ar_bipush (v := 45) dX7_init_21 (by decide) ?_
  refine hr_newa (N := 45) dX7_init_23 (by decide) (by decide) (by decide) (by decide) (by decide) rfl (fun j => ⟨by (repeat rw [uR_ne (by decide)]); exact (hz _ _ (by omega)).1, by (repeat rw [uI_ne (by decide)]); exact (hz _ _ (by omega)).2⟩) ?_
  refine hr_putR (t := 7) (j := 10) dX7_init_25 (Or.inr ⟨fp_X7_16, rfl⟩) o_78 (by decide) (Or.inr ⟨.int, rfl⟩) (by decide) ?_
  refine ar_aload_n (i := 0) dX7_init_28 rfl rfl ?_
  refine ar_bipush (v := 20) dX7_init_29 (by decide) ?_
  refine hr_newa (N := 20) dX7_init_31 (by decide) (by decide) (by decide) (by decide) (by decide) rfl (fun j => ⟨by (repeat rw [uR_ne (by decide)]); exact (hz _ _ (by omega)).1, by (repeat rw [uI_ne (by decide)]); exact (hz _ _ (by omega)).2⟩) ?_
  refine hr_putR (t := 7) (j := 12) dX7_init_33 (Or.inr ⟨fp_X7_19, rfl⟩) o_78 (by decide) (Or.inr ⟨.int, rfl⟩) (by decide) ?_
  refine ar_aload_n (i := 0) dX7_init_36 rfl rfl ?_
  refine ar_bipush (v := 32) dX7_init_37 (by decide) ?_
  refine hr_newa (N := 32) dX7_init_39 (by decide) (by decide) (by decide) (by decide) (by decide) rfl (fun j => ⟨by (repeat rw [uR_ne (by decide)]); exact (hz _ _ (by omega)).1, by (repeat rw [uI_ne (by decide)]); exact (hz _ _ (by omega)).2⟩) ?_
  refine hr_putR (t := 7) (j := 13) dX7_init_41 (Or.inr ⟨fp_X7_22, rfl⟩) o_78 (by decide) (Or.inr ⟨.int, rfl⟩) (by decide) ?_
  refine ar_aload_n (i := 0) dX7_init_44 rfl rfl ?_
  refine ar_sipush (v := 3072) dX7_init_45 (by decide) ?_
  refine hr_newa (N := 3072) dX7_init_48 (by decide) (by decide) (by decide) (by decide) (by decide) rfl (fun j => ⟨by (repeat rw [uR_ne (by decide)]); exact (hz _ _ (by omega)).1, by (repeat rw [uI_ne (by decide)]); exact (hz _ _ (by omega)).2⟩) ?_
  refine hr_putR (t := 7) (j := 15) dX7_init_50 (Or.inr ⟨fp_X7_25, rfl⟩) o_78 (by decide) (Or.inr ⟨.int, rfl⟩) (by decide) ?_
  refine ar_aload_n (i := 0) dX7_init_53 rfl rfl ?_
  refine ar_sipush (v := 3072) dX7_init_54 (by decide) ?_
  refine hr_newa (N := 3072) dX7_init_57 (by decide) (by decide) (by decide) (by decide) (by decide) rfl (fun j => ⟨by (repeat rw [uR_ne (by decide)]); exact (hz _ _ (by omega)).1, by (repeat rw [uI_ne (by decide)]); exact (hz _ _ (by omega)).2⟩) ?_
  refine hr_putR (t := 7) (j := 16) dX7_init_59 (Or.inr ⟨fp_X7_28, rfl⟩) o_78 (by decide) (Or.inr ⟨.int, rfl⟩) (by decide) ?_
  refine ar_aload_n (i := 0) dX7_init_62 rfl rfl ?_
  refine ar_sipush (v := 3072) dX7_init_63 (by decide) ?_
  refine hr_newa (N := 3072) dX7_init_66 (by decide) (by decide) (by decide) (by decide) (by decide) rfl (fun j => ⟨by (repeat rw [uR_ne (by decide)]); exact (hz _ _ (by omega)).1, by (repeat rw [uI_ne (by decide)]); exact (hz _ _ (by omega)).2⟩) ?_
  refine hr_putR (t := 7) (j := 17) dX7_init_68 (Or.inr ⟨fp_X7_31, rfl⟩) o_78 (by decide) (Or.inr ⟨.int, rfl⟩) (by decide) ?_
  refine ar_aload_n (i := 0) dX7_init_71 rfl rfl ?_
  refine ar_bipush (v := 7) dX7_init_72 (by decide) ?_
  refine hr_newa (N := 7) dX7_init_74 (by decide) (by decide) (by decide) (by decide) (by decide) rfl (fun j => ⟨by (repeat rw [uR_ne (by decide)]); exact (hz _ _ (by omega)).1, by (repeat rw [uI_ne (by decide)]); exact (hz _ _ (by omega)).2⟩) ?_
  refine hr_putR (t := 7) (j := 21) dX7_init_76 (Or.inr ⟨fp_X7_34, rfl⟩) o_78 (by decide) (Or.inr ⟨.int, rfl⟩) (by decide) ?_
  refine ar_aload_n (i := 0) dX7_init_79 rfl rfl ?_
  refine ar_sipush (v := 13824) dX7_init_80 (by decide) ?_
  refine hr_newa (N := 13824) dX7_init_83 (by decide) (by decide) (by decide) (by decide) (by decide) rfl (fun j => ⟨by (repeat rw [uR_ne (by decide)]); exact (hz _ _ (by omega)).1, by (repeat rw [uI_ne (by decide)]); exact (hz _ _ (by omega)).2⟩) ?_
  refine hr_putR (t := 7) (j := 22) dX7_init_85 (Or.inr ⟨fp_X7_37, rfl⟩) o_78 (by decide) (Or.inr ⟨.int, rfl⟩) (by decide) ?_
  refine ar_aload_n (i := 0) dX7_init_88 rfl rfl ?_
  refine ar_sipush (v := 13824) dX7_init_89 (by decide) ?_
  refine hr_newa (N := 13824) dX7_init_92 (by decide) (by decide) (by decide) (by decide) (by decide) rfl (fun j => ⟨by (repeat rw [uR_ne (by decide)]); exact (hz _ _ (by omega)).1, by (repeat rw [uI_ne (by decide)]); exact (hz _ _ (by omega)).2⟩) ?_
  refine hr_putR (t := 7) (j := 23) dX7_init_94 (Or.inr ⟨fp_X7_40, rfl⟩) o_78 (by decide) (Or.inr ⟨.int, rfl⟩) (by decide) ?_
  refine ar_aload_n (i := 0) dX7_init_97 rfl rfl ?_
  refine ar_bipush (v := 20) dX7_init_98 (by decide) ?_
  refine hr_newa (N := 20) dX7_init_100 (by decide) (by decide) (by decide) (by decide) (by decide) rfl (fun j => ⟨by (repeat rw [uR_ne (by decide)]); exact (hz _ _ (by omega)).1, by (repeat rw [uI_ne (by decide)]); exact (hz _ _ (by omega)).2⟩) ?_
  refine hr_putR (t := 7) (j := 25) dX7_init_102 (Or.inr ⟨fp_X7_43, rfl⟩) o_78 (by decide) (Or.inr ⟨.int, rfl⟩) (by decide) ?_
  refine ar_aload_n (i := 0) dX7_init_105 rfl rfl ?_
  refine ar_bipush (v := 32) dX7_init_106 (by decide) ?_
  refine hr_newa (N := 32) dX7_init_108 (by decide) (by decide) (by decide) (by decide) (by decide) rfl (fun j => ⟨by (repeat rw [uR_ne (by decide)]); exact (hz _ _ (by omega)).1, by (repeat rw [uI_ne (by decide)]); exact (hz _ _ (by omega)).2⟩) ?_
  refine hr_putR (t := 7) (j := 26) dX7_init_110 (Or.inr ⟨fp_X7_46, rfl⟩) o_78 (by decide) (Or.inr ⟨.int, rfl⟩) (by decide) ?_
  refine ar_aload_n (i := 0) dX7_init_113 rfl rfl ?_
  refine ar_bipush (v := 45) dX7_init_114 (by decide) ?_
  refine hr_newa (N := 45) dX7_init_116 (by decide) (by decide) (by decide) (by decide) (by decide) rfl (fun j => ⟨by (repeat rw [uR_ne (by decide)]); exact (hz _ _ (by omega)).1, by (repeat rw [uI_ne (by decide)]); exact (hz _ _ (by omega)).2⟩) ?_
  refine hr_putR (t := 7) (j := 31) dX7_init_118 (Or.inr ⟨fp_X7_49, rfl⟩) o_78 (by decide) (Or.inr ⟨.int, rfl⟩) (by decide) ?_
  refine ar_aload_n (i := 0) dX7_init_121 rfl rfl ?_
  refine ar_bipush (v := 20) dX7_init_122 (by decide) ?_
  refine hr_newa (N := 20) dX7_init_124 (by decide) (by decide) (by decide) (by decide) (by decide) rfl (fun j => ⟨by (repeat rw [uR_ne (by decide)]); exact (hz _ _ (by omega)).1, by (repeat rw [uI_ne (by decide)]); exact (hz _ _ (by omega)).2⟩) ?_
  refine hr_putR (t := 7) (j := 32) dX7_init_126 (Or.inr ⟨fp_X7_52, rfl⟩) o_78 (by decide) (Or.inr ⟨.int, rfl⟩) (by decide) ?_
  refine ar_aload_n (i := 0) dX7_init_129 rfl rfl ?_
  refine ar_bipush (v := 32) dX7_init_130 (by decide) ?_
  refine hr_newa (N := 32) dX7_init_132 (by decide) (by decide) (by decide) (by decide) (by decide) rfl (fun j => ⟨by (repeat rw [uR_ne (by decide)]); exact (hz _ _ (by omega)).1, by (repeat rw [uI_ne (by decide)]); exact (hz _ _ (by omega)).2⟩) ?_
  refine hr_putR (t := 7) (j := 33) dX7_init_134 (Or.inr ⟨fp_X7_55, rfl⟩) o_78 (by decide) (Or.inr ⟨.int, rfl⟩) (by decide) ?_
  refine ar_aload_n (i := 0) dX7_init_137 rfl rfl ?_
  refine ar_bipush (v := 7) dX7_init_138 (by decide) ?_
  refine hr_newa (N := 7) dX7_init_140 (by decide) (by decide) (by decide) (by decide) (by decide) rfl (fun j => ⟨by (repeat rw [uR_ne (by decide)]); exact (hz _ _ (by omega)).1, by (repeat rw [uI_ne (by decide)]); exact (hz _ _ (by omega)).2⟩) ?_
  refine hr_putR (t := 7) (j := 34) dX7_init_142 (Or.inr ⟨fp_X7_58, rfl⟩) o_78 (by decide) (Or.inr ⟨.int, rfl⟩) (by decide) ?_
  refine ar_aload_n (i := 0) dX7_init_145 rfl rfl ?_
  refine ar_iconst (v := (-1)) dX7_init_146 (by decide) ?_
  refine hr_putI (t := 7) (j := 27) dX7_init_147 (Or.inl fq_X7_61) o_78 (by decide) rfl (Or.inl rfl) ?_
  refine ar_vret dX7_init_150 rfl (by decide) (by decide) ?_
  refine k _ _ ⟨fun a j ha => ⟨?_, ?_⟩, fun a j h1 h2 => ?_, fun a j ha => ⟨?_, ?_⟩⟩
  · repeat rw [uR_ne (by omega)]
  · repeat rw [uI_ne (by omega)]
  · by_cases e : a = 78
    · subst e
      simp only [uR_eq, uI_eq]
      rw [(hz 78 j (by omega)).1, (hz 78 j (by omega)).2]
      rcases Nat.lt_or_ge j 36 with q | q
      · revert q
        revert j
        decide +kernel
      · rw [crg_hi q, cin_hi q]
        refine ⟨?_, ?_⟩ <;> (repeat rw [if_neg (by omega)])
    · have s : (shp a).1 = 0 := by
        have key : ∀ a, a < 96 → 79 ≤ a → (shp a).1 = 0 := by decide +kernel
        exact key a h2 (by omega)
      rw [crg_ar s, cin_z (by omega) (by omega) (by omega) (by omega)]
      refine ⟨?_, ?_⟩
      · (repeat rw [uR_ne (by omega)]); exact (hz _ _ (by omega)).1
      · (repeat rw [uI_ne (by omega)]); exact (hz _ _ (by omega)).2
  · (repeat rw [uR_ne (by omega)]); exact (hz _ _ (by omega)).1
  · (repeat rw [uI_ne (by omega)]); exact (hz _ _ (by omega)).2
end CT1
