/-! the constructors of Road, Pilgrim, World -/
theorem crg_w {w j : Nat} (hw : isWd w) : crg w j = if j = 5 then w + 1 else if j = 6 then w + 2 else if j = 7 then w + 3 else 0 := by
  rcases Nat.lt_or_ge j 36 with q | q
  · rcases hw with rfl | rfl | rfl <;> (revert q; revert j; decide +kernel)
  · rw [crg_hi q, if_neg (by omega), if_neg (by omega), if_neg (by omega)]
theorem crg_rs {w j : Nat} (hw : isWd w) : crg (w + 2) j = if j < 8 then w + 4 + j else 0 := by
  rcases Nat.lt_or_ge j 36 with q | q
  · rcases hw with rfl | rfl | rfl <;> (revert q; revert j; decide +kernel)
  · rw [crg_hi q, if_neg (by omega)]
theorem crg_ps {w j : Nat} (hw : isWd w) : crg (w + 3) j = if j < 4 then w + 12 + 2 * j else 0 := by
  rcases Nat.lt_or_ge j 36 with q | q
  · rcases hw with rfl | rfl | rfl <;> (revert q; revert j; decide +kernel)
  · rw [crg_hi q, if_neg (by omega)]
theorem crg_rd {w i j : Nat} (hw : isWd w) (hi : i < 8) : crg (w + 4 + i) j = 0 := by
  rcases Nat.lt_or_ge j 36 with q | q
  · have key : ∀ i, i < 8 → ∀ j, j < 36 → crg (4 + 4 + i) j = 0 ∧ crg (24 + 4 + i) j = 0 ∧ crg (44 + 4 + i) j = 0 := by decide +kernel
    obtain ⟨h1, h2, h3⟩ := key i hi j q
    rcases hw with rfl | rfl | rfl <;> assumption
  · exact crg_hi q
theorem crg_pg {w i j : Nat} (hw : isWd w) (hi : i < 4) : crg (w + 12 + 2 * i) j = if j = 5 then w + 12 + 2 * i + 1 else 0 := by
  rcases Nat.lt_or_ge j 36 with q | q
  · have key : ∀ i, i < 4 → ∀ j, j < 36 → crg (4 + 12 + 2 * i) j = (if j = 5 then 4 + 12 + 2 * i + 1 else 0) ∧ crg (24 + 12 + 2 * i) j = (if j = 5 then 24 + 12 + 2 * i + 1 else 0) ∧ crg (44 + 12 + 2 * i) j = (if j = 5 then 44 + 12 + 2 * i + 1 else 0) := by decide +kernel
    obtain ⟨h1, h2, h3⟩ := key i hi j q
    rcases hw with rfl | rfl | rfl <;> assumption
  · rw [crg_hi q, if_neg (by omega)]
theorem cin_rd {w i j : Nat} (hw : isWd w) (hi : i < 8) : cin (w + 4 + i) j = if j = 0 then nI i else if j = 4 ∨ j = 5 then 1 else 0 := by
  unfold cin
  rw [if_pos (by rcases hw with rfl | rfl | rfl <;> omega), show (w + 4 + i - 8) % 20 = i by rcases hw with rfl | rfl | rfl <;> omega]
theorem cin_w {w a j : Nat} (hw : isWd w) (h1 : w ≤ a) (h2 : a < w + 20) (h3 : a < w + 4 ∨ w + 12 ≤ a) : cin a j = 0 := by
  refine cin_z ?_ ?_ ?_ ?_ <;> (rcases hw with rfl | rfl | rfl <;> omega)
theorem shp_kn {w i : Nat} (hw : isWd w) (hi : i < 4) : shp (w + 12 + 2 * i + 1) = (0, 8) := by
  have h : isPg (w + 12 + 2 * i) := ⟨w, i, hw, hi, rfl⟩
  exact h.f.2.2.1.2.2
section CT2
variable {E : am_E} {d : Nat} {R : Nat → Nat → Nat} {I : Nat → Nat → Int32} {Q : Option Value → AH → Prop}
theorem c_X2_init {n k0 : Nat} {x : Int32} (hk : isRd k0) (hn : k0 < n) (hz : ∀ j, I k0 j = 0) (k : ∀ I', (∀ a j, a ≠ k0 → I' a j = I a j) → (∀ j, I' k0 j = if j = 0 then x else if j = 4 ∨ j = 5 then 1 else 0) → Q none (hp n R I')) : am_Mt E (d + 1) (0, 0) mX2_init [.ref k0, .int x] (hp n R I) Q := by
  refine am_ofG [some (.ref k0), some (.int x)] (by decide) rfl (Nat.le_of_ble_eq_true rfl) ?_
  refine ar_aload_n (i := 0) dX2_init_0 rfl rfl ?_
  refine ar_objInit dX2_init_1 ml_X2_1 jo_init.1 jo_init.2 (Nat.le_of_ble_eq_true rfl) ?_
  refine ar_aload_n (i := 0) dX2_init_4 rfl rfl ?_
  refine ar_iconst (v := 0) dX2_init_5 (by decide) ?_
  refine hr_putI (t := 2) (j := 1) dX2_init_6 (Or.inl fq_X2_9) hk.o hn rfl (Or.inl rfl) ?_
  refine ar_aload_n (i := 0) dX2_init_9 rfl rfl ?_
  refine ar_iconst (v := 0) dX2_init_10 (by decide) ?_
  refine hr_putI (t := 2) (j := 2) dX2_init_11 (Or.inl fq_X2_13) hk.o hn rfl (Or.inl rfl) ?_
  refine ar_aload_n (i := 0) dX2_init_14 rfl rfl ?_
  refine ar_iconst (v := 0) dX2_init_15 (by decide) ?_
  refine hr_putI (t := 2) (j := 3) dX2_init_16 (Or.inl fq_X2_16) hk.o hn rfl (Or.inl rfl) ?_
  refine ar_aload_n (i := 0) dX2_init_19 rfl rfl ?_
  refine ar_iconst (v := 1) dX2_init_20 (by decide) ?_
  refine hr_putI (t := 2) (j := 4) dX2_init_21 (Or.inl fq_X2_19) hk.o hn rfl (Or.inl rfl) ?_
  refine ar_aload_n (i := 0) dX2_init_24 rfl rfl ?_
  refine ar_iconst (v := 1) dX2_init_25 (by decide) ?_
  refine hr_putI (t := 2) (j := 5) dX2_init_26 (Or.inl fq_X2_22) hk.o hn rfl (Or.inr (Or.inr rfl)) ?_
  refine ar_aload_n (i := 0) dX2_init_29 rfl rfl ?_
  refine ar_iload_n (i := 1) dX2_init_30 rfl rfl ?_
  refine hr_putI (t := 2) (j := 0) dX2_init_31 (Or.inr ⟨fp_X2_26, rfl⟩) hk.o hn rfl (Or.inl rfl) ?_
  refine ar_vret dX2_init_34 rfl (by decide) (by decide) ?_
  refine k _ (fun a j h => by repeat rw [uI_ne h]) (fun j => ?_)
  simp only [uI_eq]
  rw [hz]
  by_cases e0 : j = 0
  · rw [if_pos e0, if_pos e0]
  · rw [if_neg e0, if_neg e0]
    by_cases e5 : j = 5
    · rw [if_pos e5, if_pos (Or.inr e5)]
    · rw [if_neg e5]
      by_cases e4 : j = 4
      · rw [if_pos e4, if_pos (Or.inl e4)]
      · rw [if_neg e4, if_neg (show ¬ (j = 4 ∨ j = 5) from fun q => q.elim e4 e5)]
        repeat' split
        all_goals rfl
theorem c_X1_init {k0 : Nat} (hk : isPg k0) (hz : ∀ a j, k0 ≤ a → R a j = 0 ∧ I a j = 0) (k : ∀ R' I', (∀ a j, a ≠ k0 → R' a j = R a j ∧ I' a j = I a j) → (∀ j, R' k0 j = (if j = 5 then k0 + 1 else 0) ∧ I' k0 j = 0) → Q none (hp (k0 + 2) R' I')) : am_Mt E (d + 1) (1, 8) mX1_init [.ref k0] (hp (k0 + 1) R I) Q := by
  have ho := hk.f.1
  refine am_ofG [some (.ref k0)] (by decide) rfl (Nat.le_of_ble_eq_true rfl) ?_
  refine ar_aload_n (i := 0) dX1_init_0 rfl rfl ?_
  refine ar_objInit dX1_init_1 ml_X1_3 jo_init.1 jo_init.2 (Nat.le_of_ble_eq_true rfl) ?_
  refine ar_aload_n (i := 0) dX1_init_4 rfl rfl ?_
  refine ar_iconst (v := 0) dX1_init_5 (by decide) ?_
  refine hr_putI (t := 1) (j := 0) dX1_init_6 (Or.inl fq_X1_9) ho (by omega) rfl (Or.inl rfl) ?_
  refine ar_aload_n (i := 0) dX1_init_9 rfl rfl ?_
  refine ar_iconst (v := 0) dX1_init_10 (by decide) ?_
  refine hr_putI (t := 1) (j := 1) dX1_init_11 (Or.inl fq_X1_15) ho (by omega) rfl (Or.inl rfl) ?_
  refine ar_aload_n (i := 0) dX1_init_14 rfl rfl ?_
  refine ar_iconst (v := 0) dX1_init_15 (by decide) ?_
  refine hr_putI (t := 1) (j := 2) dX1_init_16 (Or.inl fq_X1_18) ho (by omega) rfl (Or.inl rfl) ?_
  refine ar_aload_n (i := 0) dX1_init_19 rfl rfl ?_
  refine ar_iconst (v := 0) dX1_init_20 (by decide) ?_
  refine hr_putI (t := 1) (j := 3) dX1_init_21 (Or.inl fq_X1_21) ho (by omega) rfl (Or.inl rfl) ?_
  refine ar_aload_n (i := 0) dX1_init_24 rfl rfl ?_
  refine ar_iconst (v := 0) dX1_init_25 (by decide) ?_
  refine hr_putI (t := 1) (j := 4) dX1_init_26 (Or.inl fq_X1_24) ho (by omega) rfl (Or.inr (Or.inl rfl)) ?_
  refine ar_aload_n (i := 0) dX1_init_29 rfl rfl ?_
  refine ar_bipush (v := 8) dX1_init_30 (by decide) ?_
  refine hr_newa (N := 8) dX1_init_32 (by decide) (by decide) (by decide) (by decide) (by decide) hk.f.2.2.1.2.2 (fun j => ⟨(hz _ _ (by omega)).1, by (repeat rw [uI_ne (by omega)]); exact (hz _ _ (by omega)).2⟩) ?_
  refine hr_putR (t := 1) (j := 5) dX1_init_34 (Or.inr ⟨fp_X1_28, rfl⟩) ho (by omega) (Or.inr ⟨.int, rfl⟩) (by omega) ?_
  refine ar_vret dX1_init_37 rfl (by decide) (by decide) ?_
  refine k _ _ (fun a j h => ⟨uR_ne h, by repeat rw [uI_ne h]⟩) (fun j => ⟨?_, ?_⟩)
  · rw [uR_eq, (hz k0 j (by omega)).1]
  · simp only [uI_eq]
    rw [(hz k0 j (by omega)).2]
    repeat' split
    all_goals rfl
/-- a world that is being made: i roads, m pilgrims, N cells in all -/
def wI (w N i m : Nat) (R R' : Nat → Nat → Nat) (I I' : Nat → Nat → Int32) : Prop := (∀ a j, a < w → R' a j = R a j ∧ I' a j = I a j) ∧ (∀ a j, w ≤ a → a < N → a ≠ w + 2 → a ≠ w + 3 → R' a j = crg a j ∧ I' a j = cin a j) ∧ (∀ j, R' (w + 2) j = (if j < i then w + 4 + j else 0) ∧ I' (w + 2) j = 0) ∧ (∀ j, R' (w + 3) j = (if j < m then w + 12 + 2 * j else 0) ∧ I' (w + 3) j = 0) ∧ ∀ a j, N ≤ a → R' a j = 0 ∧ I' a j = 0
theorem c_X5_84 {w : Nat} (hw : isWd w) (k : ∀ R' I', bt w (w + 20) R R' I I' → Q none (hp (w + 20) R' I')) : ∀ l m S J, m + l = 4 → wI w (w + 12 + 2 * m) 8 m R S I J → am_G E (d + 2) (19, 123) mX5_init (11 + 2 * m) (67 + 14 * m) 84 [some (.ref w), some (.int (nI m))] [] (hp (w + 12 + 2 * m) S J) Q := by
  intro l
  induction l with
  | zero =>
    intro m S J hm hI
    rw [show m = 4 by omega] at *
    obtain ⟨i1, i2, i3, i4, i5⟩ := hI
    refine ar_iload_n (i := 1) dX5_init_84 rfl rfl ?_
    refine ar_iconst (v := 4) dX5_init_85 (by decide) ?_
    refine ar_icmp_ge (tgt := 108) dX5_init_86 (by decide) (fun _ => ?_) (fun q => absurd (by decide) q)
    refine ar_vret dX5_init_108 rfl (by decide) (by decide) ?_
    refine k S J ⟨i1, fun a j h1 h2 => ?_, i5⟩
    by_cases e2 : a = w + 2
    · subst e2
      rw [crg_rs hw, cin_w hw (by omega) (by omega) (by omega)]
      exact i3 j
    · by_cases e3 : a = w + 3
      · subst e3
        rw [crg_ps hw, cin_w hw (by omega) (by omega) (by omega)]
        exact i4 j
      · exact i2 a j h1 h2 e2 e3
  | succ l ih =>
    intro m S J hm hI
    obtain ⟨i1, i2, i3, i4, i5⟩ := id hI
    have hpg : isPg (w + 12 + 2 * m) := ⟨w, m, hw, by omega, rfl⟩
    refine ar_iload_n (i := 1) dX5_init_84 rfl rfl ?_
    refine ar_iconst (v := 4) dX5_init_85 (by decide) ?_
    refine ar_icmp_ge (tgt := 108) dX5_init_86 (by decide) (fun q => absurd q (nI_ge (b := 4) (by omega) (by omega))) (fun _ => ?_)
    refine ar_aload_n (i := 0) dX5_init_89 rfl rfl ?_
    have g7 : S w 7 = w + 3 := by rw [(i2 w 7 (by omega) (by omega) (by omega) (by omega)).1, crg_w hw]; rfl
    refine ar_getR (t := 5) (j := 7) (r := w + 3) dX5_init_90 fs_X5_39 (hp_o hw.o (by omega)) rfl g7 (by omega) ?_
    refine ar_iload_n (i := 1) dX5_init_93 rfl rfl ?_
    refine hr_new (t := 1) dX5_init_94 (by decide) nw_X5_37 (by show 11 + 2 * m + 1 ≤ 19; omega) (by show 67 + 14 * m + 6 ≤ 123; omega) ?_ (fun j => i5 _ j (by omega)) ?_
    · have o := hpg.f.1
      have key : ∀ i, i < 4 → shp (4 + 12 + 2 * i) = (4, 0) ∧ shp (24 + 12 + 2 * i) = (4, 0) ∧ shp (44 + 12 + 2 * i) = (4, 0) := by decide +kernel
      obtain ⟨q1, q2, q3⟩ := key m (by omega)
      rcases hw with rfl | rfl | rfl <;> assumption
    refine ar_dup dX5_init_97 rfl ?_
    refine ar_callI (M' := mX1_init) (B' := (1, 8)) (n := 0) (k := w + 12 + 2 * m) [] dX5_init_98 (by first | exact Or.inl ml_X5_46 | exact Or.inr ⟨_, ml_X5_46⟩) mv_X1_init rfl rfl (Nat.le_of_ble_eq_true rfl) ⟨by show 11 + 2 * m + 1 + 1 ≤ 19; omega, by show 67 + 14 * m + 6 + 8 ≤ 123; omega⟩ ?_
    refine c_X1_init hpg (fun a j h => i5 a j (by omega)) (fun S' J' f1 f2 => ?_)
    show am_G E (d + 2) (19, 123) mX5_init (11 + 2 * m + 1 + 1) (67 + 14 * m + 6 + 8) 101 [some (.ref w), some (.int (nI m))] [.ref (w + 12 + 2 * m), .int (nI m), .ref (w + 3)] (hp (w + 12 + 2 * m + 2) S' J') Q
    refine ar_aast (t := 1) (u := 1) (q := (RX1, TX1, 6)) dX5_init_101 (by decide) (hp_q hw.q3 (by omega)) (vp_in_nI (by omega) (by decide)) rfl rfl (hp_o hpg.f.1 (by omega)) ?_
    rw [nI_clamp (by omega)]
    refine ar_iinc (i := 1) (v := nI (m + 1)) (lo2 := [some (.ref w), some (.int (nI (m + 1)))]) dX5_init_102 rfl (by rw [ii_1, nI_1]) (Nat.le_of_ble_eq_true rfl) rfl rfl ?_
    refine ar_goto (tgt := 84) dX5_init_105 (by decide) ?_
    show am_G E (d + 2) (19, 123) mX5_init (11 + 2 * m + 1 + 1) (67 + 14 * m + 6 + 8) 84 [some (.ref w), some (.int (nI (m + 1)))] [] (hp (w + 12 + 2 * m + 2) (uR S' (w + 3) m (w + 12 + 2 * m)) J') Q
    have fin := ih (m + 1) (uR S' (w + 3) m (w + 12 + 2 * m)) J' (by omega) ⟨fun a j h => ?_, fun a j h1 h2 h3 h4 => ?_, fun j => ?_, fun j => ?_, fun a j h => ?_⟩
    · rw [show w + 12 + 2 * (m + 1) = w + 12 + 2 * m + 2 by omega, show 11 + 2 * (m + 1) = 11 + 2 * m + 1 + 1 by omega, show 67 + 14 * (m + 1) = 67 + 14 * m + 6 + 8 by omega] at fin
      exact fin
    · rw [uR_ne (by omega), (f1 a j (by omega)).1, (f1 a j (by omega)).2]; exact i1 a j h
    · rw [uR_ne h4]
      by_cases e : a = w + 12 + 2 * m
      · subst e
        rw [crg_pg hw (by omega), cin_w hw (by omega) (by omega) (by omega)]
        exact f2 j
      · rw [(f1 a j e).1, (f1 a j e).2]
        by_cases e' : a = w + 12 + 2 * m + 1
        · subst e'
          rw [crg_ar (by rw [shp_kn hw (by omega)]), cin_w hw (by omega) (by omega) (by omega)]
          exact i5 _ j (by omega)
        · exact i2 a j h1 (by omega) h3 h4
    · rw [uR_ne (by omega), (f1 _ j (by omega)).1, (f1 _ j (by omega)).2]; exact i3 j
    · rw [uR_eq, (f1 _ j (by omega)).1, (f1 _ j (by omega)).2]
      refine ⟨?_, (i4 j).2⟩
      rw [(i4 j).1]
      by_cases e : j = m
      · subst e; rw [if_pos rfl, if_pos (by omega)]
      · rw [if_neg e]
        by_cases z : j < m
        · rw [if_pos z, if_pos (by omega)]
        · rw [if_neg z, if_neg (by omega)]
    · rw [uR_ne (by omega), (f1 a j (by omega)).1, (f1 a j (by omega)).2]; exact i5 a j (by omega)
theorem c_X5_56 {w : Nat} (hw : isWd w) (k : ∀ R' I', bt w (w + 20) R R' I I' → Q none (hp (w + 20) R' I')) : ∀ l i S J, i + l = 8 → wI w (w + 4 + i) i 0 R S I J → am_G E (d + 2) (19, 123) mX5_init (3 + i) (19 + 6 * i) 56 [some (.ref w), some (.int (nI i))] [] (hp (w + 4 + i) S J) Q := by
  intro l
  induction l with
  | zero =>
    intro i S J hi hI
    rw [show i = 8 by omega] at *
    refine ar_iload_n (i := 1) dX5_init_56 rfl rfl ?_
    refine ar_bipush (v := 8) dX5_init_57 (by decide) ?_
    refine ar_icmp_ge (tgt := 82) dX5_init_59 (by decide) (fun _ => ?_) (fun q => absurd (by decide) q)
    refine ar_iconst (v := 0) dX5_init_82 (by decide) ?_
    refine ar_istore_n (i := 1) (lo2 := [_, _]) dX5_init_83 rfl (Nat.le_of_ble_eq_true rfl) rfl rfl ?_
    exact c_X5_84 hw k 4 0 S J (by omega) hI
  | succ l ih =>
    intro i S J hi hI
    obtain ⟨i1, i2, i3, i4, i5⟩ := id hI
    have hrd : isRd (w + 4 + i) := ⟨w, i, hw, by omega, rfl⟩
    refine ar_iload_n (i := 1) dX5_init_56 rfl rfl ?_
    refine ar_bipush (v := 8) dX5_init_57 (by decide) ?_
    refine ar_icmp_ge (tgt := 82) dX5_init_59 (by decide) (fun q => absurd q (nI_ge (b := 8) (by omega) (by omega))) (fun _ => ?_)
    refine ar_aload_n (i := 0) dX5_init_62 rfl rfl ?_
    have g6 : S w 6 = w + 2 := by rw [(i2 w 6 (by omega) (by omega) (by omega) (by omega)).1, crg_w hw]; rfl
    refine ar_getR (t := 5) (j := 6) (r := w + 2) dX5_init_63 fs_X5_33 (hp_o hw.o (by omega)) rfl g6 (by omega) ?_
    refine ar_iload_n (i := 1) dX5_init_66 rfl rfl ?_
    refine hr_new (t := 2) dX5_init_67 (by decide) nw_X5_31 (by show 3 + i + 1 ≤ 19; omega) (by show 19 + 6 * i + 6 ≤ 123; omega) ?_ (fun j => i5 _ j (by omega)) ?_
    · have key : ∀ i, i < 8 → shp (4 + 4 + i) = (5, 0) ∧ shp (24 + 4 + i) = (5, 0) ∧ shp (44 + 4 + i) = (5, 0) := by decide +kernel
      obtain ⟨q1, q2, q3⟩ := key i (by omega)
      rcases hw with rfl | rfl | rfl <;> assumption
    refine ar_dup dX5_init_70 rfl ?_
    refine ar_iload_n (i := 1) dX5_init_71 rfl rfl ?_
    refine ar_callI (M' := mX2_init) (B' := (0, 0)) (n := 1) (k := w + 4 + i) [.int (nI i)] dX5_init_72 (by first | exact Or.inl ml_X5_43 | exact Or.inr ⟨_, ml_X5_43⟩) mv_X2_init rfl rfl (Nat.le_of_ble_eq_true rfl) ⟨by show 3 + i + 1 + 0 ≤ 19; omega, by show 19 + 6 * i + 6 + 0 ≤ 123; omega⟩ ?_
    refine c_X2_init hrd (by omega) (fun j => (i5 _ j (by omega)).2) (fun J' f1 f2 => ?_)
    show am_G E (d + 2) (19, 123) mX5_init (3 + i + 1) (19 + 6 * i + 6) 75 [some (.ref w), some (.int (nI i))] [.ref (w + 4 + i), .int (nI i), .ref (w + 2)] (hp (w + 4 + i + 1) S J') Q
    refine ar_aast (t := 0) (u := 2) (q := (RX2, TX2, 6)) dX5_init_75 (by decide) (hp_q hw.q2 (by omega)) (vp_in_nI (by omega) (by decide)) rfl rfl (hp_o hrd.o (by omega)) ?_
    rw [nI_clamp (by omega)]
    refine ar_iinc (i := 1) (v := nI (i + 1)) (lo2 := [some (.ref w), some (.int (nI (i + 1)))]) dX5_init_76 rfl (by rw [ii_1, nI_1]) (Nat.le_of_ble_eq_true rfl) rfl rfl ?_
    refine ar_goto (tgt := 56) dX5_init_79 (by decide) ?_
    show am_G E (d + 2) (19, 123) mX5_init (3 + i + 1) (19 + 6 * i + 6) 56 [some (.ref w), some (.int (nI (i + 1)))] [] (hp (w + 4 + i + 1) (uR S (w + 2) i (w + 4 + i)) J') Q
    have fin := ih (i + 1) (uR S (w + 2) i (w + 4 + i)) J' (by omega) ⟨fun a j h => ?_, fun a j h1 h2 h3 h4 => ?_, fun j => ?_, fun j => ?_, fun a j h => ?_⟩
    · rw [show w + 4 + (i + 1) = w + 4 + i + 1 by omega, show 3 + (i + 1) = 3 + i + 1 by omega, show 19 + 6 * (i + 1) = 19 + 6 * i + 6 by omega] at fin
      exact fin
    · rw [uR_ne (by omega), f1 a j (by omega)]; exact i1 a j h
    · rw [uR_ne h3]
      by_cases e : a = w + 4 + i
      · subst e
        rw [crg_rd hw (by omega), cin_rd hw (by omega)]
        exact ⟨(i5 _ j (by omega)).1, f2 j⟩
      · rw [f1 a j e]
        exact i2 a j h1 (by omega) h3 h4
    · rw [uR_eq, f1 _ j (by omega)]
      refine ⟨?_, (i3 j).2⟩
      rw [(i3 j).1]
      by_cases e : j = i
      · subst e; rw [if_pos rfl, if_pos (by omega)]
      · rw [if_neg e]
        by_cases z : j < i
        · rw [if_pos z, if_pos (by omega)]
        · rw [if_neg z, if_neg (by omega)]
    · rw [uR_ne (by omega), f1 _ j (by omega)]; exact i4 j
    · rw [uR_ne (by omega), f1 a j (by omega)]; exact i5 a j (by omega)
theorem c_X5_init {w : Nat} (hw : isWd w) (hz : ∀ a j, w ≤ a → R a j = 0 ∧ I a j = 0) (k : ∀ R' I', bt w (w + 20) R R' I I' → Q none (hp (w + 20) R' I')) : am_Mt E (d + 2) (19, 123) mX5_init [.ref w] (hp (w + 1) R I) Q := by
  refine am_ofG [some (.ref w), none] (by decide) rfl (Nat.le_of_ble_eq_true rfl) ?_
  refine ar_aload_n (i := 0) dX5_init_0 rfl rfl ?_
  refine ar_objInit dX5_init_1 ml_X5_3 jo_init.1 jo_init.2 (Nat.le_of_ble_eq_true rfl) ?_
  refine ar_aload_n (i := 0) dX5_init_4 rfl rfl ?_
  refine ar_iconst (v := 0) dX5_init_5 (by decide) ?_
  refine hr_putI (t := 5) (j := 0) dX5_init_6 (Or.inl fq_X5_9) hw.o (by omega) rfl (Or.inl rfl) ?_
  refine ar_aload_n (i := 0) dX5_init_9 rfl rfl ?_
  refine ar_iconst (v := 0) dX5_init_10 (by decide) ?_
  refine hr_putI (t := 5) (j := 1) dX5_init_11 (Or.inl fq_X5_15) hw.o (by omega) rfl (Or.inl rfl) ?_
  refine ar_aload_n (i := 0) dX5_init_14 rfl rfl ?_
  refine ar_iconst (v := 0) dX5_init_15 (by decide) ?_
  refine hr_putI (t := 5) (j := 2) dX5_init_16 (Or.inl fq_X5_18) hw.o (by omega) rfl (Or.inl rfl) ?_
  refine ar_aload_n (i := 0) dX5_init_19 rfl rfl ?_
  refine ar_iconst (v := 0) dX5_init_20 (by decide) ?_
  refine hr_putI (t := 5) (j := 3) dX5_init_21 (Or.inl fq_X5_21) hw.o (by omega) rfl (Or.inl rfl) ?_
  refine ar_aload_n (i := 0) dX5_init_24 rfl rfl ?_
  refine ar_iconst (v := 0) dX5_init_25 (by decide) ?_
  refine hr_putI (t := 5) (j := 4) dX5_init_26 (Or.inl fq_X5_24) hw.o (by omega) rfl (Or.inl rfl) ?_
  refine ar_aload_n (i := 0) dX5_init_29 rfl rfl ?_
  refine ar_bipush (v := 7) dX5_init_30 (by decide) ?_
  refine hr_newa (N := 7) dX5_init_32 (by decide) (by decide) (by decide) (by decide) (by decide) hw.a1.2.2 (fun j => ⟨(hz _ _ (by omega)).1, by (repeat rw [uI_ne (by omega)]); exact (hz _ _ (by omega)).2⟩) ?_
  refine hr_putR (t := 5) (j := 5) dX5_init_34 (Or.inr ⟨fp_X5_27, rfl⟩) hw.o (by omega) (Or.inr ⟨.int, rfl⟩) (by omega) ?_
  refine ar_aload_n (i := 0) dX5_init_37 rfl rfl ?_
  refine ar_bipush (v := 8) dX5_init_38 (by decide) ?_
  refine hr_newq (t := 0) (N := 8) (C := RX2) dX5_init_40 (by decide) rfl kl_X5_31 ov_X2 (by decide) (by decide) (by decide) (by decide) (by decide) hw.q2.2.2 (fun j => ⟨by (repeat rw [uR_ne (by omega)]); exact (hz _ _ (by omega)).1, by (repeat rw [uI_ne (by omega)]); exact (hz _ _ (by omega)).2⟩) ?_
  refine hr_putR (t := 5) (j := 6) dX5_init_43 (Or.inr ⟨fp_X5_33, rfl⟩) hw.o (by omega) (Or.inr ⟨_, rfl⟩) (by omega) ?_
  refine ar_aload_n (i := 0) dX5_init_46 rfl rfl ?_
  refine ar_iconst (v := 4) dX5_init_47 (by decide) ?_
  refine hr_newq (t := 1) (N := 4) (C := RX1) dX5_init_48 (by decide) rfl kl_X5_37 ov_X1 (by decide) (by decide) (by decide) (by decide) (by decide) hw.q3.2.2 (fun j => ⟨by (repeat rw [uR_ne (by omega)]); exact (hz _ _ (by omega)).1, by (repeat rw [uI_ne (by omega)]); exact (hz _ _ (by omega)).2⟩) ?_
  refine hr_putR (t := 5) (j := 7) dX5_init_51 (Or.inr ⟨fp_X5_39, rfl⟩) hw.o (by omega) (Or.inr ⟨_, rfl⟩) (by omega) ?_
  refine ar_iconst (v := 0) dX5_init_54 (by decide) ?_
  refine ar_istore_n (i := 1) (lo2 := [_, _]) dX5_init_55 rfl (Nat.le_of_ble_eq_true rfl) rfl rfl ?_
  refine c_X5_56 hw k 8 0 _ _ (by omega) ⟨fun a j h => ⟨?_, ?_⟩, fun a j h1 h2 h3 h4 => ?_, fun j => ?_, fun j => ?_, fun a j h => ⟨?_, ?_⟩⟩
  · repeat rw [uR_ne (by omega)]
  · repeat rw [uI_ne (by omega)]
  · by_cases e : a = w
    · subst e
      rw [crg_w hw, cin_w hw (by omega) (by omega) (by omega)]
      simp only [uR_eq, uI_eq]
      rw [(hz a j (by omega)).1, (hz a j (by omega)).2]
      refine ⟨?_, ?_⟩
      · by_cases e5 : j = 5
        · subst e5; rfl
        · by_cases e6 : j = 6
          · subst e6; rfl
          · by_cases e7 : j = 7
            · subst e7; rfl
            · simp [e5, e6, e7]
      · repeat' split
        all_goals rfl
    · have e1 : a = w + 1 := by omega
      subst e1
      rw [crg_ar (by rw [hw.a1.2.2]), cin_w hw (by omega) (by omega) (by omega)]
      refine ⟨?_, ?_⟩
      · (repeat rw [uR_ne (by omega)]); exact (hz _ _ (by omega)).1
      · (repeat rw [uI_ne (by omega)]); exact (hz _ _ (by omega)).2
  · rw [if_neg (by omega)]
    refine ⟨?_, ?_⟩
    · (repeat rw [uR_ne (by omega)]); exact (hz _ _ (by omega)).1
    · (repeat rw [uI_ne (by omega)]); exact (hz _ _ (by omega)).2
  · rw [if_neg (by omega)]
    refine ⟨?_, ?_⟩
    · (repeat rw [uR_ne (by omega)]); exact (hz _ _ (by omega)).1
    · (repeat rw [uI_ne (by omega)]); exact (hz _ _ (by omega)).2
  · (repeat rw [uR_ne (by omega)]); exact (hz _ _ (by omega)).1
  · (repeat rw [uI_ne (by omega)]); exact (hz _ _ (by omega)).2
end CT2
