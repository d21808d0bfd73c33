/-! the class's own constructor; both objects -/
/-- n cells are made, the first object has f references -/
def cG (n f : Nat) (R : Nat → Nat → Nat) (I : Nat → Nat → Int32) : Prop := (∀ a j, 2 ≤ a → a < n → R a j = crg a j ∧ I a j = cin a j) ∧ (∀ a j, n ≤ a → R a j = 0 ∧ I a j = 0) ∧ (∀ j, R 1 j = (if j < f then crg 1 j else 0) ∧ I 1 j = 0) ∧ ∀ j, R 0 j = 0 ∧ I 0 j = 0
theorem cG_step {n N f : Nat} {R R' : Nat → Nat → Nat} {I I' : Nat → Nat → Int32} (hn : 2 ≤ n) (hN : n < N) (H : cG n f R I) (hb : bt n N R R' I I') (hf : crg 1 f = n) : cG N (f + 1) (uR R' 1 f n) I' := by
  obtain ⟨g1, g2, g3, g4⟩ := H
  obtain ⟨b1, b2, b3⟩ := hb
  refine ⟨fun a j h1 h2 => ?_, fun a j h => ?_, fun j => ?_, fun j => ?_⟩
  · rw [uR_ne (by omega)]
    rcases Nat.lt_or_ge a n with q | q
    · rw [(b1 a j q).1, (b1 a j q).2]; exact g1 a j h1 q
    · exact b2 a j q h2
  · rw [uR_ne (by omega)]; exact b3 a j h
  · rw [uR_eq, (b1 1 j (by omega)).1, (b1 1 j (by omega)).2]
    refine ⟨?_, (g3 j).2⟩
    rw [(g3 j).1]
    by_cases e : j = f
    · subst e; rw [if_pos rfl, if_pos (by omega), hf]
    · rw [if_neg e]
      by_cases z : j < f
      · rw [if_pos z, if_pos (by omega)]
      · rw [if_neg z, if_neg (by omega)]
  · rw [uR_ne (by omega), (b1 0 j (by omega)).1, (b1 0 j (by omega)).2]; exact g4 j
theorem uI_0 {I : Nat → Nat → Int32} {k j : Nat} (h : I k j = 0) : uI I k j 0 = I := by
  funext a i
  unfold uI
  by_cases q : a = k ∧ i = j
  · rw [if_pos q, q.1, q.2, h]
  · rw [if_neg q]
section CT3
variable {E : am_E} {d : Nat} {R : Nat → Nat → Nat} {I : Nat → Nat → Int32} {Q : Option Value → AH → Prop}
set_option maxRecDepth 100000 in
theorem c_X6_init (hz : ∀ a j, R a j = 0 ∧ I a j = 0) (k : ∀ R' I', cG 78 6 R' I' → Q none (hp 78 R' I')) : am_Mt E (d + 3) (76, 10299) mX6_init [.ref 1] (hp 2 R I) Q := by
  have G0 : cG 2 0 R I := ⟨fun a j h1 h2 => absurd h2 (by omega), fun a j _ => hz a j, fun j => ⟨by rw [if_neg (by omega)]; exact (hz 1 j).1, (hz 1 j).2⟩, fun j => hz 0 j⟩
  refine am_ofG [some (.ref 1)] (by decide) rfl (Nat.le_of_ble_eq_true rfl) ?_
  refine ar_aload_n (i := 0) dX6_init_0 rfl rfl ?_
  refine ar_objInit dX6_init_1 ml_X6_1 jo_init.1 jo_init.2 (Nat.le_of_ble_eq_true rfl) ?_
  -- the page
  refine ar_aload_n (i := 0) dX6_init_4 rfl rfl ?_
  refine hr_new (t := 0) dX6_init_5 (by decide) nw_X6_7 (by decide) (by decide) rfl (fun j => G0.2.1 2 j (by omega)) ?_
  refine ar_dup dX6_init_8 rfl ?_
  refine ar_callI (M' := mX0_init) (B' := (1, 44)) (n := 0) (k := 2) (st := [.ref 2, .ref 1]) [] dX6_init_9 (Or.inr ⟨_, ml_X6_9⟩) mv_X0_init rfl rfl (Nat.le_of_ble_eq_true rfl) (by decide) ?_
  refine c_X0_init (fun a j h => G0.2.1 a j h) (fun R1 I1 b1 => ?_)
  refine hr_putR (t := 6) (j := 0) (k := 1) (r := 2) (st := []) dX6_init_12 (Or.inr ⟨fp_X6_10, rfl⟩) o_1 (by decide) (Or.inl ⟨_, rfl⟩) (by decide) ?_
  have G1 := cG_step (by decide) (by decide) G0 b1 (by decide)
  generalize uR R1 1 0 2 = S1 at G1 ⊢
  -- the worlds
  refine ar_aload_n (i := 0) dX6_init_15 rfl rfl ?_
  refine hr_new (t := 5) dX6_init_16 (by decide) nw_X6_16 (by decide) (by decide) rfl (fun j => G1.2.1 4 j (by omega)) ?_
  refine ar_dup dX6_init_19 rfl ?_
  refine ar_callI (M' := mX5_init) (B' := (19, 123)) (n := 0) (k := 4) (st := [.ref 4, .ref 1]) [] dX6_init_20 (Or.inl ml_X6_18) mv_X5_init rfl rfl (Nat.le_of_ble_eq_true rfl) (by decide) ?_
  refine c_X5_init (Or.inl rfl) (fun a j h => G1.2.1 a j h) (fun R2 I2 b2 => ?_)
  refine hr_putR (t := 6) (j := 1) (k := 1) (r := 4) (st := []) dX6_init_23 (Or.inr ⟨fp_X6_19, rfl⟩) o_1 (by decide) (Or.inl ⟨_, rfl⟩) (by decide) ?_
  have G2 := cG_step (by decide) (by decide) G1 b2 (by decide)
  generalize uR R2 1 1 4 = S2 at G2 ⊢
  refine ar_aload_n (i := 0) dX6_init_26 rfl rfl ?_
  refine hr_new (t := 5) (n := 24) dX6_init_27 (by decide) nw_X6_16 (by decide) (by decide) rfl (fun j => G2.2.1 24 j (by omega)) ?_
  refine ar_dup dX6_init_30 rfl ?_
  refine ar_callI (M' := mX5_init) (B' := (19, 123)) (n := 0) (k := 24) (st := [.ref 24, .ref 1]) [] dX6_init_31 (Or.inl ml_X6_18) mv_X5_init rfl rfl (Nat.le_of_ble_eq_true rfl) (by decide) ?_
  refine c_X5_init (w := 24) (Or.inr (Or.inl rfl)) (fun a j h => G2.2.1 a j h) (fun R3 I3 b3 => ?_)
  refine hr_putR (t := 6) (j := 2) (k := 1) (r := 24) (st := []) dX6_init_34 (Or.inr ⟨fp_X6_23, rfl⟩) o_1 (by decide) (Or.inl ⟨_, rfl⟩) (by decide) ?_
  have G3 := cG_step (by decide) (by decide) G2 b3 (by decide)
  generalize uR R3 1 2 24 = S3 at G3 ⊢
  refine ar_aload_n (i := 0) dX6_init_37 rfl rfl ?_
  refine hr_new (t := 5) (n := 44) dX6_init_38 (by decide) nw_X6_16 (by decide) (by decide) rfl (fun j => G3.2.1 44 j (by omega)) ?_
  refine ar_dup dX6_init_41 rfl ?_
  refine ar_callI (M' := mX5_init) (B' := (19, 123)) (n := 0) (k := 44) (st := [.ref 44, .ref 1]) [] dX6_init_42 (Or.inl ml_X6_18) mv_X5_init rfl rfl (Nat.le_of_ble_eq_true rfl) (by decide) ?_
  refine c_X5_init (w := 44) (Or.inr (Or.inr rfl)) (fun a j h => G3.2.1 a j h) (fun R4 I4 b4 => ?_)
  refine hr_putR (t := 6) (j := 3) (k := 1) (r := 44) (st := []) dX6_init_45 (Or.inr ⟨fp_X6_26, rfl⟩) o_1 (by decide) (Or.inl ⟨_, rfl⟩) (by decide) ?_
  have G4 := cG_step (by decide) (by decide) G3 b4 (by decide)
  generalize uR R4 1 3 44 = S4 at G4 ⊢
  -- the search
  refine ar_aload_n (i := 0) dX6_init_48 rfl rfl ?_
  refine hr_new (t := 4) (n := 64) dX6_init_49 (by decide) nw_X6_29 (by decide) (by decide) rfl (fun j => G4.2.1 64 j (by omega)) ?_
  refine ar_dup dX6_init_52 rfl ?_
  refine ar_callI (M' := mX4_init) (B' := (6, 3620)) (n := 0) (k := 64) (st := [.ref 64, .ref 1]) [] dX6_init_53 (Or.inr ⟨_, ml_X6_31⟩) mv_X4_init rfl rfl (Nat.le_of_ble_eq_true rfl) (by decide) ?_
  refine c_X4_init (fun a j h => G4.2.1 a j h) (fun R5 I5 b5 => ?_)
  refine hr_putR (t := 6) (j := 4) (k := 1) (r := 64) (st := []) dX6_init_56 (Or.inr ⟨fp_X6_32, rfl⟩) o_1 (by decide) (Or.inl ⟨_, rfl⟩) (by decide) ?_
  have G5 := cG_step (by decide) (by decide) G4 b5 (by decide)
  generalize uR R5 1 4 64 = S5 at G5 ⊢
  -- the rows
  refine ar_aload_n (i := 0) dX6_init_59 rfl rfl ?_
  refine hr_new (t := 3) (n := 71) dX6_init_60 (by decide) nw_X6_36 (by decide) (by decide) rfl (fun j => G5.2.1 71 j (by omega)) ?_
  refine ar_dup dX6_init_63 rfl ?_
  refine ar_callI (M' := mX3_init) (B' := (6, 6213)) (n := 0) (k := 71) (st := [.ref 71, .ref 1]) [] dX6_init_64 (Or.inr ⟨_, ml_X6_38⟩) mv_X3_init rfl rfl (Nat.le_of_ble_eq_true rfl) (by decide) ?_
  refine c_X3_init (fun a j h => G5.2.1 a j h) (fun R6 I6 b6 => ?_)
  refine hr_putR (t := 6) (j := 5) (k := 1) (r := 71) (st := []) dX6_init_67 (Or.inr ⟨fp_X6_39, rfl⟩) o_1 (by decide) (Or.inl ⟨_, rfl⟩) (by decide) ?_
  have G6 := cG_step (by decide) (by decide) G5 b6 (by decide)
  generalize uR R6 1 5 71 = S6 at G6 ⊢
  refine ar_aload_n (i := 0) dX6_init_70 rfl rfl ?_
  refine ar_iconst (v := 0) dX6_init_71 (by decide) ?_
  refine hr_putI (t := 6) (j := 6) dX6_init_72 (Or.inl fq_X6_43) o_1 (by decide) rfl (Or.inr (Or.inl rfl)) ?_
  rw [uI_0 (G6.2.2.1 6).2]
  refine ar_aload_n (i := 0) dX6_init_75 rfl rfl ?_
  refine ar_iconst (v := 0) dX6_init_76 (by decide) ?_
  refine hr_putI (t := 6) (j := 7) dX6_init_77 (Or.inl fq_X6_47) o_1 (by decide) rfl (Or.inl rfl) ?_
  rw [uI_0 (G6.2.2.1 7).2]
  refine ar_aload_n (i := 0) dX6_init_80 rfl rfl ?_
  refine ar_iconst (v := 0) dX6_init_81 (by decide) ?_
  refine hr_putI (t := 6) (j := 8) dX6_init_82 (Or.inl fq_X6_51) o_1 (by decide) rfl (Or.inl rfl) ?_
  rw [uI_0 (G6.2.2.1 8).2]
  refine ar_vret dX6_init_85 rfl (by decide) (by decide) ?_
  exact k _ _ G6
end CT3
/-- the start of both -/
def f0 : FH := (cin, fun j => crg 71 j, 0)
theorem hp_em {R : Nat → Nat → Nat} {I : Nat → Nat → Int32} (hR : ∀ a j, R a j = crg a j) (hI : ∀ a j, I a j = cin a j) : hp 96 R I = em f0 := by
  unfold hp em f0
  refine Prod.ext rfl (Prod.ext ?_ (Prod.ext ?_ (Prod.ext ?_ ?_)))
  · funext a
    show (if a < 96 then shp a else (0, 0)) = shp a
    by_cases h : a < 96
    · rw [if_pos h]
    · rw [if_neg h]
      unfold shp
      rw [List.getD_eq_getElem?_getD, List.getElem?_eq_none (by show shpL.length ≤ a; exact Nat.le_of_not_lt h)]
      rfl
  · funext a j
    exact hI a j
  · funext a j
    show R a j = frf _ a j
    rw [hR a j]
    unfold frf
    by_cases q : a = 71 ∧ 4 ≤ j ∧ j ≤ 7
    · rw [if_pos q, q.1]
    · rw [if_neg q]
      unfold crg
      rw [if_neg q]
  · funext a
    show (0 : Int64) = if a = 78 then 0 else 0
    split <;> rfl
theorem inv_f0 : inv 0 f0 := by
  have c0 : ∀ a j, a < 96 → j < 36 → f0.1 a j = cin a j := fun _ _ _ _ => rfl
  refine ⟨⟨0, by decide, rfl, rfl, fun i h => absurd h (by omega)⟩, ⟨0, by decide, rfl, rfl, rfl⟩, fun w hw i hi => ?_, 0, 0, 0, ⟨⟨by decide, by decide, by decide, rfl, rfl, rfl, fun i h => absurd h (by omega), fun i h => absurd h (by omega), fun i h => absurd h (by omega), 0, by decide, rfl⟩, ⟨fun i h => absurd h (by omega), fun i h => absurd h (by omega), fun i h => absurd h (by omega)⟩, rfl, rfl, rfl, rfl, rfl⟩, ⟨0, by decide, rfl, rfl, Or.inl ⟨rfl, Or.inl rfl⟩⟩, ⟨⟨Or.inl ⟨rfl, rfl⟩, Or.inl ⟨rfl, rfl⟩⟩, Or.inl rfl⟩⟩
  show cin (w + 4 + i) 0 = nI i
  rw [cin_rd hw hi]
  rfl
