/-! the law: its loop, its entry -/
section LE
variable {E : am_E} {B : Nat × Nat} {nm : String} {cs ss : Nat}
theorem lw_loop (hL : E.2.2.2.2.1 ≤ 256) (hB : cs ≤ B.1 ∧ ss ≤ B.2) : ∀ l c σ, c + l = 64 → inv c σ → fGB E 9 B (mLn nm) cs ss 18 (llo c) [] σ (qi (fun x _ => x = 1)) := by
  intro l
  induction l with
  | zero =>
    intro c σ hc h
    refine ar_iload_n (i := 3) dL_law_18 rfl rfl ?_
    refine ar_aload_n (i := 0) dL_law_19 rfl rfl ?_
    refine ar_slen dL_law_20 ?_
    refine ar_iconst (v := 4) dL_law_21 (by decide) ?_
    refine ar_isub dL_law_22 ?_
    refine ar_icmp_gt (tgt := 847) dL_law_23 (by decide) (fun q => ?_) (fun q => ?_)
    · refine ar_iconst (v := 1) dL_law_847 (by decide) ?_
      exact fr_zret dL_law_848 rfl hB.1 hB.2 (Or.inr rfl) rfl
    · have e := pk_sub_toInt (a := E.2.2.2.2.1) (b := 4) (by omega) (by decide)
      have q2 := fa_of_nlt q
      rw [fa_le, nI_toInt (by omega)] at q2
      have e2 : (Int32.ofNat E.2.2.2.2.1 - 4).toInt = (E.2.2.2.2.1 : Int) - (4 : Nat) := e
      rw [e2] at q2
      omega
  | succ l ih =>
    intro c σ hc h
    refine ar_iload_n (i := 3) dL_law_18 rfl rfl ?_
    refine ar_aload_n (i := 0) dL_law_19 rfl rfl ?_
    refine ar_slen dL_law_20 ?_
    refine ar_iconst (v := 4) dL_law_21 (by decide) ?_
    refine ar_isub dL_law_22 ?_
    refine ar_icmp_gt (tgt := 847) dL_law_23 (by decide) (fun q => ?_) (fun q => ?_)
    · refine ar_iconst (v := 1) dL_law_847 (by decide) ?_
      exact fr_zret dL_law_848 rfl hB.1 hB.2 (Or.inr rfl) rfl
    · have e := pk_sub_toInt (a := E.2.2.2.2.1) (b := 4) (by omega) (by decide)
      have q2 := fa_of_nlt q
      rw [fa_le, nI_toInt (by omega)] at q2
      have e2 : (Int32.ofNat E.2.2.2.2.1 - 4).toInt = (E.2.2.2.2.1 : Int) - (4 : Nat) := e
      rw [e2] at q2
      have hin := lw_in (c := c) hL (by omega)
      refine ar_aload_n (i := 0) dL_law_26 rfl rfl ?_
      refine ar_iload_n (i := 3) dL_law_27 rfl rfl ?_
      refine ar_sld dL_law_28 hin.1 ?_
      refine ar_bipush (v := 31) dL_law_29 (by decide) ?_
      refine ar_iand dL_law_31 ?_
      obtain ⟨j, hj, ej⟩ := pk_andE (E.2.2.2.2.2.1 (nI (4 * c)).toNatClampNeg) (m := 31) 5 (by decide)
      rw [ej]
      refine lw_sw (by omega) hB hin h hj (fun σ' h' => ?_)
      refine ar_iinc (i := 3) (v := nI (4 * (c + 1))) (lo2 := llo (c + 1)) dL_law_841 rfl (by rw [ii_4, show (4 : Int32) = nI 4 from rfl, nI_add]; rfl) (Nat.le_of_ble_eq_true rfl) rfl rfl ?_
      refine ar_goto (tgt := 18) dL_law_844 (by decide) ?_
      exact ih (c + 1) σ' (by omega) h'
theorem crg_1 {j : Nat} (h : 6 ≤ j) : crg 1 j = 0 := by
  rcases Nat.lt_or_ge j 36 with q | q
  · have key : ∀ j, j < 36 → 6 ≤ j → crg 1 j = 0 := by decide +kernel
    exact key j q h
  · exact crg_hi q
theorem shp_96 {a : Nat} (h : 96 ≤ a) : shp a = (0, 0) := by
  unfold shp
  rw [List.getD_eq_getElem?_getD, List.getElem?_eq_none (by show shpL.length ≤ a; exact h)]
  rfl
theorem lw_made {R R' : Nat → Nat → Nat} {I I' : Nat → Nat → Int32} (G : cG 78 6 R I) (b : bt 78 96 R R' I I') : hp 96 R' I' = em f0 := by
  obtain ⟨g1, g2, g3, g4⟩ := G
  obtain ⟨b1, b2, b3⟩ := b
  have all : ∀ a j, R' a j = crg a j ∧ I' a j = cin a j := by
    intro a j
    rcases Nat.lt_or_ge a 78 with q | q
    · rw [(b1 a j q).1, (b1 a j q).2]
      rcases Nat.lt_or_ge a 2 with q2 | q2
      · rcases (show a = 0 ∨ a = 1 by omega) with rfl | rfl
        · rw [crg_ar rfl, cin_z (by omega) (by omega) (by omega) (by omega)]
          exact g4 j
        · rw [cin_z (by omega) (by omega) (by omega) (by omega)]
          refine ⟨?_, (g3 j).2⟩
          rw [(g3 j).1]
          by_cases z : j < 6
          · rw [if_pos z]
          · rw [if_neg z, crg_1 (by omega)]
      · exact g1 a j q2 q
    · rcases Nat.lt_or_ge a 96 with q2 | q2
      · exact b2 a j q q2
      · rw [crg_ar (by rw [shp_96 q2]), cin_z (by omega) (by omega) (by omega) (by omega)]
        exact b3 a j q2
  exact hp_em (fun a j => (all a j).1) (fun a j => (all a j).2)
set_option maxRecDepth 100000 in
/-- the law's body -/
theorem lw_body (hL : E.2.2.2.2.1 ≤ 256) : am_G E 9 (600000, 7302250) (mLn nm) 0 0 0 [some (.ref 0), none, none, none] [] (hp 1 (fun _ _ => 0) (fun _ _ => 0)) (eQ (qi (fun x _ => x = 1))) := by
  refine hr_new (t := 6) (n := 1) dL_law_0 (by decide) nw_L_7 (by decide) (by decide) rfl (fun j => ⟨rfl, rfl⟩) ?_
  refine ar_dup dL_law_3 rfl ?_
  refine ar_callI (d := 8) (M' := mX6_init) (B' := (76, 10299)) (n := 0) (k := 1) (st := [.ref 1]) [] dL_law_4 (Or.inl ml_L_9) mv_X6_init rfl rfl (Nat.le_of_ble_eq_true rfl) (by decide) ?_
  refine c_X6_init (fun _ _ => ⟨rfl, rfl⟩) (fun R I G => ?_)
  refine ar_astore_n (i := 1) (x := 1) (st := []) (lo2 := [some (.ref 0), some (.ref 1), none, none]) dL_law_7 rfl (Nat.le_of_ble_eq_true rfl) rfl rfl ?_
  refine hr_new (t := 7) (n := 78) dL_law_8 (by decide) nw_L_10 (by decide) (by decide) rfl (fun j => G.2.1 78 j (by omega)) ?_
  refine ar_dup dL_law_11 rfl ?_
  refine ar_callI (d := 8) (M' := mX7_init) (B' := (17, 37200)) (n := 0) (k := 78) (st := [.ref 78]) [] dL_law_12 (Or.inl ml_L_12) mv_X7_init rfl rfl (Nat.le_of_ble_eq_true rfl) (by decide) ?_
  refine c_X7_init (fun a j h => G.2.1 a j h) (fun R' I' b => ?_)
  rw [lw_made G b]
  refine ar_astore_n (i := 2) (x := 78) (st := []) (lo2 := [some (.ref 0), some (.ref 1), some (.ref 78), none]) dL_law_15 rfl (Nat.le_of_ble_eq_true rfl) rfl rfl ?_
  refine ar_iconst (v := 0) dL_law_16 (by decide) ?_
  refine ar_istore_n (i := 3) (lo2 := llo 0) dL_law_17 rfl (Nat.le_of_ble_eq_true rfl) rfl rfl ?_
  exact lw_loop hL (by decide) 64 0 f0 (by omega) inv_f0
end LE
