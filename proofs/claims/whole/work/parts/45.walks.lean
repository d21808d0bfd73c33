/-! walks, walksBy, last -/
theorem rl_of {c nr np nl : Nat} {σ : FH} (iW : iWd c nr np nl σ) : ∃ A B : Nat → Nat, rc_W nr A B (rwWt σ) σ ∧ md_W nr A B (rwWt σ) σ ∧ rwOf σ nr nl = (rl nr A B (fun i => σ.1 5 i) nl).map (fun q => (q, nI (rl_p A B q))) ∧ ∀ i, i < nl → σ.1 87 i = σ.1 5 i := by
  obtain ⟨⟨a1, a2, a3, a4, a5, a6, a7, a8, a9, a10⟩, ⟨b1, b2, b3⟩, b4, b5, b6, b7, b8⟩ := iW
  have rd : ∀ r, r < nr → (σ.1 (8 + r) 2).toNatClampNeg < 6 ∧ (σ.1 (8 + r) 3).toNatClampNeg < 6 ∧ rwWt σ r ≤ 4 ∧ σ.1 (8 + r) 2 = nI (σ.1 (8 + r) 2).toNatClampNeg ∧ σ.1 (8 + r) 3 = nI (σ.1 (8 + r) 3).toNatClampNeg ∧ wrt (σ.1 (8 + r) 1) (σ.1 (8 + r) 5) = nI (rwWt σ r) := by
    intro r hr
    obtain ⟨g1, g2, g3, _, _, g5⟩ := a7 r hr
    rw [show 4 + 4 + r = 8 + r by omega] at g1 g2 g3 g5
    obtain ⟨x, hx, ex⟩ := vp_in_of g2 (by decide)
    obtain ⟨y, hy, ey⟩ := vp_in_of g3 (by decide)
    obtain ⟨w, hw, ew⟩ := wrt_n g1 g5
    unfold rwWt
    rw [ex, ey, ew, nI_clamp (by omega), nI_clamp (by omega), nI_clamp (by omega)]
    exact ⟨hx, hy, hw, rfl, rfl, rfl⟩
  refine ⟨fun r => (σ.1 (8 + r) 2).toNatClampNeg, fun r => (σ.1 (8 + r) 3).toNatClampNeg, ⟨a1, a4, rd⟩, ⟨a1, b4, fun r hr => ?_⟩, ?_, fun i hi => b3 i hi⟩
  · obtain ⟨e1, e2, e3, e4, e5, e6⟩ := rd r hr
    obtain ⟨g1, g2, g3, _, _, g5⟩ := a7 r hr
    obtain ⟨r0, r1, r2, r3, r4⟩ := b1 r hr
    rw [show 4 + 4 + r = 8 + r by omega] at g1 g2 g3 g5 r0 r1 r2 r3 r4
    rw [r0, r1, r2, r4]
    exact ⟨e1, e2, e3, e4, e5, e6, g1, g5⟩
  · unfold rwOf
    exact rl_rwk (fun r hr => ⟨(rd r hr).1, (rd r hr).2.2.2.1⟩) (fun r hr => ⟨(rd r hr).2.1, (rd r hr).2.2.2.2.1⟩) nl
/-- the two ways to say which road was the last -/
def rwB (L : List (List Nat)) (wt : Nat → Nat) (v : Int32) : Prop := (∃ i, i < 8 ∧ (L ≠ [] ∧ ∀ q, q ∈ L → rwL wt q = some i) ∧ v = nI i) ∨ ((∀ i, i < 8 → ¬ (L ≠ [] ∧ ∀ q, q ∈ L → rwL wt q = some i)) ∧ v = -1)
theorem rwA_of {L : List (List Nat)} {wt wt' : Nat → Nat} {g : List Nat → Int32} {v : Int32} (hw : ∀ q, q ∈ L → rwL wt' q = rwL wt q) (h : rwB L wt v) : rwA (L.map (fun q => (q, g q))) wt' v := by
  have mm : ∀ i, (L.map (fun q => (q, g q)) ≠ [] ∧ ∀ x, x ∈ L.map (fun q => (q, g q)) → rwL wt' x.1 = some i) ↔ (L ≠ [] ∧ ∀ q, q ∈ L → rwL wt q = some i) := by
    intro i
    refine and_congr ?_ ?_
    · simp
    · constructor
      · intro hx q hq
        rw [← hw q hq]
        exact hx (q, g q) (List.mem_map.mpr ⟨q, hq, rfl⟩)
      · intro hx x hx2
        obtain ⟨q, hq, rfl⟩ := List.mem_map.mp hx2
        rw [hw q hq]
        exact hx q hq
  rcases h with ⟨i, hi, h1, h2⟩ | ⟨h1, h2⟩
  · exact Or.inl ⟨i, hi, h2, ((mm i).mpr h1).1, ((mm i).mpr h1).2⟩
  · exact Or.inr ⟨h2, fun ⟨i, hi, h3⟩ => h1 i hi ((mm i).mp h3)⟩
theorem rwB_of {L : List (List Nat)} {wt wt' : Nat → Nat} {g : List Nat → Int32} {v : Int32} (hw : ∀ q, q ∈ L → rwL wt' q = rwL wt q) (h : rwA (L.map (fun q => (q, g q))) wt' v) : rwB L wt v := by
  have mm : ∀ i, (L.map (fun q => (q, g q)) ≠ [] ∧ ∀ x, x ∈ L.map (fun q => (q, g q)) → rwL wt' x.1 = some i) ↔ (L ≠ [] ∧ ∀ q, q ∈ L → rwL wt q = some i) := by
    intro i
    refine and_congr ?_ ?_
    · simp
    · constructor
      · intro hx q hq
        rw [← hw q hq]
        exact hx (q, g q) (List.mem_map.mpr ⟨q, hq, rfl⟩)
      · intro hx x hx2
        obtain ⟨q, hq, rfl⟩ := List.mem_map.mp hx2
        rw [hw q hq]
        exact hx q hq
  rcases h with ⟨i, hi, h2, h1⟩ | ⟨h2, h1⟩
  · exact Or.inl ⟨i, hi, (mm i).mp h1, h2⟩
  · exact Or.inr ⟨fun i hi h3 => h1 ⟨i, hi, (mm i).mpr h3⟩, h2⟩
theorem rwB_one {L : List (List Nat)} {wt : Nat → Nat} {v v' : Int32} (h : rwB L wt v) (h' : rwB L wt v') : v = v' := by
  rcases h with ⟨i, hi, h1, h2⟩ | ⟨h1, h2⟩
  · rcases h' with ⟨j, hj, h3, h4⟩ | ⟨h3, h4⟩
    · obtain ⟨q, hq⟩ := List.exists_mem_of_ne_nil _ h1.1
      have e := h1.2 q hq
      rw [h3.2 q hq] at e
      injection e with e
      rw [h2, h4, e]
    · exact absurd h1 (h3 i hi)
  · rcases h' with ⟨j, hj, h3, h4⟩ | ⟨h3, h4⟩
    · exact absurd h3 (h1 j hj)
    · rw [h2, h4]
section OPW
variable {E : am_E} {d c : Nat} {σ : FH} {Q : Int32 → FH → Prop} {QV : FH → Prop}
theorem c_tallyW {nr np nl : Nat} (iW : iWd c nr np nl σ) (iR : iRw nr nl σ) (k : ∀ σ', σ'.2.2 = σ.2.2 → (∀ a i, (a < 71 ∨ 78 ≤ a) → σ'.1 a i = σ.1 a i) → iRf σ' → σ'.1 71 9 = 1 → rwT nr nl σ' → QV σ') : fMv E (d + 4) mX3_tally [.ref 71, .ref 4] σ QV := by
  obtain ⟨A, B, wc, wm, eq, lg⟩ := rl_of iW
  obtain ⟨rf, h0 | ⟨h1, hT⟩⟩ := iR
  · refine c_tally (lg := fun i => σ.1 5 i) wc rf h0 iW.1.2.2.1 iW.1.2.2.2.2.2.1 (fun i hi => rfl) (fun s s22 sF sf s9 s0 sh sl => k s s22 sf sF s9 ?_)
    have e1 : rwOf s nr nl = rwOf σ nr nl := rwOf_cg (fun i j hi hj => sf _ _ (by have := iW.1.1; omega)) (fun i hi => sf _ _ (by omega))
    have ew : ∀ i, i < nr → rwWt s i = rwWt σ i := by
      intro i hi
      have := iW.1.1
      unfold rwWt
      rw [sf _ _ (by omega), sf _ _ (by omega)]
    have el : ∀ q, q ∈ rl nr A B (fun i => σ.1 5 i) nl → rwL (rwWt s) q = rwL (rwWt σ) q := fun q hq => rwL_cg ew q (rl_lt nl q hq)
    refine ⟨?_, fun h hh => ?_, ?_⟩
    · rw [e1, eq, List.length_map]; exact s0
    · rw [e1, eq, List.countP_map, sh h hh]
      congr 1
      refine List.countP_congr (fun q hq => ?_)
      show _ ↔ decide (rwH nr (rwWt s) q = h) = true
      rw [rwH_cg ew]
    · rw [e1, eq]
      refine rwA_of (fun q hq => ?_) sl
      rw [el q hq]
  · refine v_X3_tally (Or.inl rfl) ?_
    unfold t_X3_tally
    rw [h1]
    exact ⟨fun h => absurd h (by decide), fun _ => k σ rfl (fun _ _ _ => rfl) rf h1 hT⟩
/-- the state behind both: the class tallied, the reference laid its log -/
theorem walks_inv {nr np nl : Nat} {s t : FH} (iP : iPg σ) (iF : iFr σ) (iN : iNm σ) (iW : iWd c nr np nl σ) (iK : iKp c nr σ) (sf : ∀ a i, (a < 71 ∨ 78 ≤ a) → s.1 a i = σ.1 a i) (sF : iRf s) (s9 : s.1 71 9 = 1) (sT : rwT nr nl s) (t2 : t.2.1 = s.2.1) (tf : ∀ a i, a ≠ 88 → a ≠ 89 → t.1 a i = s.1 a i) : inv c t := by
  have fr : ∀ a i, (a < 71 ∨ 78 ≤ a) → a ≠ 88 → a ≠ 89 → t.1 a i = σ.1 a i := fun a i h1 h2 h3 => by rw [tf _ _ h2 h3, sf _ _ h1]
  obtain ⟨jP, jF, jN, jK⟩ := inv_keep iP iF iN iK (σ' := t) (fun a i h => fr a i (by omega) (by omega) (by omega))
  refine ⟨jP, jF, jN, nr, np, nl, iW.cg (fun k j h1 h2 => fr _ _ (by omega) (by omega) (by omega)) (fun j _ => fr _ _ (by omega) (by omega) (by omega)) (fun j => fr _ _ (by omega) (by omega) (by omega)) (fun j => fr _ _ (by omega) (by omega) (by omega)) (fun j => fr _ _ (by omega) (by omega) (by omega)) (fun j _ => fr _ _ (by omega) (by omega) (by omega)), jK, ⟨by unfold iRf; rw [t2]; exact sF, Or.inr ⟨by rw [tf _ _ (by omega) (by omega)]; exact s9, ?_⟩⟩⟩
  have n8 := iW.1.1
  exact sT.cg (fun i j hi _ => tf _ _ (by omega) (by omega)) (fun i _ => tf _ _ (by omega) (by omega)) (tf _ _ (by omega) (by omega)) (tf _ _ (by omega) (by omega)) (fun j => tf _ _ (by omega) (by omega))
/-- what the reference finds where the class has tallied -/
theorem rows_m {nr np nl : Nat} {s : FH} (iW : iWd c nr np nl σ) (sf : ∀ a i, (a < 71 ∨ 78 ≤ a) → s.1 a i = σ.1 a i) (sT : rwT nr nl s) : ∃ A B : Nat → Nat, md_W nr A B (rwWt σ) s ∧ s.1 78 20 = nI nl ∧ (∀ i, i < nl → s.1 87 i = (fun i => σ.1 5 i) i) ∧ s.1 71 0 = nI (rl nr A B (fun i => σ.1 5 i) nl).length ∧ (∀ h, h ≤ 60 → s.1 72 h = nI ((rl nr A B (fun i => σ.1 5 i) nl).countP (fun q => decide (nI (rwH nr (rwWt σ) q) = nI h)))) ∧ rwB (rl nr A B (fun i => σ.1 5 i) nl) (rwWt σ) (s.1 71 1) := by
  obtain ⟨A, B, wc, wm, eq, lg⟩ := rl_of iW
  obtain ⟨t1, t2, t3⟩ := sT
  have n8 := iW.1.1
  have e1 : rwOf s nr nl = rwOf σ nr nl := rwOf_cg (fun i j hi hj => sf _ _ (by omega)) (fun i hi => sf _ _ (by omega))
  have ew : ∀ i, i < nr → rwWt s i = rwWt σ i := by
    intro i hi
    unfold rwWt
    rw [sf _ _ (by omega), sf _ _ (by omega)]
  rw [e1, eq] at t1 t3
  rw [List.length_map] at t1
  refine ⟨A, B, wm.cg (fun a i h => sf _ _ (by omega)), by rw [sf _ _ (by omega)]; exact iW.2.2.2.2.1, fun i hi => by rw [sf _ _ (by omega)]; exact lg i hi, t1, fun h hh => ?_, rwB_of (fun q hq => rwL_cg ew q (rl_lt nl q hq)) t3⟩
  rw [t2 h hh, e1, eq, List.countP_map]
  congr 1
  refine List.countP_congr (fun q hq => ?_)
  show decide (rwH nr (rwWt s) q = h) = true ↔ _
  rw [rwH_cg ew]
  have b : rwH nr (rwWt σ) q ≤ 32 := by
    have := fb_sm_bound (f := fun r => if r ∈ q then rwWt σ r else 0) (c := 4) (n := nr) (fun k hk => by
      show (if _ then rwWt σ k else 0) ≤ 4
      split
      · exact (wc.2.2 k hk).2.2.1
      · omega)
    unfold rwH
    omega
  rw [decide_eq_true_iff, decide_eq_true_iff, nI_eq (by omega) (by omega)]
theorem op_walks (h : inv c σ) : fMi E (d + 6) mX6_walks [.ref 1] σ (fun a σ1 => fMi E (d + 6) mX7_walks [.ref 78] σ1 (fun b σ2 => a = b ∧ inv (c + 1) σ2)) := by
  have h0 := h.up (Nat.le_succ c)
  obtain ⟨iP, iF, iN, nr, np, nl, iW, iK, iR⟩ := h0
  have a4 := iW.1.2.2.2.1
  have b4 := iW.2.2.1
  have n8 := iW.1.1
  refine v_X6_walks ?_
  unfold t_X6_walks
  rw [a4, nI_z (by omega)]
  refine ⟨fun hr => c_tallyW iW iR (fun s s22 sf sF s9 sT => ?_), fun hr => ?_⟩
  · obtain ⟨A, B, wm, m20, mlg, t1, t2, t3⟩ := rows_m iW sf sT
    refine v_X7_walks ?_
    unfold t_X7_walks
    refine c_lacks ?_
    rw [sf _ _ (by omega), b4]
    refine ⟨fun _ => c_rowsBy wm iW.1.2.2.1 m20 mlg (Or.inl rfl) (fun t tt2 tf => ⟨?_, walks_inv iP iF iN iW iK sf sF s9 sT (by rw [tt2]) tf⟩), fun q => absurd (bi0.mpr (fun z => hr ((nI_z (by omega)).mp z))) q⟩
    rw [if_pos rfl]
    exact t1
  · refine v_X7_walks ?_
    unfold t_X7_walks
    refine c_lacks ?_
    rw [b4, hr]
    exact ⟨fun q => absurd q (by decide), fun _ => ⟨rfl, h.up (Nat.le_succ c)⟩⟩
theorem op_last (h : inv c σ) : fMi E (d + 6) mX6_last [.ref 1] σ (fun a σ1 => fMi E (d + 6) mX7_last [.ref 78] σ1 (fun b σ2 => a = b ∧ inv (c + 1) σ2)) := by
  have h0 := h.up (Nat.le_succ c)
  obtain ⟨iP, iF, iN, nr, np, nl, iW, iK, iR⟩ := h0
  have a4 := iW.1.2.2.2.1
  have b4 := iW.2.2.1
  have n8 := iW.1.1
  refine v_X6_last ?_
  unfold t_X6_last
  rw [a4, nI_z (by omega)]
  refine ⟨fun hr => c_tallyW iW iR (fun s s22 sf sF s9 sT => ?_), fun hr => ?_⟩
  · obtain ⟨A, B, wm, m20, mlg, t1, t2, t3⟩ := rows_m iW sf sT
    refine v_X7_last ?_
    unfold t_X7_last
    refine c_lacks ?_
    rw [sf _ _ (by omega), b4]
    exact ⟨fun _ => c_lastOf wm iW.1.2.2.1 m20 mlg (fun t v tt2 tf hv => ⟨rwB_one t3 hv, walks_inv iP iF iN iW iK sf sF s9 sT (by rw [tt2]) tf⟩), fun q => absurd (bi0.mpr (fun z => hr ((nI_z (by omega)).mp z))) q⟩
  · refine v_X7_last ?_
    unfold t_X7_last
    refine c_lacks ?_
    rw [b4, hr]
    exact ⟨fun q => absurd q (by decide), fun _ => ⟨rfl, h.up (Nat.le_succ c)⟩⟩
theorem op_walksBy {x : Int32} (h : inv c σ) : fMi E (d + 6) mX6_walksBy [.ref 1, .int x] σ (fun a σ1 => fMi E (d + 6) mX7_walksBy [.ref 78, .int x] σ1 (fun b σ2 => a = b ∧ inv (c + 1) σ2)) := by
  have h0 := h.up (Nat.le_succ c)
  obtain ⟨iP, iF, iN, nr, np, nl, iW, iK, iR⟩ := h0
  have a4 := iW.1.2.2.2.1
  have b4 := iW.2.2.1
  have n8 := iW.1.1
  have no : ¬ (0 ≤ x ∧ x ≤ 60) → fMi E (d + 6) mX7_walksBy [.ref 78, .int x] σ (fun b σ2 => -102 = b ∧ inv (c + 1) σ2) := by
    intro q
    refine v_X7_walksBy ?_
    unfold t_X7_walksBy
    refine c_in32 0 60 (by decide) (by decide) ?_
    rw [bi_f q]
    exact ⟨fun z => absurd rfl z, fun _ => ⟨rfl, h.up (Nat.le_succ c)⟩⟩
  refine v_X6_walksBy ?_
  unfold t_X6_walksBy
  refine ⟨fun q => no (fun z => absurd z.1 (by rw [fa_le]; rw [fa_lt] at q; omega)), fun q1 => ⟨fun q2 => ?_, fun q => no (fun z => q z.2)⟩⟩
  have hx : 0 ≤ x ∧ x ≤ 60 := ⟨fa_of_nlt q1, q2⟩
  obtain ⟨m, _, hm, rfl⟩ := i_rng (y := x) (a := 0) (b := 60) (by decide) (by decide) hx
  rw [a4, nI_z (by omega), nI_clamp (by omega)]
  refine ⟨fun hr => c_tallyW iW iR (fun s s22 sf sF s9 sT => ⟨vp_in_nI (by omega) (by decide), ?_⟩), fun hr => ?_⟩
  · obtain ⟨A, B, wm, m20, mlg, t1, t2, t3⟩ := rows_m iW sf sT
    refine v_X7_walksBy ?_
    unfold t_X7_walksBy
    refine c_in32 0 60 (by decide) (by decide) ?_
    rw [bi_t hx]
    refine ⟨fun _ => c_lacks ?_, fun z => absurd z (by decide)⟩
    rw [sf _ _ (by omega), b4]
    refine ⟨fun _ => c_rowsBy wm iW.1.2.2.1 m20 mlg (Or.inr ⟨m, hm, rfl⟩) (fun t tt2 tf => ⟨?_, walks_inv iP iF iN iW iK sf sF s9 sT (by rw [tt2]) tf⟩), fun q => absurd (bi0.mpr (fun z => hr ((nI_z (by omega)).mp z))) q⟩
    rw [if_neg (vp_ne (vp_in_nI (n := m) (N := 61) (by omega) (by decide)))]
    exact t2 m hm
  · refine v_X7_walksBy ?_
    unfold t_X7_walksBy
    refine c_in32 0 60 (by decide) (by decide) ?_
    rw [bi_t hx]
    refine ⟨fun _ => c_lacks ?_, fun z => absurd z (by decide)⟩
    rw [b4, hr]
    exact ⟨fun q => absurd q (by decide), fun _ => ⟨rfl, h.up (Nat.le_succ c)⟩⟩
end OPW
