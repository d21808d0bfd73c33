/-! pilgrim, count, image, restore -/
section OPS7
variable {E : am_E} {d c : Nat} {σ : FH}
theorem nI_z {n : Nat} (hn : n < 2 ^ 30) : (nI n = 0) ↔ n = 0 := nI_eq (b := 0) (by omega) (by decide)
theorem op_pilgrim (h : inv c σ) : fMi E (d + 2) mX6_pilgrim [.ref 1] σ (fun a σ1 => fMi E (d + 2) mX7_pilgrim [.ref 78] σ1 (fun b σ2 => a = b ∧ inv (c + 1) σ2)) := by
  have h0 := h.up (Nat.le_succ c)
  obtain ⟨iP, iF, iN, nr, np, nl, iW, iK, iR⟩ := h
  obtain ⟨⟨a1, a2, a3, a4, a5, a6, a7, a8, a9, a10⟩, ⟨b1, b2, b3⟩, b4, b5, b6, b7, b8⟩ := id iW
  refine v_X6_pilgrim ?_
  unfold t_X6_pilgrim
  rw [a4, a5, nI_z (by omega)]
  refine ⟨fun hr => ⟨fun hp => ?_, fun hp => ?_⟩, fun hr => ?_⟩
  · have hp4 : np < 4 := (nI_ltI (b := 4) (by omega) (by decide)).mp hp
    rw [nI_clamp (by omega)]
    refine ⟨vp_in_nI hp4 (by decide), c_pStart ⟨4, np, Or.inl rfl, by omega, by omega⟩ ?_⟩
    intro s s2 sf sa sk
    rintro _ rfl
    have e42 : s.1 4 2 = nI np := by rw [sf _ _ (by omega) (by omega)]; exact a5
    rw [e42, nI_1]
    have tf : ∀ a i, ¬ (a = 4 ∧ i = 2) → (fsI s 4 2 (nI (np + 1))).1 a i = s.1 a i := fun a i h => fsI_n h
    have t2 : (fsI s 4 2 (nI (np + 1))).2 = σ.2 := s2
    have t1 : (fsI s 4 2 (nI (np + 1))).1 4 2 = nI (np + 1) := fsI_s
    generalize fsI s 4 2 (nI (np + 1)) = t at tf t1 t2
    have fr : ∀ a i, ¬ (a = 16 + 2 * np ∧ i < 5) → ¬ (a = 16 + 2 * np + 1 ∧ i < 8) → ¬ (a = 4 ∧ i = 2) → t.1 a i = σ.1 a i := fun a i h1 h2 h3 => by rw [tf _ _ h3, sf _ _ h1 h2]
    refine v_X7_pilgrim ?_
    unfold t_X7_pilgrim
    refine c_lacks ?_
    rw [fr 78 6 (by omega) (by omega) (by omega), b4, fr 78 11 (by omega) (by omega) (by omega), b5]
    simp only [bi0, Classical.not_not]
    rw [nI_z (by omega), show (4 : Int32) = nI 4 from rfl, nI_eq (by omega) (by omega)]
    refine ⟨fun _ => ⟨fun _ => ?_, fun q => absurd q (by omega)⟩, fun q => absurd q hr⟩
    have key : ∀ n i u, i + n = 8 → u.2 = t.2 → (∀ a j, ¬ (a = 82 ∧ 5 * np ≤ j ∧ j < 5 * np + 5) → ¬ (a = 83 ∧ 8 * np ≤ j ∧ j < 8 * np + i) → u.1 a j = t.1 a j) → (∀ j, j < 5 → j < i → u.1 82 (5 * np + j) = 0) → (∀ j, j < i → u.1 83 (8 * np + j) = 0) → h_X7_pilgrim_23 E (d + 1) (nI i) u (fun b σ2 => nI np = b ∧ inv (c + 1) σ2) := by
      intro n
      induction n with
      | zero =>
        intro i u hi u2 uf um uk
        refine v_X7_pilgrim_23 ?_
        unfold t_X7_pilgrim_23
        rw [show i = 8 by omega] at *
        refine ⟨fun _ => ?_, fun q => absurd (by decide) q⟩
        rintro _ rfl
        have u11 : u.1 78 11 = nI np := by rw [uf _ _ (by omega) (by omega), fr _ _ (by omega) (by omega) (by omega)]; exact b5
        rw [fsI_s, u11, nI_1]
        refine ⟨by rw [show (1 : Int32) = nI 1 from rfl, pk_sub (by omega)]; rfl, ?_⟩
        have zf : ∀ a i, ¬ (a = 78 ∧ i = 11) → (fsI u 78 11 (nI (np + 1))).1 a i = u.1 a i := fun a i h => fsI_n h
        have z2 : (fsI u 78 11 (nI (np + 1))).2 = σ.2 := u2.trans t2
        have z1 : (fsI u 78 11 (nI (np + 1))).1 78 11 = nI (np + 1) := fsI_s
        generalize fsI u 78 11 (nI (np + 1)) = z at zf z1 z2
        have fz : ∀ a i, ¬ (a = 16 + 2 * np ∧ i < 5) → ¬ (a = 16 + 2 * np + 1 ∧ i < 8) → ¬ (a = 4 ∧ i = 2) → ¬ (a = 82 ∧ 5 * np ≤ i ∧ i < 5 * np + 5) → ¬ (a = 83 ∧ 8 * np ≤ i ∧ i < 8 * np + 8) → ¬ (a = 78 ∧ i = 11) → z.1 a i = σ.1 a i := fun a i h1 h2 h3 h4 h5 h6 => by rw [zf _ _ h6, uf _ _ h4 h5, fr _ _ h1 h2 h3]
        have zp : ∀ j, j < 5 → z.1 (16 + 2 * np) j = 0 := fun j hj => by rw [zf _ _ (by omega), uf _ _ (by omega) (by omega), tf _ _ (by omega)]; exact sa j hj
        have zk : ∀ j, j < 8 → z.1 (16 + 2 * np + 1) j = 0 := fun j hj => by rw [zf _ _ (by omega), uf _ _ (by omega) (by omega), tf _ _ (by omega)]; exact sk j hj
        have zm : ∀ j, j < 5 → z.1 82 (5 * np + j) = 0 := fun j hj => by rw [zf _ _ (by omega)]; exact um j hj (by omega)
        have zn : ∀ j, j < 8 → z.1 83 (8 * np + j) = 0 := fun j hj => by rw [zf _ _ (by omega)]; exact uk j hj
        obtain ⟨jP, jF, jN, jK⟩ := inv_keep iP iF iN (iK.up (Nat.le_succ c)) (σ' := z) (fun a i h => fz a i (by omega) (by omega) (by omega) (by omega) (by omega) (by omega))
        have f4 : ∀ a i, 4 ≤ a → a < 16 → ¬ (a = 4 ∧ i = 2) → z.1 a i = σ.1 a i := fun a i h1 h2 h3 => fz a i (by omega) (by omega) h3 (by omega) (by omega) (by omega)
        refine ⟨jP, jF, jN, nr, np + 1, nl, ⟨⟨a1, by omega, a3, by rw [f4 _ _ (by omega) (by omega) (by omega)]; exact a4, ?_, by rw [f4 _ _ (by omega) (by omega) (by omega)]; exact a6, fun i hi => (a7 i hi).cg (fun j _ => f4 _ _ (by omega) (by omega) (by omega)), fun q hq => ?_, fun i hi => by rw [f4 _ _ (by omega) (by omega) (by omega)]; exact a9 i hi, by rw [f4 _ _ (by omega) (by omega) (by omega)]; exact a10⟩, ⟨fun i hi => (b1 i hi).cg (fun j _ => f4 _ _ (by omega) (by omega) (by omega)) (fun j _ => fz _ _ (by omega) (by omega) (by omega) (by omega) (by omega) (by omega)), fun q hq => ?_, fun i hi => by rw [fz _ _ (by omega) (by omega) (by omega) (by omega) (by omega) (by omega), f4 _ _ (by omega) (by omega) (by omega)]; exact b3 i hi⟩, by rw [fz _ _ (by omega) (by omega) (by omega) (by omega) (by omega) (by omega)]; exact b4, z1, by rw [fz _ _ (by omega) (by omega) (by omega) (by omega) (by omega) (by omega)]; exact b6, by rw [fz _ _ (by omega) (by omega) (by omega) (by omega) (by omega) (by omega), f4 _ _ (by omega) (by omega) (by omega)]; exact b7, by rw [fz _ _ (by omega) (by omega) (by omega) (by omega) (by omega) (by omega), f4 _ _ (by omega) (by omega) (by omega)]; exact b8⟩, jK, iR.cg a1 z2 (fun k j h1 h2 h3 => f4 _ _ (by omega) (by omega) (by omega)) (fun j => f4 _ _ (by omega) (by omega) (by omega)) (fun j h1 => fz _ _ (by omega) (by omega) (by omega) (by omega) (by omega) (by omega)) (fun j => fz _ _ (by omega) (by omega) (by omega) (by omega) (by omega) (by omega))⟩
        · rw [zf _ _ (by omega), uf _ _ (by omega) (by omega)]; exact t1
        · by_cases e : q = np
          · subst e
            rw [show 4 + 12 + 2 * q = 16 + 2 * q by omega]
            exact ⟨by rw [zp 0 (by omega)]; exact vp_in_nI (n := 0) (by omega) (by decide), by rw [zp 1 (by omega)]; exact vp_in_nI (n := 0) (by omega) (by decide), by rw [zp 2 (by omega)]; exact vp_mono (m := 1) (vp_in_nI (n := 0) (by omega) (by decide)) (by omega), by rw [zp 4 (by omega)]; exact vp_in_nI (n := 0) (by omega) (by decide), fun i hi => by rw [zk i hi]; exact vp_in_nI (n := 0) (by omega) (by decide)⟩
          · exact ((a8 q (by omega)).cg (fun j _ => fz _ _ (by omega) (by omega) (by omega) (by omega) (by omega) (by omega)) (fun j _ => fz _ _ (by omega) (by omega) (by omega) (by omega) (by omega) (by omega))).up (Nat.le_succ c)
        · by_cases e : q = np
          · subst e
            rw [show 4 + 12 + 2 * q = 16 + 2 * q by omega]
            exact ⟨by rw [zp 0 (by omega)]; exact zm 0 (by omega), by rw [zp 1 (by omega)]; exact zm 1 (by omega), by rw [zp 2 (by omega)]; exact zm 2 (by omega), by rw [zp 4 (by omega)]; exact zm 3 (by omega), by rw [zp 3 (by omega)]; exact zm 4 (by omega), fun i hi => by rw [zk i hi]; exact zn i hi⟩
          · exact (b2 q (by omega)).cg (fun j _ => fz _ _ (by omega) (by omega) (by omega) (by omega) (by omega) (by omega)) (fun j _ => fz _ _ (by omega) (by omega) (by omega) (by omega) (by omega) (by omega)) (fun j _ => fz _ _ (by omega) (by omega) (by omega) (by omega) (by omega) (by omega)) (fun j _ => fz _ _ (by omega) (by omega) (by omega) (by omega) (by omega) (by omega))
      | succ n ih =>
        intro i u hi u2 uf um uk
        refine v_X7_pilgrim_23 ?_
        unfold t_X7_pilgrim_23
        have u11 : u.1 78 11 = nI np := by rw [uf _ _ (by omega) (by omega), fr _ _ (by omega) (by omega) (by omega)]; exact b5
        rw [u11, nI_1 i, show (5 : Int32) = nI 5 from rfl, pk_rem (by omega) (by decide) (by decide), pk_mul, nI_add, nI_clamp (by omega)]
        have m5 : i % 5 < 5 := Nat.mod_lt _ (by decide)
        refine ⟨fun q => absurd q (nI_ge (b := 8) (by omega) (by omega)), fun _ => ⟨vp_in_nI (by omega) (by decide), ?_⟩⟩
        rintro _ rfl
        rw [fsI_k (by decide), u11, n8, nI_clamp (by omega)]
        refine ⟨vp_in_nI (by omega) (by decide), ?_⟩
        rintro _ rfl
        refine ih (i + 1) _ (by omega) (by exact u2) (fun a j h1 h2 => by rw [fsI_n (by omega), fsI_n (by omega)]; exact uf a j h1 (by omega)) (fun j hj hji => ?_) (fun j hj => ?_)
        · rw [fsI_k (by decide)]
          by_cases e : j = i % 5
          · subst e; exact fsI_s
          · rw [fsI_j (by omega)]
            refine um j hj ?_
            rcases Nat.lt_or_ge i 5 with q | q
            · rw [Nat.mod_eq_of_lt q] at e; omega
            · omega
        · by_cases e : j = i
          · subst e; exact fsI_s
          · rw [fsI_n (by omega), fsI_k (by decide)]; exact uk j (by omega)
    exact key 8 0 t (by omega) rfl (fun _ _ _ _ => rfl) (fun j _ hj => absurd hj (by omega)) (fun j hj => absurd hj (by omega))
  · have hp4 : np = 4 := by
      rcases Nat.lt_or_ge np 4 with q | q
      · exact absurd (nI_lt (b := 4) q (by omega)) hp
      · omega
    refine v_X7_pilgrim ?_
    unfold t_X7_pilgrim
    refine c_lacks ?_
    rw [b4, b5, hp4]
    simp only [bi0, Classical.not_not]
    rw [nI_z (by omega)]
    exact ⟨fun _ => ⟨fun q => absurd rfl q, fun _ => ⟨trivial, h0⟩⟩, fun q => absurd q hr⟩
  · refine v_X7_pilgrim ?_
    unfold t_X7_pilgrim
    refine c_lacks ?_
    rw [b4, hr]
    exact ⟨fun q => absurd q (by decide), fun _ => ⟨rfl, h0⟩⟩
theorem op_countC {x : Int32} {e : Nat} (h : inv c σ) (P : Int32 → FH → Prop) (k : ∀ v, (∀ R : Int32 → FH → Prop, R v σ → fMi E (e + 2) mX7_countOf [.ref 78, .int x] σ R) → P v σ) : fMi E (d + 2) mX6_count [.ref 1, .int x] σ P := by
  obtain ⟨iP, iF, iN, nr, np, nl, iW, iK, iR⟩ := h
  obtain ⟨⟨a1, a2, a3, a4, a5, a6, a7, a8, a9, a10⟩, ⟨b1, b2, b3⟩, b4, b5, b6, b7, b8⟩ := id iW
  obtain ⟨n, p1, p2, p3, p4⟩ := iP
  obtain ⟨m, f1, f2, f3, f4⟩ := iF
  obtain ⟨nk, k1, k2, k3, k4⟩ := iK
  have kk : ∀ v, (∀ R : Int32 → FH → Prop, R v σ → t_X7_countOf E (e + 1) x σ R) → P v σ := fun v hv => k v (fun R r => v_X7_countOf (hv R r))
  refine v_X6_count ?_
  unfold t_X6_count
  refine ⟨?_, ?_, ?_, ?_, ?_, ?_, ?_, ?_, ?_, ?_⟩
  · rintro rfl
    refine kk _ (fun R r => ?_)
    unfold t_X7_countOf
    refine ⟨fun _ => by rw [b4, ← a4]; exact r, ?_⟩
    simp
  · rintro rfl
    refine kk _ (fun R r => ?_)
    unfold t_X7_countOf
    simp
    rw [b7]; exact r
  · rintro rfl
    refine kk _ (fun R r => ?_)
    unfold t_X7_countOf
    simp
    rw [b5, ← a5]; exact r
  · rintro rfl
    refine c_letInCount (Or.inl rfl) a2 a5 (fun p hp => (a8 p hp).2.2.2.1) (kk _ (fun R r => ?_))
    unfold t_X7_countOf
    simp
    refine c_sumOf (j := 3) (by omega) a2 b5 ?_
    rw [smI_cg np (fun p hp => (b2 p hp).2.2.2.1)]
    exact r
  · rintro rfl
    refine kk _ (fun R r => ?_)
    unfold t_X7_countOf
    simp
    rw [b8]; exact r
  · rintro rfl
    refine kk _ (fun R r => ?_)
    unfold t_X7_countOf
    simp
    rw [b6, ← a6]; exact r
  · rintro rfl
    refine kk _ (fun R r => ?_)
    unfold t_X7_countOf
    simp
    rw [p3, ← p2]; exact r
  · rintro rfl
    refine kk _ (fun R r => ?_)
    unfold t_X7_countOf
    simp
    rw [k3, ← k2]; exact r
  · rintro rfl
    refine kk _ (fun R r => ?_)
    unfold t_X7_countOf
    simp
    rw [f3, ← f2]; exact r
  · intro h0 h1 h2 h3 h4 h5 h6 h7 h8
    refine kk _ (fun R r => ?_)
    unfold t_X7_countOf
    exact ⟨fun q => absurd q h0, fun q => absurd q h1, fun q => absurd q h2, fun q => absurd q h3, fun q => absurd q h4, fun q => absurd q h5, fun q => absurd q h6, fun q => absurd q h7, fun q => absurd q h8, fun _ _ _ _ _ _ _ _ _ => r⟩
theorem op_count {x : Int32} (h : inv c σ) : fMi E (d + 3) mX6_count [.ref 1, .int x] σ (fun a σ1 => fMi E (d + 3) mX7_count [.ref 78, .int x] σ1 (fun b σ2 => a = b ∧ inv (c + 1) σ2)) := by
  refine op_countC (e := d) h _ (fun v hv => ?_)
  refine v_X7_count ?_
  unfold t_X7_count
  exact hv _ ⟨rfl, h.up (Nat.le_succ c)⟩
end OPS7
