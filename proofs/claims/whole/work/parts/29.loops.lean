/-! the simple loops: copies and sums -/
def smI (f : Nat → Int32) : Nat → Int32
  | 0 => 0
  | n + 1 => smI f n + f n
theorem smI_cg {f g : Nat → Int32} : ∀ n, (∀ i, i < n → f i = g i) → smI f n = smI g n
  | 0, _ => rfl
  | n + 1, h => by rw [smI, smI, smI_cg n (fun i hi => h i (by omega)), h n (by omega)]
section C4
variable {E : am_E} {d : Nat} {σ : FH} {Q : Int32 → FH → Prop} {QV : FH → Prop}
theorem c_sumOf {j np : Nat} (hj : j < 5) (hn : np ≤ 4) (h11 : σ.1 78 11 = nI np) (k : Q (smI (fun p => σ.1 82 (5 * p + j)) np) σ) : fMi E (d + 1) mX7_sumOf [.ref 78, .int (nI j)] σ Q := by
  refine v_X7_sumOf ?_
  unfold t_X7_sumOf
  have key : ∀ n i, i + n = np → h_X7_sumOf_4 E d (nI j) (smI (fun p => σ.1 82 (5 * p + j)) i) (nI i) σ Q := by
    intro n
    induction n with
    | zero =>
      intro i hi
      refine v_X7_sumOf_4 ?_
      unfold t_X7_sumOf_4
      rw [h11, show i = np by omega]
      exact ⟨fun _ => k, fun h => absurd (nI_le (Nat.le_refl np) (by omega)) h⟩
    | succ n ih =>
      intro i hi
      refine v_X7_sumOf_4 ?_
      unfold t_X7_sumOf_4
      rw [h11, n5, nI_clamp (by omega), nI_1]
      refine ⟨fun h => absurd h (nI_ge (by omega) (by omega)), fun _ => ⟨vp_in_nI (by omega) (by decide), ?_⟩⟩
      rintro _ rfl
      exact ih (i + 1) (by omega)
  exact key np 0 (by omega)
theorem c_letInCount {w np : Nat} (hw : isWd w) (hn : np ≤ 4) (h2 : σ.1 w 2 = nI np) (hl : ∀ p, p < np → vp_in (σ.1 (w + 12 + 2 * p) 4) 2) (k : Q (smI (fun p => σ.1 (w + 12 + 2 * p) 4) np) σ) : fMi E (d + 1) mX5_letInCount [.ref w] σ Q := by
  refine v_X5_letInCount hw ?_
  unfold t_X5_letInCount
  have key : ∀ n i, i + n = np → h_X5_letInCount_4 E d w (smI (fun p => σ.1 (w + 12 + 2 * p) 4) i) (nI i) σ Q := by
    intro n
    induction n with
    | zero =>
      intro i hi
      refine v_X5_letInCount_4 hw ?_
      unfold t_X5_letInCount_4
      rw [h2, show i = np by omega]
      exact ⟨fun _ => k, fun h => absurd (nI_le (Nat.le_refl np) (by omega)) h⟩
    | succ n ih =>
      intro i hi
      refine v_X5_letInCount_4 hw ?_
      unfold t_X5_letInCount_4
      rw [h2, nI_clamp (by omega), nI_1]
      have hv := vp_b (hl i (by omega))
      have := ih (i + 1) (by omega)
      rw [smI] at this
      refine ⟨fun h => absurd h (nI_ge (by omega) (by omega)), fun _ => ⟨vp_in_nI (by omega) (by decide), fun h => ?_, fun h => ?_⟩⟩
      · rw [h] at this; exact this
      · rw [hv.resolve_left h] at this; exact this
  exact key np 0 (by omega)
theorem c_hurtOfAll {w np : Nat} (hw : isWd w) (hn : np ≤ 4) (h2 : σ.1 w 2 = nI np) (k : Q (smI (fun p => σ.1 (w + 12 + 2 * p) 1) np) σ) : fMi E (d + 1) mX5_hurtOfAll [.ref w] σ Q := by
  refine v_X5_hurtOfAll hw ?_
  unfold t_X5_hurtOfAll
  have key : ∀ n i, i + n = np → h_X5_hurtOfAll_4 E d w (smI (fun p => σ.1 (w + 12 + 2 * p) 1) i) (nI i) σ Q := by
    intro n
    induction n with
    | zero =>
      intro i hi
      refine v_X5_hurtOfAll_4 hw ?_
      unfold t_X5_hurtOfAll_4
      rw [h2, show i = np by omega]
      exact ⟨fun _ => k, fun h => absurd (nI_le (Nat.le_refl np) (by omega)) h⟩
    | succ n ih =>
      intro i hi
      refine v_X5_hurtOfAll_4 hw ?_
      unfold t_X5_hurtOfAll_4
      rw [h2, nI_clamp (by omega), nI_1]
      refine ⟨fun h => absurd h (nI_ge (by omega) (by omega)), fun _ => ⟨vp_in_nI (by omega) (by decide), ?_⟩⟩
      rintro _ rfl
      exact ih (i + 1) (by omega)
  exact key np 0 (by omega)
theorem c_countedByAll {w np : Nat} (hw : isWd w) (hn : np ≤ 4) (h2 : σ.1 w 2 = nI np) (k : Q (smI (fun p => σ.1 (w + 12 + 2 * p) 2) np) σ) : fMi E (d + 1) mX5_countedByAll [.ref w] σ Q := by
  refine v_X5_countedByAll hw ?_
  unfold t_X5_countedByAll
  have key : ∀ n i, i + n = np → h_X5_countedByAll_4 E d w (smI (fun p => σ.1 (w + 12 + 2 * p) 2) i) (nI i) σ Q := by
    intro n
    induction n with
    | zero =>
      intro i hi
      refine v_X5_countedByAll_4 hw ?_
      unfold t_X5_countedByAll_4
      rw [h2, show i = np by omega]
      exact ⟨fun _ => k, fun h => absurd (nI_le (Nat.le_refl np) (by omega)) h⟩
    | succ n ih =>
      intro i hi
      refine v_X5_countedByAll_4 hw ?_
      unfold t_X5_countedByAll_4
      rw [h2, nI_clamp (by omega), nI_1]
      refine ⟨fun h => absurd h (nI_ge (by omega) (by omega)), fun _ => ⟨vp_in_nI (by omega) (by decide), ?_⟩⟩
      rintro _ rfl
      exact ih (i + 1) (by omega)
  exact key np 0 (by omega)
theorem c_copy {k0 n0 k1 n1 : Nat} (hk0 : fA k0 n0) (hk1 : fA k1 n1) (hn : n0 ≤ n1) (hn2 : n1 < 2 ^ 30) (hne : k0 ≠ k1) (k : ∀ σ', σ'.2 = σ.2 → (∀ a i, ¬ (a = k1 ∧ i < n0) → σ'.1 a i = σ.1 a i) → (∀ i, i < n0 → σ'.1 k1 i = σ.1 k0 i) → QV σ') : fMv E (d + 1) mX7_copy [.ref k0, .ref k1] σ QV := by
  refine v_X7_copy hk0 hk1 ?_
  unfold t_X7_copy
  have key : ∀ n i s, i + n = n0 → s.2 = σ.2 → (∀ a j, ¬ (a = k1 ∧ j < i) → s.1 a j = σ.1 a j) → (∀ j, j < i → s.1 k1 j = σ.1 k0 j) → h_X7_copy_2 E d k0 n0 k1 n1 (nI i) s QV := by
    intro n
    induction n with
    | zero =>
      intro i s hi s2 sf sv
      refine v_X7_copy_2 hk0 hk1 ?_
      unfold t_X7_copy_2
      rw [show i = n0 by omega] at *
      exact ⟨fun _ => k s s2 sf sv, fun h => absurd (nI_le (Nat.le_refl n0) (by omega)) h⟩
    | succ n ih =>
      intro i s hi s2 sf sv
      refine v_X7_copy_2 hk0 hk1 ?_
      unfold t_X7_copy_2
      rw [nI_clamp (by omega), nI_1]
      refine ⟨fun h => absurd h (nI_ge (by omega) (by omega)), fun _ => ⟨vp_in_nI (by omega) (by omega), vp_in_nI (by omega) (by omega), ?_⟩⟩
      rintro _ rfl
      refine ih (i + 1) _ (by omega) s2 (fun a j h => by rw [fsI_n (by omega)]; exact sf a j (by omega)) (fun j hj => ?_)
      by_cases e : j = i
      · subst e
        rw [fsI_s]
        exact sf _ _ (by omega)
      · rw [fsI_n (by omega)]; exact sv j (by omega)
  exact key n0 0 σ (by omega) rfl (fun _ _ _ => rfl) (fun j hj => absurd hj (by omega))
theorem c_pStart {k0 : Nat} (hk0 : isPg k0) (k : ∀ σ', σ'.2 = σ.2 → (∀ a i, ¬ (a = k0 ∧ i < 5) → ¬ (a = k0 + 1 ∧ i < 8) → σ'.1 a i = σ.1 a i) → (∀ i, i < 5 → σ'.1 k0 i = 0) → (∀ i, i < 8 → σ'.1 (k0 + 1) i = 0) → QV σ') : fMv E (d + 1) mX1_startAnew [.ref k0] σ QV := by
  refine v_X1_startAnew hk0 ?_
  unfold t_X1_startAnew
  rintro _ rfl _ rfl _ rfl _ rfl _ rfl
  have z0 : ∀ i, i < 5 → (fsI (fsI (fsI (fsI (fsI σ k0 0 0) k0 1 0) k0 2 0) k0 3 0) k0 4 0).1 k0 i = 0 := by
    intro i hi
    rcases (show i = 0 ∨ i = 1 ∨ i = 2 ∨ i = 3 ∨ i = 4 by omega) with rfl | rfl | rfl | rfl | rfl <;> simp [fsI_at]
  have zf : ∀ a i, ¬ (a = k0 ∧ i < 5) → (fsI (fsI (fsI (fsI (fsI σ k0 0 0) k0 1 0) k0 2 0) k0 3 0) k0 4 0).1 a i = σ.1 a i := fun a i h => by repeat rw [fsI_n (by omega)]
  have z2 : (fsI (fsI (fsI (fsI (fsI σ k0 0 0) k0 1 0) k0 2 0) k0 3 0) k0 4 0).2 = σ.2 := rfl
  generalize fsI (fsI (fsI (fsI (fsI σ k0 0 0) k0 1 0) k0 2 0) k0 3 0) k0 4 0 = z at z0 zf z2
  have key : ∀ n i s, i + n = 8 → s.2 = z.2 → (∀ a j, ¬ (a = k0 + 1 ∧ j < i) → s.1 a j = z.1 a j) → (∀ j, j < i → s.1 (k0 + 1) j = 0) → h_X1_startAnew_27 E d k0 (nI i) s QV := by
    intro n
    induction n with
    | zero =>
      intro i s hi s2 sf sv
      refine v_X1_startAnew_27 hk0 ?_
      unfold t_X1_startAnew_27
      rw [show i = 8 by omega] at *
      exact ⟨fun _ => k s (s2.trans z2) (fun a j h1 h2 => (sf a j (by omega)).trans (zf a j h1)) (fun j hj => (sf _ _ (by omega)).trans (z0 j hj)) sv, fun h => absurd (by decide) h⟩
    | succ n ih =>
      intro i s hi s2 sf sv
      refine v_X1_startAnew_27 hk0 ?_
      unfold t_X1_startAnew_27
      rw [nI_clamp (by omega), nI_1]
      refine ⟨fun h => absurd h (nI_ge (b := 8) (by omega) (by omega)), fun _ => ⟨vp_in_nI (by omega) (by omega), ?_⟩⟩
      rintro _ rfl
      refine ih (i + 1) _ (by omega) s2 (fun a j h => by rw [fsI_n (by omega)]; exact sf a j (by omega)) (fun j hj => ?_)
      by_cases e : j = i
      · subst e; exact fsI_s
      · rw [fsI_n (by omega)]; exact sv j (by omega)
  exact key 8 0 z (by omega) rfl (fun _ _ _ => rfl) (fun j hj => absurd hj (by omega))
theorem c_pBecome {k0 k1 : Nat} (hk0 : isPg k0) (hk1 : isPg k1) (hne : k0 ≠ k1 ∧ k0 ≠ k1 + 1 ∧ k0 + 1 ≠ k1) (hl : vp_in (σ.1 k1 4) 2) (k : ∀ σ', σ'.2 = σ.2 → (∀ a i, ¬ (a = k0 ∧ i < 5) → ¬ (a = k0 + 1 ∧ i < 8) → σ'.1 a i = σ.1 a i) → (∀ i, i < 5 → σ'.1 k0 i = σ.1 k1 i) → (∀ i, i < 8 → σ'.1 (k0 + 1) i = σ.1 (k1 + 1) i) → QV σ') : fMv E (d + 1) mX1_become [.ref k0, .ref k1] σ QV := by
  refine v_X1_become hk0 hk1 ?_
  unfold t_X1_become
  rintro _ rfl _ rfl _ rfl _ rfl
  have e1 : ∀ s : FH, ∀ i v j, (fsI s k0 i v).1 k1 j = s.1 k1 j := fun s i v j => fsI_k (by omega)
  simp only [e1]
  refine ⟨vp_b hl, ?_⟩
  rintro _ rfl
  have z0 : ∀ i, i < 5 → (fsI (fsI (fsI (fsI (fsI σ k0 0 (σ.1 k1 0)) k0 1 (σ.1 k1 1)) k0 2 (σ.1 k1 2)) k0 3 (σ.1 k1 3)) k0 4 (σ.1 k1 4)).1 k0 i = σ.1 k1 i := by
    intro i hi
    rcases (show i = 0 ∨ i = 1 ∨ i = 2 ∨ i = 3 ∨ i = 4 by omega) with rfl | rfl | rfl | rfl | rfl <;> simp [fsI_at]
  have zf : ∀ a i, ¬ (a = k0 ∧ i < 5) → (fsI (fsI (fsI (fsI (fsI σ k0 0 (σ.1 k1 0)) k0 1 (σ.1 k1 1)) k0 2 (σ.1 k1 2)) k0 3 (σ.1 k1 3)) k0 4 (σ.1 k1 4)).1 a i = σ.1 a i := fun a i h => by repeat rw [fsI_n (by omega)]
  have z2 : (fsI (fsI (fsI (fsI (fsI σ k0 0 (σ.1 k1 0)) k0 1 (σ.1 k1 1)) k0 2 (σ.1 k1 2)) k0 3 (σ.1 k1 3)) k0 4 (σ.1 k1 4)).2 = σ.2 := rfl
  generalize fsI (fsI (fsI (fsI (fsI σ k0 0 (σ.1 k1 0)) k0 1 (σ.1 k1 1)) k0 2 (σ.1 k1 2)) k0 3 (σ.1 k1 3)) k0 4 (σ.1 k1 4) = z at z0 zf z2
  have key : ∀ n i s, i + n = 8 → s.2 = z.2 → (∀ a j, ¬ (a = k0 + 1 ∧ j < i) → s.1 a j = z.1 a j) → (∀ j, j < i → s.1 (k0 + 1) j = σ.1 (k1 + 1) j) → h_X1_become_42 E d k0 k1 (nI i) s QV := by
    intro n
    induction n with
    | zero =>
      intro i s hi s2 sf sv
      refine v_X1_become_42 hk0 hk1 ?_
      unfold t_X1_become_42
      rw [show i = 8 by omega] at *
      exact ⟨fun _ => k s (s2.trans z2) (fun a j h1 h2 => (sf a j (by omega)).trans (zf a j h1)) (fun j hj => (sf _ _ (by omega)).trans (z0 j hj)) sv, fun h => absurd (by decide) h⟩
    | succ n ih =>
      intro i s hi s2 sf sv
      refine v_X1_become_42 hk0 hk1 ?_
      unfold t_X1_become_42
      rw [nI_clamp (by omega), nI_1]
      refine ⟨fun h => absurd h (nI_ge (b := 8) (by omega) (by omega)), fun _ => ⟨vp_in_nI (by omega) (by omega), vp_in_nI (by omega) (by omega), ?_⟩⟩
      rintro _ rfl
      refine ih (i + 1) _ (by omega) s2 (fun a j h => by rw [fsI_n (by omega)]; exact sf a j (by omega)) (fun j hj => ?_)
      by_cases e : j = i
      · subst e
        rw [fsI_s, sf _ _ (by omega), zf _ _ (by omega)]
      · rw [fsI_n (by omega)]; exact sv j (by omega)
  exact key 8 0 z (by omega) rfl (fun _ _ _ => rfl) (fun j hj => absurd hj (by omega))
theorem c_rBecome {k0 k1 : Nat} (hk0 : isRd k0) (hk1 : isRd k1) (hne : k0 ≠ k1) (hl : vp_in (σ.1 k1 5) 2) (k : ∀ σ', σ'.2 = σ.2 → (∀ a i, ¬ (a = k0 ∧ 1 ≤ i ∧ i < 6) → σ'.1 a i = σ.1 a i) → (∀ i, 1 ≤ i → i < 6 → σ'.1 k0 i = σ.1 k1 i) → QV σ') : fMv E (d + 2) mX2_become [.ref k0, .ref k1] σ QV := by
  refine v_X2_become hk0 hk1 ?_
  unfold t_X2_become
  refine c_lay hk0 ?_
  have e5 : (fsI (fsI (fsI (fsI (fsI σ k0 1 (σ.1 k1 1)) k0 2 (σ.1 k1 2)) k0 3 (σ.1 k1 3)) k0 4 (σ.1 k1 4)) k0 5 1).1 k1 5 = σ.1 k1 5 := by repeat rw [fsI_k (fun q => hne q.symm)]
  rw [e5]
  refine ⟨vp_b hl, ?_⟩
  rintro _ rfl
  refine k _ rfl (fun a i h => by repeat rw [fsI_n (by omega)]) (fun i h1 h2 => ?_)
  rcases (show i = 1 ∨ i = 2 ∨ i = 3 ∨ i = 4 ∨ i = 5 by omega) with rfl | rfl | rfl | rfl | rfl <;> simp [fsI_at]
/-- world w becomes world v -/
theorem c_wBecome {w v nr np : Nat} (hw : isWd w) (hv : isWd v) (hwv : w ≠ v) (hr : nr ≤ 8) (hp : np ≤ 4) (h1 : σ.1 v 1 = nI nr) (h2 : σ.1 v 2 = nI np) (hl : ∀ i, i < nr → vp_in (σ.1 (v + 4 + i) 5) 2) (hl2 : ∀ p, p < np → vp_in (σ.1 (v + 12 + 2 * p) 4) 2)
    (k : ∀ σ', σ'.2 = σ.2 → (∀ a i, ¬ (w ≤ a ∧ a < w + 20) → σ'.1 a i = σ.1 a i) → (∀ i, i < 8 → σ'.1 (w + 4 + i) 0 = σ.1 (w + 4 + i) 0) → (∀ j, j < 5 → σ'.1 w j = σ.1 v j) → (∀ i, i < 7 → σ'.1 (w + 1) i = σ.1 (v + 1) i) → (∀ i j, i < nr → 1 ≤ j → j < 6 → σ'.1 (w + 4 + i) j = σ.1 (v + 4 + i) j) → (∀ p j, p < np → j < 5 → σ'.1 (w + 12 + 2 * p) j = σ.1 (v + 12 + 2 * p) j) → (∀ p i, p < np → i < 8 → σ'.1 (w + 12 + 2 * p + 1) i = σ.1 (v + 12 + 2 * p + 1) i) → QV σ') : fMv E (d + 3) mX5_become [.ref w, .ref v] σ QV := by
  have wv : w + 20 ≤ v ∨ v + 20 ≤ w := by
    rcases hw with rfl | rfl | rfl <;> rcases hv with rfl | rfl | rfl <;> omega
  refine v_X5_become hw hv ?_
  unfold t_X5_become
  rintro _ rfl _ rfl _ rfl _ rfl _ rfl
  have e1 : ∀ s : FH, ∀ i x j, (fsI s w i x).1 v j = s.1 v j := fun s i x j => fsI_k (by omega)
  simp only [e1]
  have z0 : ∀ i, i < 5 → (fsI (fsI (fsI (fsI (fsI σ w 0 (σ.1 v 0)) w 1 (σ.1 v 1)) w 2 (σ.1 v 2)) w 3 (σ.1 v 3)) w 4 (σ.1 v 4)).1 w i = σ.1 v i := by
    intro i hi
    rcases (show i = 0 ∨ i = 1 ∨ i = 2 ∨ i = 3 ∨ i = 4 by omega) with rfl | rfl | rfl | rfl | rfl <;> simp [fsI_at]
  have zf : ∀ a i, a ≠ w → (fsI (fsI (fsI (fsI (fsI σ w 0 (σ.1 v 0)) w 1 (σ.1 v 1)) w 2 (σ.1 v 2)) w 3 (σ.1 v 3)) w 4 (σ.1 v 4)).1 a i = σ.1 a i := fun a i h => by repeat rw [fsI_n (by omega)]
  have z2 : (fsI (fsI (fsI (fsI (fsI σ w 0 (σ.1 v 0)) w 1 (σ.1 v 1)) w 2 (σ.1 v 2)) w 3 (σ.1 v 3)) w 4 (σ.1 v 4)).2 = σ.2 := rfl
  generalize fsI (fsI (fsI (fsI (fsI σ w 0 (σ.1 v 0)) w 1 (σ.1 v 1)) w 2 (σ.1 v 2)) w 3 (σ.1 v 3)) w 4 (σ.1 v 4) = z at z0 zf z2
  -- the pilgrims
  have key3 : ∀ n i s, i + n = np → s.2 = σ.2 → (∀ a j, ¬ (w ≤ a ∧ a < w + 20) → s.1 a j = σ.1 a j) → (∀ i, i < 8 → s.1 (w + 4 + i) 0 = σ.1 (w + 4 + i) 0) → (∀ j, j < 5 → s.1 w j = σ.1 v j) → (∀ i, i < 7 → s.1 (w + 1) i = σ.1 (v + 1) i) → (∀ i j, i < nr → 1 ≤ j → j < 6 → s.1 (w + 4 + i) j = σ.1 (v + 4 + i) j) → (∀ p j, p < i → j < 5 → s.1 (w + 12 + 2 * p) j = σ.1 (v + 12 + 2 * p) j) → (∀ p j, p < i → j < 8 → s.1 (w + 12 + 2 * p + 1) j = σ.1 (v + 12 + 2 * p + 1) j) → h_X5_become_99 E (d + 2) w v (nI i) s QV := by
    intro n
    induction n with
    | zero =>
      intro i s hi s2 sf s0 sw sl sr sp sk
      refine v_X5_become_99 hw hv ?_
      unfold t_X5_become_99
      rw [sw 2 (by omega), h2]
      rw [show i = np by omega] at *
      exact ⟨fun _ => k s s2 sf s0 sw sl sr sp sk, fun h => absurd (nI_le (Nat.le_refl np) (by omega)) h⟩
    | succ n ih =>
      intro i s hi s2 sf s0 sw sl sr sp sk
      refine v_X5_become_99 hw hv ?_
      unfold t_X5_become_99
      rw [sw 2 (by omega), h2, nI_clamp (by omega), nI_1]
      refine ⟨fun h => absurd h (nI_ge (by omega) (by omega)), fun _ => ⟨vp_in_nI (by omega) (by omega), vp_in_nI (by omega) (by omega), c_pBecome ⟨w, i, hw, by omega, rfl⟩ ⟨v, i, hv, by omega, rfl⟩ ⟨by omega, by omega, by omega⟩ (by rw [sf _ _ (by omega)]; exact hl2 i (by omega)) ?_⟩⟩
      intro t t2 tf ta tk
      refine ih (i + 1) t (by omega) (t2.trans s2) (fun a j h => by rw [tf a j (by omega) (by omega)]; exact sf a j h) (fun j hj => by rw [tf _ _ (by omega) (by omega)]; exact s0 j hj) (fun j hj => by rw [tf _ _ (by omega) (by omega)]; exact sw j hj) (fun j hj => by rw [tf _ _ (by omega) (by omega)]; exact sl j hj) (fun a j h1 h2 h3 => by rw [tf _ _ (by omega) (by omega)]; exact sr a j h1 h2 h3) (fun p j hpp hj => ?_) (fun p j hpp hj => ?_)
      · by_cases e : p = i
        · subst e
          rw [ta j hj, sf _ _ (by omega)]
        · rw [tf _ _ (by omega) (by omega)]; exact sp p j (by omega) hj
      · by_cases e : p = i
        · subst e
          rw [tk j hj, sf _ _ (by omega)]
        · rw [tf _ _ (by omega) (by omega)]; exact sk p j (by omega) hj
  -- the roads
  have key2 : ∀ n i s, i + n = nr → s.2 = σ.2 → (∀ a j, ¬ (w ≤ a ∧ a < w + 20) → s.1 a j = σ.1 a j) → (∀ i, i < 8 → s.1 (w + 4 + i) 0 = σ.1 (w + 4 + i) 0) → (∀ j, j < 5 → s.1 w j = σ.1 v j) → (∀ i, i < 7 → s.1 (w + 1) i = σ.1 (v + 1) i) → (∀ r j, r < i → 1 ≤ j → j < 6 → s.1 (w + 4 + r) j = σ.1 (v + 4 + r) j) → h_X5_become_68 E (d + 2) w v (nI i) s QV := by
    intro n
    induction n with
    | zero =>
      intro i s hi s2 sf s0 sw sl sr
      refine v_X5_become_68 hw hv ?_
      unfold t_X5_become_68
      rw [sw 1 (by omega), h1]
      rw [show i = nr by omega] at *
      exact ⟨fun _ => key3 np 0 s (by omega) s2 sf s0 sw sl sr (fun p j h => absurd h (by omega)) (fun p j h => absurd h (by omega)), fun h => absurd (nI_le (Nat.le_refl nr) (by omega)) h⟩
    | succ n ih =>
      intro i s hi s2 sf s0 sw sl sr
      refine v_X5_become_68 hw hv ?_
      unfold t_X5_become_68
      rw [sw 1 (by omega), h1, nI_clamp (by omega), nI_1]
      refine ⟨fun h => absurd h (nI_ge (by omega) (by omega)), fun _ => ⟨vp_in_nI (by omega) (by omega), vp_in_nI (by omega) (by omega), c_rBecome ⟨w, i, hw, by omega, rfl⟩ ⟨v, i, hv, by omega, rfl⟩ (by omega) (by rw [sf _ _ (by omega)]; exact hl i (by omega)) ?_⟩⟩
      intro t t2 tf ta
      refine ih (i + 1) t (by omega) (t2.trans s2) (fun a j h => by rw [tf a j (by omega)]; exact sf a j h) (fun j hj => by rw [tf _ _ (by omega)]; exact s0 j hj) (fun j hj => by rw [tf _ _ (by omega)]; exact sw j hj) (fun j hj => by rw [tf _ _ (by omega)]; exact sl j hj) (fun r j hrr hj1 hj2 => ?_)
      by_cases e : r = i
      · subst e
        rw [ta j hj1 hj2, sf _ _ (by omega)]
      · rw [tf _ _ (by omega)]; exact sr r j (by omega) hj1 hj2
  -- the log
  have key1 : ∀ n i s, i + n = 7 → s.2 = z.2 → (∀ a j, ¬ (a = w + 1 ∧ j < i) → s.1 a j = z.1 a j) → (∀ j, j < i → s.1 (w + 1) j = σ.1 (v + 1) j) → h_X5_become_42 E (d + 2) w v (nI i) s QV := by
    intro n
    induction n with
    | zero =>
      intro i s hi s2 sf sl
      refine v_X5_become_42 hw hv ?_
      unfold t_X5_become_42
      rw [show i = 7 by omega] at *
      refine ⟨fun _ => key2 nr 0 s (by omega) (s2.trans z2) (fun a j h => ?_) (fun j hj => ?_) (fun j hj => ?_) sl (fun r j h => absurd h (by omega)), fun h => absurd (by decide) h⟩
      · rw [sf a j (by omega), zf a j (by omega)]
      · rw [sf _ _ (by omega), zf _ _ (by omega)]
      · rw [sf _ _ (by omega), z0 j hj]
    | succ n ih =>
      intro i s hi s2 sf sl
      refine v_X5_become_42 hw hv ?_
      unfold t_X5_become_42
      rw [nI_clamp (by omega), nI_1]
      refine ⟨fun h => absurd h (nI_ge (b := 7) (by omega) (by omega)), fun _ => ⟨vp_in_nI (by omega) (by omega), vp_in_nI (by omega) (by omega), ?_⟩⟩
      rintro _ rfl
      refine ih (i + 1) _ (by omega) s2 (fun a j h => by rw [fsI_n (by omega)]; exact sf a j (by omega)) (fun j hj => ?_)
      by_cases e : j = i
      · subst e
        rw [fsI_s, sf _ _ (by omega), zf _ _ (by omega)]
      · rw [fsI_n (by omega)]; exact sl j (by omega)
  exact key1 7 0 z (by omega) rfl (fun _ _ _ => rfl) (fun j hj => absurd hj (by omega))
end C4
theorem wOK.tr {c v w nr np nl : Nat} {σ σ' : FH} (h : wOK c v nr np nl σ) (h0 : ∀ j, j < 5 → σ'.1 w j = σ.1 v j) (hl : ∀ i, i < 7 → σ'.1 (w + 1) i = σ.1 (v + 1) i) (hr : ∀ i j, i < nr → 1 ≤ j → j < 6 → σ'.1 (w + 4 + i) j = σ.1 (v + 4 + i) j) (hp : ∀ p j, p < np → j < 5 → σ'.1 (w + 12 + 2 * p) j = σ.1 (v + 12 + 2 * p) j) (hk : ∀ p i, p < np → i < 8 → σ'.1 (w + 12 + 2 * p + 1) i = σ.1 (v + 12 + 2 * p + 1) i) : wOK c w nr np nl σ' := by
  obtain ⟨a1, a2, a3, a4, a5, a6, a7, a8, a9, a10⟩ := h
  refine ⟨a1, a2, a3, by rw [h0 1 (by omega)]; exact a4, by rw [h0 2 (by omega)]; exact a5, by rw [h0 4 (by omega)]; exact a6, fun i hi => ?_, fun p hpp => ?_, fun i hi => by rw [hl i (by omega)]; exact a9 i hi, by rw [h0 0 (by omega)]; exact a10⟩
  · have := a7 i hi
    unfold rdOK at this ⊢
    rw [hr i 1 hi (by omega) (by omega), hr i 2 hi (by omega) (by omega), hr i 3 hi (by omega) (by omega), hr i 4 hi (by omega) (by omega), hr i 5 hi (by omega) (by omega)]
    exact this
  · obtain ⟨b0, b1, b2, b3, b4⟩ := a8 p hpp
    exact ⟨by rw [hp p 0 hpp (by omega)]; exact b0, by rw [hp p 1 hpp (by omega)]; exact b1, by rw [hp p 2 hpp (by omega)]; exact b2, by rw [hp p 4 hpp (by omega)]; exact b3, fun i hi => by rw [hk p i hpp hi]; exact b4 i hi⟩
theorem wRel.tr {v w A M K G A' M' K' G' nr np nl : Nat} {σ σ' : FH} (hrn : nr ≤ 8) (hpn : np ≤ 4) (hln : nl ≤ 7) (h : wRel v A M K G nr np nl σ) (hl : ∀ i, i < 7 → σ'.1 (w + 1) i = σ.1 (v + 1) i) (hr : ∀ i j, i < nr → 1 ≤ j → j < 6 → σ'.1 (w + 4 + i) j = σ.1 (v + 4 + i) j) (hp : ∀ p j, p < np → j < 5 → σ'.1 (w + 12 + 2 * p) j = σ.1 (v + 12 + 2 * p) j) (hk : ∀ p i, p < np → i < 8 → σ'.1 (w + 12 + 2 * p + 1) i = σ.1 (v + 12 + 2 * p + 1) i) (hA : ∀ j, j < 40 → σ'.1 A' j = σ.1 A j) (hM : ∀ j, j < 20 → σ'.1 M' j = σ.1 M j) (hK : ∀ j, j < 32 → σ'.1 K' j = σ.1 K j) (hG : ∀ j, j < 7 → σ'.1 G' j = σ.1 G j) : wRel w A' M' K' G' nr np nl σ' := by
  obtain ⟨a1, a2, a3⟩ := h
  refine ⟨fun i hi => ?_, fun p hpp => ?_, fun i hi => by rw [hG i (by omega), hl i (by omega)]; exact a3 i hi⟩
  · obtain ⟨b0, b1, b2, b3, b4⟩ := a1 i hi
    exact ⟨by rw [hA _ (by omega), hr i 1 hi (by omega) (by omega)]; exact b0, by rw [hA _ (by omega), hr i 2 hi (by omega) (by omega)]; exact b1, by rw [hA _ (by omega), hr i 3 hi (by omega) (by omega)]; exact b2, by rw [hA _ (by omega), hr i 4 hi (by omega) (by omega)]; exact b3, by rw [hA _ (by omega), hr i 5 hi (by omega) (by omega)]; exact b4⟩
  · obtain ⟨b0, b1, b2, b3, b4, b5⟩ := a2 p hpp
    exact ⟨by rw [hM _ (by omega), hp p 0 hpp (by omega)]; exact b0, by rw [hM _ (by omega), hp p 1 hpp (by omega)]; exact b1, by rw [hM _ (by omega), hp p 2 hpp (by omega)]; exact b2, by rw [hM _ (by omega), hp p 4 hpp (by omega)]; exact b3, by rw [hM _ (by omega), hp p 3 hpp (by omega)]; exact b4, fun i hi => by rw [hK _ (by omega), hk p i hpp hi]; exact b5 i hi⟩
