/-! Search: takeRoads, isReached -/
def tk (b j : Nat) : Nat := if j < b then j else j + 1
section ST2
variable {E : am_E} {d : Nat} {σ : FH} {Q : Int32 → FH → Prop} {QV : FH → Prop} {A B h wt g : Nat → Nat}
theorem c_takeRoads {nr p b : Nat} {x : Int32} (hn : nr ≤ 8) (hp : p < 4) (h1 : σ.1 4 1 = nI nr) (hx : ∀ i, i < nr → (nI i = x ↔ i = b)) (hN : ∀ r, r < 8 → σ.1 (8 + r) 0 = nI r) (hr : ∀ r, r < nr → σ.1 (8 + r) 2 = nI (A r) ∧ σ.1 (8 + r) 3 = nI (B r) ∧ σ.1 (8 + r) 4 = nI (h r) ∧ wt r ≤ 4 ∧ wrt (σ.1 (8 + r) 1) (σ.1 (8 + r) 5) = nI (wt r)) (hg : ∀ r, r < nr → g r = if ¬ σ.1 (8 + r) 4 ≤ σ.1 (17 + 2 * p) r then wt r else 0)
    (k : ∀ σ', σ'.2 = σ.2 → (∀ a i, ¬ (a = 64 ∧ (i = 6 ∨ i = 7)) → ¬ (65 ≤ a ∧ a ≤ 69) → σ'.1 a i = σ.1 a i) → sr_R (if b < nr then nr - 1 else nr) (fun j => A (tk b j)) (fun j => B (tk b j)) (fun j => h (tk b j)) (fun j => g (tk b j)) σ' → QV σ') (h69 : σ.1 69 0 = 0) : fMv E (d + 2) mX4_takeRoads [.ref 64, .ref 4, .ref (16 + 2 * p), .int x] σ QV := by
  have hpg : isPg (16 + 2 * p) := ⟨4, p, Or.inl rfl, hp, by omega⟩
  refine v_X4_takeRoads (Or.inl rfl) hpg ?_
  unfold t_X4_takeRoads
  rintro _ rfl _ rfl
  have key : ∀ l i s, i + l = nr → s.2 = σ.2 → (∀ a i, ¬ (a = 64 ∧ (i = 6 ∨ i = 7)) → ¬ (65 ≤ a ∧ a ≤ 69) → s.1 a i = σ.1 a i) → sr_R (if b < i then i - 1 else i) (fun j => A (tk b j)) (fun j => B (tk b j)) (fun j => h (tk b j)) (fun j => g (tk b j)) s → h_X4_takeRoads_13 E (d + 1) 4 (16 + 2 * p) x (nI i) s QV := by
    intro l
    induction l with
    | zero =>
      intro i s hi s2 sf sR
      refine v_X4_takeRoads_13 (Or.inl rfl) hpg ?_
      unfold t_X4_takeRoads_13
      rw [show i = nr by omega] at *
      rw [sf 4 1 (by omega) (by omega), h1]
      exact ⟨fun _ => k s s2 sf sR, fun q => absurd (nI_le (Nat.le_refl nr) (by omega)) q⟩
    | succ l ih =>
      intro i s hi s2 sf sR
      refine v_X4_takeRoads_13 (Or.inl rfl) hpg ?_
      unfold t_X4_takeRoads_13
      have hrd : isRd (4 + 4 + i) := ⟨4, i, Or.inl rfl, by omega, rfl⟩
      obtain ⟨r2, r3, r4, r5, r6⟩ := hr i (by omega)
      rw [sf 4 1 (by omega) (by omega), h1, nI_clamp (by omega), nI_1 i, hx i (by omega), show 4 + 4 + i = 8 + i by omega, sf (8 + i) 2 (by omega) (by omega), sf (8 + i) 3 (by omega) (by omega), sf (8 + i) 4 (by omega) (by omega), r2, r3, r4]
      rw [show 4 + 4 + i = 8 + i by omega] at hrd
      refine ⟨fun q => absurd q (nI_ge (by omega) (by omega)), fun _ => ⟨vp_in_nI (by omega) (by decide), fun e => ?_, fun e => c_wouldCount (r := i) hpg hrd (by omega) (by rw [sf _ _ (by omega) (by omega)]; exact hN i (by omega)) ?_⟩⟩
      · refine ih (i + 1) s (by omega) s2 sf ?_
        have e1 : (if b < i + 1 then i + 1 - 1 else i + 1) = (if b < i then i - 1 else i) := by rw [if_pos (by omega), if_neg (by omega)]; omega
        rw [e1]
        exact sR
      · -- the road's new number
        generalize hm : (if b < i then i - 1 else i) = m at sR
        have tm : tk b m = i := by
          unfold tk
          rw [← hm]
          by_cases q : b < i
          · rw [if_pos q, if_neg (by omega)]; omega
          · rw [if_neg q, if_pos (by omega)]
        have m1 : (if b < i + 1 then i + 1 - 1 else i + 1) = m + 1 := by
          rw [← hm]
          by_cases q : b < i
          · rw [if_pos q, if_pos (by omega)]; omega
          · rw [if_neg q, if_neg (by omega)]
        have ml : m ≤ i := by rw [← hm]; split <;> omega
        have gi : g i ≤ 4 := by rw [hg i (by omega)]; split <;> omega
        have add : fMv E (d + 1) mX4_addRoad [.ref 64, .int (nI (A i)), .int (nI (B i)), .int (nI (h i)), .int (nI (g i))] s (fun σ9 => h_X4_takeRoads_13 E (d + 1) 4 (16 + 2 * p) x (nI (i + 1)) σ9 QV) := by
          have := c_addRoad (E := E) (d := d) (QV := fun σ9 => h_X4_takeRoads_13 E (d + 1) 4 (16 + 2 * p) x (nI (i + 1)) σ9 QV) (m := m) (by omega) sR (show g (tk b m) ≤ 4 by rw [tm]; exact gi) (fun t t2 tf tR => ih (i + 1) t (by omega) (t2.trans s2) (fun a j q1 q2 => by rw [tf _ _ q1 q2]; exact sf a j q1 q2) (by rw [m1]; exact tR))
          simp only [tm] at this
          exact this
        have gv := hg i (by omega)
        rw [show 16 + 2 * p + 1 = 17 + 2 * p by omega, sf (8 + i) 4 (by omega) (by omega), sf (17 + 2 * p) i (by omega) (by omega)]
        simp only [bi0, Classical.not_not]
        refine ⟨fun q => ?_, fun q => c_worth hrd ?_⟩
        · rw [if_neg (fun z => z q)] at gv
          rw [gv] at add
          exact add
        · rw [if_pos q] at gv
          rw [sf (8 + i) 1 (by omega) (by omega), sf (8 + i) 5 (by omega) (by omega), r6, ← gv]
          exact add
  refine key nr 0 _ (by omega) rfl (fun a i q1 q2 => by rw [fsI_n (by omega), fsI_n (by omega)]) ?_
  rw [if_neg (by omega)]
  refine ⟨by rw [fsI_j (by decide)]; exact fsI_s, fsI_s, fun r q => absurd q (by omega), fun s q => ?_⟩
  have e0 : rc_k (fun j => g (tk b j)) 0 = 0 := rfl
  rw [e0] at q
  have : s = 0 := by omega
  subst this
  rw [fsI_k (by decide), fsI_k (by decide)]
  exact h69
theorem c_isReached {s : Nat} {C : Nat → Nat} (hs : s < 512) (hC : ∀ p, p < 6 → C (s * 6 + p) ≤ 1000000000 ∧ σ.1 70 (s * 6 + p) = nI (C (s * 6 + p))) (k0 : (∀ p, p < 6 → C (s * 6 + p) = 1000000000) → Q 0 σ) (k1 : (∃ p, p < 6 ∧ C (s * 6 + p) ≠ 1000000000) → Q 1 σ) : fMi E (d + 1) mX4_isReached [.ref 64, .int (nI s)] σ Q := by
  refine v_X4_isReached ?_
  unfold t_X4_isReached
  rw [show (6 : Int32) = nI 6 from rfl, pk_mul]
  have key : ∀ l p, p + l = 6 → (∀ q, q < p → C (s * 6 + q) = 1000000000) → h_X4_isReached_7 E d (nI (s * 6)) (nI p) σ Q := by
    intro l
    induction l with
    | zero =>
      intro p hp hq
      refine v_X4_isReached_7 ?_
      unfold t_X4_isReached_7
      rw [show p = 6 by omega] at *
      exact ⟨fun _ => k0 hq, fun h => absurd (by decide) h⟩
    | succ l ih =>
      intro p hp hq
      refine v_X4_isReached_7 ?_
      unfold t_X4_isReached_7
      obtain ⟨c1, c2⟩ := hC p (by omega)
      rw [nI_add, nI_clamp (by omega), c2, nI_1 p, show (nI (C (s * 6 + p)) = 1000000000) ↔ C (s * 6 + p) = 1000000000 from nI_eq (by omega) (by decide)]
      refine ⟨fun h => absurd h (nI_ge (b := 6) (by omega) (by omega)), fun _ => ⟨vp_in_nI (by omega) (by decide), fun h => ih (p + 1) (by omega) (fun q hq' => ?_), fun h => k1 ⟨p, by omega, h⟩⟩⟩
      by_cases e : q = p
      · subst e; exact h
      · exact hq q (by omega)
  exact key 6 0 (by omega) (fun q h => absurd h (by omega))
end ST2
