/-! the page: what a letter has to be (q: the codes) -/
def pg_k (n : Nat) : Nat := if n = 102 then 1 else if n = 98 then 2 else if n = 100 then 3 else if n = 103 then 4 else 0
theorem pg_k5 (n : Nat) : pg_k n < 5 := by
  unfold pg_k
  split
  · omega
  · split
    · omega
    · split
      · omega
      · split <;> omega
theorem pg_kd {n : Nat} (h : n < 1000) : kdOf (nI n) = nI (pg_k n) := by
  have e : ∀ m, m < 1000 → ((nI n = nI m) ↔ n = m) := fun m hm => nI_eq (by omega) (by omega)
  unfold kdOf pg_k
  by_cases h1 : n = 102
  · subst h1; rfl
  by_cases h2 : n = 98
  · subst h2; rfl
  by_cases h3 : n = 100
  · subst h3; rfl
  by_cases h4 : n = 103
  · subst h4; rfl
  rw [if_neg h1, if_neg h2, if_neg h3, if_neg h4, if_neg (show ¬ nI n = (102 : Int32) from fun z => h1 ((e 102 (by omega)).mp z)), if_neg (show ¬ nI n = (98 : Int32) from fun z => h2 ((e 98 (by omega)).mp z)), if_neg (show ¬ nI n = (100 : Int32) from fun z => h3 ((e 100 (by omega)).mp z)), if_neg (show ¬ nI n = (103 : Int32) from fun z => h4 ((e 103 (by omega)).mp z))]
  rfl
def pg_S (s c b e : Nat) : Option Nat :=
  if s = 0 then (if 48 ≤ c ∧ c ≤ 54 then some 1 else none)
  else if s = 1 then (if (b = 48 ∧ 49 ≤ c ∧ c ≤ 57) ∨ (b = 54 ∧ c = 48) ∨ (b ≠ 48 ∧ b ≠ 54 ∧ 48 ≤ c ∧ c ≤ 57) then some 2 else none)
  else if s = 2 then (if c = 58 then some 3 else none)
  else if s = 3 then (if pg_k c ≠ 0 then some 4 else if 48 ≤ c ∧ c ≤ 53 then some 5 else none)
  else if s = 4 then (if 48 ≤ c ∧ c ≤ 53 then some 5 else none)
  else if s = 5 then (if (48 ≤ c ∧ c ≤ 53) ∧ c ≠ b then some 6 else none)
  else if s = 6 then (if 49 ≤ c ∧ c ≤ 57 then some 7 else none)
  else (if c = 44 ∧ e < 8 then some 3 else none)
def pg_R (q : Nat → Nat) : Nat → Option (Nat × Nat × Nat)
  | 0 => some (0, 0, 0)
  | n + 1 => match pg_R q n with
    | none => none
    | some (s, b, e) => match pg_S s (q n) b e with
      | none => none
      | some t => some (t, q n, if t = 7 then e + 1 else e)
theorem pg_R_none {q : Nat → Nat} {n : Nat} (h : pg_R q n = none) : ∀ m, pg_R q (n + m) = none
  | 0 => h
  | m + 1 => by
    show (match pg_R q (n + m) with | none => none | some (s, b, e) => match pg_S s (q (n + m)) b e with | none => none | some t => some (t, q (n + m), if t = 7 then e + 1 else e)) = none
    rw [pg_R_none h m]
theorem pg_R_step {q : Nat → Nat} {n s b e t : Nat} (h : pg_R q n = some (s, b, e)) (h2 : pg_S s (q n) b e = some t) : pg_R q (n + 1) = some (t, q n, if t = 7 then e + 1 else e) := by
  show (match pg_R q n with | none => none | some (s, b, e) => match pg_S s (q n) b e with | none => none | some t => some (t, q n, if t = 7 then e + 1 else e)) = _
  rw [h]
  simp only [h2]
theorem pg_R_stop {q : Nat → Nat} {n s b e : Nat} (h : pg_R q n = some (s, b, e)) (h2 : pg_S s (q n) b e = none) : pg_R q (n + 1) = none := by
  show (match pg_R q n with | none => none | some (s, b, e) => match pg_S s (q n) b e with | none => none | some t => some (t, q n, if t = 7 then e + 1 else e)) = _
  rw [h]
  simp only [h2]
/-- where a road begins, and where its ends stand -/
def pg_P (q : Nat → Nat) : Nat → Nat
  | 0 => 3
  | r + 1 => pg_P q r + (if pg_k (q (pg_P q r)) = 0 then 4 else 5)
def pg_E (q : Nat → Nat) (r : Nat) : Nat := pg_P q r + (if pg_k (q (pg_P q r)) = 0 then 0 else 1)
theorem pg_PE (q : Nat → Nat) (r : Nat) : pg_P q (r + 1) = pg_E q r + 4 := by
  show pg_P q r + _ = pg_P q r + _ + 4
  split <;> omega
def pg_rd (q : Nat → Nat) (r : Nat) : Prop := (48 ≤ q (pg_E q r) ∧ q (pg_E q r) ≤ 53) ∧ (48 ≤ q (pg_E q r + 1) ∧ q (pg_E q r + 1) ≤ 53) ∧ q (pg_E q r + 1) ≠ q (pg_E q r) ∧ 49 ≤ q (pg_E q r + 2) ∧ q (pg_E q r + 2) ≤ 57
/-- what a text without a fault is so far -/
def pg_I (q : Nat → Nat) (i s b e : Nat) : Prop :=
  s ≤ 7 ∧ e ≤ 8 ∧ (0 < i → b = q (i - 1)) ∧ (∀ r, r < e → pg_rd q r) ∧ (s ≤ 2 → i = s ∧ e = 0) ∧ (3 ≤ s → s ≤ 6 → e < 8) ∧ (s = 7 → 0 < e ∧ i + 1 = pg_P q e) ∧
  (s = 3 → i = pg_P q e) ∧ (s = 4 → i = pg_P q e + 1 ∧ pg_k (q (pg_P q e)) ≠ 0) ∧ (s = 5 ∨ s = 6 → 48 ≤ q (pg_E q e) ∧ q (pg_E q e) ≤ 53) ∧ (s = 5 → i = pg_E q e + 1) ∧ (s = 6 → i = pg_E q e + 2 ∧ 48 ≤ q (pg_E q e + 1) ∧ q (pg_E q e + 1) ≤ 53 ∧ q (pg_E q e + 1) ≠ q (pg_E q e)) ∧
  (1 ≤ s → 48 ≤ q 0 ∧ q 0 ≤ 54) ∧ (2 ≤ s → 48 ≤ q 1 ∧ q 1 ≤ 57 ∧ 1 ≤ (q 0 - 48) * 10 + (q 1 - 48) ∧ (q 0 - 48) * 10 + (q 1 - 48) ≤ 60) ∧ (3 ≤ s → 3 ≤ i)
theorem pg_R_I (q : Nat → Nat) : ∀ i s b e, pg_R q i = some (s, b, e) → pg_I q i s b e
  | 0, s, b, e, h => by
    injection h with h
    injection h with h1 h2
    injection h2 with h2 h3
    subst h1 h2 h3
    unfold pg_I
    refine ⟨by omega, by omega, by omega, fun r hr => absurd hr (by omega), by omega, by omega, by omega, by omega, by omega, by omega, by omega, by omega, by omega, by omega, by omega⟩
  | i + 1, s', b', e', h => by
    rcases hR : pg_R q i with _ | ⟨s, b, e⟩
    · have := pg_R_none hR 1
      rw [this] at h
      exact absurd h (by simp)
    · have ih := pg_R_I q i s b e hR
      rcases hS : pg_S s (q i) b e with _ | t
      · rw [pg_R_stop hR hS] at h
        exact absurd h (by simp)
      · rw [pg_R_step hR hS] at h
        injection h with h
        injection h with h1 h2
        injection h2 with h2 h3
        subst h1 h2 h3
        obtain ⟨i1, i2, i3, i4, i5, i6, i7, i8, i9, i10, i11, i12, i13, i14, i15⟩ := ih
        unfold pg_S at hS
        rcases (show s = 0 ∨ s = 1 ∨ s = 2 ∨ s = 3 ∨ s = 4 ∨ s = 5 ∨ s = 6 ∨ s = 7 by omega) with rfl | rfl | rfl | rfl | rfl | rfl | rfl | rfl
        · obtain ⟨j1, j2⟩ := i5 (by omega)
          subst j1 j2
          simp only [if_true] at hS
          split at hS
          · injection hS with hS
            subst hS
            simp only [if_neg (show ¬ (1 : Nat) = 7 by omega)]
            exact ⟨by omega, by omega, fun _ => rfl, fun r hr => absurd hr (by omega), by simp, by omega, by omega, by omega, by omega, by omega, by omega, by omega, by omega, by omega, by omega⟩
          · exact absurd hS (by simp)
        · obtain ⟨j1, j2⟩ := i5 (by omega)
          subst j1 j2
          simp only [if_neg (show ¬ (1 : Nat) = 0 by omega), if_true] at hS
          have hb := i3 (by omega)
          have h0 := i13 (by omega)
          split at hS
          · injection hS with hS
            subst hS
            simp only [Nat.sub_self] at hb
            subst hb
            simp only [if_neg (show ¬ (2 : Nat) = 7 by omega)]
            exact ⟨by omega, by omega, fun _ => rfl, fun r hr => absurd hr (by omega), by simp, by omega, by omega, by omega, by omega, by omega, by omega, by omega, by omega, by omega, by omega⟩
          · exact absurd hS (by simp)
        · obtain ⟨j1, j2⟩ := i5 (by omega)
          subst j1 j2
          simp only [if_neg (show ¬ (2 : Nat) = 0 by omega), if_neg (show ¬ (2 : Nat) = 1 by omega), if_true] at hS
          have h0 := i13 (by omega)
          have h1 := i14 (by omega)
          split at hS
          · injection hS with hS
            subst hS
            simp only [if_neg (show ¬ (3 : Nat) = 7 by omega)]
            exact ⟨by omega, by omega, fun _ => rfl, fun r hr => absurd hr (by omega), by omega, by omega, by omega, fun _ => by simp [pg_P], by omega, by omega, by omega, by omega, by omega, by omega, by omega⟩
          · exact absurd hS (by simp)
        · simp only [if_neg (show ¬ (3 : Nat) = 0 by omega), if_neg (show ¬ (3 : Nat) = 1 by omega), if_neg (show ¬ (3 : Nat) = 2 by omega), if_true] at hS
          have h0 := i13 (by omega)
          have h1 := i14 (by omega)
          have h8 := i8 rfl
          have h6 := i6 (by omega) (by omega)
          have h15 := i15 (by omega)
          split at hS
          · next hk =>
            injection hS with hS
            subst hS
            simp only [if_neg (show ¬ (4 : Nat) = 7 by omega)]
            exact ⟨by omega, by omega, fun _ => rfl, i4, by omega, fun _ _ => h6, by omega, by omega, fun _ => ⟨by omega, by rw [← h8]; exact hk⟩, by omega, by omega, by omega, by omega, by omega, by omega⟩
          · next hk =>
            have hk : pg_k (q i) = 0 := by omega
            have hE : pg_E q e = i := by unfold pg_E; rw [← h8, if_pos hk]; omega
            split at hS
            · injection hS with hS
              subst hS
              simp only [if_neg (show ¬ (5 : Nat) = 7 by omega)]
              exact ⟨by omega, by omega, fun _ => rfl, i4, by omega, fun _ _ => h6, by omega, by omega, by omega, fun _ => by rw [hE]; assumption, fun _ => by omega, by omega, by omega, by omega, by omega⟩
            · exact absurd hS (by simp)
        · simp only [if_neg (show ¬ (4 : Nat) = 0 by omega), if_neg (show ¬ (4 : Nat) = 1 by omega), if_neg (show ¬ (4 : Nat) = 2 by omega), if_neg (show ¬ (4 : Nat) = 3 by omega), if_true] at hS
          have h0 := i13 (by omega)
          have h1 := i14 (by omega)
          obtain ⟨h9, hk⟩ := i9 rfl
          have h6 := i6 (by omega) (by omega)
          have h15 := i15 (by omega)
          have hE : pg_E q e = i := by unfold pg_E; rw [if_neg hk]; omega
          split at hS
          · injection hS with hS
            subst hS
            simp only [if_neg (show ¬ (5 : Nat) = 7 by omega)]
            exact ⟨by omega, by omega, fun _ => rfl, i4, by omega, fun _ _ => h6, by omega, by omega, by omega, fun _ => by rw [hE]; assumption, fun _ => by omega, by omega, by omega, by omega, by omega⟩
          · exact absurd hS (by simp)
        · simp only [if_neg (show ¬ (5 : Nat) = 0 by omega), if_neg (show ¬ (5 : Nat) = 1 by omega), if_neg (show ¬ (5 : Nat) = 2 by omega), if_neg (show ¬ (5 : Nat) = 3 by omega), if_neg (show ¬ (5 : Nat) = 4 by omega), if_true] at hS
          have h0 := i13 (by omega)
          have h1 := i14 (by omega)
          have h11 := i11 rfl
          have h10 := i10 (Or.inl rfl)
          have h6 := i6 (by omega) (by omega)
          have h15 := i15 (by omega)
          have hb := i3 (by omega)
          split at hS
          · next hc =>
            injection hS with hS
            subst hS
            simp only [if_neg (show ¬ (6 : Nat) = 7 by omega)]
            refine ⟨by omega, by omega, fun _ => rfl, i4, by omega, fun _ _ => h6, by omega, by omega, by omega, fun _ => h10, by omega, fun _ => ⟨by omega, ?_⟩, by omega, by omega, by omega⟩
            rw [← h11]
            refine ⟨hc.1.1, hc.1.2, ?_⟩
            rw [hb, h11, show pg_E q e + 1 - 1 = pg_E q e by omega, ← h11] at hc
            exact hc.2
          · exact absurd hS (by simp)
        · simp only [if_neg (show ¬ (6 : Nat) = 0 by omega), if_neg (show ¬ (6 : Nat) = 1 by omega), if_neg (show ¬ (6 : Nat) = 2 by omega), if_neg (show ¬ (6 : Nat) = 3 by omega), if_neg (show ¬ (6 : Nat) = 4 by omega), if_neg (show ¬ (6 : Nat) = 5 by omega), if_true] at hS
          have h0 := i13 (by omega)
          have h1 := i14 (by omega)
          obtain ⟨h12, h12a, h12b, h12c⟩ := i12 rfl
          have h10 := i10 (Or.inr rfl)
          have h6 := i6 (by omega) (by omega)
          have h15 := i15 (by omega)
          split at hS
          · next hc =>
            injection hS with hS
            subst hS
            simp only [if_true]
            refine ⟨by omega, by omega, fun _ => rfl, fun r hr => ?_, by omega, by omega, fun _ => ⟨by omega, by rw [pg_PE]; omega⟩, by omega, by omega, by omega, by omega, by omega, by omega, by omega, by omega⟩
            by_cases er : r = e
            · subst er
              exact ⟨h10, ⟨h12a, h12b⟩, h12c, by rw [← h12]; exact hc.1, by rw [← h12]; exact hc.2⟩
            · exact i4 r (by omega)
          · exact absurd hS (by simp)
        · simp only [if_neg (show ¬ (7 : Nat) = 0 by omega), if_neg (show ¬ (7 : Nat) = 1 by omega), if_neg (show ¬ (7 : Nat) = 2 by omega), if_neg (show ¬ (7 : Nat) = 3 by omega), if_neg (show ¬ (7 : Nat) = 4 by omega), if_neg (show ¬ (7 : Nat) = 5 by omega), if_neg (show ¬ (7 : Nat) = 6 by omega)] at hS
          have h0 := i13 (by omega)
          have h1 := i14 (by omega)
          obtain ⟨h7, h7a⟩ := i7 rfl
          have h15 := i15 (by omega)
          split at hS
          · next hc =>
            injection hS with hS
            subst hS
            simp only [if_neg (show ¬ (3 : Nat) = 7 by omega)]
            exact ⟨by omega, by omega, fun _ => rfl, i4, by omega, fun _ _ => hc.2, by omega, fun _ => h7a, by omega, by omega, by omega, by omega, by omega, by omega, by omega⟩
          · exact absurd hS (by simp)
