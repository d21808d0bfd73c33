/-! Rows: the class's tally -/
def fo (f : Nat → Nat) : Nat → Nat
  | 0 => 0
  | n + 1 => fo f n ||| f n
theorem fo_bit {f : Nat → Nat} {i : Nat} : ∀ n, (fo f n).testBit i = true ↔ ∃ j, j < n ∧ (f j).testBit i = true
  | 0 => by
    show (0 : Nat).testBit i = true ↔ _
    rw [Nat.zero_testBit]
    exact ⟨fun h => absurd h (by simp), fun ⟨j, h, _⟩ => absurd h (by omega)⟩
  | n + 1 => by
    show (fo f n ||| f n).testBit i = true ↔ _
    rw [Nat.testBit_or, Bool.or_eq_true, fo_bit n]
    constructor
    · rintro (⟨j, h1, h2⟩ | h)
      · exact ⟨j, by omega, h2⟩
      · exact ⟨n, by omega, h⟩
    · rintro ⟨j, h1, h2⟩
      rcases Nat.lt_or_ge j n with h | h
      · exact Or.inl ⟨j, h, h2⟩
      · have : j = n := by omega
        subst this
        exact Or.inr h2
theorem fo_cg {f g : Nat → Nat} : ∀ n, (∀ i, i < n → f i = g i) → fo f n = fo g n
  | 0, _ => rfl
  | n + 1, h => by rw [fo, fo, fo_cg n (fun i hi => h i (by omega)), h n (by omega)]
/-- the bits of roads that count -/
def rc_k (wt : Nat → Nat) (r : Nat) : Nat := fb_ct (fun i => decide (0 < wt i)) r
def rc_b (wt : Nat → Nat) (r : Nat) : Nat := if 0 < wt r then 2 ^ rc_k wt r else 0
theorem rc_k_succ (wt : Nat → Nat) (r : Nat) : rc_k wt (r + 1) = rc_k wt r + (if 0 < wt r then 1 else 0) := by
  unfold rc_k
  rw [fb_ct_succ]
  by_cases h : 0 < wt r <;> simp [h]
theorem rc_k_le (wt : Nat → Nat) (r : Nat) : rc_k wt r ≤ r := fb_ct_le _ r
def rc_W (nr : Nat) (A B wt : Nat → Nat) (σ : FH) : Prop := nr ≤ 8 ∧ σ.1 4 1 = nI nr ∧ ∀ r, r < nr → A r < 6 ∧ B r < 6 ∧ wt r ≤ 4 ∧ σ.1 (8 + r) 2 = nI (A r) ∧ σ.1 (8 + r) 3 = nI (B r) ∧ wrt (σ.1 (8 + r) 1) (σ.1 (8 + r) 5) = nI (wt r)
theorem rc_W.cg {nr : Nat} {A B wt : Nat → Nat} {σ σ' : FH} (h : rc_W nr A B wt σ) (hf : ∀ a i, a < 24 → σ'.1 a i = σ.1 a i) : rc_W nr A B wt σ' := by
  obtain ⟨h1, h2, h3⟩ := h
  refine ⟨h1, by rw [hf _ _ (by omega)]; exact h2, fun r hr => ?_⟩
  rw [hf _ _ (by omega), hf _ _ (by omega), hf _ _ (by omega), hf _ _ (by omega)]
  exact h3 r hr
theorem iRf.fa {σ : FH} (h : iRf σ) : (fA (σ.2.1 4) 1536 ∧ fA (σ.2.1 5) 1536 ∧ fA (σ.2.1 6) 1536 ∧ fA (σ.2.1 7) 1536) ∧ (74 ≤ σ.2.1 4 ∧ σ.2.1 4 ≤ 75) ∧ (74 ≤ σ.2.1 5 ∧ σ.2.1 5 ≤ 75) ∧ (76 ≤ σ.2.1 6 ∧ σ.2.1 6 ≤ 77) ∧ (76 ≤ σ.2.1 7 ∧ σ.2.1 7 ≤ 77) ∧ σ.2.1 4 ≠ σ.2.1 5 ∧ σ.2.1 6 ≠ σ.2.1 7 := by
  obtain ⟨h1, h2⟩ := h
  have f4 : fA 74 1536 := ⟨by decide, by decide, rfl⟩
  have f5 : fA 75 1536 := ⟨by decide, by decide, rfl⟩
  have f6 : fA 76 1536 := ⟨by decide, by decide, rfl⟩
  have f7 : fA 77 1536 := ⟨by decide, by decide, rfl⟩
  rcases h1 with ⟨a, b⟩ | ⟨a, b⟩ <;> rcases h2 with ⟨c, e⟩ | ⟨c, e⟩ <;> rw [a, b, c, e] <;> exact ⟨⟨by assumption, by assumption, by assumption, by assumption⟩, by omega, by omega, by omega, by omega, by omega, by omega⟩
section RC
variable {E : am_E} {d : Nat} {σ : FH} {Q : Int32 → FH → Prop} {QV : FH → Prop} {nr : Nat} {A B wt : Nat → Nat}
theorem c_giveBits (hW : rc_W nr A B wt σ) (k : ∀ σ', σ'.2 = σ.2 → (∀ a i, ¬ (a = 73 ∧ i < 8) → ¬ (a = 71 ∧ i = 8) → σ'.1 a i = σ.1 a i) → (∀ r, r < nr → σ'.1 73 r = nI (rc_b wt r)) → σ'.1 71 8 = nI (2 ^ rc_k wt nr) → QV σ') : fMv E (d + 2) mX3_giveBits [.ref 71, .ref 4] σ QV := by
  obtain ⟨n8, w1, wr⟩ := id hW
  refine v_X3_giveBits (Or.inl rfl) ?_
  unfold t_X3_giveBits
  rintro _ rfl
  have key : ∀ l r s, r + l = nr → s.2 = σ.2 → (∀ a i, ¬ (a = 73 ∧ i < r) → ¬ (a = 71 ∧ i = 8) → s.1 a i = σ.1 a i) → (∀ r', r' < r → s.1 73 r' = nI (rc_b wt r')) → s.1 71 8 = nI (2 ^ rc_k wt r) → h_X3_giveBits_7 E (d + 1) 4 (nI r) s QV := by
    intro l
    induction l with
    | zero =>
      intro r s hr s2 sf sb s8
      refine v_X3_giveBits_7 (Or.inl rfl) ?_
      unfold t_X3_giveBits_7
      rw [show r = nr by omega] at *
      rw [sf 4 1 (by omega) (by omega), w1]
      exact ⟨fun _ => k s s2 (fun a i h1 h2 => sf a i (by omega) h2) sb s8, fun h => absurd (nI_le (Nat.le_refl nr) (by omega)) h⟩
    | succ l ih =>
      intro r s hr s2 sf sb s8
      refine v_X3_giveBits_7 (Or.inl rfl) ?_
      unfold t_X3_giveBits_7
      rw [sf 4 1 (by omega) (by omega), w1, nI_clamp (by omega), nI_1 r]
      obtain ⟨r1, r2, r3, r4, r5, r6⟩ := wr r (by omega)
      refine ⟨fun h => absurd h (nI_ge (by omega) (by omega)), fun _ => ⟨vp_in_nI (by omega) (by decide), ?_⟩⟩
      rintro _ rfl
      refine ⟨vp_in_nI (by omega) (by decide), c_worth ⟨4, r, Or.inl rfl, by omega, rfl⟩ ?_⟩
      rw [show 4 + 4 + r = 8 + r by omega, fsI_k (by omega), fsI_k (by omega), sf _ _ (by omega) (by omega), sf _ _ (by omega) (by omega), r6]
      have kl := rc_k_le wt r
      refine ⟨fun hz => ?_, fun hz => ⟨vp_in_nI (by omega) (by decide), ?_⟩⟩
      · have w0 : ¬ 0 < wt r := fun z => absurd hz (nI_nle z (by omega))
        refine ih (r + 1) _ (by omega) s2 (fun a i h1 h2 => by rw [fsI_n (by omega)]; exact sf a i (by omega) h2) (fun r' h => ?_) ?_
        · by_cases e : r' = r
          · subst e; rw [fsI_s]; unfold rc_b; rw [if_neg w0]; rfl
          · rw [fsI_n (by omega)]; exact sb r' (by omega)
        · rw [fsI_k (by omega), s8, rc_k_succ, if_neg w0, Nat.add_zero]
      · have w0 : 0 < wt r := by
          rcases Nat.eq_zero_or_pos (wt r) with h | h
          · exact absurd (by rw [h]; decide) hz
          · exact h
        rintro _ rfl _ rfl
        have e8 : (fsI s 73 r 0).1 71 8 = nI (2 ^ rc_k wt r) := by rw [fsI_k (by omega)]; exact s8
        have e8' : ∀ x, (fsI (fsI s 73 r 0) 73 r x).1 71 8 = nI (2 ^ rc_k wt r) := fun x => by rw [fsI_k (by omega)]; exact e8
        rw [e8, e8', nI_add]
        refine ih (r + 1) _ (by omega) s2 (fun a i h1 h2 => by rw [fsI_n (by omega), fsI_n (by omega), fsI_n (by omega)]; exact sf a i (by omega) h2) (fun r' h => ?_) ?_
        · rw [fsI_k (by omega)]
          by_cases e : r' = r
          · subst e; rw [fsI_s]; unfold rc_b; rw [if_pos w0]
          · rw [fsI_j e, fsI_j e]; exact sb r' (by omega)
        · rw [fsI_s, rc_k_succ, if_pos w0, Nat.pow_succ]
          congr 1
          omega
  exact key nr 0 _ (by omega) rfl (fun a i h1 h2 => fsI_n h2) (fun r' h => absurd h (by omega)) fsI_s
theorem c_clearThen {S : Nat} (hS : S ≤ 256) (h8 : σ.1 71 8 = nI S) (hF : iRf σ) (k : ∀ σ', σ'.2 = σ.2 → (∀ a i, a ≠ σ.2.1 5 → a ≠ σ.2.1 7 → σ'.1 a i = σ.1 a i) → (∀ i, i < S * 6 → σ'.1 (σ.2.1 5) i = 0 ∧ σ'.1 (σ.2.1 7) i = 0) → QV σ') : fMv E (d + 1) mX3_clearThen [.ref 71] σ QV := by
  obtain ⟨⟨f4, f5, f6, f7⟩, q4, q5, q6, q7, n45, n67⟩ := hF.fa
  refine v_X3_clearThen ?_
  unfold t_X3_clearThen
  rw [h8, show (6 : Int32) = nI 6 from rfl, pk_mul]
  have key : ∀ l i s, i + l = S * 6 → s.2 = σ.2 → (∀ a j, a ≠ σ.2.1 5 → a ≠ σ.2.1 7 → s.1 a j = σ.1 a j) → (∀ j, j < i → s.1 (σ.2.1 5) j = 0 ∧ s.1 (σ.2.1 7) j = 0) → h_X3_clearThen_10 E d (nI (S * 6)) (nI i) s QV := by
    intro l
    induction l with
    | zero =>
      intro i s hi s2 sf sz
      refine v_X3_clearThen_10 ?_
      unfold t_X3_clearThen_10
      rw [show i = S * 6 by omega] at *
      exact ⟨fun _ => k s s2 sf sz, fun h => absurd (nI_le (Nat.le_refl _) (by omega)) h⟩
    | succ l ih =>
      intro i s hi s2 sf sz
      refine v_X3_clearThen_10 ?_
      unfold t_X3_clearThen_10
      rw [s2, nI_clamp (by omega), nI_1 i]
      refine ⟨fun h => absurd h (nI_ge (by omega) (by omega)), fun _ => ⟨f5, vp_in_nI (by omega) (by decide), ?_⟩⟩
      rintro _ rfl
      rw [fsI_2, s2]
      refine ⟨f7, vp_in_nI (by omega) (by decide), ?_⟩
      rintro _ rfl
      refine ih (i + 1) _ (by omega) (by rw [fsI_2, fsI_2]; exact s2) (fun a j h1 h2 => by rw [fsI_k h2, fsI_k h1]; exact sf a j h1 h2) (fun j hj => ?_)
      rw [fsI_k (show σ.2.1 5 ≠ σ.2.1 7 by omega)]
      by_cases e : j = i
      · subst e
        exact ⟨fsI_s, fsI_s⟩
      · rw [fsI_j e, fsI_j e, fsI_k (show σ.2.1 7 ≠ σ.2.1 5 by omega)]
        exact sz j (by omega)
  exact key (S * 6) 0 σ (by omega) rfl (fun _ _ _ _ => rfl) (fun j h => absurd h (by omega))
theorem c_swap (hF : iRf σ) (k : ∀ σ', σ'.1 = σ.1 → iRf σ' → σ'.2.2 = σ.2.2 → σ'.2.1 4 = σ.2.1 5 → σ'.2.1 5 = σ.2.1 4 → σ'.2.1 6 = σ.2.1 7 → σ'.2.1 7 = σ.2.1 6 → QV σ') : fMv E (d + 1) mX3_swap [.ref 71] σ QV := by
  obtain ⟨⟨f4, f5, f6, f7⟩, _⟩ := hF.fa
  refine v_X3_swap ?_
  unfold t_X3_swap
  refine ⟨f4, f6, f5, ?_⟩
  rintro _ rfl
  have e7 : (fsR σ 4 (σ.2.1 5)).2.1 7 = σ.2.1 7 := rfl
  rw [e7]
  refine ⟨f7, ?_⟩
  rintro _ rfl _ rfl _ rfl
  refine k _ rfl ?_ rfl rfl rfl rfl rfl
  obtain ⟨h1, h2⟩ := hF
  refine ⟨?_, ?_⟩
  · show (σ.2.1 5 = 74 ∧ σ.2.1 4 = 75) ∨ (σ.2.1 5 = 75 ∧ σ.2.1 4 = 74)
    omega
  · show (σ.2.1 7 = 76 ∧ σ.2.1 6 = 77) ∨ (σ.2.1 7 = 77 ∧ σ.2.1 6 = 76)
    omega
theorem c_onlyRoad {n : Nat} (hn : n < 2 ^ 31) (k1 : ∀ i, i < 8 → n = 2 ^ i → Q (nI i) σ) (k2 : (∀ i, i < 8 → n ≠ 2 ^ i) → Q (-1) σ) : fMi E (d + 1) mX3_onlyRoad [.int (nI n)] σ Q := by
  refine v_X3_onlyRoad ?_
  unfold t_X3_onlyRoad
  have sh : ∀ i, i < 8 → (1 : Int32) <<< (nI i &&& 31) = nI (2 ^ i) := by decide
  have p8 : ∀ i, i < 8 → 2 ^ i < 2 ^ 31 := fun i hi => Nat.pow_lt_pow_right (by decide) (by omega)
  have key : ∀ l i, i + l = 8 → (∀ j, j < i → n ≠ 2 ^ j) → h_X3_onlyRoad_2 E d (nI n) (nI i) σ Q := by
    intro l
    induction l with
    | zero =>
      intro i hi hj
      refine v_X3_onlyRoad_2 ?_
      unfold t_X3_onlyRoad_2
      rw [show i = 8 by omega] at *
      exact ⟨fun _ => k2 hj, fun h => absurd (by decide) h⟩
    | succ l ih =>
      intro i hi hj
      refine v_X3_onlyRoad_2 ?_
      unfold t_X3_onlyRoad_2
      rw [sh i (by omega), nI_eq hn (p8 i (by omega)), nI_1 i]
      refine ⟨fun h => absurd h (nI_ge (b := 8) (by omega) (by omega)), fun _ => ⟨fun h => ih (i + 1) (by omega) (fun j h' => ?_), fun h => k1 i (by omega) h⟩⟩
      by_cases e : j = i
      · subst e; exact h
      · exact hj j (by omega)
  exact key 8 0 (by omega) (fun j h => absurd h (by omega))
end RC
