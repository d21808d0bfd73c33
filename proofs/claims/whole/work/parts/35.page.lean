/-! the page: both automata -/
def pg_o (o : Option Nat) : Int32 := match o with
  | none => -1
  | some t => nI t
section PGC
variable {E : am_E} {d : Nat} {σ : FH} {Q : Int32 → FH → Prop} {QV : FH → Prop}
theorem pg_dg {c a b : Nat} (hc : c < 1000) (ha : a < 100) (hb : b < 100) : (48 + nI a ≤ nI c ∧ nI c ≤ 48 + nI b) ↔ (48 + a ≤ c ∧ c ≤ 48 + b) := by
  rw [show (48 : Int32) = nI 48 from rfl, nI_add, nI_add, nI_leI (by omega) (by omega), nI_leI (by omega) (by omega)]
theorem c_isDigitN {c a b : Nat} (hc : c < 1000) (ha : a < 100) (hb : b < 100) (k : Q (bi (48 + a ≤ c ∧ c ≤ 48 + b)) σ) : fMi E (d + 1) mX0_isDigit [.int (nI c), .int (nI a), .int (nI b)] σ Q := by
  refine c_isDigit ?_
  rw [bi_iff (pg_dg hc ha hb)]
  exact k
theorem c_isOnes {c b : Nat} (hc : c < 1000) (hb : b < 1000) (k : Q (bi ((b = 48 ∧ 49 ≤ c ∧ c ≤ 57) ∨ (b = 54 ∧ c = 48) ∨ (b ≠ 48 ∧ b ≠ 54 ∧ 48 ≤ c ∧ c ≤ 57))) σ) : fMi E (d + 2) mX0_isOnes [.int (nI b), .int (nI c)] σ Q := by
  refine v_X0_isOnes ?_
  unfold t_X0_isOnes
  have e1 : (nI b = 48) ↔ b = 48 := nI_eq (by omega) (by decide)
  have e2 : (nI b = 54) ↔ b = 54 := nI_eq (by omega) (by decide)
  rw [e1, e2]
  refine ⟨fun h1 => ⟨fun h2 => c_isDigitN (a := 0) (b := 9) hc (by omega) (by omega) ⟨bi01, ?_⟩, fun h2 => c_isDigitN (a := 0) (b := 0) hc (by omega) (by omega) ⟨bi01, ?_⟩⟩, fun h1 => c_isDigitN (a := 1) (b := 9) hc (by omega) (by omega) ⟨bi01, ?_⟩⟩
  · rwa [bi_iff (q := (b = 48 ∧ 49 ≤ c ∧ c ≤ 57) ∨ (b = 54 ∧ c = 48) ∨ (b ≠ 48 ∧ b ≠ 54 ∧ 48 ≤ c ∧ c ≤ 57)) (by omega)]
  · rwa [bi_iff (q := (b = 48 ∧ 49 ≤ c ∧ c ≤ 57) ∨ (b = 54 ∧ c = 48) ∨ (b ≠ 48 ∧ b ≠ 54 ∧ 48 ≤ c ∧ c ≤ 57)) (by omega)]
  · rwa [bi_iff (q := (b = 48 ∧ 49 ≤ c ∧ c ≤ 57) ∨ (b = 54 ∧ c = 48) ∨ (b ≠ 48 ∧ b ≠ 54 ∧ 48 ≤ c ∧ c ≤ 57)) (by omega)]
theorem c_slotBehind {s c b e : Nat} (hs : s ≤ 7) (hc : c < 1000) (hb : b < 1000) (he : e ≤ 8) (k : Q (pg_o (pg_S s c b e)) σ) : fMi E (d + 3) mX0_slotBehind [.int (nI s), .int (nI c), .int (nI b), .int (nI e)] σ Q := by
  refine v_X0_slotBehind ?_
  unfold t_X0_slotBehind
  have es : ∀ n, n < 100 → ((nI s = nI n) ↔ s = n) := fun n hn => nI_eq (by omega) (by omega)
  rw [show (nI s = 0) ↔ s = 0 from es 0 (by omega), show (nI s = 1) ↔ s = 1 from es 1 (by omega), show (nI s = 2) ↔ s = 2 from es 2 (by omega), show (nI s = 3) ↔ s = 3 from es 3 (by omega), show (nI s = 4) ↔ s = 4 from es 4 (by omega), show (nI s = 5) ↔ s = 5 from es 5 (by omega), show (nI s = 6) ↔ s = 6 from es 6 (by omega)]
  unfold pg_S at k
  refine ⟨?_, ?_, ?_, ?_, ?_, ?_, ?_, ?_⟩
  · rintro rfl
    refine c_isDigitN (a := 0) (b := 6) hc (by omega) (by omega) ?_
    simp only [bi0, Classical.not_not]
    simp only [if_true] at k
    refine ⟨fun h => ?_, fun h => ?_⟩
    · rw [if_neg (by omega)] at k; exact k
    · rw [if_pos (by omega)] at k; exact k
  · rintro rfl
    refine c_isOnes hc hb ?_
    simp only [bi0, Classical.not_not]
    simp only [if_neg (show ¬ (1 : Nat) = 0 by omega), if_true] at k
    refine ⟨fun h => ?_, fun h => ?_⟩
    · rw [if_neg h] at k; exact k
    · rw [if_pos h] at k; exact k
  · rintro rfl
    simp only [if_neg (show ¬ (2 : Nat) = 0 by omega), if_neg (show ¬ (2 : Nat) = 1 by omega), if_true] at k
    rw [show (nI c = 58) ↔ c = 58 from nI_eq (by omega) (by decide)]
    refine ⟨fun h => ?_, fun h => ?_⟩
    · rw [if_neg h] at k; exact k
    · rw [if_pos h] at k; exact k
  · rintro rfl
    simp only [if_neg (show ¬ (3 : Nat) = 0 by omega), if_neg (show ¬ (3 : Nat) = 1 by omega), if_neg (show ¬ (3 : Nat) = 2 by omega), if_true] at k
    refine c_kindOf ?_
    rw [pg_kd hc, nI_z (by have := pg_k5 c; omega)]
    refine ⟨fun h => c_isDigitN (a := 0) (b := 5) hc (by omega) (by omega) ?_, fun h => ?_⟩
    · simp only [bi0, Classical.not_not]
      rw [if_neg (by omega)] at k
      refine ⟨fun h => ?_, fun h => ?_⟩
      · rw [if_neg (by omega)] at k; exact k
      · rw [if_pos (by omega)] at k; exact k
    · rw [if_pos h] at k; exact k
  · rintro rfl
    refine c_isDigitN (a := 0) (b := 5) hc (by omega) (by omega) ?_
    simp only [bi0, Classical.not_not]
    simp only [if_neg (show ¬ (4 : Nat) = 0 by omega), if_neg (show ¬ (4 : Nat) = 1 by omega), if_neg (show ¬ (4 : Nat) = 2 by omega), if_neg (show ¬ (4 : Nat) = 3 by omega), if_true] at k
    refine ⟨fun h => ?_, fun h => ?_⟩
    · rw [if_neg (by omega)] at k; exact k
    · rw [if_pos (by omega)] at k; exact k
  · rintro rfl
    refine c_isDigitN (a := 0) (b := 5) hc (by omega) (by omega) ?_
    simp only [bi0, Classical.not_not]
    simp only [if_neg (show ¬ (5 : Nat) = 0 by omega), if_neg (show ¬ (5 : Nat) = 1 by omega), if_neg (show ¬ (5 : Nat) = 2 by omega), if_neg (show ¬ (5 : Nat) = 3 by omega), if_neg (show ¬ (5 : Nat) = 4 by omega), if_true] at k
    rw [nI_eq (by omega) (by omega)]
    refine ⟨fun h => ?_, fun h => ⟨fun h2 => ?_, fun h2 => ?_⟩⟩
    · rw [if_neg (by omega)] at k; exact k
    · rw [if_neg (by omega)] at k; exact k
    · rw [if_pos (by omega)] at k; exact k
  · rintro rfl
    refine c_isDigitN (a := 1) (b := 9) hc (by omega) (by omega) ?_
    simp only [bi0, Classical.not_not]
    simp only [if_neg (show ¬ (6 : Nat) = 0 by omega), if_neg (show ¬ (6 : Nat) = 1 by omega), if_neg (show ¬ (6 : Nat) = 2 by omega), if_neg (show ¬ (6 : Nat) = 3 by omega), if_neg (show ¬ (6 : Nat) = 4 by omega), if_neg (show ¬ (6 : Nat) = 5 by omega), if_true] at k
    refine ⟨fun h => ?_, fun h => ?_⟩
    · rw [if_neg (by omega)] at k; exact k
    · rw [if_pos (by omega)] at k; exact k
  · intro h0 h1 h2 h3 h4 h5 h6
    rw [if_neg h0, if_neg h1, if_neg h2, if_neg h3, if_neg h4, if_neg h5, if_neg h6] at k
    rw [show (nI c = 44) ↔ c = 44 from nI_eq (by omega) (by decide), show (8 ≤ nI e) ↔ 8 ≤ e from nI_leI (by decide) (by omega)]
    refine ⟨fun h => ?_, fun h => ⟨fun h' => ?_, fun h' => ?_⟩⟩
    · rw [if_neg (by omega)] at k; exact k
    · rw [if_neg (by omega)] at k; exact k
    · rw [if_pos (by omega)] at k; exact k
theorem c_firstWrong {q : Nat → Nat} {n : Nat} (hn : n ≤ 44) (h1 : σ.1 2 1 = nI n) (hq : ∀ i, i < n → q i < 1000 ∧ σ.1 3 i = nI (q i)) (k : ∀ m σ', m ≤ n → σ'.2 = σ.2 → (∀ a i, ¬ (a = 2 ∧ i = 2) → σ'.1 a i = σ.1 a i) → pg_R q m ≠ none → (m = n → ∃ s b e, pg_R q n = some (s, b, e) ∧ σ'.1 2 2 = nI s) → (m < n → pg_R q (m + 1) = none) → Q (nI m) σ') : fMi E (d + 4) mX0_firstWrong [.ref 2] σ Q := by
  refine v_X0_firstWrong ?_
  unfold t_X0_firstWrong
  rintro _ rfl
  have key : ∀ l i t s b e, i + l = n → t.2 = σ.2 → (∀ a j, ¬ (a = 2 ∧ j = 2) → t.1 a j = σ.1 a j) → t.1 2 2 = nI s → pg_R q i = some (s, b, e) → b < 1000 → h_X0_firstWrong_11 E (d + 3) (nI b) (nI e) (nI i) t Q := by
    intro l
    induction l with
    | zero =>
      intro i t s b e hi t2 tf ts tr hb
      refine v_X0_firstWrong_11 ?_
      unfold t_X0_firstWrong_11
      rw [show i = n by omega] at *
      rw [tf 2 1 (by omega), h1]
      exact ⟨fun _ => k n t (Nat.le_refl _) t2 tf (by rw [tr]; simp) (fun _ => ⟨s, b, e, tr, ts⟩) (fun q => absurd q (by omega)), fun q => absurd (nI_le (Nat.le_refl n) (by omega)) q⟩
    | succ l ih =>
      intro i t s b e hi t2 tf ts tr hb
      refine v_X0_firstWrong_11 ?_
      unfold t_X0_firstWrong_11
      obtain ⟨q1, q2⟩ := hq i (by omega)
      have I := pg_R_I q i s b e tr
      rw [tf 2 1 (by omega), h1, nI_clamp (by omega), tf 3 i (by omega), q2, ts, nI_1 i, nI_1 e]
      refine ⟨fun q => absurd q (nI_ge (by omega) (by omega)), fun _ => ⟨fun q => absurd q (nI_ge (b := 44) (by omega) (by omega)), fun _ => ⟨vp_in_nI (by omega) (by decide), c_slotBehind I.1 q1 hb I.2.1 ?_⟩⟩⟩
      rintro _ rfl
      have uf : ∀ a j, ¬ (a = 2 ∧ j = 2) → (fsI t 2 2 (pg_o (pg_S s (q i) b e))).1 a j = σ.1 a j := fun a j h => by rw [fsI_n h]; exact tf a j h
      have u2 : (fsI t 2 2 (pg_o (pg_S s (q i) b e))).2 = σ.2 := t2
      have us : (fsI t 2 2 (pg_o (pg_S s (q i) b e))).1 2 2 = pg_o (pg_S s (q i) b e) := fsI_s
      generalize fsI t 2 2 (pg_o (pg_S s (q i) b e)) = u at uf u2 us
      rw [us, uf 3 i (by omega), q2]
      rcases hS : pg_S s (q i) b e with _ | s'
      · refine ⟨fun h => absurd rfl h, fun _ => k i u (by omega) u2 uf (by rw [tr]; simp) (fun h => absurd h (by omega)) (fun _ => pg_R_stop tr hS)⟩
      · have st := pg_R_step tr hS
        have I' := pg_R_I q _ _ _ _ st
        rw [hS] at us
        have s8 : s' ≤ 7 := I'.1
        show (¬ nI s' = -1 → _) ∧ (nI s' = -1 → _)
        refine ⟨fun _ => ⟨fun h7 => ⟨vp_in_nI (by omega) (by decide), ?_⟩, fun h7 => ⟨vp_in_nI (by omega) (by decide), ?_⟩⟩, fun h => absurd h (vp_ne (vp_in_nI (n := s') (N := 8) (by omega) (by decide)))⟩
        · have : ¬ s' = 7 := fun z => h7 (by rw [z]; rfl)
          rw [if_neg this] at st
          exact ih (i + 1) u s' (q i) e (by omega) u2 uf us st q1
        · have : s' = 7 := (nI_eq (b := 7) (by omega) (by decide)).mp h7
          rw [if_pos this] at st
          exact ih (i + 1) u s' (q i) (e + 1) (by omega) u2 uf us st q1
  exact key n 0 _ 0 0 0 (by omega) rfl (fun a j h => fsI_n h) fsI_s rfl (by omega)
end PGC
