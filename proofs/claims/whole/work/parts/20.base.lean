/-! base facts for the contracts -/
/-- a condition as the machine's 0 or 1 -/
def bi (p : Prop) [Decidable p] : Int32 := if p then 1 else 0
theorem bi0 {p : Prop} [Decidable p] : (bi p = 0) ↔ ¬ p := by unfold bi; split <;> simp [*]
theorem bi1 {p : Prop} [Decidable p] : (bi p = 1) ↔ p := by unfold bi; split <;> simp [*]
theorem bi01 {p : Prop} [Decidable p] : bi p = 0 ∨ bi p = 1 := by unfold bi; split <;> simp
theorem bi_t {p : Prop} [Decidable p] (h : p) : bi p = 1 := by unfold bi; rw [if_pos h]
theorem bi_f {p : Prop} [Decidable p] (h : ¬ p) : bi p = 0 := by unfold bi; rw [if_neg h]
theorem fsI_s {σ : FH} {k j : Nat} {v : Int32} : (fsI σ k j v).1 k j = v := by simp [fsI]
theorem fsI_n {σ : FH} {k j a i : Nat} {v : Int32} (h : ¬ (a = k ∧ i = j)) : (fsI σ k j v).1 a i = σ.1 a i := by simp only [fsI]; rw [if_neg h]
theorem fsI_k {σ : FH} {k j a i : Nat} {v : Int32} (h : a ≠ k) : (fsI σ k j v).1 a i = σ.1 a i := fsI_n (fun q => h q.1)
theorem fsI_j {σ : FH} {k j a i : Nat} {v : Int32} (h : i ≠ j) : (fsI σ k j v).1 a i = σ.1 a i := fsI_n (fun q => h q.2)
theorem fsI_at {σ : FH} {k j a i : Nat} {v : Int32} : (fsI σ k j v).1 a i = if a = k ∧ i = j then v else σ.1 a i := rfl
theorem fsI_2 {σ : FH} {k j : Nat} {v : Int32} : (fsI σ k j v).2 = σ.2 := rfl
theorem n_inI {n N : Nat} (h : n < N) (hN : N < 2 ^ 31) : vp_in (nI n) N := vp_in_nI h hN
theorem vp_b {x : Int32} (h : vp_in x 2) : x = 0 ∨ x = 1 := by
  obtain ⟨j, hj, rfl⟩ := vp_in_of h (by decide)
  rcases (show j = 0 ∨ j = 1 by omega) with rfl | rfl
  · exact Or.inl rfl
  · exact Or.inr rfl
theorem in_b {x : Int32} (h : x = 0 ∨ x = 1) : vp_in x 2 := by
  rcases h with rfl | rfl
  · exact vp_in_nI (n := 0) (by decide) (by decide)
  · exact vp_in_nI (n := 1) (by decide) (by decide)
/-! the smallest methods -/
section C0
variable {E : am_E} {d : Nat} {σ : FH} {Q : Int32 → FH → Prop}
theorem c_in {x a b : Int64} (k : Q (bi (a ≤ x ∧ x ≤ b)) σ) : fMi E (d + 1) mX7_in [.long x, .long a, .long b] σ Q := by
  refine v_X7_in ?_
  unfold t_X7_in
  have e1 : ∀ a b : Int64, (a < b) ↔ ¬ (b ≤ a) := fun a b => by rw [fa_lt64, fa_le64]; omega
  refine ⟨fun h => ?_, fun h => ⟨fun h2 => ?_, fun h2 => ?_⟩⟩
  · rw [bi_f (fun q => ((e1 _ _).mp h) q.1)] at k; exact k
  · rw [bi_f (fun q => ((e1 _ _).mp h2) q.2)] at k; exact k
  · rw [bi_t ⟨Classical.not_not.mp (fun q => h ((e1 _ _).mpr q)), Classical.not_not.mp (fun q => h2 ((e1 _ _).mpr q))⟩] at k; exact k
theorem w_ge {x : Int32} {a : Int32} {A : Int64} (hA : A = a.toInt64) : (A ≤ x.toInt64) ↔ a ≤ x := by rw [hA, fa_wide_le]
theorem w_le {x : Int32} {a : Int32} {A : Int64} (hA : A = a.toInt64) : (x.toInt64 ≤ A) ↔ x ≤ a := by rw [hA, fa_wide_le]
theorem bi_iff {p q : Prop} [Decidable p] [Decidable q] (h : p ↔ q) : bi p = bi q := by
  by_cases hq : q
  · rw [bi_t hq, bi_t (h.mpr hq)]
  · rw [bi_f hq, bi_f (fun x => hq (h.mp x))]
/-- in(x, a, b) of ints -/
theorem c_in32 {x : Int32} (a b : Int32) {A C : Int64} (hA : A = a.toInt64) (hC : C = b.toInt64) (k : Q (bi (a ≤ x ∧ x ≤ b)) σ) : fMi E (d + 1) mX7_in [.long x.toInt64, .long A, .long C] σ Q := by
  refine c_in ?_
  rw [bi_iff (q := a ≤ x ∧ x ≤ b) (by rw [w_ge hA, w_le hC])]
  exact k
theorem c_isDigit {x a b : Int32} (k : Q (bi (48 + a ≤ x ∧ x ≤ 48 + b)) σ) : fMi E (d + 1) mX0_isDigit [.int x, .int a, .int b] σ Q := by
  refine v_X0_isDigit ?_
  unfold t_X0_isDigit
  have e1 : ∀ a b : Int32, (a < b) ↔ ¬ (b ≤ a) := fun a b => by rw [fa_lt, fa_le]; omega
  refine ⟨fun h => ?_, fun h => ⟨fun h2 => ?_, fun h2 => ?_⟩⟩
  · rw [bi_f (fun q => ((e1 _ _).mp h) q.1)] at k; exact k
  · rw [bi_f (fun q => ((e1 _ _).mp h2) q.2)] at k; exact k
  · rw [bi_t ⟨Classical.not_not.mp (fun q => h ((e1 _ _).mpr q)), Classical.not_not.mp (fun q => h2 ((e1 _ _).mpr q))⟩] at k; exact k
/-- the kind that a letter tells -/
def kdOf (x : Int32) : Int32 := if x = 102 then 1 else if x = 98 then 2 else if x = 100 then 3 else if x = 103 then 4 else 0
theorem c_kindOf {x : Int32} (k : Q (kdOf x) σ) : fMi E (d + 1) mX0_kindOf [.int x] σ Q := by
  refine v_X0_kindOf ?_
  unfold t_X0_kindOf
  unfold kdOf at k
  refine ⟨fun h => ?_, fun h => ?_, fun h => ?_, fun h => ?_, fun h1 h2 h3 h4 => ?_⟩
  · subst h; exact k
  · subst h; exact k
  · subst h; exact k
  · subst h; exact k
  · rw [if_neg h3, if_neg h1, if_neg h2, if_neg h4] at k; exact k
theorem c_kindBy {x : Int32} (k : Q (kdOf x) σ) : fMi E (d + 1) mX7_kindBy [.int x] σ Q := by
  refine v_X7_kindBy ?_
  unfold t_X7_kindBy
  unfold kdOf at k
  refine ⟨fun h => ⟨fun h1 => ⟨fun h2 => ⟨fun h3 => ?_, fun h3 => ?_⟩, fun h2 => ?_⟩, fun h1 => ?_⟩, fun h => ?_⟩
  · rw [if_neg h, if_neg h1, if_neg h2, if_neg h3] at k; exact k
  · subst h3; exact k
  · subst h2; exact k
  · subst h1; exact k
  · subst h; exact k
/-- WORTH of a road, by its kind and its licence -/
def wrt (kd li : Int32) : Int32 := if kd = 1 then 0 else if kd = 2 then 1 else if kd = 3 then 4 else if kd = 4 then (if li = 0 then 0 else 4) else 2
theorem c_worth {k0 : Nat} (hk : isRd k0) (k : Q (wrt (σ.1 k0 1) (σ.1 k0 5)) σ) : fMi E (d + 1) mX2_worth [.ref k0] σ Q := by
  refine v_X2_worth hk ?_
  unfold t_X2_worth
  unfold wrt at k
  refine ⟨fun h => ?_, fun h => ?_, fun h => ?_, fun h => ⟨fun h2 => ?_, fun h2 => ?_⟩, fun h1 h2 h3 h4 => ?_⟩
  · rw [h] at k; exact k
  · rw [h] at k; exact k
  · rw [h] at k; exact k
  · rw [h, h2] at k; exact k
  · rw [h] at k; rw [if_neg (by decide), if_neg (by decide), if_neg (by decide), if_pos rfl, if_neg h2] at k; exact k
  · rw [if_neg h1, if_neg h2, if_neg h3, if_neg h4] at k; exact k
theorem c_touches {k0 : Nat} {x : Int32} (hk : isRd k0) (k : Q (bi (x = σ.1 k0 2 ∨ x = σ.1 k0 3)) σ) : fMi E (d + 1) mX2_touches [.ref k0, .int x] σ Q := by
  refine v_X2_touches hk ?_
  unfold t_X2_touches
  refine ⟨fun h => ?_, fun h => ⟨fun h2 => ?_, fun h2 => ?_⟩⟩
  · rw [bi_t (Or.inl h)] at k; exact k
  · rw [bi_f (fun q => q.elim h h2)] at k; exact k
  · rw [bi_t (Or.inr h2)] at k; exact k
theorem c_across {k0 : Nat} {x : Int32} (hk : isRd k0) (k : Q (if x = σ.1 k0 2 then σ.1 k0 3 else σ.1 k0 2) σ) : fMi E (d + 1) mX2_across [.ref k0, .int x] σ Q := by
  refine v_X2_across hk ?_
  unfold t_X2_across
  refine ⟨fun h => ?_, fun h => ?_⟩
  · rw [if_neg h] at k; exact k
  · rw [if_pos h] at k; exact k
theorem c_isOfKind {k0 : Nat} {x : Int32} (hk : isRd k0) (k : Q (bi (x = 0 ∨ x = σ.1 k0 1 ∨ (x = 3 ∧ σ.1 k0 1 = 4))) σ) : fMi E (d + 1) mX2_isOfKind [.ref k0, .int x] σ Q := by
  refine v_X2_isOfKind hk ?_
  unfold t_X2_isOfKind
  refine ⟨fun h => ?_, fun h => ⟨fun h2 => ?_, fun h2 => ⟨fun h3 => ?_, fun h3 => ⟨fun h4 => ?_, fun h4 => ?_⟩⟩⟩⟩
  · rw [bi_t (Or.inl h)] at k; exact k
  · rw [bi_t (Or.inr (Or.inl h2))] at k; exact k
  · rw [bi_f (fun q => q.elim h (fun q => q.elim h2 (fun q => h3 q.1)))] at k; exact k
  · rw [bi_f (fun q => q.elim h (fun q => q.elim h2 (fun q => h4 q.2)))] at k; exact k
  · rw [bi_t (Or.inr (Or.inr ⟨h3, h4⟩))] at k; exact k
theorem c_lay {Q : FH → Prop} {k0 : Nat} {a b c e : Int32} (hk : isRd k0) (k : Q (fsI (fsI (fsI (fsI (fsI σ k0 1 a) k0 2 b) k0 3 c) k0 4 e) k0 5 1)) : fMv E (d + 1) mX2_lay [.ref k0, .int a, .int b, .int c, .int e] σ Q := by
  refine v_X2_lay hk ?_
  unfold t_X2_lay
  rintro _ rfl _ rfl _ rfl _ rfl _ rfl
  exact k
theorem c_lacks (k : Q (bi (σ.1 78 6 = 0)) σ) : fMi E (d + 1) mX7_lacks [.ref 78] σ Q := by
  refine v_X7_lacks ?_
  unfold t_X7_lacks
  exact ⟨fun h => by rw [bi_f h] at k; exact k, fun h => by rw [bi_t h] at k; exact k⟩
theorem c_mIsRoad {x : Int32} (k : Q (bi (0 ≤ x ∧ x ≤ σ.1 78 6 - 1)) σ) : fMi E (d + 2) mX7_isRoad [.ref 78, .int x] σ Q := by
  refine v_X7_isRoad ?_
  unfold t_X7_isRoad
  exact c_in32 0 (σ.1 78 6 - 1) rfl rfl ⟨bi01, k⟩
theorem c_mIsPilgrim {x : Int32} (k : Q (bi (0 ≤ x ∧ x ≤ σ.1 78 11 - 1)) σ) : fMi E (d + 2) mX7_isPilgrim [.ref 78, .int x] σ Q := by
  refine v_X7_isPilgrim ?_
  unfold t_X7_isPilgrim
  exact c_in32 0 (σ.1 78 11 - 1) rfl rfl ⟨bi01, k⟩
end C0
