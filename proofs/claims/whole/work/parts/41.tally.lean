/-! Rows: what the class's states say of rows of roads -/
def rc_s (wt : Nat → Nat) : List Nat → Nat
  | [] => 0
  | r :: q => rc_s wt q ||| rc_b wt r
def rc_F (A B wt : Nat → Nat) (q : List Nat) : Nat := rc_s wt q * 6 + rl_p A B q
def rw_i (wt : Nat → Nat) (q : List Nat) : Nat := match rwL wt q with
  | some r => r
  | none => 8
theorem rw_i_cons {wt : Nat → Nat} {r : Nat} {q : List Nat} : rw_i wt (r :: q) = if 0 < wt r ∧ r ∉ q then r else rw_i wt q := by
  unfold rw_i
  rw [rwL]
  by_cases h : 0 < wt r ∧ r ∉ q
  · rw [if_pos h, if_pos h]
  · rw [if_neg h, if_neg h]
theorem rw_i_lt {wt : Nat → Nat} {nr : Nat} (hn : nr ≤ 8) : ∀ q : List Nat, (∀ r, r ∈ q → r < nr) → rw_i wt q ≤ 8
  | [], _ => Nat.le_refl 8
  | r :: q, h => by
    rw [rw_i_cons]
    split
    · have := h r List.mem_cons_self; omega
    · exact rw_i_lt hn q (fun x hx => h x (List.mem_cons_of_mem _ hx))
theorem rw_i_some {wt : Nat → Nat} {nr : Nat} (hn : nr ≤ 8) : ∀ q : List Nat, (∀ r, r ∈ q → r < nr) → ∀ i, i < 8 → (rw_i wt q = i ↔ rwL wt q = some i)
  | [], _, i, hi => by
    show 8 = i ↔ none = some i
    exact ⟨fun h => absurd h (by omega), fun h => absurd h (by simp)⟩
  | r :: q, h, i, hi => by
    rw [rw_i_cons, rwL]
    by_cases h0 : 0 < wt r ∧ r ∉ q
    · rw [if_pos h0, if_pos h0]; simp
    · rw [if_neg h0, if_neg h0]
      exact rw_i_some hn q (fun x hx => h x (List.mem_cons_of_mem _ hx)) i hi
section RP
variable {nr : Nat} {A B wt : Nat → Nat}
theorem rc_s_lt : ∀ q : List Nat, (∀ r, r ∈ q → r < nr) → rc_s wt q < 2 ^ rc_k wt nr
  | [], _ => Nat.two_pow_pos _
  | r :: q, h => Nat.or_lt_two_pow (rc_s_lt q (fun x hx => h x (List.mem_cons_of_mem _ hx))) (rc_b_lt (h r List.mem_cons_self))
theorem rc_s_bit {r : Nat} (hw : 0 < wt r) : ∀ q : List Nat, (rc_s wt q).testBit (rc_k wt r) = decide (r ∈ q)
  | [] => by simp [rc_s]
  | r' :: q => by
    rw [rc_s, Nat.testBit_or, rc_s_bit hw q]
    unfold rc_b
    by_cases h : 0 < wt r'
    · rw [if_pos h, Nat.testBit_two_pow]
      by_cases e : r' = r
      · subst e; simp
      · have : ¬ rc_k wt r' = rc_k wt r := fun z => e (fb_ct_kth_one (p := fun i => decide (0 < wt i)) (decide_eq_true h) (decide_eq_true hw) z)
        have e' : ¬ r = r' := fun z => e z.symm
        simp [this, e']
    · have e' : ¬ r = r' := fun z => h (z ▸ hw)
      rw [if_neg h]
      simp [e']
theorem rc_F_d {q : List Nat} (h : rl_p A B q < 6) : rc_F A B wt q / 6 = rc_s wt q := by unfold rc_F; omega
theorem rc_F_m {q : List Nat} (h : rl_p A B q < 6) : rc_F A B wt q % 6 = rl_p A B q := by unfold rc_F; omega
theorem rc_F_lt {q : List Nat} (h : rl_p A B q < 6) (hq : ∀ r, r ∈ q → r < nr) : rc_F A B wt q < 2 ^ rc_k wt nr * 6 := by
  have := rc_s_lt (wt := wt) q hq
  unfold rc_F
  omega
theorem rc_F_st {q : List Nat} {r : Nat} (h : rl_p A B q < 6) : rc_F A B wt (r :: q) = rc_st A B wt (rc_F A B wt q) r := by
  unfold rc_st
  rw [rc_F_d h, rc_F_m h]
  rfl
theorem rc_F_c {q : List Nat} {r : Nat} (h : rl_p A B q < 6) : rc_c wt (rc_F A B wt q) r = decide (0 < wt r ∧ r ∉ q) := by
  unfold rc_c
  rw [rc_F_d h]
  by_cases hw : 0 < wt r
  · rw [rc_s_bit hw]
    simp [hw]
  · simp [hw]
end RP
theorem rl_sum {N : Nat} {F : List Nat → Nat} {P : Nat → Prop} [DecidablePred P] : ∀ L : List (List Nat), (∀ q, q ∈ L → F q < N) → fb_sm (fun j => if P j then L.countP (fun q => decide (F q = j)) else 0) N = L.countP (fun q => decide (P (F q)))
  | [], _ => by
    have : ∀ n, fb_sm (fun j => if P j then ([] : List (List Nat)).countP (fun q => decide (F q = j)) else 0) n = 0 := by
      intro n
      induction n with
      | zero => rfl
      | succ n ih => rw [fb_sm_succ, ih]; simp
    rw [this]
    rfl
  | q :: L, h => by
    have e2 : fb_sm (fun j => if P j then (q :: L).countP (fun q => decide (F q = j)) else 0) N = fb_sm (fun j => (if P j then L.countP (fun q => decide (F q = j)) else 0) + (if F q = j then (if P j then 1 else 0) else 0)) N := by
      refine fb_sm_cong (fun j _ => ?_)
      rw [List.countP_cons]
      by_cases h1 : F q = j <;> by_cases h2 : P j <;> simp [h1, h2]
    rw [e2, fb_sm_add, rl_sum L (fun x hx => h x (List.mem_cons_of_mem _ hx)), rl_one (f := fun j => if P j then 1 else 0) (h q List.mem_cons_self), List.countP_cons]
    by_cases h2 : P (F q) <;> simp [h2]
/-- what the arrays say of the rows behind m months -/
def rc_V (A B wt : Nat → Nat) (L : List (List Nat)) (lb : Nat → Nat) (N : Nat) : Prop := ∀ k i, k < N → ((lb k).testBit i = true ↔ ∃ q, q ∈ L ∧ rc_F A B wt q = k ∧ rw_i wt q = i)
theorem rc_V_step {nr : Nat} {A B wt : Nat → Nat} {lg : Int32} {L : List (List Nat)} {lb : Nat → Nat} (hA : ∀ r, r < nr → A r < 6) (hB : ∀ r, r < nr → B r < 6) (hL : ∀ q, q ∈ L → ∀ r, r ∈ q → r < nr) (h : rc_V A B wt L lb (2 ^ rc_k wt nr * 6)) : rc_V A B wt (L.flatMap (rl_go nr (rl_ok A B lg) (rl_p A B))) (fun k => fo (fun j => if 0 < L.countP (fun q => decide (rc_F A B wt q = j)) then rc_or A B wt lg lb j k nr else 0) (2 ^ rc_k wt nr * 6)) (2 ^ rc_k wt nr * 6) := by
  intro k i hk
  show (fo _ _).testBit i = true ↔ _
  rw [fo_bit]
  constructor
  · rintro ⟨j, hj, hb⟩
    split at hb
    · next hc =>
      unfold rc_or at hb
      obtain ⟨r, hr, hb⟩ := (fo_bit nr).mp hb
      split at hb
      · next hal =>
        rw [Bool.and_eq_true] at hal
        obtain ⟨al, st⟩ := hal
        have st := of_decide_eq_true st
        have go : ∀ q, q ∈ L → rc_F A B wt q = j → r :: q ∈ L.flatMap (rl_go nr (rl_ok A B lg) (rl_p A B)) ∧ rc_F A B wt (r :: q) = k := by
          intro q hq hF
          have p6 := rl_p6 hA hB q (hL q hq)
          refine ⟨List.mem_flatMap.mpr ⟨q, hq, rl_go_in hr ?_⟩, ?_⟩
          · unfold rc_al at al
            rw [← hF, rc_F_m p6] at al
            exact al
          · rw [rc_F_st p6, hF]; exact st
        split at hb
        · next hcc =>
          rw [Nat.testBit_two_pow] at hb
          have hb := of_decide_eq_true hb
          obtain ⟨q, hq, hF⟩ := List.countP_pos_iff.mp hc
          have hF := of_decide_eq_true hF
          obtain ⟨g1, g2⟩ := go q hq hF
          refine ⟨r :: q, g1, g2, ?_⟩
          rw [← hF, rc_F_c (rl_p6 hA hB q (hL q hq))] at hcc
          rw [rw_i_cons, if_pos (of_decide_eq_true hcc)]
          exact hb
        · next hcc =>
          obtain ⟨q, hq, hF, hi⟩ := (h j i hj).mp hb
          obtain ⟨g1, g2⟩ := go q hq hF
          refine ⟨r :: q, g1, g2, ?_⟩
          rw [← hF, rc_F_c (rl_p6 hA hB q (hL q hq))] at hcc
          rw [rw_i_cons, if_neg (fun z => hcc (decide_eq_true z))]
          exact hi
      · rw [Nat.zero_testBit] at hb
        exact absurd hb (by simp)
    · rw [Nat.zero_testBit] at hb
      exact absurd hb (by simp)
  · rintro ⟨x, hx, hF, hi⟩
    obtain ⟨q, hq, hx⟩ := List.mem_flatMap.mp hx
    obtain ⟨r, hr, hok, rfl⟩ := rl_go_mem hx
    have p6 := rl_p6 hA hB q (hL q hq)
    refine ⟨rc_F A B wt q, rc_F_lt p6 (hL q hq), ?_⟩
    rw [if_pos (List.countP_pos_iff.mpr ⟨q, hq, decide_eq_true rfl⟩)]
    unfold rc_or
    refine (fo_bit nr).mpr ⟨r, hr, ?_⟩
    have al : rc_al A B lg (rc_F A B wt q) r = true := by unfold rc_al; rw [rc_F_m p6]; exact hok
    rw [rc_F_st p6] at hF
    rw [al, hF]
    simp only [Bool.true_and, decide_true, if_true]
    rw [rc_F_c p6]
    rw [rw_i_cons] at hi
    by_cases hc : 0 < wt r ∧ r ∉ q
    · rw [if_pos hc] at hi
      rw [if_pos (decide_eq_true hc), Nat.testBit_two_pow]
      exact decide_eq_true hi
    · rw [if_neg hc] at hi
      rw [if_neg (fun z => hc (of_decide_eq_true z))]
      exact (h _ i (rc_F_lt p6 (hL q hq))).mpr ⟨q, hq, rfl, hi⟩
/-- halves of a set -/
def rc_h (wt : Nat → Nat) (nr s : Nat) : Nat := fb_sm (fun r => if 0 < wt r ∧ s.testBit (rc_k wt r) = true then wt r else 0) nr
theorem rc_h_q {wt : Nat → Nat} {nr : Nat} (q : List Nat) : rc_h wt nr (rc_s wt q) = rwH nr wt q := by
  unfold rc_h rwH
  refine fb_sm_cong (fun r _ => ?_)
  by_cases hw : 0 < wt r
  · rw [rc_s_bit hw]
    by_cases h : r ∈ q <;> simp [hw, h]
  · have : wt r = 0 := by omega
    simp [this]
/-- the only road -/
theorem rc_last {wt : Nat → Nat} {nr N n : Nat} {A B : Nat → Nat} {L : List (List Nat)} {lb : Nat → Nat} (hn8 : nr ≤ 8) (hL : ∀ q, q ∈ L → ∀ r, r ∈ q → r < nr) (hN : ∀ q, q ∈ L → rc_F A B wt q < N) (h : rc_V A B wt L lb N) (e : n = fo lb N) (i : Nat) (hi : i < 8) : n = 2 ^ i ↔ (L ≠ [] ∧ ∀ q, q ∈ L → rwL wt q = some i) := by
  have bit : ∀ b, n.testBit b = true ↔ ∃ q, q ∈ L ∧ rw_i wt q = b := by
    intro b
    rw [e, fo_bit]
    constructor
    · rintro ⟨k, hk, hb⟩
      obtain ⟨q, hq, _, h2⟩ := (h k b hk).mp hb
      exact ⟨q, hq, h2⟩
    · rintro ⟨q, hq, h2⟩
      exact ⟨_, hN q hq, (h _ b (hN q hq)).mpr ⟨q, hq, rfl, h2⟩⟩
  constructor
  · intro h2
    refine ⟨fun z => ?_, fun q hq => ?_⟩
    · have := (bit i).mp (by rw [h2, Nat.testBit_two_pow]; exact decide_eq_true rfl)
      obtain ⟨q, hq, _⟩ := this
      rw [z] at hq
      simp at hq
    · refine (rw_i_some hn8 q (hL q hq) i hi).mp ?_
      have := (bit (rw_i wt q)).mpr ⟨q, hq, rfl⟩
      rw [h2, Nat.testBit_two_pow] at this
      exact (of_decide_eq_true this).symm
  · rintro ⟨h1, h2⟩
    apply Nat.eq_of_testBit_eq
    intro b
    rw [Nat.testBit_two_pow]
    by_cases hb : i = b
    · subst hb
      rw [decide_eq_true rfl]
      obtain ⟨q, hq⟩ := List.exists_mem_of_ne_nil _ h1
      exact (bit i).mpr ⟨q, hq, (rw_i_some hn8 q (hL q hq) i hi).mpr (h2 q hq)⟩
    · rw [decide_eq_false hb]
      cases hh : n.testBit b
      · rfl
      · obtain ⟨q, hq, h3⟩ := (bit b).mp hh
        have := (rw_i_some hn8 q (hL q hq) i hi).mpr (h2 q hq)
        omega
