/-! rows of roads as lists, and how they are counted by states -/
def rl_x (A B : Nat → Nat) (p r : Nat) : Nat := if p = A r then B r else A r
def rl_p (A B : Nat → Nat) : List Nat → Nat
  | [] => 0
  | r :: q => rl_x A B (rl_p A B q) r
def rl_ok (A B : Nat → Nat) (lg : Int32) (p r : Nat) : Bool := decide ((p = A r ∨ p = B r) ∧ (lg = -1 ∨ lg = nI (rl_x A B p r)))
def rl_go (nr : Nat) (ok : Nat → Nat → Bool) (F : List Nat → Nat) (q : List Nat) : List (List Nat) := (List.range nr).filterMap (fun r => if ok (F q) r = true then some (r :: q) else none)
def rl (nr : Nat) (A B : Nat → Nat) (lg : Nat → Int32) : Nat → List (List Nat)
  | 0 => [[]]
  | m + 1 => (rl nr A B lg m).flatMap (rl_go nr (rl_ok A B (lg m)) (rl_p A B))
theorem rl_go_mem {nr : Nat} {ok : Nat → Nat → Bool} {F : List Nat → Nat} {q x : List Nat} (h : x ∈ rl_go nr ok F q) : ∃ r, r < nr ∧ ok (F q) r = true ∧ x = r :: q := by
  unfold rl_go at h
  obtain ⟨r, h1, h2⟩ := List.mem_filterMap.mp h
  split at h2
  · next h3 =>
    injection h2 with h2
    exact ⟨r, List.mem_range.mp h1, h3, h2.symm⟩
  · exact absurd h2 (by simp)
theorem rl_go_in {nr : Nat} {ok : Nat → Nat → Bool} {F : List Nat → Nat} {q : List Nat} {r : Nat} (h1 : r < nr) (h2 : ok (F q) r = true) : r :: q ∈ rl_go nr ok F q := by
  unfold rl_go
  exact List.mem_filterMap.mpr ⟨r, List.mem_range.mpr h1, by rw [if_pos h2]⟩
theorem rl_lt {nr : Nat} {A B : Nat → Nat} {lg : Nat → Int32} : ∀ m q, q ∈ rl nr A B lg m → ∀ r, r ∈ q → r < nr
  | 0, q, h, r, hr => by
    simp only [rl, List.mem_singleton] at h
    subst h
    simp at hr
  | m + 1, q, h, r, hr => by
    obtain ⟨q0, h0, h1⟩ := List.mem_flatMap.mp h
    obtain ⟨r0, h2, h3, h4⟩ := rl_go_mem h1
    subst h4
    rcases List.mem_cons.mp hr with e | e
    · subst e; exact h2
    · exact rl_lt m q0 h0 r e
theorem rl_p6 {A B : Nat → Nat} {nr : Nat} (hA : ∀ r, r < nr → A r < 6) (hB : ∀ r, r < nr → B r < 6) : ∀ q : List Nat, (∀ r, r ∈ q → r < nr) → rl_p A B q < 6
  | [], _ => by show 0 < 6; omega
  | r :: q, h => by
    show rl_x A B (rl_p A B q) r < 6
    unfold rl_x
    split
    · exact hB r (h r List.mem_cons_self)
    · exact hA r (h r List.mem_cons_self)
theorem rl_rwk {nr : Nat} {A B : Nat → Nat} {a b lg : Nat → Int32} (hA : ∀ r, r < nr → A r < 6 ∧ a r = nI (A r)) (hB : ∀ r, r < nr → B r < 6 ∧ b r = nI (B r)) : ∀ m, rwk nr a b lg m = (rl nr A B lg m).map (fun q => (q, nI (rl_p A B q)))
  | 0 => rfl
  | m + 1 => by
    rw [rwk, rl, rl_rwk hA hB m, List.flatMap_map, List.map_flatMap]
    have key : ∀ l : List (List Nat), (∀ q, q ∈ l → ∀ r, r ∈ q → r < nr) → l.flatMap (fun q => rwGo nr a b (lg m) (q, nI (rl_p A B q))) = l.flatMap (fun q => (rl_go nr (rl_ok A B (lg m)) (rl_p A B) q).map (fun q => (q, nI (rl_p A B q)))) := by
      intro l
      induction l with
      | nil => intro _; rfl
      | cons q l ih =>
        intro hq
        rw [List.flatMap_cons, List.flatMap_cons, ih (fun q' h' => hq q' (List.mem_cons_of_mem _ h'))]
        congr 1
        unfold rwGo rl_go
        rw [List.map_filterMap]
        apply fm_cg
        intro r hr
        have hr' := List.mem_range.mp hr
        have p6 := rl_p6 (fun r h => (hA r h).1) (fun r h => (hB r h).1) q (hq q List.mem_cons_self)
        have e1 : (nI (rl_p A B q) = a r) ↔ rl_p A B q = A r := by rw [(hA r hr').2]; exact nI_eq (by omega) (by have := (hA r hr').1; omega)
        have e2 : (nI (rl_p A B q) = b r) ↔ rl_p A B q = B r := by rw [(hB r hr').2]; exact nI_eq (by omega) (by have := (hB r hr').1; omega)
        have e3 : rwX a b (nI (rl_p A B q)) r = nI (rl_x A B (rl_p A B q) r) := by
          unfold rwX rl_x
          by_cases h : rl_p A B q = A r
          · rw [if_pos h, if_pos (e1.mpr h), (hB r hr').2]
          · rw [if_neg h, if_neg (fun z => h (e1.mp z)), (hA r hr').2]
        show (if (nI (rl_p A B q) = a r ∨ nI (rl_p A B q) = b r) ∧ (lg m = -1 ∨ lg m = rwX a b (nI (rl_p A B q)) r) then some (r :: q, rwX a b (nI (rl_p A B q)) r) else none) = Option.map (fun q => (q, nI (rl_p A B q))) (if rl_ok A B (lg m) (rl_p A B q) r = true then some (r :: q) else none)
        rw [e3]
        by_cases h : (rl_p A B q = A r ∨ rl_p A B q = B r) ∧ (lg m = -1 ∨ lg m = nI (rl_x A B (rl_p A B q) r))
        · have h2 : rl_ok A B (lg m) (rl_p A B q) r = true := decide_eq_true h
          rw [if_pos h2, if_pos ⟨h.1.imp e1.mpr e2.mpr, h.2⟩]
          rfl
        · have h2 : ¬ rl_ok A B (lg m) (rl_p A B q) r = true := fun z => h (of_decide_eq_true z)
          rw [if_neg h2, if_neg (fun z => h ⟨z.1.imp e1.mp e2.mp, z.2⟩)]
          rfl
    exact key _ (rl_lt m)
/-- from state j along a road below n into state k -/
def rl_e (al : Nat → Nat → Bool) (st : Nat → Nat → Nat) (j k n : Nat) : Nat := fb_ct (fun r => al j r && decide (st j r = k)) n
theorem rl_go_ct {nr : Nat} {ok : Nat → Nat → Bool} {F : List Nat → Nat} {q : List Nat} {P : List Nat → Bool} : (rl_go nr ok F q).countP P = fb_ct (fun r => ok (F q) r && P (r :: q)) nr := by
  unfold rl_go
  induction nr with
  | zero => rfl
  | succ n ih =>
    rw [List.range_succ, List.filterMap_append, List.countP_append, ih, fb_ct_succ]
    congr 1
    by_cases h : ok (F q) n = true
    · simp [h, List.countP_cons]
    · simp [h]
theorem rl_one {f : Nat → Nat} {j N : Nat} (hj : j < N) : fb_sm (fun i => if j = i then f i else 0) N = f j := by
  have : ∀ n, fb_sm (fun i => if j = i then f i else 0) n = if j < n then f j else 0 := by
    intro n
    induction n with
    | zero => rfl
    | succ n ih =>
      rw [fb_sm_succ, ih]
      by_cases h : j = n
      · subst h; simp
      · rw [if_neg h]
        by_cases h2 : j < n
        · rw [if_pos h2, if_pos (by omega)]; rfl
        · rw [if_neg h2, if_neg (by omega)]
  rw [this, if_pos hj]
theorem rl_cnt {nr N k : Nat} {ok al : Nat → Nat → Bool} {G F : List Nat → Nat} {st : Nat → Nat → Nat} : ∀ L : List (List Nat), (∀ q, q ∈ L → F q < N) → (∀ q, q ∈ L → ∀ r, r < nr → ok (G q) r = al (F q) r) → (∀ q, q ∈ L → ∀ r, r < nr → al (F q) r = true → F (r :: q) = st (F q) r) → (L.flatMap (rl_go nr ok G)).countP (fun q => decide (F q = k)) = fb_sm (fun j => L.countP (fun q => decide (F q = j)) * rl_e al st j k nr) N
  | [], _, _, _ => by
    rw [show (([] : List (List Nat)).flatMap (rl_go nr ok G)) = [] from rfl]
    have : ∀ n, fb_sm (fun j => ([] : List (List Nat)).countP (fun q => decide (F q = j)) * rl_e al st j k nr) n = 0 := by
      intro n
      induction n with
      | zero => rfl
      | succ n ih => rw [fb_sm_succ, ih]; simp
    rw [this]
    rfl
  | q :: L, h1, h2, h3 => by
    rw [List.flatMap_cons, List.countP_append, rl_cnt L (fun q' h => h1 q' (List.mem_cons_of_mem _ h)) (fun q' h => h2 q' (List.mem_cons_of_mem _ h)) (fun q' h => h3 q' (List.mem_cons_of_mem _ h)), rl_go_ct]
    have e1 : fb_ct (fun r => ok (G q) r && decide (F (r :: q) = k)) nr = rl_e al st (F q) k nr := by
      unfold rl_e
      refine fb_ct_cong (fun r hr => ?_)
      rw [h2 q List.mem_cons_self r hr]
      by_cases h : al (F q) r = true
      · rw [h3 q List.mem_cons_self r hr h]
      · simp [h]
    have e2 : fb_sm (fun j => (q :: L).countP (fun q => decide (F q = j)) * rl_e al st j k nr) N = fb_sm (fun j => L.countP (fun q => decide (F q = j)) * rl_e al st j k nr + (if F q = j then rl_e al st j k nr else 0)) N := by
      refine fb_sm_cong (fun j _ => ?_)
      rw [List.countP_cons]
      by_cases h : F q = j
      · simp [h, Nat.add_mul]
      · simp [h]
    rw [e1, e2, fb_sm_add, rl_one (h1 q List.mem_cons_self), Nat.add_comm]
theorem rl_len {nr : Nat} {A B : Nat → Nat} {lg : Nat → Int32} : ∀ m, (rl nr A B lg m).length ≤ nr ^ m
  | 0 => by show 1 ≤ 1; omega
  | m + 1 => by
    rw [rl]
    have key : ∀ L : List (List Nat), (L.flatMap (rl_go nr (rl_ok A B (lg m)) (rl_p A B))).length ≤ nr * L.length := by
      intro L
      induction L with
      | nil => simp
      | cons q L ih =>
        rw [List.flatMap_cons, List.length_append, List.length_cons, Nat.mul_add, Nat.mul_one, Nat.add_comm (nr * L.length)]
        refine Nat.add_le_add ?_ ih
        unfold rl_go
        have := List.length_filterMap_le (fun r => if rl_ok A B (lg m) (rl_p A B q) r = true then some (r :: q) else none) (List.range nr)
        rwa [List.length_range] at this
    have := rl_len m (nr := nr) (A := A) (B := B) (lg := lg)
    rw [Nat.pow_succ, Nat.mul_comm]
    exact Nat.le_trans (key _) (Nat.mul_le_mul_left _ this)
