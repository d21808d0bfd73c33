/-! the heap while it is being made: n cells of the fixed heap, references R, ints I -/
def hp (n : Nat) (R : Nat → Nat → Nat) (I : Nat → Nat → Int32) : AH := (n, fun a => if a < n then shp a else (0, 0), I, R, fun _ => 0)
def uR (R : Nat → Nat → Nat) (k j v : Nat) : Nat → Nat → Nat := fun a i => if a = k ∧ i = j then v else R a i
def uI (I : Nat → Nat → Int32) (k j : Nat) (v : Int32) : Nat → Nat → Int32 := fun a i => if a = k ∧ i = j then v else I a i
theorem uR_ne {R : Nat → Nat → Nat} {k j v a i : Nat} (h : a ≠ k) : uR R k j v a i = R a i := if_neg (fun q => h q.1)
theorem uI_ne {I : Nat → Nat → Int32} {k j a i : Nat} {v : Int32} (h : a ≠ k) : uI I k j v a i = I a i := if_neg (fun q => h q.1)
theorem uR_eq {R : Nat → Nat → Nat} {k j v i : Nat} : uR R k j v k i = if i = j then v else R k i := by
  unfold uR
  by_cases h : i = j
  · rw [if_pos ⟨rfl, h⟩, if_pos h]
  · rw [if_neg (fun q => h q.2), if_neg h]
theorem uI_eq {I : Nat → Nat → Int32} {k j i : Nat} {v : Int32} : uI I k j v k i = if i = j then v else I k i := by
  unfold uI
  by_cases h : i = j
  · rw [if_pos ⟨rfl, h⟩, if_pos h]
  · rw [if_neg (fun q => h q.2), if_neg h]
theorem hp_nw {n : Nat} {R : Nat → Nat → Nat} {I : Nat → Nat → Int32} {q : Nat × Nat} (hq : shp n = q) (hz : ∀ j, R n j = 0 ∧ I n j = 0) : am_nw (hp n R I) q = hp (n + 1) R I := by
  unfold am_nw hp
  refine Prod.ext rfl (Prod.ext ?_ (Prod.ext ?_ (Prod.ext ?_ ?_)))
  · funext a
    show (if a = n then q else if a < n then shp a else (0, 0)) = if a < n + 1 then shp a else (0, 0)
    by_cases e : a = n
    · subst e; rw [if_pos rfl, if_pos (by omega), hq]
    · rw [if_neg e]
      by_cases h : a < n
      · rw [if_pos h, if_pos (by omega)]
      · rw [if_neg h, if_neg (by omega)]
  · funext a i
    show (if a = n then 0 else I a i) = I a i
    by_cases e : a = n
    · subst e; rw [if_pos rfl, (hz i).2]
    · rw [if_neg e]
  · funext a i
    show (if a = n then 0 else R a i) = R a i
    by_cases e : a = n
    · subst e; rw [if_pos rfl, (hz i).1]
    · rw [if_neg e]
  · funext a
    show (if a = n then 0 else (0 : Int64)) = 0
    split <;> rfl
theorem hp_o {n k t : Nat} {R : Nat → Nat → Nat} {I : Nat → Nat → Int32} (h : fO k t) (hn : k < n) : isO (hp n R I) k t := by
  refine ⟨h.1, hn, ?_⟩
  show (if k < n then shp k else (0, 0)).1 = t + 3
  rw [if_pos hn]
  exact h.2.2
theorem hp_q {n k t m : Nat} {R : Nat → Nat → Nat} {I : Nat → Nat → Int32} (h : fQ k t m) (hn : k < n) : isQ (hp n R I) k t m := by
  refine ⟨h.1, hn, ?_⟩
  show (if k < n then shp k else (0, 0)) = (t + 1, m)
  rw [if_pos hn]
  exact h.2.2
section HR
variable {E : am_E} {d : Nat} {B : Nat × Nat} {M : am_M} {cs ss pc : Nat} {lo : List (Option Value)} {st : List Value} {n : Nat} {R : Nat → Nat → Nat} {I : Nat → Nat → Int32} {Q : Option Value → AH → Prop}
theorem hr_new {i t m : Nat} (hd : decode M.1 pc = .ok (.new i, 3)) (hok : ∀ j, j < nFt t → am_okt (tyT t j) = true) (hc : ∃ q, am_cS t q ∧ q.2.2 = m ∧ Cond.classLink M.2.1.cls i q.1 ∈ am_T ∧ Cond.instantiable q.1 m ∈ am_T ∧ Cond.initialized q.1 ∈ am_T) (h1 : cs + 1 ≤ B.1) (h2 : ss + m ≤ B.2) (hq : shp n = (t + 3, 0)) (hz : ∀ j, R n j = 0 ∧ I n j = 0) (kk : am_G E d B M (cs + 1) (ss + m) (pc + 3) lo (.ref n :: st) (hp (n + 1) R I) Q) : am_G E d B M cs ss pc lo st (hp n R I) Q :=
  ar_new hd hok hc h1 h2 (by rw [hp_nw hq hz]; exact kk)
theorem hr_newa {N : Nat} {x : Int32} (hd : decode M.1 pc = .ok (.newarray .int, 2)) (hx : ¬ x < 0) (hN : x.toNatClampNeg = N) (hb : N * 4 ≤ 536870912) (h1 : cs + 1 ≤ B.1) (h2 : ss + N ≤ B.2) (hq : shp n = (0, N)) (hz : ∀ j, R n j = 0 ∧ I n j = 0) (kk : am_G E d B M (cs + 1) (ss + N) (pc + 2) lo (.ref n :: st) (hp (n + 1) R I) Q) : am_G E d B M cs ss pc lo (.int x :: st) (hp n R I) Q :=
  ar_newa hd ac_int hx hN hb h1 h2 (by rw [hp_nw hq hz]; exact kk)
theorem hr_newq {i t N : Nat} {C : String} {x : Int32} (hd : decode M.1 pc = .ok (.anewarray i, 3)) (ht : t < 2) (hC0 : (am_tys E)[t + 1]? = some (E.2.1 (t + 1), .object C)) (hcl : Cond.classLink M.2.1.cls i C ∈ am_T) (hov : Cond.arrayOver (.object C) ∈ lw_tbl) (hx : ¬ x < 0) (hN : x.toNatClampNeg = N) (hb : N * 4 ≤ 536870912) (h1 : cs + 1 ≤ B.1) (h2 : ss + N ≤ B.2) (hq : shp n = (t + 1, N)) (hz : ∀ j, R n j = 0 ∧ I n j = 0) (kk : am_G E d B M (cs + 1) (ss + N) (pc + 3) lo (.ref n :: st) (hp (n + 1) R I) Q) : am_G E d B M cs ss pc lo (.int x :: st) (hp n R I) Q :=
  ar_newq hd ht hC0 hcl hov hx hN hb h1 h2 (by rw [hp_nw hq hz]; exact kk)
theorem hr_putR {i k t j r : Nat} (hd : decode M.1 pc = .ok (.putfield i, 3)) (hf : am_fQ M.2.1.cls i t j ∨ (am_fP M.2.1.cls i t j true ∧ M.2.1.name = "<init>")) (ho : fO k t) (hn : k < n) (ht : (∃ C, tyT t j = .object C) ∨ ∃ y, tyT t j = .array y) (h0 : r ≠ 0) (kk : am_G E d B M cs ss (pc + 3) lo st (hp n (uR R k j r) I) Q) : am_G E d B M cs ss pc lo (.ref r :: .ref k :: st) (hp n R I) Q :=
  ar_putR hd hf (hp_o ho hn) ht h0 kk
theorem hr_putI {i k t j : Nat} {x : Int32} (hd : decode M.1 pc = .ok (.putfield i, 3)) (hf : am_fQ M.2.1.cls i t j ∨ (am_fP M.2.1.cls i t j true ∧ M.2.1.name = "<init>")) (ho : fO k t) (hn : k < n) (ht : fkd (tyT t j) = 0) (hb : tyT t j = .int ∨ x = 0 ∨ x = 1) (kk : am_G E d B M cs ss (pc + 3) lo st (hp n R (uI I k j x)) Q) : am_G E d B M cs ss pc lo (.int x :: .ref k :: st) (hp n R I) Q :=
  ar_putI hd hf (hp_o ho hn) ht hb kk
end HR
/-- the ints that the constructors leave -/
def cin (a j : Nat) : Int32 := if (8 ≤ a ∧ a < 16) ∨ (28 ≤ a ∧ a < 36) ∨ (48 ≤ a ∧ a < 56) then (if j = 0 then nI ((a - 8) % 20) else if j = 4 ∨ j = 5 then 1 else 0) else if a = 64 ∧ j = 7 then 1 else if a = 71 ∧ j = 1 then -1 else if a = 71 ∧ j = 8 then 1 else if a = 78 ∧ j = 27 then -1 else 0
theorem cin_hi {a j : Nat} (h : 36 ≤ j) : cin a j = 0 := by
  unfold cin
  split
  · rw [if_neg (by omega), if_neg (by omega)]
  · rw [if_neg (by omega), if_neg (by omega), if_neg (by omega), if_neg (by omega)]
theorem cin_z {a j : Nat} (h : ¬ ((8 ≤ a ∧ a < 16) ∨ (28 ≤ a ∧ a < 36) ∨ (48 ≤ a ∧ a < 56))) (h1 : a ≠ 64) (h2 : a ≠ 71) (h3 : a ≠ 78) : cin a j = 0 := by
  unfold cin
  rw [if_neg h, if_neg (by omega), if_neg (by omega), if_neg (by omega), if_neg (by omega)]
theorem crf_hi {a j : Nat} (h : 36 ≤ j) : crf a j = 0 := by
  have key : ∀ a, a < 96 → (crfL.getD a []).length ≤ 36 := by decide +kernel
  have l : (crfL.getD a []).length ≤ 36 := by
    rcases Nat.lt_or_ge a 96 with q | q
    · exact key a q
    · rw [List.getD_eq_getElem?_getD, List.getElem?_eq_none (by show crfL.length ≤ a; exact q)]
      decide
  unfold crf
  generalize crfL.getD a [] = L at l ⊢
  rw [List.getD_eq_getElem?_getD, List.getElem?_eq_none (by omega)]
  rfl
theorem crf_ar {a j : Nat} (h : (shp a).1 = 0) : crf a j = 0 := by
  have key : ∀ a, a < 96 → (shp a).1 = 0 → crfL.getD a [] = [] := by decide +kernel
  unfold crf
  rcases Nat.lt_or_ge a 96 with q | q
  · rw [key a q h]; rfl
  · rw [show crfL.getD a [] = [] by rw [List.getD_eq_getElem?_getD, List.getElem?_eq_none (by show crfL.length ≤ a; exact q)]; rfl]
    rfl
/-- the references that the constructors leave -/
def crg (a j : Nat) : Nat := if a = 71 ∧ 4 ≤ j ∧ j ≤ 7 then 70 + j else crf a j
theorem crg_n {a j : Nat} (h : a ≠ 71) : crg a j = crf a j := if_neg (fun q => h q.1)
theorem crg_hi {a j : Nat} (h : 36 ≤ j) : crg a j = 0 := by
  unfold crg
  rw [if_neg (by omega)]
  exact crf_hi h
theorem crg_ar {a j : Nat} (h : (shp a).1 = 0) : crg a j = 0 := by
  rw [crg_n (fun e => by subst e; exact absurd h (by decide))]
  exact crf_ar h
/-- the cells from k on, below N, are as they are to be -/
def bt (k N : Nat) (R R' : Nat → Nat → Nat) (I I' : Nat → Nat → Int32) : Prop := (∀ a j, a < k → R' a j = R a j ∧ I' a j = I a j) ∧ (∀ a j, k ≤ a → a < N → R' a j = crg a j ∧ I' a j = cin a j) ∧ ∀ a j, N ≤ a → R' a j = 0 ∧ I' a j = 0
