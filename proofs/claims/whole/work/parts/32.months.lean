/-! months: what both do, as a function of the pilgrims -/
def ps_N (x : Int32) : Int32 := (((1103515245 * x.toInt64) + 12345) &&& 2147483647).toInt32
theorem ps_N_n (x : Int32) : ∃ n, n < 2 ^ 31 ∧ ps_N x = nI n := by
  unfold ps_N
  rw [Int64.toInt32_and, show (2147483647 : Int64).toInt32 = 2147483647 by decide]
  exact pk_andE _ 31 (by decide)
def ps_R (x y : Int32) : Int32 := (x / 65536) - (x / 65536) / y * y
theorem ps_R_n (x : Int32) {nr : Nat} (h0 : nr ≠ 0) (h8 : nr ≤ 8) : ∃ r, r < nr ∧ ps_R (ps_N x) (nI nr) = nI r := by
  obtain ⟨n, hn, e⟩ := ps_N_n x
  refine ⟨n / 65536 % nr, Nat.mod_lt _ (by omega), ?_⟩
  unfold ps_R
  rw [e, show (65536 : Int32) = nI 65536 from rfl, pk_div hn (by decide) (by decide), pk_rem (by omega) (by omega) (by omega)]
/-- a pilgrim: 0 place, 1 hurt, 2 counted, 3 walked, 4 let in, 5 + i known -/
def ps_Go (x : Nat → Int32) (a b h y : Int32) (r : Nat) : Nat → Int32 := fun j => if j = 0 then (if x 0 = a then b else a) else if j = 1 then x 1 + h else if j = 2 then (if h ≤ x (5 + r) then x 2 else x 2 + y) else if j = 3 then x 3 + 1 else if j = 5 + r then (if h ≤ x (5 + r) then x (5 + r) else h) else x j
def ps_Rs (x : Nat → Int32) : Nat → Int32 := fun j => if j = 1 then (if 5 ≤ x 1 then x 1 - 5 else 0) else x j
def ps_As (x : Nat → Int32) (n : Int32) : Nat → Int32 := fun j => if j = 4 ∧ x 0 = 5 ∧ x 2 = n then 1 else x j
def ps_Mo (R : Nat → Nat → Int32) (n : Int32) (r : Nat) (x : Nat → Int32) : Nat → Int32 := ps_As (if x 4 = 0 ∧ (x 0 = R r 2 ∨ x 0 = R r 3) ∧ ¬ 99 < x 1 + R r 4 then ps_Go x (R r 2) (R r 3) (R r 4) (wrt (R r 1) (R r 5)) r else ps_Rs x) n
def ps_OK (x : Nat → Int32) : Prop := vp_in (x 0) 6 ∧ vp_in (x 1) 100 ∧ vp_in (x 4) 2
def ps_RK (R : Nat → Nat → Int32) (r : Nat) : Prop := vp_in (R r 1) 5 ∧ vp_in (R r 2) 6 ∧ vp_in (R r 3) 6 ∧ (∃ h, 1 ≤ h ∧ h ≤ 9 ∧ R r 4 = nI h) ∧ vp_in (R r 5) 2
theorem ps_Mo_ok {R : Nat → Nat → Int32} {n : Int32} {r : Nat} {x : Nat → Int32} (hr : ps_RK R r) (hx : ps_OK x) : ps_OK (ps_Mo R n r x) := by
  obtain ⟨k1, k2, k3, ⟨h, h1, h9, k4⟩, k5⟩ := hr
  have as : ∀ y, ps_OK y → ps_OK (ps_As y n) := by
    intro y ⟨y0, y1, y4⟩
    refine ⟨by unfold ps_As; simpa using y0, by unfold ps_As; simpa using y1, ?_⟩
    unfold ps_As
    split
    · exact in_b (Or.inr rfl)
    · exact y4
  unfold ps_Mo
  refine as _ ?_
  obtain ⟨x0, x1, x4⟩ := hx
  split
  · next q =>
    obtain ⟨q1, q2, q3⟩ := q
    refine ⟨?_, ?_, ?_⟩
    · unfold ps_Go
      simp only [if_true]
      split <;> assumption
    · show vp_in (x 1 + R r 4) 100
      obtain ⟨u, hu, eu⟩ := vp_in_of x1 (by decide)
      rw [eu, k4, nI_add] at q3 ⊢
      refine vp_in_nI ?_ (by decide)
      rcases Nat.lt_or_ge (u + h) 100 with z | z
      · exact z
      · exact absurd (nI_lt (a := 99) (b := u + h) (by omega) (by omega)) q3
    · unfold ps_Go
      rw [if_neg (by omega), if_neg (by omega), if_neg (by omega), if_neg (by omega), if_neg (by omega)]
      exact x4
  · exact ⟨x0, rest_ok x1, x4⟩
def ps_P (R : Nat → Nat → Int32) (n : Int32) (nr : Nat) (S : (Nat → Nat → Int32) × Int32) (p : Nat) : (Nat → Nat → Int32) × Int32 := if S.1 p 4 = 0 then ((fun q => if q = p then ps_Mo R n (ps_R (ps_N S.2) (nI nr)).toNatClampNeg (S.1 p) else S.1 q), ps_N S.2) else S
def ps_A (R : Nat → Nat → Int32) (n : Int32) (nr : Nat) (S : (Nat → Nat → Int32) × Int32) : Nat → (Nat → Nat → Int32) × Int32
  | 0 => S
  | p + 1 => ps_P R n nr (ps_A R n nr S p) p
def ps_L (R : Nat → Nat → Int32) (n : Int32) (nr np : Nat) (S : (Nat → Nat → Int32) × Int32) : Nat → (Nat → Nat → Int32) × Int32
  | 0 => S
  | m + 1 => ps_A R n nr (ps_L R n nr np S m) np
section PSO
variable {R : Nat → Nat → Int32} {n : Int32} {nr np : Nat} {S : (Nat → Nat → Int32) × Int32}
theorem ps_P_ok {p : Nat} (h0 : nr ≠ 0) (h8 : nr ≤ 8) (hR : ∀ r, r < nr → ps_RK R r) (h : ∀ q, q < np → ps_OK (S.1 q)) (hp : p < np) : ∀ q, q < np → ps_OK ((ps_P R n nr S p).1 q) := by
  intro q hq
  unfold ps_P
  split
  · show ps_OK (if q = p then _ else S.1 q)
    split
    · obtain ⟨r, hr, e⟩ := ps_R_n S.2 h0 h8
      rw [e, nI_clamp (by omega)]
      exact ps_Mo_ok (hR r hr) (h p hp)
    · exact h q hq
  · exact h q hq
theorem ps_A_ok (h0 : nr ≠ 0) (h8 : nr ≤ 8) (hR : ∀ r, r < nr → ps_RK R r) (h : ∀ q, q < np → ps_OK (S.1 q)) : ∀ p, p ≤ np → ∀ q, q < np → ps_OK ((ps_A R n nr S p).1 q)
  | 0, _ => h
  | p + 1, hp => ps_P_ok h0 h8 hR (ps_A_ok h0 h8 hR h p (by omega)) (by omega)
theorem ps_L_ok (h0 : nr ≠ 0) (h8 : nr ≤ 8) (hR : ∀ r, r < nr → ps_RK R r) (h : ∀ q, q < np → ps_OK (S.1 q)) : ∀ m, ∀ q, q < np → ps_OK ((ps_L R n nr np S m).1 q)
  | 0 => h
  | m + 1 => ps_A_ok h0 h8 hR (ps_L_ok h0 h8 hR h m) np (Nat.le_refl _)
end PSO
def ps_c (σ : FH) (k : Nat) : Nat → Int32 := fun j => if j < 5 then σ.1 k j else if j < 13 then σ.1 (k + 1) (j - 5) else 0
def ps_m (σ : FH) (p : Nat) : Nat → Int32 := fun j => if j < 3 then σ.1 82 (5 * p + j) else if j = 3 then σ.1 82 (5 * p + 4) else if j = 4 then σ.1 82 (5 * p + 3) else if j < 13 then σ.1 83 (8 * p + (j - 5)) else 0
theorem ps_c_ext {σ : FH} {k : Nat} {y : Nat → Int32} (h1 : ∀ j, j < 5 → σ.1 k j = y j) (h2 : ∀ i, i < 8 → σ.1 (k + 1) i = y (5 + i)) (h3 : ∀ j, 13 ≤ j → y j = 0) : ps_c σ k = y := by
  funext j
  unfold ps_c
  split
  · next q => exact h1 j q
  · split
    · have := h2 (j - 5) (by omega)
      rwa [show 5 + (j - 5) = j by omega] at this
    · exact (h3 j (by omega)).symm
theorem ps_m_ext {σ : FH} {p : Nat} {y : Nat → Int32} (h1 : ∀ j, j < 3 → σ.1 82 (5 * p + j) = y j) (h3' : σ.1 82 (5 * p + 3) = y 4) (h4 : σ.1 82 (5 * p + 4) = y 3) (h2 : ∀ i, i < 8 → σ.1 83 (8 * p + i) = y (5 + i)) (h3 : ∀ j, 13 ≤ j → y j = 0) : ps_m σ p = y := by
  funext j
  unfold ps_m
  split
  · next q => exact h1 j q
  · split
    · next q => subst q; exact h4
    · split
      · next q => subst q; exact h3'
      · split
        · have := h2 (j - 5) (by omega)
          rwa [show 5 + (j - 5) = j by omega] at this
        · exact (h3 j (by omega)).symm
theorem ps_cl {σ : FH} {k j : Nat} (h : j < 5) : ps_c σ k j = σ.1 k j := if_pos h
theorem ps_c0 {σ : FH} {k : Nat} : ps_c σ k 0 = σ.1 k 0 := rfl
theorem ps_c1 {σ : FH} {k : Nat} : ps_c σ k 1 = σ.1 k 1 := rfl
theorem ps_c2 {σ : FH} {k : Nat} : ps_c σ k 2 = σ.1 k 2 := rfl
theorem ps_c3 {σ : FH} {k : Nat} : ps_c σ k 3 = σ.1 k 3 := rfl
theorem ps_c4 {σ : FH} {k : Nat} : ps_c σ k 4 = σ.1 k 4 := rfl
theorem ps_ck {σ : FH} {k i : Nat} (h : i < 8) : ps_c σ k (5 + i) = σ.1 (k + 1) i := by
  unfold ps_c
  rw [if_neg (by omega), if_pos (by omega), show 5 + i - 5 = i by omega]
theorem ps_co {σ : FH} {k j : Nat} (h : 13 ≤ j) : ps_c σ k j = 0 := by
  unfold ps_c
  rw [if_neg (by omega), if_neg (by omega)]
theorem ps_ml {σ : FH} {p j : Nat} (h : j < 3) : ps_m σ p j = σ.1 82 (5 * p + j) := if_pos h
theorem ps_m0 {σ : FH} {p : Nat} : ps_m σ p 0 = σ.1 82 (5 * p) := rfl
theorem ps_m1 {σ : FH} {p : Nat} : ps_m σ p 1 = σ.1 82 (5 * p + 1) := rfl
theorem ps_m2 {σ : FH} {p : Nat} : ps_m σ p 2 = σ.1 82 (5 * p + 2) := rfl
theorem ps_m3 {σ : FH} {p : Nat} : ps_m σ p 3 = σ.1 82 (5 * p + 4) := rfl
theorem ps_m4 {σ : FH} {p : Nat} : ps_m σ p 4 = σ.1 82 (5 * p + 3) := rfl
theorem ps_mk {σ : FH} {p i : Nat} (h : i < 8) : ps_m σ p (5 + i) = σ.1 83 (8 * p + i) := by
  unfold ps_m
  rw [if_neg (by omega), if_neg (by omega), if_neg (by omega), if_pos (by omega), show 5 + i - 5 = i by omega]
theorem ps_mo {σ : FH} {p j : Nat} (h : 13 ≤ j) : ps_m σ p j = 0 := by
  unfold ps_m
  rw [if_neg (by omega), if_neg (by omega), if_neg (by omega), if_neg (by omega)]
section PSC
variable {E : am_E} {d : Nat} {σ : FH} {Q : Int32 → FH → Prop} {QV : FH → Prop}
theorem c_askS {k0 : Nat} {x : Int32} (hk0 : isPg k0) (k : ∀ σ', σ'.2 = σ.2 → (∀ a i, a ≠ k0 → σ'.1 a i = σ.1 a i) → ps_c σ' k0 = ps_As (ps_c σ k0) x → QV σ') : fMv E (d + 1) mX1_ask [.ref k0, .int x] σ QV := by
  refine c_ask hk0 (fun q1 q2 => k _ rfl (fun a i h => fsI_k h) (ps_c_ext (fun j hj => ?_) (fun i hi => ?_) (fun j hj => ?_))) (fun q => k _ rfl (fun a i h => rfl) ?_)
  · unfold ps_As
    rw [ps_c0, ps_c2, ps_cl hj, fsI_at]
    simp only [q1, q2, true_and, and_true]
  · unfold ps_As
    rw [if_neg (by omega), ps_ck hi, fsI_k (by omega)]
  · unfold ps_As
    rw [if_neg (by omega), ps_co hj]
  · funext j
    unfold ps_As
    rw [ps_c0, ps_c2, if_neg (fun z => q z.2)]
theorem c_goS {k0 k1 r : Nat} {y : Int32} (hk0 : isPg k0) (hk1 : isRd k1) (hne : k1 ≠ k0 ∧ k1 ≠ k0 + 1) (hr : r < 8) (hn : σ.1 k1 0 = nI r) (k : ∀ σ', σ'.2 = σ.2 → (∀ a i, a ≠ k0 → a ≠ k0 + 1 → σ'.1 a i = σ.1 a i) → ps_c σ' k0 = ps_Go (ps_c σ k0) (σ.1 k1 2) (σ.1 k1 3) (σ.1 k1 4) y r → QV σ') : fMv E (d + 2) mX1_go [.ref k0, .ref k1, .int (σ.1 k1 4), .int y] σ QV := by
  refine c_go hk0 hk1 hne hr hn (fun s s2 sf g0 g1 g2 g3 gk => k s s2 (fun a i h1 h2 => sf a i (by omega) (by omega)) (ps_c_ext (fun j hj => ?_) (fun i hi => ?_) (fun j hj => ?_)))
  · unfold ps_Go
    rw [ps_c0, ps_c1, ps_c2, ps_c3, ps_ck hr, ps_cl hj]
    rcases (show j = 0 ∨ j = 1 ∨ j = 2 ∨ j = 3 ∨ j = 4 by omega) with rfl | rfl | rfl | rfl | rfl
    · exact g0
    · exact g1
    · exact g2
    · exact g3
    · rw [if_neg (by omega), if_neg (by omega), if_neg (by omega), if_neg (by omega), if_neg (by omega)]
      exact sf _ _ (by omega) (by omega)
  · unfold ps_Go
    rw [if_neg (by omega), if_neg (by omega), if_neg (by omega), if_neg (by omega), ps_ck hi, ps_ck hr]
    by_cases e : i = r
    · subst e
      rw [if_pos rfl]
      exact gk
    · rw [if_neg (by omega)]
      exact sf _ _ (by omega) (by omega)
  · unfold ps_Go
    rw [if_neg (by omega), if_neg (by omega), if_neg (by omega), if_neg (by omega), if_neg (by omega), ps_co hj]
theorem c_recoverS {k0 : Nat} (hk0 : isPg k0) (hx : vp_in (σ.1 k0 1) 100) (k : ∀ σ', σ'.2 = σ.2 → (∀ a i, a ≠ k0 → σ'.1 a i = σ.1 a i) → ps_c σ' k0 = ps_Rs (ps_c σ k0) → QV σ') : fMv E (d + 2) mX1_recover [.ref k0] σ QV := by
  refine c_recover hk0 (k _ rfl (fun a i h => fsI_k h) (ps_c_ext (fun j hj => ?_) (fun i hi => ?_) (fun j hj => ?_)))
  · obtain ⟨n, hn, en⟩ := vp_in_of hx (by decide)
    unfold ps_Rs
    rw [ps_c1, ps_cl hj, rest_v hn en, fsI_at]
    by_cases e : j = 1
    · rw [if_pos e, if_pos ⟨rfl, e⟩]
    · rw [if_neg e, if_neg (fun z => e z.2)]
  · unfold ps_Rs
    rw [if_neg (show ¬ 5 + i = 1 by omega), ps_ck hi, fsI_k (by omega)]
  · unfold ps_Rs
    rw [if_neg (by omega), ps_co hj]
theorem c_asksS {p : Nat} (hp : p < 4) (k : ∀ σ', σ'.2 = σ.2 → (∀ a i, ¬ (a = 82 ∧ 5 * p ≤ i ∧ i < 5 * p + 5) → σ'.1 a i = σ.1 a i) → ps_m σ' p = ps_As (ps_m σ p) (σ.1 78 7) → QV σ') : fMv E (d + 1) mX7_asks [.ref 78, .int (nI p)] σ QV := by
  refine c_asks hp (fun q1 q2 => k _ rfl (fun a i h => fsI_n (by omega)) (ps_m_ext (fun j hj => ?_) ?_ ?_ (fun i hi => ?_) (fun j hj => ?_))) (fun q => k _ rfl (fun a i h => rfl) ?_)
  · unfold ps_As
    rw [if_neg (by omega), ps_ml hj, fsI_n (by omega)]
  · unfold ps_As
    rw [ps_m0, ps_m2, if_pos ⟨rfl, q1, q2⟩]; exact fsI_s
  · unfold ps_As
    rw [if_neg (by omega), ps_m3, fsI_n (by omega)]
  · unfold ps_As
    rw [if_neg (by omega), ps_mk hi, fsI_k (by decide)]
  · unfold ps_As
    rw [if_neg (by omega), ps_mo hj]
  · funext j
    unfold ps_As
    rw [ps_m0, ps_m2, if_neg (fun z => q z.2)]
theorem c_goesS {p r : Nat} {y : Int32} (hp : p < 4) (hr : r < 8) (ha : vp_in (σ.1 81 (5 * r + 1)) 6) (hb : vp_in (σ.1 81 (5 * r + 2)) 6) (ht : σ.1 82 (5 * p) = σ.1 81 (5 * r + 1) ∨ σ.1 82 (5 * p) = σ.1 81 (5 * r + 2)) (k : ∀ σ', σ'.2 = σ.2 → (∀ a i, ¬ (a = 82 ∧ 5 * p ≤ i ∧ i < 5 * p + 5) → ¬ (a = 83 ∧ 8 * p ≤ i ∧ i < 8 * p + 8) → σ'.1 a i = σ.1 a i) → ps_m σ' p = ps_Go (ps_m σ p) (σ.1 81 (5 * r + 1)) (σ.1 81 (5 * r + 2)) (σ.1 81 (5 * r + 3)) y r → QV σ') : fMv E (d + 2) mX7_goes [.ref 78, .int (nI p), .int (nI r), .int (σ.1 81 (5 * r + 3)), .int y] σ QV := by
  refine c_goes hp hr (fun s s2 sf g0 g1 g2 g3 g4 gk => k s s2 (fun a i h1 h2 => sf a i h1 (by omega)) (ps_m_ext (fun j hj => ?_) ?_ ?_ (fun i hi => ?_) (fun j hj => ?_)))
  · unfold ps_Go
    rw [ps_m0, ps_m1, ps_m2, ps_mk hr, ps_ml hj]
    rcases (show j = 0 ∨ j = 1 ∨ j = 2 by omega) with rfl | rfl | rfl
    · rw [if_pos rfl, ← oE_x ha hb ht]; exact g0
    · exact g1
    · show s.1 82 (5 * p + 2) = (if σ.1 81 (5 * r + 3) ≤ σ.1 83 (8 * p + r) then σ.1 82 (5 * p + 2) else σ.1 82 (5 * p + 2) + y)
      rw [g2]
      split
      · exact Int32.add_zero _
      · rfl
  · unfold ps_Go
    rw [if_neg (by omega), if_neg (by omega), if_neg (by omega), if_neg (by omega), if_neg (by omega), ps_m4]
    exact g3
  · exact g4
  · unfold ps_Go
    rw [if_neg (by omega), if_neg (by omega), if_neg (by omega), if_neg (by omega), ps_mk hi, ps_mk hr]
    by_cases e : i = r
    · subst e
      rw [if_pos rfl]
      exact gk
    · rw [if_neg (by omega)]
      exact sf _ _ (by omega) (by omega)
  · unfold ps_Go
    rw [if_neg (by omega), if_neg (by omega), if_neg (by omega), if_neg (by omega), if_neg (by omega), ps_mo hj]
theorem c_restsS {p : Nat} (hp : p < 4) (k : ∀ σ', σ'.2 = σ.2 → (∀ a i, ¬ (a = 82 ∧ 5 * p ≤ i ∧ i < 5 * p + 5) → σ'.1 a i = σ.1 a i) → ps_m σ' p = ps_Rs (ps_m σ p) → QV σ') : fMv E (d + 1) mX7_rests [.ref 78, .int (nI p)] σ QV := by
  refine c_rests hp (k _ rfl (fun a i h => fsI_n (by omega)) (ps_m_ext (fun j hj => ?_) ?_ ?_ (fun i hi => ?_) (fun j hj => ?_)))
  · unfold ps_Rs
    rw [ps_m1, ps_ml hj, fsI_at]
    by_cases e : j = 1
    · rw [if_pos e, if_pos ⟨rfl, by omega⟩]
    · rw [if_neg e, if_neg (by omega)]
  · unfold ps_Rs
    rw [if_neg (show ¬ 4 = 1 by omega), ps_m4, fsI_n (by omega)]
  · unfold ps_Rs
    rw [if_neg (show ¬ 3 = 1 by omega), ps_m3, fsI_n (by omega)]
  · unfold ps_Rs
    rw [if_neg (show ¬ 5 + i = 1 by omega), ps_mk hi, fsI_k (by decide)]
  · unfold ps_Rs
    rw [if_neg (by omega), ps_mo hj]
theorem c_nextSeed {x : Int32} (k : Q (ps_N x) σ) : fMi E (d + 1) mX5_nextSeed [.int x] σ Q := by
  refine v_X5_nextSeed ?_
  unfold t_X5_nextSeed
  exact k
theorem c_draw {nr : Nat} (h0 : nr ≠ 0) (h8 : nr ≤ 8) (k : Q (ps_R (ps_N (σ.1 78 24)) (nI nr)) (fsI σ 78 24 (ps_N (σ.1 78 24)))) : fMi E (d + 1) mX7_draw [.ref 78, .int (nI nr)] σ Q := by
  refine v_X7_draw ?_
  unfold t_X7_draw
  rintro _ rfl
  rw [fsI_s]
  exact ⟨fun q => h0 ((nI_z (by omega)).mp q), k⟩
theorem c_passMonth {w p nr : Nat} {x : Int32} {R : Nat → Nat → Int32} (hw : isWd w) (hp : p < 4) (h0 : nr ≠ 0) (h8 : nr ≤ 8) (h1 : σ.1 w 1 = nI nr) (hR : ∀ r, r < nr → ps_RK R r) (hr : ∀ r j, r < nr → 1 ≤ j → j < 6 → σ.1 (w + 4 + r) j = R r j) (hN : ∀ r, r < 8 → σ.1 (w + 4 + r) 0 = nI r) (ok : ps_OK (ps_c σ (w + 12 + 2 * p))) (k : ∀ σ', σ'.2 = σ.2 → (∀ a i, a ≠ w + 12 + 2 * p → a ≠ w + 12 + 2 * p + 1 → σ'.1 a i = σ.1 a i) → ps_c σ' (w + 12 + 2 * p) = ps_Mo R (σ.1 w 0) (ps_R (ps_N x) (nI nr)).toNatClampNeg (ps_c σ (w + 12 + 2 * p)) → QV σ') : fMv E (d + 3) mX5_passMonth [.ref w, .ref (w + 12 + 2 * p), .int (ps_N x)] σ QV := by
  have hpg : isPg (w + 12 + 2 * p) := ⟨w, p, hw, hp, rfl⟩
  obtain ⟨r, hrr, er⟩ := ps_R_n x h0 h8
  have ww : w = 4 ∨ w = 24 ∨ w = 44 := hw
  refine v_X5_passMonth hw hpg ?_
  unfold t_X5_passMonth
  rw [h1]
  rw [er, nI_clamp (by omega)] at k
  unfold ps_R at er
  rw [er, nI_clamp (by omega)]
  have hrd : isRd (w + 4 + r) := ⟨w, r, hw, by omega, rfl⟩
  obtain ⟨o0, o1, o4⟩ := ok
  rw [ps_c0] at o0
  rw [ps_c1] at o1
  rw [ps_c4] at o4
  refine ⟨fun hz => ⟨hz, vp_in_nI (by omega) (by decide), c_may hpg hrd ?_⟩, fun hz => absurd ((nI_z (by omega)).mp hz) h0⟩
  simp only [bi0, Classical.not_not]
  refine ⟨fun hm => c_recoverS hpg o1 (fun s s2 sf sv => ?_), fun hm => c_worth hrd (c_goS (r := r) hpg hrd (by omega) (by omega) (hN r (by omega)) (fun s s2 sf sv => ?_))⟩
  · rw [sf w 0 (by omega)]
    refine c_askS hpg (fun t t2 tf tv => k t (t2.trans s2) (fun a i h1 h2 => by rw [tf a i h1, sf a i h1]) ?_)
    rw [tv, sv]
    unfold ps_Mo
    rw [if_neg]
    rw [ps_c0, ps_c1, ps_c4, ← hr r 2 hrr (by omega) (by omega), ← hr r 3 hrr (by omega) (by omega), ← hr r 4 hrr (by omega) (by omega)]
    exact hm
  · rw [sf w 0 (by omega) (by omega)]
    refine c_askS hpg (fun t t2 tf tv => k t (t2.trans s2) (fun a i h1 h2 => by rw [tf a i h1, sf a i h1 h2]) ?_)
    rw [tv, sv]
    unfold ps_Mo
    rw [← hr r 1 hrr (by omega) (by omega), ← hr r 2 hrr (by omega) (by omega), ← hr r 3 hrr (by omega) (by omega), ← hr r 4 hrr (by omega) (by omega), ← hr r 5 hrr (by omega) (by omega), if_pos]
    rw [ps_c0, ps_c1, ps_c4]
    exact hm
def ps_C (σ : FH) (w np : Nat) : Nat → Nat → Int32 := fun p => if p < np then ps_c σ (w + 12 + 2 * p) else fun _ => 0
def ps_M (σ : FH) (np : Nat) : Nat → Nat → Int32 := fun p => if p < np then ps_m σ p else fun _ => 0
theorem c_live {w np nr m : Nat} {x : Int32} {R : Nat → Nat → Int32} (hw : isWd w) (hp4 : np ≤ 4) (hm : m ≤ 60) (h0 : nr ≠ 0) (h8 : nr ≤ 8) (h1 : σ.1 w 1 = nI nr) (h2 : σ.1 w 2 = nI np) (hR : ∀ r, r < nr → ps_RK R r) (hr : ∀ r j, r < nr → 1 ≤ j → j < 6 → σ.1 (w + 4 + r) j = R r j) (hN : ∀ r, r < 8 → σ.1 (w + 4 + r) 0 = nI r) (ok : ∀ p, p < np → ps_OK (ps_c σ (w + 12 + 2 * p)))
    (k : ∀ σ', σ'.2 = σ.2 → (∀ a i, ¬ (w + 12 ≤ a ∧ a < w + 20) → σ'.1 a i = σ.1 a i) → ps_C σ' w np = (ps_L R (σ.1 w 0) nr np (ps_C σ w np, x) m).1 → Q (ps_L R (σ.1 w 0) nr np (ps_C σ w np, x) m).2 σ') : fMi E (d + 4) mX5_live [.ref w, .int (nI m), .int x] σ Q := by
  refine v_X5_live hw ?_
  unfold t_X5_live
  have ok0 : ∀ q, q < np → ps_OK ((((ps_C σ w np, x) : (Nat → Nat → Int32) × Int32).1) q) := by
    intro q hq
    show ps_OK (ps_C σ w np q)
    unfold ps_C
    rw [if_pos hq]
    exact ok q hq
  have okL := ps_L_ok (R := R) (n := σ.1 w 0) h0 h8 hR ok0
  generalize hS : ps_C σ w np = S0 at ok0 okL k
  -- one month
  have key2 : ∀ i, i < m → (∀ s, s.2 = σ.2 → (∀ a j, ¬ (w + 12 ≤ a ∧ a < w + 20) → s.1 a j = σ.1 a j) → ps_C s w np = (ps_L R (σ.1 w 0) nr np (S0, x) (i + 1)).1 → h_X5_live_5 E (d + 3) w (nI m) (ps_L R (σ.1 w 0) nr np (S0, x) (i + 1)).2 (nI (i + 1)) s Q) → ∀ n p s, p + n = np → s.2 = σ.2 → (∀ a j, ¬ (w + 12 ≤ a ∧ a < w + 20) → s.1 a j = σ.1 a j) → ps_C s w np = (ps_A R (σ.1 w 0) nr (ps_L R (σ.1 w 0) nr np (S0, x) i) p).1 → h_X5_live_14 E (d + 3) w (nI m) (ps_A R (σ.1 w 0) nr (ps_L R (σ.1 w 0) nr np (S0, x) i) p).2 (nI i) (nI p) s Q := by
    intro i him kk n
    induction n with
    | zero =>
      intro p s hp s2 sf sv
      refine v_X5_live_14 hw ?_
      unfold t_X5_live_14
      rw [sf _ _ (by omega), h2, show p = np by omega, nI_1]
      rw [show p = np by omega] at sv
      exact ⟨fun _ => kk s s2 sf sv, fun h => absurd (nI_le (Nat.le_refl np) (by omega)) h⟩
    | succ n ih =>
      intro p s hp s2 sf sv
      refine v_X5_live_14 hw ?_
      unfold t_X5_live_14
      rw [sf w 2 (by omega), h2, nI_1 p, nI_clamp (by omega)]
      have okp := ps_A_ok (R := R) (n := σ.1 w 0) h0 h8 hR (okL i) p (by omega) p (by omega)
      have ih' := ih (p + 1)
      rw [ps_A] at ih'
      generalize ps_A R (σ.1 w 0) nr (ps_L R (σ.1 w 0) nr np (S0, x) i) p = S at *
      have sp : S.1 p = ps_c s (w + 12 + 2 * p) := by rw [← sv]; exact if_pos (by omega)
      have s4 : S.1 p 4 = s.1 (w + 12 + 2 * p) 4 := by rw [sp]; rfl
      rw [sp] at okp
      refine ⟨fun h => absurd h (nI_ge (by omega) (by omega)), fun _ => ⟨vp_in_nI (by omega) (by decide), fun hl => ?_, fun hl => c_nextSeed ⟨vp_in_nI (by omega) (by decide), ?_⟩⟩⟩
      · have e : ps_P R (σ.1 w 0) nr S p = S := if_neg (by rw [s4]; exact hl)
        rw [e] at ih'
        exact ih' s (by omega) s2 sf sv
      · have e : ps_P R (σ.1 w 0) nr S p = ((fun q => if q = p then ps_Mo R (σ.1 w 0) (ps_R (ps_N S.2) (nI nr)).toNatClampNeg (S.1 p) else S.1 q), ps_N S.2) := if_pos (by rw [s4]; exact hl)
        rw [e] at ih'
        refine c_passMonth hw (by omega) h0 h8 (by rw [sf _ _ (by omega)]; exact h1) hR (fun r j q1 q2 q3 => by rw [sf _ _ (by omega)]; exact hr r j q1 q2 q3) (fun r q => by rw [sf _ _ (by omega)]; exact hN r q) okp (fun t t2 tf tv => ?_)
        refine ih' t (by omega) (t2.trans s2) (fun a j q => by rw [tf a j (by omega) (by omega)]; exact sf a j q) ?_
        funext q
        show ps_C t w np q = if q = p then _ else S.1 q
        by_cases eq : q = p
        · subst eq
          rw [if_pos rfl, sp, ← sf w 0 (by omega), ← tv]
          exact if_pos (by omega)
        · rw [if_neg eq, ← sv]
          unfold ps_C
          split
          · unfold ps_c
            funext j
            rw [tf _ _ (by omega) (by omega), tf _ _ (by omega) (by omega)]
          · rfl
  have key1 : ∀ n i s, i + n = m → s.2 = σ.2 → (∀ a j, ¬ (w + 12 ≤ a ∧ a < w + 20) → s.1 a j = σ.1 a j) → ps_C s w np = (ps_L R (σ.1 w 0) nr np (S0, x) i).1 → h_X5_live_5 E (d + 3) w (nI m) (ps_L R (σ.1 w 0) nr np (S0, x) i).2 (nI i) s Q := by
    intro n
    induction n with
    | zero =>
      intro i s hi s2 sf sv
      refine v_X5_live_5 hw ?_
      unfold t_X5_live_5
      rw [show i = m by omega] at *
      exact ⟨fun _ => k s s2 sf sv, fun h => absurd (nI_le (Nat.le_refl m) (by omega)) h⟩
    | succ n ih =>
      intro i s hi s2 sf sv
      refine v_X5_live_5 hw ?_
      unfold t_X5_live_5
      refine ⟨fun h => absurd h (nI_ge (by omega) (by omega)), fun _ => key2 i (by omega) (fun t t2 tf tv => ih (i + 1) t (by omega) t2 tf tv) np 0 s (by omega) s2 sf sv⟩
  exact key1 m 0 σ (by omega) rfl (fun _ _ _ => rfl) hS
end PSC
