/-! the reference's ways: a cell's three numbers as one -/
def rf_c (σ : FH) (z c : Nat) : Prop := (c = 1000000000 ∧ σ.1 84 z = -1) ∨ (c = 0 ∧ σ.1 84 z = 0 ∧ σ.1 85 z = 0 ∧ σ.1 86 z = -1) ∨ (2064 ≤ c ∧ c < 2 ^ 20 ∧ σ.1 84 z = nI (c / 2048) ∧ σ.1 85 z = nI (c / 16 % 128) ∧ σ.1 86 z = nI (c % 16))
theorem rf_c.cg {σ σ' : FH} {z c : Nat} (h : rf_c σ z c) (h1 : σ'.1 84 z = σ.1 84 z) (h2 : σ'.1 85 z = σ.1 85 z) (h3 : σ'.1 86 z = σ.1 86 z) : rf_c σ' z c := by
  unfold rf_c at *
  rw [h1, h2, h3]
  exact h
theorem rf_c.b {σ : FH} {z c : Nat} (h : rf_c σ z c) : c = 1000000000 ∨ c < 2 ^ 20 := by
  rcases h with h | h | h
  · exact Or.inl h.1
  · exact Or.inr (by omega)
  · exact Or.inr h.2.1
theorem rf_c.n1 {σ : FH} {z c : Nat} (h : rf_c σ z c) : (σ.1 84 z = -1) ↔ c = 1000000000 := by
  have ng : ∀ x : Nat, x < 2 ^ 31 → ¬ nI x = -1 := fun x hx q => by
    have := nI_pos hx
    rw [q] at this
    exact absurd (by decide) this
  rcases h with h | h | h
  · exact ⟨fun _ => h.1, fun _ => h.2⟩
  · rw [h.2.1]
    exact ⟨fun q => absurd q (by decide), fun q => by omega⟩
  · rw [h.2.2.1]
    exact ⟨fun q => absurd q (ng _ (by omega)), fun q => by omega⟩
theorem rf_c.hm {σ : FH} {z c H : Nat} (h : rf_c σ z c) (hH : H < 1000) : (σ.1 84 z = nI H) ↔ c / 2048 = H := by
  rcases h with h | h | h
  · rw [h.2]
    refine ⟨fun q => ?_, fun q => by omega⟩
    have := nI_pos (n := H) (by omega)
    rw [← q] at this
    exact absurd (by decide) this
  · rw [h.2.1, show (0 : Int32) = nI 0 from rfl, nI_eq (by omega) (by omega)]
    omega
  · rw [h.2.2.1, nI_eq (by omega) (by omega)]
def ry (v : Nat) (D : Nat → Nat) (y z : Nat) : Nat := if v < D y ∧ z = y then v else D z
section MR
variable {E : am_E} {d : Nat} {σ : FH} {Q : Int32 → FH → Prop} {QV : FH → Prop}
theorem c_mrelax {y H b f v : Nat} {D : Nat → Nat} (hy : y < 3072) (hH : 1 ≤ H) (hb1 : 1 ≤ b) (hb : b < 128) (hf : f < 16) (hv : v = H * 2048 + b * 16 + f) (hv2 : v < 2 ^ 20) (hD : ∀ z, z < 3072 → rf_c σ z (D z))
    (k : ∀ σ', σ'.2 = σ.2 → (∀ a i, (a < 84 ∨ 86 < a) → σ'.1 a i = σ.1 a i) → (∀ z, z < 3072 → rf_c σ' z (ry v D y z)) → QV σ') : fMv E (d + 1) mX7_relax [.ref 78, .int (nI y), .int (nI H), .int (nI b), .int (nI f)] σ QV := by
  refine v_X7_relax ?_
  unfold t_X7_relax
  rw [nI_clamp (by omega)]
  have yes : v < D y → t_X7_relax_61 E d (nI y) (nI H) (nI b) (nI f) σ QV := by
    intro q
    unfold t_X7_relax_61 t_X7_relax_66
    rw [nI_clamp (by omega)]
    refine ⟨fun z => absurd z (by decide), fun _ => ⟨vp_in_nI hy (by decide), ?_⟩⟩
    rintro _ rfl
    refine ⟨vp_in_nI hy (by decide), ?_⟩
    rintro _ rfl
    refine ⟨vp_in_nI hy (by decide), ?_⟩
    rintro _ rfl
    refine k _ rfl (fun a i q => by rw [fsI_k (by omega), fsI_k (by omega), fsI_k (by omega)]) (fun z hz => ?_)
    unfold ry
    by_cases e : z = y
    · subst e
      rw [if_pos ⟨q, rfl⟩]
      refine Or.inr (Or.inr ⟨by omega, hv2, ?_, ?_, ?_⟩)
      · rw [fsI_k (by decide), fsI_k (by decide), fsI_s]; congr 1; omega
      · rw [fsI_k (by decide), fsI_s]; congr 1; omega
      · rw [fsI_s]; congr 1; omega
    · rw [if_neg (fun z => e z.2)]
      exact (hD z hz).cg (by rw [fsI_j e, fsI_j e, fsI_j e]) (by rw [fsI_j e, fsI_j e, fsI_j e]) (by rw [fsI_j e, fsI_j e, fsI_j e])
  have no : ¬ v < D y → t_X7_relax_65 E d (nI y) (nI H) (nI b) (nI f) σ QV := by
    intro q
    unfold t_X7_relax_65 t_X7_relax_66
    refine ⟨fun _ => k σ rfl (fun _ _ _ => rfl) (fun z hz => ?_), fun z => absurd rfl z⟩
    unfold ry
    rw [if_neg (fun z => q z.1)]
    exact hD z hz
  have iy : vp_in (nI y) 3072 := vp_in_nI hy (by decide)
  refine ⟨iy, ?_⟩
  rcases hD y hy with c | c | c
  · rw [c.2]
    exact ⟨fun _ => yes (by omega), fun q => absurd rfl q⟩
  · rw [c.2.1]
    refine ⟨fun q => absurd q (by decide), fun _ => ⟨iy, fun q => absurd q (nI_pos (by omega)), fun _ => ⟨iy, fun _ => no (by omega), fun q => absurd q (nI_ne0 (by omega) (by omega))⟩⟩⟩
  · have n1 : ¬ σ.1 84 y = -1 := fun q => by
      have := ((hD y hy).n1).mp q
      omega
    refine ⟨fun q => absurd q n1, fun _ => ?_⟩
    rw [c.2.2.1, c.2.2.2.1, c.2.2.2.2, nI_ltI (by omega) (by omega), nI_eq (show H < 2 ^ 31 by omega) (by omega), nI_ltI (show b < 2 ^ 31 by omega) (by omega), nI_eq (show b < 2 ^ 31 by omega) (by omega), nI_leI (by omega) (by omega)]
    refine ⟨iy, fun q => yes (by omega), fun q => ⟨iy, fun q2 => no (by omega), fun q2 => ⟨iy, fun q3 => yes (by omega), fun q3 => ⟨iy, fun q4 => no (by omega), fun q4 => ⟨iy, fun q5 => no (by omega), fun q5 => yes (by omega)⟩⟩⟩⟩⟩
theorem c_isFresh {p r : Nat} (hp : p < 4) (hr : r < 9) (k : Q (bi (r = 8 ∨ ¬ σ.1 81 (5 * r + 3) ≤ σ.1 83 (8 * p + r))) σ) : fMi E (d + 1) mX7_isFresh [.ref 78, .int (nI p), .int (nI r)] σ Q := by
  refine v_X7_isFresh ?_
  unfold t_X7_isFresh
  rw [n5_3, n8, nI_clamp (by omega), show (8 : Int32) = nI 8 from rfl, nI_eq (by omega) (by omega)]
  refine ⟨fun q => ?_, fun q => ⟨vp_in_nI (by omega) (by decide), ?_⟩⟩
  · rw [bi_t (Or.inl q)] at k; exact k
  · rw [nI_clamp (by omega)]
    refine ⟨vp_in_nI (by omega) (by decide), fun q2 => ?_, fun q2 => ?_⟩
    · rw [bi_f (fun z => z.elim q (fun y => y q2))] at k; exact k
    · rw [bi_t (Or.inr q2)] at k; exact k
end MR
/-! what the reference's costs say of walks -/
def xs (ρ : Nat → Nat) (fr : Nat → Bool) : List Nat → Nat
  | [] => 0
  | j :: w => xs ρ fr w ||| (if fr j then 2 ^ ρ j else 0)
def xq (A B ρ : Nat → Nat) (fr : Nat → Bool) (p0 : Nat) (w : List Nat) : Nat := 512 * sw_p A B p0 w + xs ρ fr w
def xt (A B ρ : Nat → Nat) (fr : Nat → Bool) (k j : Nat) : Nat := 512 * rl_x A B (k / 512) j + (k % 512 ||| (if fr j then 2 ^ ρ j else 0))
def xS (m : Nat) (A B h ρ : Nat → Nat) (fr : Nat → Bool) (p0 lim : Nat) (D : Nat → Nat) : Prop := ∀ z, D z ≠ 1000000000 → ∃ w, sw_v m A B p0 w ∧ xq A B ρ fr p0 w = z ∧ xn h ρ w = D z ∧ sw_h h w ≤ lim
/-- one edge is closed -/
def xC1 (A B h ρ : Nat → Nat) (fr : Nat → Bool) (lim : Nat) (D : Nat → Nat) (z j : Nat) : Prop := (z / 512 = A j ∨ z / 512 = B j) → D z ≠ 1000000000 → xe h ρ (D z) j / 2048 ≤ lim → D (xt A B ρ fr z j) ≤ xe h ρ (D z) j
def xC (m : Nat) (A B h ρ : Nat → Nat) (fr : Nat → Bool) (lim : Nat) (D : Nat → Nat) (z : Nat) : Prop := ∀ j, j < m → xC1 A B h ρ fr lim D z j
/-- later costs, those of harm up to H as they were -/
def xle (H : Nat) (D D' : Nat → Nat) : Prop := ∀ z, D' z ≤ D z ∧ (D z / 2048 ≤ H → D' z = D z) ∧ (D' z / 2048 ≤ H → D' z = D z)
theorem xle.r (H : Nat) (D : Nat → Nat) : xle H D D := fun z => ⟨Nat.le_refl _, fun _ => rfl, fun _ => rfl⟩
theorem xle.t {H : Nat} {D D' D2 : Nat → Nat} (h1 : xle H D D') (h2 : xle H D' D2) : xle H D D2 := by
  intro z
  obtain ⟨a1, a2, a3⟩ := h1 z
  obtain ⟨b1, b2, b3⟩ := h2 z
  refine ⟨by omega, fun q => ?_, fun q => ?_⟩
  · have := a2 q
    rw [b2 (by omega), this]
  · have := b3 q
    rw [this, a3 (by omega)]
theorem ry_le {H v y : Nat} {D : Nat → Nat} (hv : H < v / 2048) : xle H D (ry v D y) := by
  intro z
  unfold ry
  by_cases e : v < D y ∧ z = y
  · rw [if_pos e]
    obtain ⟨e1, e2⟩ := e
    subst e2
    exact ⟨by omega, fun q => by omega, fun q => by omega⟩
  · rw [if_neg e]
    exact ⟨Nat.le_refl _, fun _ => rfl, fun _ => rfl⟩
theorem ry_to {v y : Nat} {D : Nat → Nat} : ry v D y y ≤ v := by
  unfold ry
  by_cases e : v < D y
  · rw [if_pos ⟨e, rfl⟩]; exact Nat.le_refl _
  · rw [if_neg (fun z => e z.1)]; omega
section XS
variable {m : Nat} {A B h ρ : Nat → Nat} {fr : Nat → Bool} {p0 lim : Nat} {D : Nat → Nat}
theorem xC1.le {H z j : Nat} {D' : Nat → Nat} (hc : xC1 A B h ρ fr lim D z j) (hl : xle H D D') (hz : D z / 2048 ≤ H) : xC1 A B h ρ fr lim D' z j := by
  intro q1 q2 q3
  have e := (hl z).2.1 hz
  rw [e] at q2 q3 ⊢
  exact Nat.le_trans (hl _).1 (hc q1 q2 q3)
theorem xs_lt (hρ : ∀ r, r < m → ρ r < 9) : ∀ w, sw_v m A B p0 w → xs ρ fr w < 512
  | [], _ => by show 0 < 512; omega
  | j :: w, hv => by
    have := xs_lt hρ w hv.1
    have hj := hρ j hv.2.1
    show xs ρ fr w ||| (if fr j then 2 ^ ρ j else 0) < 2 ^ 9
    refine Nat.or_lt_two_pow this ?_
    split
    · exact Nat.pow_lt_pow_right (by decide) hj
    · decide
theorem xq_st {j : Nat} {w : List Nat} (h6 : xs ρ fr w < 512) : xq A B ρ fr p0 (j :: w) = xt A B ρ fr (xq A B ρ fr p0 w) j := by
  have e1 : xq A B ρ fr p0 w / 512 = sw_p A B p0 w := by unfold xq; omega
  have e2 : xq A B ρ fr p0 w % 512 = xs ρ fr w := by unfold xq; omega
  unfold xt
  rw [e1, e2]
  rfl
theorem xq_d {w : List Nat} (h6 : xs ρ fr w < 512) : xq A B ρ fr p0 w / 512 = sw_p A B p0 w ∧ xq A B ρ fr p0 w % 512 = xs ρ fr w := by
  unfold xq
  omega
theorem xS_ry {x j : Nat} (hr : ∀ r, r < m → A r < 6 ∧ B r < 6 ∧ 1 ≤ h r) (hρ : ∀ r, r < m → ρ r < 9) (hj : j < m) (hx : x / 512 = A j ∨ x / 512 = B j) (hf : D x ≠ 1000000000) (hl : xe h ρ (D x) j / 2048 ≤ lim) (hS : xS m A B h ρ fr p0 lim D) : xS m A B h ρ fr p0 lim (ry (xe h ρ (D x) j) D (xt A B ρ fr x j)) := by
  intro z hz
  unfold ry at hz ⊢
  by_cases e : xe h ρ (D x) j < D (xt A B ρ fr x j) ∧ z = xt A B ρ fr x j
  · rw [if_pos e]
    obtain ⟨w, w1, w2, w3, w4⟩ := hS x hf
    have lt := xs_lt (fr := fr) hρ w w1
    have v : sw_v m A B p0 (j :: w) := ⟨w1, hj, by rw [← (xq_d (A := A) (B := B) (p0 := p0) lt).1, w2]; exact hx⟩
    have e3 : xn h ρ (j :: w) = xe h ρ (D x) j := by rw [xn, w3]
    exact ⟨j :: w, v, by rw [xq_st lt, w2, e.2], e3, xn_h (ρ := ρ) (fun r q => (hr r q).2.2) v (by rw [e3]; exact hl)⟩
  · rw [if_neg e] at hz ⊢
    exact hS z hz
/-- all closed: the least cost of a walk -/
theorem x_all (hr : ∀ r, r < m → A r < 6 ∧ B r < 6 ∧ 1 ≤ h r) (hρ : ∀ r, r < m → ρ r < 9) (hp : p0 < 6) (hl : lim ≤ 99) (hS : xS m A B h ρ fr p0 lim D) (h0 : D (512 * p0) = 0) (hc : ∀ z, z < 3072 → xC m A B h ρ fr lim D z) (w : List Nat) (hv : sw_v m A B p0 w) (hw : sw_h h w ≤ lim) : D (xq A B ρ fr p0 w) ≤ xn h ρ w := by
  have hh : ∀ r, r < m → 1 ≤ h r := fun r q => (hr r q).2.2
  refine x_closed (F := xq A B ρ fr p0) (C := D) (Al := fun _ => True) (ρ := ρ) (fun r q => by have := hρ r q; omega) hh ?_ h0 (fun _ _ _ => trivial) hl ?_ w hv trivial hw
  · intro w' hv' hf
    obtain ⟨w2, v1, v2, v3, v4⟩ := hS _ hf
    rw [← v3]
    exact xn_c hh w2 v1
  · intro w' r hv' _ hf hx
    have lt := xs_lt (fr := fr) hρ w' hv'.1
    have h6 := sw_p6 hp (fun r q => (hr r q).1) (fun r q => (hr r q).2.1) w' hv'.1
    obtain ⟨e1, e2⟩ := xq_d (A := A) (B := B) (p0 := p0) lt
    rw [xq_st lt]
    exact hc (xq A B ρ fr p0 w') (by unfold xq; omega) r hv'.2.1 (by rw [e1]; exact hv'.2.2) hf hx
end XS
/-- the roads as the reference goes through them -/
def pi_ (nr i : Nat) : Nat := if i = nr then 8 else i
def sm_x (nr p m : Nat) (A B h ρ : Nat → Nat) (fr : Nat → Bool) (p0 W : Nat) (bar : Int32) (σ : FH) : Prop :=
  nr ≤ 8 ∧ p < 4 ∧ m ≤ 9 ∧ W ≤ 9 ∧ σ.1 78 6 = nI nr ∧ σ.1 78 18 = nI W ∧ σ.1 78 19 = bar ∧ (∀ j, j < m → ρ j < 9 ∧ A j < 6 ∧ B j < 6 ∧ 1 ≤ h j ∧ h j ≤ 9 ∧ σ.1 81 (5 * ρ j + 1) = nI (A j) ∧ σ.1 81 (5 * ρ j + 2) = nI (B j) ∧ σ.1 81 (5 * ρ j + 3) = nI (h j) ∧ (fr j = true ↔ (ρ j = 8 ∨ ¬ σ.1 81 (5 * ρ j + 3) ≤ σ.1 83 (8 * p + ρ j)))) ∧ (∀ i, i < W → nI (pi_ nr i) ≠ bar → ∃ j, j < m ∧ ρ j = pi_ nr i) ∧ (∀ j, j < m → nI (ρ j) ≠ bar ∧ ∃ i, i < W ∧ pi_ nr i = ρ j) ∧ (∀ j j', j < m → j' < m → ρ j = ρ j' → j = j') ∧ σ.1 82 (5 * p) = nI p0 ∧ p0 < 6
theorem sm_x.cg {nr p m : Nat} {A B h ρ : Nat → Nat} {fr : Nat → Bool} {p0 W : Nat} {bar : Int32} {σ σ' : FH} (H : sm_x nr p m A B h ρ fr p0 W bar σ) (hf : ∀ a i, (a < 84 ∨ 86 < a) → σ'.1 a i = σ.1 a i) : sm_x nr p m A B h ρ fr p0 W bar σ' := by
  obtain ⟨h1, h2, h3, h4, h5, h6, h7, h8, h9, h10, h11, h12, h13⟩ := H
  refine ⟨h1, h2, h3, h4, by rw [hf _ _ (by omega)]; exact h5, by rw [hf _ _ (by omega)]; exact h6, by rw [hf _ _ (by omega)]; exact h7, fun j q => ?_, h9, h10, h11, by rw [hf _ _ (by omega)]; exact h12, h13⟩
  rw [hf _ _ (by omega), hf _ _ (by omega), hf _ _ (by omega), hf _ _ (by omega)]
  exact h8 j q
section ML3
variable {E : am_E} {d : Nat} {σ : FH} {Q : Int32 → FH → Prop} {QV : FH → Prop} {m nr p : Nat} {A B h ρ : Nat → Nat} {fr : Nat → Bool} {p0 lim W : Nat} {bar : Int32}
theorem sm_x.s (H : sm_x nr p m A B h ρ fr p0 W bar σ) : (∀ r, r < m → A r < 6 ∧ B r < 6 ∧ 1 ≤ h r) ∧ ∀ r, r < m → ρ r < 9 := by
  obtain ⟨h1, h2, h3, h4, h5, h6, h7, h8, h9⟩ := H
  exact ⟨fun r q => ⟨(h8 r q).2.1, (h8 r q).2.2.1, (h8 r q).2.2.2.1⟩, fun r q => (h8 r q).1⟩
/-- what holds between two turns of the loops -/
def xI (m : Nat) (A B h ρ : Nat → Nat) (fr : Nat → Bool) (p0 lim : Nat) (σ s : FH) (D : Nat → Nat) : Prop := s.2 = σ.2 ∧ (∀ a i, (a < 84 ∨ 86 < a) → s.1 a i = σ.1 a i) ∧ (∀ z, z < 3072 → rf_c s z (D z)) ∧ xS m A B h ρ fr p0 lim D ∧ D (512 * p0) = 0
theorem oE_six {a b x : Nat} (ha : a < 6) (hb : b < 6) (hx : x < 6) : (oE (nI a) (nI b) (nI x) = -1 ↔ ¬ (x = a ∨ x = b)) ∧ ((x = a ∨ x = b) → oE (nI a) (nI b) (nI x) = nI (if x = a then b else a)) := by
  have key : ∀ a, a < 6 → ∀ b, b < 6 → ∀ x, x < 6 → (oE (nI a) (nI b) (nI x) = -1 ↔ ¬ (x = a ∨ x = b)) ∧ ((x = a ∨ x = b) → oE (nI a) (nI b) (nI x) = nI (if x = a then b else a)) := by decide
  exact key a ha b hb x hx
set_option maxHeartbeats 1000000 in
theorem c_lay73 {H k : Nat} {D : Nat → Nat} (hx : sm_x nr p m A B h ρ fr p0 W bar σ) (hl : lim ≤ 99) (hk : k < 3072) (hH : H ≤ lim) :
    ∀ l i s D', i + l = W → xI m A B h ρ fr p0 lim σ s D' → xle H D D' → D k / 2048 = H → (∀ j, j < m → (∃ i', i' < i ∧ pi_ nr i' = ρ j) → xC1 A B h ρ fr lim D' k j) →
    (∀ t D2, xI m A B h ρ fr p0 lim σ t D2 → xle H D D2 → xC m A B h ρ fr lim D2 k → h_X7_layWays_51 E (d + 1) (nI p) (nI lim) (nI H) (nI (k + 1)) t QV) → h_X7_layWays_73 E (d + 1) (nI p) (nI lim) (nI H) (nI k) (nI i) s QV := by
  obtain ⟨hr, hρ⟩ := hx.s
  obtain ⟨h1, h2, h3, h4, h5, h6, h7, h8, h9, h10, h11, h12, h13⟩ := hx
  intro l
  induction l with
  | zero =>
    intro i s D' hi sI sle dk sc kk
    refine v_X7_layWays_73 ?_
    unfold t_X7_layWays_73
    rw [sI.2.1 78 18 (by omega), h6, nI_1 k, show i = W by omega]
    refine ⟨fun _ => kk s D' sI sle (fun j hj => sc j hj ?_), fun q => absurd (nI_le (Nat.le_refl W) (by omega)) q⟩
    obtain ⟨i', q1, q2⟩ := (h10 j hj).2
    exact ⟨i', by omega, q2⟩
  | succ l ih =>
    intro i s D' hi sI sle dk sc kk
    obtain ⟨s2, sf, sc', sS, s0⟩ := id sI
    refine v_X7_layWays_73 ?_
    unfold t_X7_layWays_73
    have P9 : pi_ nr i < 9 := by unfold pi_; split <;> omega
    have dk' : D' k = D k := (sle k).2.1 (by omega)
    have nx : ∀ t D2, xI m A B h ρ fr p0 lim σ t D2 → xle H D' D2 → (∀ j, j < m → ρ j = pi_ nr i → xC1 A B h ρ fr lim D2 k j) → h_X7_layWays_73 E (d + 1) (nI p) (nI lim) (nI H) (nI k) (nI (i + 1)) t QV := by
      intro t D2 tI tle tc
      refine ih (i + 1) t D2 (by omega) tI (sle.t tle) dk (fun j hj ⟨i', q1, q2⟩ => ?_) kk
      by_cases e : i' = i
      · subst e; exact tc j hj q2.symm
      · exact (sc j hj ⟨i', by omega, q2⟩).le tle (by omega)
    have main : t_X7_layWays_98 E (d + 1) (nI p) (nI lim) (nI H) (nI k) (nI i) (nI (pi_ nr i)) s QV := by
      unfold t_X7_layWays_98
      rw [nI_1 i]
      refine c_otherEnd P9 ?_
      rw [n5_3, nI_clamp (by omega), show (512 : Int32) = nI 512 from rfl, pk_div (by omega) (by decide) (by decide)]
      refine ⟨vp_in_nI (by omega) (by decide), ?_⟩
      rintro _ rfl
      rw [sf 78 19 (by omega), h7]
      refine ⟨fun q => nx s D' sI (xle.r _ _) (fun j hj ej => absurd (by rw [ej]; exact q) (h10 j hj).1), fun q => ?_⟩
      obtain ⟨j, hj, ej⟩ := h9 i (by omega) q
      obtain ⟨b1, b2, b3, b4, b5, b6, b7, b8, b9⟩ := h8 j hj
      have one : ∀ D2 : Nat → Nat, xC1 A B h ρ fr lim D2 k j → ∀ j', j' < m → ρ j' = pi_ nr i → xC1 A B h ρ fr lim D2 k j' := fun D2 c j' hj' e' => by
        rw [h11 j' j hj' hj (by rw [e', ej])]; exact c
      rw [← ej] at P9 ⊢
      have k6 : k / 512 < 6 := by omega
      rw [sf 81 _ (by omega), sf 81 _ (by omega), sf 81 _ (by omega), b6, b7, b8, nI_add]
      obtain ⟨o1, o2⟩ := oE_six b2 b3 k6
      rw [o1]
      refine ⟨fun q2 => nx s D' sI (xle.r _ _) (one D' (fun z => absurd z q2)), fun q2 => ?_⟩
      have q3 : k / 512 = A j ∨ k / 512 = B j := Classical.not_not.mp q2
      have xeq : xe h ρ (D' k) j / 2048 = H + h j ∧ ∃ b f, b < 128 ∧ f < 16 ∧ xe h ρ (D' k) j = (H + h j) * 2048 + b * 16 + f ∧ ((D' k = 0 ∧ b = 1 ∧ f = ρ j ∧ s.1 85 k = 0) ∨ (D' k ≠ 0 ∧ s.1 85 k = nI (b - 1) ∧ b ≠ 1 ∧ b ≠ 0 ∧ s.1 86 k = nI f)) := by
        have fk : D' k ≠ 1000000000 := by omega
        obtain ⟨w, w1, w2, w3, w4⟩ := sS k fk
        have wp := xn_parts (ρ := ρ) (fun r z => (hr r z).2.2) (fun r z => by have := hρ r z; omega) w1 (by omega)
        rw [w3] at wp
        have w0 := xn_0 (ρ := ρ) (fun r z => (hr r z).2.2) w w1
        rw [w3] at w0
        have wlen := sw_len (fun r z => (hr r z).2.2) w w1
        unfold xe
        rcases sc' k hk with c | c | c
        · omega
        · rw [if_pos c.1]
          refine ⟨by omega, 1, ρ j, by omega, by omega, by omega, Or.inl ⟨c.1, rfl, rfl, c.2.2.1⟩⟩
        · have nz : ¬ D' k = 0 := by omega
          have len : w.length ≠ 0 := fun z => nz (w0.mpr (List.eq_nil_of_length_eq_zero z))
          rw [if_neg nz]
          refine ⟨by omega, w.length + 1, D' k % 16, by omega, by omega, by omega, Or.inr ⟨nz, ?_, by omega, by omega, c.2.2.2.2⟩⟩
          rw [c.2.2.2.1]
          congr 1
          omega
      obtain ⟨x1, b, f, x2, x3, x4, x5⟩ := xeq
      rw [nI_ltI (by omega) (by omega)]
      refine ⟨fun q4 => nx s D' sI (xle.r _ _) (one D' (fun _ _ z => by omega)), fun q4 => c_isFresh h2 P9 ?_⟩
      have sh : ∀ i, i < 9 → (1 : Int32) <<< (nI i &&& 31) = nI (2 ^ i) := by decide
      have body : ∀ e, e = (if fr j then 2 ^ ρ j else 0) → t_X7_layWays_174 E (d + 1) (nI p) (nI lim) (nI H) (nI k) (nI i) (nI (ρ j)) (oE (nI (A j)) (nI (B j)) (nI (k / 512))) (nI (H + h j)) (nI e) (nI k - nI (k / 512) * nI 512) s QV := by
        intro e he
        unfold t_X7_layWays_174
        rw [nI_clamp (by omega), ← pk_div (show k < 2 ^ 31 by omega) (show 0 < 512 by decide) (by decide), pk_rem (by omega) (by decide) (by decide), pk_div (show k < 2 ^ 31 by omega) (show 0 < 512 by decide) (by decide), o2 q3, fa_or, show (512 : Int32) = nI 512 from rfl, pk_mul, nI_add, nI_1 i]
        have ey : 512 * (if k / 512 = A j then B j else A j) + (k % 512 ||| e) = xt A B ρ fr k j := by
          unfold xt rl_x
          rw [he]
        rw [ey]
        have e512 : e < 2 ^ 9 := by
          rw [he]
          split
          · exact Nat.pow_lt_pow_right (by decide) b1
          · decide
        have yl : xt A B ρ fr k j < 3072 := by
          rw [← ey]
          have o9 : k % 512 ||| e < 2 ^ 9 := Nat.or_lt_two_pow (by omega) e512
          have : (if k / 512 = A j then B j else A j) < 6 := by split <;> assumption
          omega
        have go : ∀ t, t.2 = s.2 → (∀ a i, (a < 84 ∨ 86 < a) → t.1 a i = s.1 a i) → (∀ z, z < 3072 → rf_c t z (ry (xe h ρ (D' k) j) D' (xt A B ρ fr k j) z)) → h_X7_layWays_73 E (d + 1) (nI p) (nI lim) (nI H) (nI k) (nI (i + 1)) t QV := by
          intro t t2 tf tc
          refine nx t _ ⟨t2.trans s2, fun a i q => by rw [tf a i q, sf a i q], tc, xS_ry hr hρ hj q3 (by omega) (by omega) sS, ?_⟩ (ry_le (by omega)) (one _ (fun _ _ _ => ?_))
          · have := (ry_le (H := H) (v := xe h ρ (D' k) j) (y := xt A B ρ fr k j) (D := D') (by omega) (512 * p0)).1
            omega
          · have e1 : ry (xe h ρ (D' k) j) D' (xt A B ρ fr k j) k = D' k := (ry_le (H := H) (by omega) k).2.1 (by omega)
            rw [e1]
            exact ry_to
        have v20 : xe h ρ (D' k) j < 2 ^ 20 := by omega
        refine ⟨vp_in_nI hk (by decide), vp_in_nI hk (by decide), fun q5 => ⟨vp_in_nI hk (by decide), ?_⟩, fun q5 => ?_⟩
        · rcases x5 with c | c
          · exact absurd c.2.2.2 q5
          · rw [c.2.1, c.2.2.2.2, nI_1, show b - 1 + 1 = b by omega]
            exact c_mrelax yl (by omega) (by omega) x2 x3 x4 v20 sc' go
        · rcases x5 with c | c
          · rw [c.2.2.2, show (0 : Int32) + 1 = nI 1 from rfl]
            rw [c.2.1, c.2.2.1] at x4
            exact c_mrelax yl (by omega) (by omega) (by omega) (by omega) x4 v20 sc' go
          · have := c.2.1
            rw [q5] at this
            have := (nI_eq (a := 0) (b := b - 1) (by decide) (by omega)).mp this
            omega
      rw [sf 81 _ (by omega), sf 83 _ (by omega), ← bi_iff b9, sh _ P9]
      refine ⟨fun q5 => ?_, fun q5 => ?_⟩
      · have := bi0.mp q5
        exact body 0 (by rw [if_neg this])
      · have : fr j = true := by
          cases z : fr j
          · rw [z] at q5; exact absurd rfl q5
          · rfl
        exact body (2 ^ ρ j) (by rw [if_pos this])
    rw [sf 78 18 (by omega), h6, sf 78 6 (by omega), h5, nI_eq (by omega) (by omega)]
    refine ⟨fun q => absurd q (nI_ge (by omega) (by omega)), fun _ => ⟨fun q => ?_, fun q => ?_⟩⟩
    · have : pi_ nr i = i := by unfold pi_; rw [if_neg q]
      rw [this] at main
      exact main
    · have : pi_ nr i = 8 := by unfold pi_; rw [if_pos q]
      rw [this] at main
      exact main
end ML3
