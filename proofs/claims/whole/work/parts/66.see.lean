/-! way, bars, most, bridge: what both sides look at -/
def sv_y (nr p : Nat) (A B h wt g : Nat → Nat) (p0 hu cn nd : Nat) (σ : FH) : Prop :=
  nr ≤ 8 ∧ p < 4 ∧ σ.1 78 6 = nI nr ∧ (∀ r, r < nr → A r < 6 ∧ B r < 6 ∧ 1 ≤ h r ∧ h r ≤ 9 ∧ σ.1 81 (5 * r + 1) = nI (A r) ∧ σ.1 81 (5 * r + 2) = nI (B r) ∧ σ.1 81 (5 * r + 3) = nI (h r) ∧ vp_in (σ.1 81 (5 * r)) 5 ∧ vp_in (σ.1 81 (5 * r + 4)) 2 ∧ wrt (σ.1 81 (5 * r)) (σ.1 81 (5 * r + 4)) = nI (wt r) ∧ wt r ≤ 4 ∧ g r = if ¬ σ.1 81 (5 * r + 3) ≤ σ.1 83 (8 * p + r) then wt r else 0) ∧ σ.1 82 (5 * p) = nI p0 ∧ p0 < 6 ∧ σ.1 82 (5 * p + 1) = nI hu ∧ hu ≤ 99 ∧ σ.1 82 (5 * p + 2) = nI cn ∧ cn < 2 ^ 20 ∧ σ.1 78 7 = nI nd ∧ nd ≤ 60
theorem sv_y.cg {nr p : Nat} {A B h wt g : Nat → Nat} {p0 hu cn nd : Nat} {σ σ' : FH} (H : sv_y nr p A B h wt g p0 hu cn nd σ) (h1 : ∀ i, i < 40 → σ'.1 81 i = σ.1 81 i) (h2 : ∀ a i, a = 82 ∨ a = 83 → σ'.1 a i = σ.1 a i) (h3 : ∀ i, i = 6 ∨ i = 7 → σ'.1 78 i = σ.1 78 i) : sv_y nr p A B h wt g p0 hu cn nd σ' := by
  obtain ⟨a1, a2, a3, a4, a5, a6, a7, a8, a9, a10, a11, a12⟩ := H
  refine ⟨a1, a2, by rw [h3 _ (by omega)]; exact a3, fun r hr => ?_, by rw [h2 _ _ (by omega)]; exact a5, a6, by rw [h2 _ _ (by omega)]; exact a7, a8, by rw [h2 _ _ (by omega)]; exact a9, a10, by rw [h3 _ (by omega)]; exact a11, a12⟩
  rw [h1 _ (by omega), h1 _ (by omega), h1 _ (by omega), h1 _ (by omega), h1 _ (by omega), h2 _ _ (by omega)]
  exact a4 r hr
theorem sv_of {c nr np nl p : Nat} {σ : FH} (hc : c < 900) (iN : iNm σ) (iW : iWd c nr np nl σ) (hp : p < np) : ∃ A B h wt g p0 hu cn nd, sv_x nr p A B h wt g p0 hu cn nd σ ∧ sv_y nr p A B h wt g p0 hu cn nd σ ∧ A nr = 0 ∧ B nr = 0 ∧ h nr = 1 ∧ g nr = 2 := by
  obtain ⟨⟨a1, a2, a3, a4, a5, a6, a7, a8, a9, a10⟩, ⟨b1, b2, b3⟩, b4, b5, b6, b7, b8⟩ := iW
  have pok := a8 p hp
  have prl := b2 p hp
  rw [show 4 + 12 + 2 * p = 16 + 2 * p by omega] at pok prl
  obtain ⟨o0, o1, o2, o3, o4⟩ := pok
  obtain ⟨r0, r1, r2, r3, r4, r5⟩ := prl
  obtain ⟨p0, hp0, ep0⟩ := vp_in_of o0 (by decide)
  obtain ⟨hu, hhu, ehu⟩ := vp_in_of o1 (by decide)
  obtain ⟨cn, hcn, ecn⟩ := vp_in_of o2 (by omega)
  obtain ⟨nd, hnd, end'⟩ := a10
  have rd : ∀ r, r < nr → ∃ x y hh w, x < 6 ∧ y < 6 ∧ 1 ≤ hh ∧ hh ≤ 9 ∧ w ≤ 4 ∧ σ.1 (8 + r) 2 = nI x ∧ σ.1 (8 + r) 3 = nI y ∧ σ.1 (8 + r) 4 = nI hh ∧ wrt (σ.1 (8 + r) 1) (σ.1 (8 + r) 5) = nI w ∧ vp_in (σ.1 (8 + r) 1) 5 ∧ vp_in (σ.1 (8 + r) 5) 2 := by
    intro r hr
    obtain ⟨g1, g2, g3, _, ⟨hh, h1, h2, h3⟩, g5⟩ := a7 r hr
    rw [show 4 + 4 + r = 8 + r by omega] at g1 g2 g3 g5 h3
    obtain ⟨x, hx, ex⟩ := vp_in_of g2 (by decide)
    obtain ⟨y, hy, ey⟩ := vp_in_of g3 (by decide)
    obtain ⟨w, hw, ew⟩ := wrt_n g1 g5
    exact ⟨x, y, hh, w, hx, hy, h1, h2, hw, ex, ey, h3, ew, g1, g5⟩
  have cl : ∀ {x : Int32} {n : Nat}, x = nI n → n < 100 → x.toNatClampNeg = n := fun e q => by rw [e]; exact nI_clamp (by omega)
  refine ⟨fun r => if r < nr then (σ.1 (8 + r) 2).toNatClampNeg else 0, fun r => if r < nr then (σ.1 (8 + r) 3).toNatClampNeg else 0, fun r => if r < nr then (σ.1 (8 + r) 4).toNatClampNeg else 1, fun r => (wrt (σ.1 (8 + r) 1) (σ.1 (8 + r) 5)).toNatClampNeg, fun r => if r < nr then (if ¬ σ.1 (8 + r) 4 ≤ σ.1 (17 + 2 * p) r then (wrt (σ.1 (8 + r) 1) (σ.1 (8 + r) 5)).toNatClampNeg else 0) else 2, p0, hu, cn, nd, ⟨a1, by omega, a4, fun r hr => ?_, fun r hr => ?_, fun r hr => ?_, fun r hr => ?_, ep0, hp0, ehu, by omega, ecn, by omega, end', hnd⟩, ⟨a1, by omega, b4, fun r hr => ?_, by rw [r0]; exact ep0, hp0, by rw [r1]; exact ehu, by omega, by rw [r2]; exact ecn, by omega, by rw [b7]; exact end', hnd⟩, ?_, ?_, ?_, ?_⟩
  · have := iN 4 (Or.inl rfl) r hr
    rw [show 4 + 4 + r = 8 + r by omega] at this
    exact this
  · obtain ⟨x, y, hh, w, q1, q2, q3, q4, q5, q6, q7, q8, q9, q10, q11⟩ := rd r hr
    dsimp only
    rw [if_pos hr, if_pos hr, if_pos hr, cl q6 (by omega), cl q7 (by omega), cl q8 (by omega), cl q9 (by omega)]
    exact ⟨q6, q7, q8, q5, q9⟩
  · dsimp only
    rw [if_pos hr]
  · obtain ⟨x, y, hh, w, q1, q2, q3, q4, q5, q6, q7, q8, q9, q10, q11⟩ := rd r hr
    dsimp only
    rw [if_pos hr, if_pos hr, if_pos hr, cl q6 (by omega), cl q7 (by omega), cl q8 (by omega)]
    exact ⟨q1, q2, q4, q3⟩
  · obtain ⟨x, y, hh, w, q1, q2, q3, q4, q5, q6, q7, q8, q9, q10, q11⟩ := rd r hr
    obtain ⟨s0, s1, s2, s3, s4⟩ := b1 r hr
    rw [show 4 + 4 + r = 8 + r by omega] at s0 s1 s2 s3 s4
    dsimp only
    rw [if_pos hr, if_pos hr, if_pos hr, if_pos hr, s0, s1, s2, s3, s4, r5 r (by omega), show 16 + 2 * p + 1 = 17 + 2 * p by omega, cl q6 (by omega), cl q7 (by omega), cl q8 (by omega), cl q9 (by omega)]
    exact ⟨q1, q2, q3, q4, q6, q7, q8, q10, q11, q9, q5, rfl⟩
  · dsimp only
    rw [if_neg (by omega)]
  · dsimp only
    rw [if_neg (by omega)]
  · dsimp only
    rw [if_neg (by omega)]
  · dsimp only
    rw [if_neg (by omega)]
section SY
variable {E : am_E} {d : Nat} {σ : FH} {Q : Int32 → FH → Prop} {QV : FH → Prop} {A B h wt g : Nat → Nat} {nr p p0 hu cn nd : Nat}
/-- the reference's roads without b -/
theorem sv_y.mx {b : Nat} {x : Int32} (H : sv_y nr p A B h wt g p0 hu cn nd σ) (hx : ∀ i, i < nr → (nI i = x ↔ i = b)) (h18 : σ.1 78 18 = nI nr) (h19 : σ.1 78 19 = x) : sm_x nr p (tm b nr) (fun j => A (tk b j)) (fun j => B (tk b j)) (fun j => h (tk b j)) (tk b) (fun j => decide (tk b j = 8 ∨ ¬ σ.1 81 (5 * tk b j + 3) ≤ σ.1 83 (8 * p + tk b j))) p0 nr x σ ∧ sm_w (tm b nr) p (tk b) (fun j => g (tk b j)) wt (fun j => decide (tk b j = 8 ∨ ¬ σ.1 81 (5 * tk b j + 3) ≤ σ.1 83 (8 * p + tk b j))) cn nd σ := by
  obtain ⟨a1, a2, a3, a4, a5, a6, a7, a8, a9, a10, a11, a12⟩ := H
  have le := tm_le (b := b) (nr := nr)
  have pe : ∀ i, i < nr → pi_ nr i = i := fun i hi => by unfold pi_; rw [if_neg (by omega)]
  refine ⟨⟨a1, a2, by omega, by omega, a3, h18, h19, fun j hj => ?_, fun i hi q => ?_, fun j hj => ⟨?_, tk b j, tk_lt hj, pe _ (tk_lt hj)⟩, fun j j' hj hj' e => ?_, a5, a6⟩, ⟨a9, a10, a11, a12, fun j hj q => ?_, fun j hj => ?_, fun j hj => ?_⟩⟩
  · have q := tk_lt hj
    obtain ⟨e1, e2, e3, e4, e5, e6, e7, e8⟩ := a4 _ q
    exact ⟨by omega, e1, e2, e3, e4, e5, e6, e7, decide_eq_true_iff⟩
  · rw [pe i hi] at q ⊢
    have nb : i ≠ b := fun e => q ((hx i hi).mpr e)
    by_cases z : i < b
    · exact ⟨i, by unfold tm; split <;> omega, by unfold tk; rw [if_pos z]⟩
    · exact ⟨i - 1, by unfold tm; split <;> omega, by unfold tk; rw [if_neg (by omega)]; omega⟩
  · intro e
    have := (hx _ (tk_lt hj)).mp e
    unfold tk at this
    split at this <;> omega
  · unfold tk at e
    split at e <;> split at e <;> omega
  · obtain ⟨e1, e2, e3, e4, e5, e6, e7, e8, e9, e10, e11⟩ := a4 _ (tk_lt hj)
    exact ⟨e8, e9, e10⟩
  · obtain ⟨e1, e2, e3, e4, e5, e6, e7, e8, e9, e10, e11, e12⟩ := a4 _ (tk_lt hj)
    have q := tk_lt hj
    dsimp only
    rw [e12]
    have n8 : ¬ tk b j = 8 := by omega
    simp [n8]
  · obtain ⟨e1, e2, e3, e4, e5, e6, e7, e8, e9, e10, e11, e12⟩ := a4 _ (tk_lt hj)
    dsimp only
    rw [e12]
    split <;> omega
theorem c_wayBy {b : Nat} {x : Int32} (H : sv_y nr p A B h wt g p0 hu cn nd σ) (hx : ∀ i, i < nr → (nI i = x ↔ i = b))
    (k : ∀ σ' v c, σ'.2 = σ.2 → (∀ a i, (a < 84 ∨ 86 < a) → ¬ (a = 78 ∧ (i = 18 ∨ i = 19)) → σ'.1 a i = σ.1 a i) → bv σ' v c → lc (tm b nr) (fun j => A (tk b j)) (fun j => B (tk b j)) (fun j => h (tk b j)) (fun j => g (tk b j)) (tk b) p0 cn nd (99 - hu) c → Q v σ') : fMi E (d + 4) mX7_wayBy [.ref 78, .int (nI p), .int x] σ Q := by
  have a2 := H.2.1
  have a3 := H.2.2.1
  obtain ⟨a7, a8⟩ : σ.1 82 (5 * p + 1) = nI hu ∧ hu ≤ 99 := ⟨H.2.2.2.2.2.2.1, H.2.2.2.2.2.2.2.1⟩
  refine v_X7_wayBy ?_
  unfold t_X7_wayBy
  rintro _ rfl _ rfl
  rw [n5_1, nI_clamp (by omega), fsI_k (by decide), fsI_k (by decide), a7, show (99 : Int32) = nI 99 from rfl, pk_sub a8, a3]
  refine ⟨vp_in_nI (by omega) (by decide), ?_⟩
  have H' : sv_y nr p A B h wt g p0 hu cn nd (fsI (fsI σ 78 18 (nI nr)) 78 19 x) := H.cg (fun i _ => by rw [fsI_n (by omega), fsI_n (by omega)]) (fun a i q => by rw [fsI_n (by omega), fsI_n (by omega)]) (fun i q => by rw [fsI_n (by omega), fsI_n (by omega)])
  obtain ⟨m1, m2⟩ := H'.mx hx (by rw [fsI_j (by decide)]; exact fsI_s) fsI_s
  refine c_layBest (lim := 99 - hu) m1 m2 (by omega) (fun t v c t2 tf tb tl => ?_)
  exact k t v c t2 (fun a i q1 q2 => by rw [tf a i q1, fsI_n (by omega), fsI_n (by omega)]) tb tl
theorem c_isDone {p : Nat} (hp : p < 4) (k : Q (bi (σ.1 82 (5 * p + 3) = 1 ∨ σ.1 78 14 = 24)) σ) : fMi E (d + 2) mX7_isDone [.ref 78, .int (nI p)] σ Q := by
  refine v_X7_isDone ?_
  unfold t_X7_isDone
  refine c_isIn hp ?_
  simp only [bi0, Classical.not_not]
  refine ⟨fun q => ?_, fun q => ⟨fun q2 => ?_, fun q2 => ?_⟩⟩
  · rw [bi_t (Or.inl q)] at k; exact k
  · rw [bi_f (fun z => z.elim q q2)] at k; exact k
  · rw [bi_t (Or.inr q2)] at k; exact k
theorem c_mayForesee {p : Nat} (hp : p < 4) (k : Q (bi (σ.1 (16 + 2 * p) 4 = 0 ∧ ¬ 24 ≤ σ.1 1 8)) σ) : fMi E (d + 1) mX6_mayForesee [.ref 1, .int (nI p)] σ Q := by
  refine v_X6_mayForesee ?_
  unfold t_X6_mayForesee
  rw [nI_clamp (by omega)]
  refine ⟨vp_in_nI (by omega) (by decide), fun q => ?_, fun q => ⟨fun q2 => ?_, fun q2 => ?_⟩⟩
  · rw [bi_f (fun z => q z.1)] at k; exact k
  · rw [bi_f (fun z => z.2 q2)] at k; exact k
  · rw [bi_t ⟨q, q2⟩] at k; exact k
end SY
/-- the two sides ask the same before they look -/
theorem see_iff {c nr np nl p n : Nat} {σ : FH} (iW : iWd c nr np nl σ) (hp : p < np) (hn : n ≤ 24) (e1 : σ.1 1 8 = nI n) (e2 : σ.1 78 14 = nI n) : (σ.1 (16 + 2 * p) 4 = 0 ∧ ¬ 24 ≤ σ.1 1 8) ↔ ¬ (σ.1 82 (5 * p + 3) = 1 ∨ σ.1 78 14 = 24) := by
  obtain ⟨⟨a1, a2, a3, a4, a5, a6, a7, a8, a9, a10⟩, ⟨b1, b2, b3⟩, b4, b5, b6, b7, b8⟩ := iW
  have pok := a8 p hp
  have prl := b2 p hp
  rw [show 4 + 12 + 2 * p = 16 + 2 * p by omega] at pok prl
  have e3 : σ.1 82 (5 * p + 3) = σ.1 (16 + 2 * p) 4 := prl.2.2.2.1
  have b := vp_b pok.2.2.2.1
  rw [e3, e1, e2, show (24 : Int32) = nI 24 from rfl, nI_leI (by omega) (by omega), nI_eq (by omega) (by omega)]
  rcases b with z | z
  · rw [z]
    constructor
    · rintro ⟨-, q⟩
      rintro (w | w)
      · exact absurd w (by decide)
      · omega
    · intro q
      exact ⟨rfl, fun w => q (Or.inr (by omega))⟩
  · rw [z]
    exact ⟨fun q => absurd q.1 (by decide), fun q => absurd (Or.inl rfl) q⟩
theorem inv_see {c n : Nat} {σ σ' : FH} (h : inv c σ) (h2 : σ'.2 = σ.2) (hf : ∀ a i, (a < 64 ∨ 70 < a) → ¬ (84 ≤ a ∧ a ≤ 86) → ¬ (a = 1 ∧ i = 8) → ¬ (a = 78 ∧ (i = 14 ∨ i = 18 ∨ i = 19)) → ¬ (a = 81 ∧ 40 ≤ i) → σ'.1 a i = σ.1 a i) (h69 : σ'.1 69 0 = 0) (hn : n ≤ 24) (e1 : σ'.1 1 8 = nI n) (e2 : σ'.1 78 14 = nI n) : inv (c + 1) σ' := by
  have h0 := h.up (Nat.le_succ c)
  obtain ⟨iP, iF, iN, nr, np, nl, iW, iK, iR⟩ := h0
  refine ⟨iP.cg (hf _ _ (by omega) (by omega) (by omega) (by omega) (by omega)) (hf _ _ (by omega) (by omega) (by omega) (by omega) (by omega)) (fun j => hf _ _ (by omega) (by omega) (by omega) (by omega) (by omega)) (fun j => hf _ _ (by omega) (by omega) (by omega) (by omega) (by omega)), ⟨n, hn, e1, e2, h69⟩, iN.cg (fun k q1 q2 q3 => hf _ _ (by omega) (by omega) (by omega) (by omega) (by omega)), nr, np, nl, iW.cg (fun k j q1 q2 => hf _ _ (by omega) (by omega) (by omega) (by omega) (by omega)) (fun j q => hf _ _ (by omega) (by omega) (by omega) (by omega) (by omega)) (fun j => hf _ _ (by omega) (by omega) (by omega) (by omega) (by omega)) (fun j => hf _ _ (by omega) (by omega) (by omega) (by omega) (by omega)) (fun j => hf _ _ (by omega) (by omega) (by omega) (by omega) (by omega)) (fun j q => hf _ _ (by omega) (by omega) (by omega) (by omega) (by omega)), iK.cg (fun k j q1 q2 => hf _ _ (by omega) (by omega) (by omega) (by omega) (by omega)) (fun k j q1 q2 => hf _ _ (by omega) (by omega) (by omega) (by omega) (by omega)) (hf _ _ (by omega) (by omega) (by omega) (by omega) (by omega)) (hf _ _ (by omega) (by omega) (by omega) (by omega) (by omega)) (fun j q => hf _ _ (by omega) (by omega) (by omega) (by omega) (by omega)) (hf _ _ (by omega) (by omega) (by omega) (by omega) (by omega)), iR.cg iW.1.1 h2 (fun k j q1 q2 q3 => hf _ _ (by omega) (by omega) (by omega) (by omega) (by omega)) (fun j => hf _ _ (by omega) (by omega) (by omega) (by omega) (by omega)) (fun j q => hf _ _ (by omega) (by omega) (by omega) (by omega) (by omega)) (fun j => hf _ _ (by omega) (by omega) (by omega) (by omega) (by omega))⟩
/-- one least cost -/
theorem xn_cg {h ρ ρ' : Nat → Nat} : ∀ w : List Nat, (∀ r, r ∈ w → ρ r = ρ' r) → xn h ρ w = xn h ρ' w
  | [], _ => rfl
  | r :: w, q => by
    rw [xn, xn, xn_cg w (fun x hx => q x (List.mem_cons_of_mem _ hx))]
    unfold xe
    rw [q r List.mem_cons_self]
theorem lc_one {m p0 cn nd lim v c : Nat} {A B h g ρ ρ' : Nat → Nat} (hρ : ∀ r, r < m → ρ r = ρ' r) (H : lc m A B h g ρ p0 cn nd lim v) (H' : lc m A B h g ρ' p0 cn nd lim c) : v = c := by
  have e : ∀ w, wy m A B h g p0 cn nd lim w → xn h ρ w = xn h ρ' w := fun w q => xn_cg w (fun r hr => hρ r (sw_v_mem w q.1 r hr))
  rcases H with ⟨a1, a2⟩ | ⟨w, a1, a2, a3⟩ <;> rcases H' with ⟨b1, b2⟩ | ⟨u, b1, b2, b3⟩
  · omega
  · exact absurd b1 (a2 u)
  · exact absurd a1 (b2 w)
  · have x1 := a3 u b1
    have x2 := b3 w a1
    have y1 := e w a1
    have y2 := e u b1
    omega
