/-! Search: bestBridge -/
def bA (nr l : Nat) (A : Nat → Nat) (r : Nat) : Nat := if r = nr then l else A r
def bw (nr : Nat) (A B h g : Nat → Nat) (p0 cn nd lim k : Nat) (w : List Nat) : Prop := wy (nr + 1) (bA nr (k / 6) A) (bA nr (k % 6) B) h g p0 cn nd lim w
/-- the pair k against the least harm so far -/
def bst (nr : Nat) (A B h g : Nat → Nat) (p0 cn nd lim k l : Nat) (b : Int32) (l' : Nat) (b' : Int32) : Prop :=
  (k / 6 < k % 6 ∧ ∃ w, bw nr A B h g p0 cn nd lim k w ∧ sw_h h w < l ∧ (∀ w', bw nr A B h g p0 cn nd lim k w' → sw_h h w ≤ sw_h h w') ∧ l' = sw_h h w ∧ b' = nI k) ∨ ((¬ k / 6 < k % 6 ∨ ∀ w, bw nr A B h g p0 cn nd lim k w → l ≤ sw_h h w) ∧ l' = l ∧ b' = b)
def bf (nr : Nat) (A B h g : Nat → Nat) (p0 cn nd lim l0 : Nat) : Nat → Nat → Int32 → Prop
  | 0, l, b => l = l0 ∧ b = -1
  | k + 1, l', b' => ∃ l b, bf nr A B h g p0 cn nd lim l0 k l b ∧ bst nr A B h g p0 cn nd lim k l b l' b'
section BB
variable {A B h g : Nat → Nat} {nr p0 cn nd lim l0 : Nat}
theorem bst_one {k l : Nat} {b : Int32} {l' l2 : Nat} {b' b2 : Int32} (H : bst nr A B h g p0 cn nd lim k l b l' b') (H' : bst nr A B h g p0 cn nd lim k l b l2 b2) : l' = l2 ∧ b' = b2 := by
  rcases H with ⟨a1, w, a2, a3, a4, a5, a6⟩ | ⟨a1, a2, a3⟩ <;> rcases H' with ⟨c1, u, c2, c3, c4, c5, c6⟩ | ⟨c1, c2, c3⟩
  · have := a4 u c2
    have := c4 w a2
    exact ⟨by omega, by rw [a6, c6]⟩
  · rcases c1 with q | q
    · exact absurd a1 q
    · have := q w a2; omega
  · rcases a1 with q | q
    · exact absurd c1 q
    · have := q u c2; omega
  · exact ⟨by omega, by rw [a3, c3]⟩
theorem bf_one : ∀ k {l l' : Nat} {b b' : Int32}, bf nr A B h g p0 cn nd lim l0 k l b → bf nr A B h g p0 cn nd lim l0 k l' b' → l = l' ∧ b = b'
  | 0, l, l', b, b', H, H' => ⟨by rw [H.1, H'.1], by rw [H.2, H'.2]⟩
  | k + 1, l, l', b, b', ⟨x, y, H1, H2⟩, ⟨x', y', H1', H2'⟩ => by
    obtain ⟨e1, e2⟩ := bf_one k H1 H1'
    subst e1 e2
    exact bst_one H2 H2'
theorem bf_go {k l : Nat} {b : Int32} (H : bf nr A B h g p0 cn nd lim l0 k l b) : ∀ j, (∀ k', k ≤ k' → k' < k + j → (¬ k' / 6 < k' % 6 ∨ ∀ w, bw nr A B h g p0 cn nd lim k' w → l ≤ sw_h h w)) → bf nr A B h g p0 cn nd lim l0 (k + j) l b
  | 0, _ => H
  | j + 1, hq => ⟨l, b, bf_go H j (fun k' q1 q2 => hq k' q1 (by omega)), Or.inr ⟨hq (k + j) (by omega) (by omega), rfl, rfl⟩⟩
/-- the class's limit -/
def bL (lim l : Nat) : Int32 := if l = 0 then -1 else nI (min lim (l - 1))
theorem b_dead {l : Nat} (hr : ∀ r, r < nr + 1 → 1 ≤ h r) (hJ : p0 = 5 ∧ cn = nd → l = 0) (hd : l = 0 ∨ min lim (l - 1) = 0) (k : Nat) (w : List Nat) (hw : bw nr A B h g p0 cn nd lim k w) : l ≤ sw_h h w := by
  rcases Nat.lt_or_ge (sw_h h w) l with q | q
  · obtain ⟨w1, w2, w3, w4⟩ := hw
    have len := sw_len hr w w1
    have z : w.length = 0 := by omega
    have e := List.eq_nil_of_length_eq_zero z
    subst e
    rw [rwH0] at w3
    have := hJ ⟨w2, by omega⟩
    omega
  · exact q
end BB
section BC
variable {E : am_E} {d : Nat} {σ : FH} {Q : Int32 → FH → Prop} {QV : FH → Prop} {A B h wt g : Nat → Nat} {nr p p0 hu cn nd : Nat}
theorem sr_set {la lb l r : Nat} (hR : sr_R (nr + 1) (bA nr la A) (bA nr lb B) h g σ) : sr_R (nr + 1) (bA nr l A) (bA nr r B) h g (fsI (fsI σ 65 nr (nI l)) 66 nr (nI r)) := by
  obtain ⟨h1, h2, h3, h4⟩ := hR
  refine ⟨by rw [fsI_k (by decide), fsI_k (by decide)]; exact h1, by rw [fsI_k (by decide), fsI_k (by decide)]; exact h2, fun x hx => ?_, fun s hs => by rw [fsI_k (by decide), fsI_k (by decide)]; exact h4 s hs⟩
  obtain ⟨a1, a2, a3, a4⟩ := h3 x hx
  refine ⟨?_, ?_, by rw [fsI_k (by decide), fsI_k (by decide)]; exact a3, by rw [fsI_k (by decide), fsI_k (by decide)]; exact a4⟩
  · rw [fsI_k (by decide)]
    unfold bA at a1 ⊢
    by_cases e : x = nr
    · subst e; rw [if_pos rfl, fsI_s]
    · rw [if_neg e] at a1 ⊢; rw [fsI_j e]; exact a1
  · unfold bA at a2 ⊢
    by_cases e : x = nr
    · subst e; rw [if_pos rfl, fsI_s]
    · rw [if_neg e] at a2 ⊢; rw [fsI_j e, fsI_k (by decide)]; exact a2
theorem sg_b {l r : Nat} (hr : sg_R nr A B h g) (hl : l < 6) (hr6 : r < 6) (h1 : h nr = 1) (g2 : g nr = 2) : sg_R (nr + 1) (bA nr l A) (bA nr r B) h g := by
  intro x hx
  unfold bA
  by_cases e : x = nr
  · subst e
    rw [if_pos rfl, if_pos rfl, h1, g2]
    omega
  · rw [if_neg e, if_neg e]
    exact hr x (by omega)
theorem c_harmOf {v : Nat} (hv : v < 2 ^ 31) (k : Q (nI (v / 2048)) σ) : fMi E (d + 1) mX4_harmOf [.int (nI v)] σ Q := by
  refine v_X4_harmOf ?_
  unfold t_X4_harmOf
  rw [show nI v >>> ((11 : Int32) &&& 31) = nI (v / 2 ^ 11) from pk_shrN hv _ 11 (by decide)]
  exact k
theorem bL_le {lim l : Nat} (hl : lim ≤ 99) : (bL lim l ≤ 0) ↔ (l = 0 ∨ min lim (l - 1) = 0) := by
  unfold bL
  by_cases e : l = 0
  · rw [if_pos e]
    exact ⟨fun _ => Or.inl e, fun _ => by decide⟩
  · rw [if_neg e]
    constructor
    · intro q
      right
      rcases Nat.eq_zero_or_pos (min lim (l - 1)) with z | z
      · exact z
      · exact absurd q (nI_nle z (by omega))
    · intro q
      rw [q.resolve_left e]
      decide
/-- the loops over the pairs -/
theorem c_bbLoop {l0 lim : Nat} {x4 : Int32} (hn : nr ≤ 8) (hp4 : p < 4) (hp : p0 < 6) (hl : lim ≤ 99) (hr : sg_R nr A B h g) (h1 : h nr = 1) (g2 : g nr = 2) (hcn : cn < 2 ^ 20) (hnd : nd ≤ 60) (hx4 : x4 = nI nd - nI cn) (hpl : σ.1 (16 + 2 * p) 0 = nI p0)
    (k : ∀ σ' l b, σ'.2 = σ.2 → (∀ a i, (a < 64 ∨ 70 < a) → σ'.1 a i = σ.1 a i) → σ'.1 69 0 = 0 → bf nr A B h g p0 cn nd lim l0 36 l b → Q b σ') :
    ∀ m x s least best, x + m = 6 → s.2 = σ.2 → (∀ a i, (a < 64 ∨ 70 < a) → s.1 a i = σ.1 a i) → (∃ la lb, sr_R (nr + 1) (bA nr la A) (bA nr lb B) h g s) → s.1 64 8 = bL lim least → (p0 = 5 ∧ cn = nd → least = 0) → bf nr A B h g p0 cn nd lim l0 (6 * x) least best → h_X4_bestBridge_55 E (d + 4) (16 + 2 * p) x4 best (nI nr) (nI x) s Q := by
  have hpg : isPg (16 + 2 * p) := ⟨4, p, Or.inl rfl, hp4, by omega⟩
  have hh : ∀ r, r < nr + 1 → 1 ≤ h r := fun r q => ((sg_b hr (l := 0) (r := 0) (by omega) (by omega) h1 g2) r q).2.2.2.2
  intro m
  induction m with
  | zero =>
    intro x s least best hx s2 sf sR s8 sJ sb
    obtain ⟨la, lb, sR⟩ := sR
    refine v_X4_bestBridge_55 hpg ?_
    unfold t_X4_bestBridge_55
    rw [show x = 6 by omega] at *
    exact ⟨fun _ => k s least best s2 sf sR.z sb, fun q => absurd (by decide) q⟩
  | succ m out =>
    intro x s least best hx s2 sf sR s8 sJ sb
    refine v_X4_bestBridge_55 hpg ?_
    unfold t_X4_bestBridge_55
    rw [nI_1 x]
    refine ⟨fun q => absurd q (nI_ge (b := 6) (by omega) (by omega)), fun _ => ?_⟩
    have inn : ∀ m2 y s least best, y + m2 = 6 → x < y → s.2 = σ.2 → (∀ a i, (a < 64 ∨ 70 < a) → s.1 a i = σ.1 a i) → (∃ la lb, sr_R (nr + 1) (bA nr la A) (bA nr lb B) h g s) → s.1 64 8 = bL lim least → (p0 = 5 ∧ cn = nd → least = 0) → bf nr A B h g p0 cn nd lim l0 (6 * x + y) least best → h_X4_bestBridge_68 E (d + 4) (16 + 2 * p) x4 best (nI nr) (nI x) (nI y) s Q := by
      intro m2
      induction m2 with
      | zero =>
        intro y s least best hy hxy s2 sf sR s8 sJ sb
        refine v_X4_bestBridge_68 hpg ?_
        unfold t_X4_bestBridge_68
        rw [show y = 6 by omega] at *
        rw [nI_1 x]
        refine ⟨fun _ => out (x + 1) s least best (by omega) s2 sf sR s8 sJ (by rw [show 6 * (x + 1) = 6 * x + 6 by omega]; exact sb), fun q => absurd (by decide) q⟩
      | succ m2 ih =>
        intro y s least best hy hxy s2 sf sR s8 sJ sb
        refine v_X4_bestBridge_68 hpg ?_
        unfold t_X4_bestBridge_68
        rw [nI_1 x, s8, bL_le hl, nI_clamp (show nr < 2 ^ 31 by omega), nI_1 y]
        refine ⟨fun q => absurd q (nI_ge (b := 6) (by omega) (by omega)), fun _ => ⟨fun q => ?_, fun q => ⟨vp_in_nI (by omega) (by decide), ?_⟩⟩⟩
        · refine out (x + 1) s least best (by omega) s2 sf sR s8 sJ ?_
          have := bf_go sb (6 - y) (fun k' _ _ => Or.inr (fun w hw => b_dead hh sJ q k' w hw))
          rw [show 6 * x + y + (6 - y) = 6 * (x + 1) by omega] at this
          exact this
        · rintro _ rfl
          refine ⟨vp_in_nI (by omega) (by decide), ?_⟩
          rintro _ rfl
          obtain ⟨la, lb, sR⟩ := sR
          have tR := sr_set (l := x) (r := y) sR
          have tsg := sg_b (l := x) (r := y) hr (by omega) (by omega) h1 g2
          have t8 : (fsI (fsI s 65 nr (nI x)) 66 nr (nI y)).1 64 8 = nI (min lim (least - 1)) := by
            rw [fsI_k (by decide), fsI_k (by decide), s8]
            unfold bL
            rw [if_neg (fun z => q (Or.inl z))]
          have tp : (fsI (fsI s 65 nr (nI x)) 66 nr (nI y)).1 (16 + 2 * p) 0 = nI p0 := by rw [fsI_k (by omega), fsI_k (by omega), sf _ _ (by omega)]; exact hpl
          have tf : ∀ a i, (a < 64 ∨ 70 < a) → (fsI (fsI s 65 nr (nI x)) 66 nr (nI y)).1 a i = σ.1 a i := fun a i q => by rw [fsI_k (by omega), fsI_k (by omega), sf _ _ q]
          have t2 : (fsI (fsI s 65 nr (nI x)) 66 nr (nI y)).2 = σ.2 := s2
          generalize fsI (fsI s 65 nr (nI x)) 66 nr (nI y) = t at tR t8 tp tf t2
          rw [tp]
          have ek : (6 * x + y) / 6 = x := by omega
          have em6 : (6 * x + y) % 6 = y := by omega
          have bwe : ∀ w, bw nr A B h g p0 cn nd lim (6 * x + y) w ↔ wy (nr + 1) (bA nr x A) (bA nr y B) h g p0 cn nd lim w := fun w => by unfold bw; rw [ek, em6]
          have lm : min lim (least - 1) ≤ 99 := by omega
          refine c_leastCost (lim := min lim (least - 1)) (by omega) hp tR tsg lm t8 hcn (by omega) hx4 (fun u v u2 uf vb ul => ?_)
          have uR := tR.cg (fun a i q => uf a i (by omega))
          rw [nI_far vb]
          have q1 : ¬ least = 0 := fun z => q (Or.inl z)
          have q2 : ¬ min lim (least - 1) = 0 := fun z => q (Or.inr z)
          rcases ul with ⟨e, un⟩ | ⟨w, w1, w2, w3⟩
          · refine ⟨fun _ => ?_, fun z => absurd e z⟩
            refine ih (y + 1) u least best (by omega) (by omega) (u2.trans t2) (fun a i q => by rw [uf _ _ (by omega), tf _ _ q]) ⟨x, y, uR⟩ (by rw [uf _ _ (by omega), t8]; unfold bL; rw [if_neg q1]) sJ ?_
            refine ⟨least, best, sb, Or.inr ⟨Or.inr (fun w hw => ?_), rfl, rfl⟩⟩
            have hw' := (bwe w).mp hw
            rcases Nat.lt_or_ge (sw_h h w) least with z | z
            · exact absurd ⟨hw'.1, hw'.2.1, hw'.2.2.1, by have := hw'.2.2.2; omega⟩ (un w)
            · exact z
          · have wp := xn_parts (ρ := fun r => r) hh (fun r z => by show r < 16; omega) w1.1 (by have := w1.2.2.2; omega)
            have wl := w1.2.2.2
            refine ⟨fun z => by omega, fun _ => c_harmOf (by omega) ?_⟩
            rintro _ rfl
            have h0 : 1 ≤ sw_h h w := by
              rcases Nat.eq_zero_or_pos (sw_h h w) with z | z
              · have len := sw_len hh w w1.1
                have e := List.eq_nil_of_length_eq_zero (show w.length = 0 by omega)
                have w12 := w1.2.1
                have w13 := w1.2.2.1
                rw [e, rwH0] at w13
                rw [e] at w12
                exact absurd (sJ ⟨w12, by omega⟩) q1
              · exact z
            have ev : v / 2048 = sw_h h w := by rw [w2]; exact wp.1
            have e8 : nI (v / 2048) - 1 = bL lim (sw_h h w) := by
              unfold bL
              rw [if_neg (by omega), ev, show sw_h h w = (sw_h h w - 1) + 1 by omega, nI_pred]
              congr 1
              omega
            rw [e8, show (6 : Int32) = nI 6 from rfl, pk_mul, nI_add]
            refine ih (y + 1) _ (sw_h h w) _ (by omega) (by omega) (by rw [fsI_2, u2, t2]) (fun a i q => by rw [fsI_n (by omega), uf _ _ (by omega), tf _ _ q]) ⟨x, y, uR.cg (fun a i q => by rw [fsI_n (by omega)])⟩ fsI_s (fun z => absurd (sJ z) q1) ?_
            refine ⟨least, best, sb, Or.inl ⟨show (6 * x + y) / 6 < (6 * x + y) % 6 by omega, w, (bwe w).mpr ⟨w1.1, w1.2.1, w1.2.2.1, by omega⟩, by omega, fun w' hw => ?_, rfl, rfl⟩⟩
            have hw' := (bwe w').mp hw
            rcases Nat.lt_or_ge (min lim (least - 1)) (sw_h h w') with z | z
            · omega
            · have le := w3 w' ⟨hw'.1, hw'.2.1, hw'.2.2.1, z⟩
              have wp' := xn_parts (ρ := fun r => r) hh (fun r z => by show r < 16; omega) hw'.1 (by omega)
              have := Nat.div_le_div_right (c := 2048) le
              omega
    refine inn (5 - x) (x + 1) s least best (by omega) (by omega) s2 sf sR s8 sJ ?_
    have := bf_go sb (x + 1) (fun k' q1 q2 => Or.inl (by omega))
    exact this
/-- the harm of the best way as it is -/
def bl0 (v : Nat) : Nat := if v = 1000000000 then 1000 else v / 2048
set_option maxHeartbeats 1000000 in
theorem c_bestBridge (H : sv_x nr p A B h wt g p0 hu cn nd σ) (h69 : σ.1 69 0 = 0) (hA0 : A nr = 0) (hB0 : B nr = 0) (hh1 : h nr = 1) (hg2 : g nr = 2)
    (k : ∀ σ' l b v, σ'.2 = σ.2 → (∀ a i, (a < 64 ∨ 70 < a) → σ'.1 a i = σ.1 a i) → σ'.1 69 0 = 0 → lc (tm 100 nr) (fun j => A (tk 100 j)) (fun j => B (tk 100 j)) (fun j => h (tk 100 j)) (fun j => g (tk 100 j)) (fun r => r) p0 cn nd (99 - hu) v → bf nr (fun j => A (tk 100 j)) (fun j => B (tk 100 j)) (fun j => h (tk 100 j)) (fun j => g (tk 100 j)) p0 cn nd (99 - hu) (bl0 v) 36 l b → Q b σ') : fMi E (d + 6) mX4_bestBridge [.ref 64, .ref 4, .ref (16 + 2 * p)] σ Q := by
  have hsg := H.sg 100
  obtain ⟨h1, h2, h3, h4, h5, h6, h7, h8, h9, h10, h11, h12, h13, h14, h15⟩ := id H
  have hpg : isPg (16 + 2 * p) := ⟨4, p, Or.inl rfl, h2, by omega⟩
  have tkn : tk 100 nr = nr := by unfold tk; rw [if_pos (by omega)]
  have tmn : tm 100 nr = nr := by unfold tm; rw [if_neg (by omega)]
  have hA0' : (fun j => A (tk 100 j)) nr = 0 := by show A (tk 100 nr) = 0; rw [tkn]; exact hA0
  have hB0' : (fun j => B (tk 100 j)) nr = 0 := by show B (tk 100 nr) = 0; rw [tkn]; exact hB0
  have hh1' : (fun j => h (tk 100 j)) nr = 1 := by show h (tk 100 nr) = 1; rw [tkn]; exact hh1
  have hg2' : (fun j => g (tk 100 j)) nr = 2 := by show g (tk 100 nr) = 2; rw [tkn]; exact hg2
  refine v_X4_bestBridge (Or.inl rfl) hpg ?_
  unfold t_X4_bestBridge
  refine c_leastWay (b := 100) H h69 (x_none h1 (by decide)) (fun t v t2 tf t8 tR vb tl => ?_)
  rw [tmn] at hsg tR tl k
  generalize (fun j => A (tk 100 j)) = A' at *
  generalize (fun j => B (tk 100 j)) = B' at *
  generalize (fun j => h (tk 100 j)) = h' at *
  generalize (fun j => g (tk 100 j)) = g' at *
  rw [nI_far vb]
  have main : ∀ s, s.2 = σ.2 → (∀ a i, (a < 64 ∨ 70 < a) → s.1 a i = σ.1 a i) → sr_R nr A' B' h' g' s → s.1 64 8 = bL (99 - hu) (bl0 v) → (p0 = 5 ∧ cn = nd → bl0 v = 0) → t_X4_bestBridge_24 E (d + 5) 4 (16 + 2 * p) s Q := by
    intro s s2 sf sR s8 sJ
    unfold t_X4_bestBridge_24
    rw [sf 4 0 (by omega), sf (16 + 2 * p) 2 (by omega), h14, h12, sR.1]
    have add := c_addRoad (E := E) (d := d + 4) (QV := fun σ4 => h_X4_bestBridge_55 E (d + 5) (16 + 2 * p) (nI nd - nI cn) (-1) (nI nr) 0 σ4 Q) (m := nr) (by omega) sR (by omega) (fun u u2 uf uR => by
      refine c_bbLoop (l0 := bl0 v) (lim := 99 - hu) (σ := σ) h1 h2 h9 (by omega) hsg hh1' hg2' h13 h15 rfl h8 (fun σ' l b e1 e2 e3 e4 => k σ' l b v e1 e2 e3 tl e4) 6 0 u (bl0 v) (-1) (by omega) (u2.trans s2) (fun a i q => by rw [uf _ _ (by omega) (by omega)]; exact sf a i q) ⟨0, 0, ?_⟩ (by rw [uf _ _ (by omega) (by omega)]; exact s8) sJ ⟨rfl, rfl⟩
      have ea : bA nr 0 A' = A' := by
        funext r
        unfold bA
        split
        · next e => rw [e, hA0']
        · rfl
      have eb : bA nr 0 B' = B' := by
        funext r
        unfold bA
        split
        · next e => rw [e, hB0']
        · rfl
      rw [ea, eb]
      exact uR)
    rw [hA0', hB0', hh1', hg2'] at add
    exact add
  rcases tl with ⟨e, un⟩ | ⟨w, w1, w2, w3⟩
  · refine ⟨fun _ => main t t2 tf tR ?_ ?_, fun q => absurd e q⟩
    · rw [t8]
      unfold bL bl0
      rw [if_pos e, if_neg (by decide)]
      congr 1
      omega
    · rintro ⟨e1, e2⟩
      exact absurd ⟨trivial, e1, by rw [rwH0]; omega, Nat.zero_le _⟩ (un [])
  · have hh : ∀ r, r < nr → 1 ≤ h' r := fun r q => (hsg r q).2.2.2.2
    have wp := xn_parts (ρ := fun r => r) hh (fun r z => by show r < 16; omega) w1.1 (by have := w1.2.2.2; omega)
    have nf : ¬ v = 1000000000 := by omega
    refine ⟨fun q => absurd q nf, fun _ => c_harmOf (by omega) ?_⟩
    rintro _ rfl
    have e0 : bl0 v = v / 2048 := by unfold bl0; rw [if_neg nf]
    have wl := w1.2.2.2
    refine main _ (by rw [fsI_2]; exact t2) (fun a i q => by rw [fsI_n (by omega)]; exact tf a i q) (tR.cg (fun a i q => by rw [fsI_n (by omega)])) ?_ ?_
    · rw [fsI_s, e0]
      unfold bL
      by_cases z : v / 2048 = 0
      · rw [if_pos z, z]; decide
      · rw [if_neg z]
        have e9 : nI (v / 2048) - 1 = nI (v / 2048 - 1) := by
          have e' : v / 2048 = (v / 2048 - 1) + 1 := by omega
          rw [e', nI_pred, Nat.add_sub_cancel]
        rw [e9]
        congr 1
        omega
    · rintro ⟨e1, e2⟩
      have := w3 [] ⟨trivial, e1, by rw [rwH0]; omega, Nat.zero_le _⟩
      have z : xn h' (fun r => r) [] = 0 := rfl
      rw [e0]
      omega
end BC
