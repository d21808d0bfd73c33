/-! the reference's ways: layWays, countedBy, bestAt -/
section ML4
variable {E : am_E} {d : Nat} {σ : FH} {Q : Int32 → FH → Prop} {QV : FH → Prop} {m nr p : Nat} {A B h ρ g wm : Nat → Nat} {fr : Nat → Bool} {p0 lim W cn nd : Nat} {bar : Int32}
theorem c_lay51 {H : Nat} (hx : sm_x nr p m A B h ρ fr p0 W bar σ) (hl : lim ≤ 99) (hH : H ≤ lim) (kk : ∀ t D2, xI m A B h ρ fr p0 lim σ t D2 → (∀ z, z < 3072 → D2 z / 2048 < H + 1 → xC m A B h ρ fr lim D2 z) → h_X7_layWays_43 E (d + 1) (nI p) (nI lim) (nI (H + 1)) t QV) :
    ∀ l k s D, k + l = 3072 → xI m A B h ρ fr p0 lim σ s D → (∀ z, z < 3072 → D z / 2048 < H → xC m A B h ρ fr lim D z) → (∀ z, z < k → D z / 2048 = H → xC m A B h ρ fr lim D z) → h_X7_layWays_51 E (d + 1) (nI p) (nI lim) (nI H) (nI k) s QV := by
  intro l
  induction l with
  | zero =>
    intro k s D hk sI c1 c2
    refine v_X7_layWays_51 ?_
    unfold t_X7_layWays_51
    rw [show k = 3072 by omega] at *
    rw [nI_1 H]
    refine ⟨fun _ => kk s D sI (fun z hz q => ?_), fun q => absurd (by decide) q⟩
    rcases Nat.lt_or_ge (D z / 2048) H with e | e
    · exact c1 z hz e
    · exact c2 z hz (by omega)
  | succ l ih =>
    intro k s D hk sI c1 c2
    refine v_X7_layWays_51 ?_
    unfold t_X7_layWays_51
    have rk := sI.2.2.1 k (by omega)
    rw [nI_clamp (by omega), rk.hm (by omega), nI_1 k]
    refine ⟨fun q => absurd q (nI_ge (b := 3072) (by omega) (by omega)), fun _ => ⟨vp_in_nI (by omega) (by decide), fun q => ?_, fun q => ?_⟩⟩
    · refine ih (k + 1) s D (by omega) sI c1 (fun z hz e => ?_)
      by_cases ez : z = k
      · subst ez; exact absurd e q
      · exact c2 z (by omega) e
    · refine c_lay73 (D := D) hx hl (by omega) hH W 0 s D (by omega) sI (xle.r _ _) q (fun j hj ⟨i', z, _⟩ => absurd z (by omega)) (fun t D2 tI tle tk => ?_)
      refine ih (k + 1) t D2 (by omega) tI (fun z hz e => ?_) (fun z hz e => ?_)
      · have e1 := (tle z).2.2 (by omega)
        exact fun j hj => (c1 z hz (by omega) j hj).le tle (by omega)
      · by_cases ez : z = k
        · subst ez; exact tk
        · have e1 := (tle z).2.2 (by omega)
          exact fun j hj => (c2 z (by omega) (by omega) j hj).le tle (by omega)
theorem c_lay43 (hx : sm_x nr p m A B h ρ fr p0 W bar σ) (hl : lim ≤ 99) (k : ∀ σ' D, xI m A B h ρ fr p0 lim σ σ' D → (∀ z, z < 3072 → xC m A B h ρ fr lim D z) → QV σ') :
    ∀ l H s D, H + l = lim + 1 → xI m A B h ρ fr p0 lim σ s D → (∀ z, z < 3072 → D z / 2048 < H → xC m A B h ρ fr lim D z) → h_X7_layWays_43 E (d + 1) (nI p) (nI lim) (nI H) s QV := by
  intro l
  induction l with
  | zero =>
    intro H s D hH sI c1
    refine v_X7_layWays_43 ?_
    unfold t_X7_layWays_43
    refine ⟨fun _ => k s D sI (fun z hz => ?_), fun q => absurd (nI_lt (by omega) (by omega)) q⟩
    by_cases e : D z = 1000000000
    · exact fun j hj _ q => absurd e q
    · obtain ⟨w, w1, w2, w3, w4⟩ := sI.2.2.2.1 z e
      have wp := xn_parts (ρ := ρ) (fun r z => (hx.s.1 r z).2.2) (fun r z => by have := hx.s.2 r z; omega) w1 (by omega)
      rw [w3] at wp
      exact c1 z hz (by omega)
  | succ l ih =>
    intro H s D hH sI c1
    refine v_X7_layWays_43 ?_
    unfold t_X7_layWays_43
    refine ⟨fun q => absurd q (nI_nlt (by omega) (by omega)), fun _ => ?_⟩
    exact c_lay51 hx hl (by omega) (fun t D2 tI tc => ih (H + 1) t D2 (by omega) tI tc) 3072 0 s D (by omega) sI c1 (fun z q => absurd q (by omega))
theorem c_layWays (hx : sm_x nr p m A B h ρ fr p0 W bar σ) (hl : lim ≤ 99) (k : ∀ σ' D, xI m A B h ρ fr p0 lim σ σ' D → (∀ z, z < 3072 → xC m A B h ρ fr lim D z) → QV σ') : fMv E (d + 2) mX7_layWays [.ref 78, .int (nI p), .int (nI lim)] σ QV := by
  have hp4 := hx.2.1
  obtain ⟨e82, p6⟩ : σ.1 82 (5 * p) = nI p0 ∧ p0 < 6 := by
    obtain ⟨h1, h2, h3, h4, h5, h6, h7, h8, h9, h10, h11, h12, h13⟩ := hx
    exact ⟨h12, h13⟩
  refine v_X7_layWays ?_
  unfold t_X7_layWays
  have key : ∀ l i s, i + l = 3072 → s.2 = σ.2 → (∀ a i, (a < 84 ∨ 86 < a) → s.1 a i = σ.1 a i) → (∀ z, z < i → s.1 84 z = -1) → h_X7_layWays_2 E (d + 1) (nI p) (nI lim) (nI i) s QV := by
    intro l
    induction l with
    | zero =>
      intro i s hi s2 sf sv
      refine v_X7_layWays_2 ?_
      unfold t_X7_layWays_2
      rw [show i = 3072 by omega] at *
      rw [n5', nI_clamp (by omega), sf 82 _ (by omega), e82, show (512 : Int32) = nI 512 from rfl, pk_mul]
      refine ⟨fun _ => ⟨vp_in_nI (by omega) (by decide), ?_⟩, fun q => absurd (by decide) q⟩
      refine v_X7_relax ?_
      unfold t_X7_relax
      have iy : vp_in (nI (512 * p0)) 3072 := vp_in_nI (by omega) (by decide)
      rw [nI_clamp (by omega), sv (512 * p0) (by omega)]
      refine ⟨iy, fun _ => ?_, fun q => absurd rfl q⟩
      unfold t_X7_relax_61 t_X7_relax_66
      rw [nI_clamp (by omega)]
      refine ⟨fun z => absurd z (by decide), fun _ => ⟨iy, ?_⟩⟩
      rintro _ rfl
      refine ⟨iy, ?_⟩
      rintro _ rfl
      refine ⟨iy, ?_⟩
      rintro _ rfl
      refine c_lay43 hx hl k (lim + 1) 0 _ (fun z => if z = 512 * p0 then 0 else 1000000000) (by omega) ⟨s2, fun a i q => by rw [fsI_k (by omega), fsI_k (by omega), fsI_k (by omega), sf a i q], fun z hz => ?_, fun z hz => ?_, ?_⟩ (fun z _ q => absurd q (by omega))
      · dsimp only
        by_cases e : z = 512 * p0
        · rw [if_pos e, e]
          exact Or.inr (Or.inl ⟨rfl, by rw [fsI_k (by decide), fsI_k (by decide), fsI_s], by rw [fsI_k (by decide), fsI_s], fsI_s⟩)
        · rw [if_neg e]
          exact Or.inl ⟨rfl, by rw [fsI_k (by decide), fsI_k (by decide), fsI_j e]; exact sv z hz⟩
      · dsimp only at hz ⊢
        by_cases e : z = 512 * p0
        · rw [if_pos e]
          exact ⟨[], trivial, by rw [e]; rfl, rfl, Nat.zero_le _⟩
        · rw [if_neg e] at hz; exact absurd rfl hz
      · dsimp only
        rw [if_pos rfl]
    | succ l ih =>
      intro i s hi s2 sf sv
      refine v_X7_layWays_2 ?_
      unfold t_X7_layWays_2
      rw [nI_clamp (show i < 2 ^ 31 by omega), nI_1 i]
      refine ⟨fun q => absurd q (nI_ge (b := 3072) (by omega) (by omega)), fun _ => ⟨vp_in_nI (by omega) (by decide), ?_⟩⟩
      rintro _ rfl
      refine ih (i + 1) _ (by omega) s2 (fun a j q => by rw [fsI_k (by omega)]; exact sf a j q) (fun z hz => ?_)
      by_cases e : z = i
      · subst e; exact fsI_s
      · rw [fsI_j e]; exact sv z (by omega)
  exact key 3072 0 σ (by omega) rfl (fun _ _ _ => rfl) (fun z q => absurd q (by omega))
/-- sums over numbers given by another count -/
theorem sm_re {N : Nat} {ρ : Nat → Nat} : ∀ (m : Nat) (F : Nat → Nat), (∀ j, j < m → ρ j < N) → (∀ j j', j < m → j' < m → ρ j = ρ j' → j = j') → (∀ r, r < N → (∀ j, j < m → ρ j ≠ r) → F r = 0) → fb_sm F N = fb_sm (fun j => F (ρ j)) m
  | 0, F, _, _, h0 => by
    have : fb_sm F N = fb_sm (fun _ => 0) N := fb_sm_cong (fun r hr => h0 r hr (fun j q => absurd q (by omega)))
    rw [this, fb_sm_const]
    rfl
  | m + 1, F, h1, h2, h0 => by
    have u := fb_sm_upd F 0 (i := ρ m) (n := N) (h1 m (by omega))
    have ih := sm_re (N := N) (ρ := ρ) m (fun k => if k = ρ m then 0 else F k) (fun j hj => h1 j (by omega)) (fun j j' hj hj' e => h2 j j' (by omega) (by omega) e) (fun r hr hn => by
      show (if r = ρ m then 0 else F r) = 0
      by_cases e : r = ρ m
      · rw [if_pos e]
      · rw [if_neg e]
        refine h0 r hr (fun j hj => ?_)
        by_cases ej : j = m
        · subst ej; exact fun z => e z.symm
        · exact hn j (by omega))
    have c : fb_sm (fun j => (fun k => if k = ρ m then 0 else F k) (ρ j)) m = fb_sm (fun j => F (ρ j)) m := fb_sm_cong (fun j hj => by
      show (if ρ j = ρ m then 0 else F (ρ j)) = F (ρ j)
      rw [if_neg (fun e => by have := h2 j m (by omega) (by omega) e; omega)])
    rw [c] at ih
    rw [fb_sm_succ]
    omega
theorem xs_bit {r : Nat} : ∀ w, ((xs ρ fr w).testBit r = true ↔ ∃ j, j ∈ w ∧ fr j = true ∧ ρ j = r)
  | [] => by
    show (0 : Nat).testBit r = true ↔ _
    rw [Nat.zero_testBit]
    exact ⟨fun q => absurd q (by simp), fun ⟨j, q, _⟩ => absurd q (by simp)⟩
  | j :: w => by
    show (xs ρ fr w ||| (if fr j then 2 ^ ρ j else 0)).testBit r = true ↔ _
    rw [Nat.testBit_or, Bool.or_eq_true, xs_bit w]
    constructor
    · rintro (⟨j', a, b⟩ | q)
      · exact ⟨j', List.mem_cons_of_mem _ a, b⟩
      · by_cases e : fr j = true
        · rw [if_pos e, Nat.testBit_two_pow] at q
          exact ⟨j, List.mem_cons_self, e, of_decide_eq_true q⟩
        · rw [if_neg e, Nat.zero_testBit] at q
          exact absurd q (by simp)
    · rintro ⟨j', a, b, c⟩
      rcases List.mem_cons.mp a with e | e
      · subst e
        right
        rw [if_pos b, Nat.testBit_two_pow]
        exact decide_eq_true c
      · exact Or.inl ⟨j', e, b, c⟩
/-- what a set counts -/
def xh (wm : Nat → Nat) (s : Nat) : Nat := fb_sm (fun r => if s.testBit r = true then (if r = 8 then 2 else wm r) else 0) 9
theorem xh_w {w : List Nat} (hρ : ∀ r, r < m → ρ r < 9) (hi : ∀ j j', j < m → j' < m → ρ j = ρ j' → j = j') (hg : ∀ j, j < m → g j = if fr j then (if ρ j = 8 then 2 else wm (ρ j)) else 0) (hw : ∀ r, r ∈ w → r < m) : xh wm (xs ρ fr w) = rwH m g w := by
  unfold xh
  rw [sm_re (ρ := ρ) m _ hρ hi (fun r hr hn => ?_)]
  · unfold rwH
    refine fb_sm_cong (fun j hj => ?_)
    show (if (xs ρ fr w).testBit (ρ j) = true then _ else 0) = _
    rw [hg j hj]
    by_cases q : j ∈ w
    · rw [if_pos q]
      by_cases f : fr j = true
      · rw [if_pos ((xs_bit w).mpr ⟨j, q, f, rfl⟩), if_pos f]
      · rw [if_neg (fun z => ?_), if_neg f]
        obtain ⟨j', a, b, c⟩ := (xs_bit w).mp z
        rw [hi j' j (hw j' a) hj c] at b
        exact f b
    · rw [if_neg q, if_neg (fun z => ?_)]
      obtain ⟨j', a, b, c⟩ := (xs_bit w).mp z
      rw [hi j' j (hw j' a) hj c] at a
      exact q a
  · show (if (xs ρ fr w).testBit r = true then _ else 0) = 0
    rw [if_neg (fun z => ?_)]
    obtain ⟨j', a, b, c⟩ := (xs_bit w).mp z
    exact hn j' (hw j' a) c
theorem md_bit9 {s r : Nat} (hr : r < 9) (hs : s < 2 ^ 20) : ((nI s >>> (nI r &&& 31)) &&& 1) = nI (if s.testBit r then 1 else 0) := by
  have e : ∀ r, r < 9 → ((nI r &&& 31).toBitVec.smod 32).toNat = r := by decide
  rw [pk_shrN (by omega) _ r (e r hr), show (1 : Int32) = nI (2 ^ 1 - 1) from rfl, fa_mask, Nat.testBit_eq_decide_div_mod_eq]
  congr 1
  by_cases h : s / 2 ^ r % 2 = 1
  · rw [h]; simp
  · have : s / 2 ^ r % 2 = 0 := by omega
    simp [this]
theorem c_countedBy {s : Nat} (hp : p < 4) (hs : s < 512) (h82 : σ.1 82 (5 * p + 2) = nI cn) (hw : ∀ r, r < 8 → s.testBit r = true → vp_in (σ.1 81 (5 * r)) 5 ∧ vp_in (σ.1 81 (5 * r + 4)) 2 ∧ wrt (σ.1 81 (5 * r)) (σ.1 81 (5 * r + 4)) = nI (wm r)) (k : Q (nI (cn + xh wm s)) σ) : fMi E (d + 2) mX7_countedBy [.ref 78, .int (nI p), .int (nI s)] σ Q := by
  refine v_X7_countedBy ?_
  unfold t_X7_countedBy
  rw [n5_2, nI_clamp (by omega), h82]
  refine ⟨vp_in_nI (by omega) (by decide), ?_⟩
  rintro _ rfl
  have key : ∀ l i, i + l = 9 → h_X7_countedBy_14 E (d + 1) (nI s) (nI (cn + fb_sm (fun r => if s.testBit r = true then (if r = 8 then 2 else wm r) else 0) i)) (nI i) σ Q := by
    intro l
    induction l with
    | zero =>
      intro i hi
      refine v_X7_countedBy_14 ?_
      unfold t_X7_countedBy_14
      rw [show i = 9 by omega]
      exact ⟨fun _ => k, fun q => absurd (by decide) q⟩
    | succ l ih =>
      intro i hi
      refine v_X7_countedBy_14 ?_
      unfold t_X7_countedBy_14
      have st := ih (i + 1) (by omega)
      rw [fb_sm_succ] at st
      rw [md_bit9 (by omega) (by omega), nI_1 i, show (nI i = 8) ↔ i = 8 from nI_eq (by omega) (by decide)]
      refine ⟨fun q => absurd q (nI_ge (b := 9) (by omega) (by omega)), fun _ => ⟨fun q => ?_, fun q => ?_⟩⟩
      · have b : s.testBit i = true := by
          cases z : s.testBit i
          · rw [z] at q; exact absurd rfl q
          · rfl
        rw [if_pos b] at st
        refine ⟨fun q2 => ?_, fun q2 => ?_⟩
        · obtain ⟨a1, a2, a3⟩ := hw i (by omega) b
          refine c_worthOf (by omega) a1 a2 ?_
          rw [a3, nI_add]
          rw [if_neg q2] at st
          rw [Nat.add_assoc]
          exact st
        · rw [if_pos q2] at st
          rw [show (2 : Int32) = nI 2 from rfl, nI_add, Nat.add_assoc]
          exact st
      · have b : ¬ s.testBit i = true := by
          intro z
          rw [if_pos z] at q
          exact absurd q (by decide)
        rw [if_neg b] at st
        rw [show (0 : Int32) = nI 0 from rfl, nI_add, Nat.add_assoc]
        exact st
  exact key 9 0 (by omega)
/-- what the reference counts by -/
def sm_w (m p : Nat) (ρ g wm : Nat → Nat) (fr : Nat → Bool) (cn nd : Nat) (σ : FH) : Prop := σ.1 82 (5 * p + 2) = nI cn ∧ cn < 2 ^ 20 ∧ σ.1 78 7 = nI nd ∧ nd ≤ 60 ∧ (∀ j, j < m → ρ j < 8 → vp_in (σ.1 81 (5 * ρ j)) 5 ∧ vp_in (σ.1 81 (5 * ρ j + 4)) 2 ∧ wrt (σ.1 81 (5 * ρ j)) (σ.1 81 (5 * ρ j + 4)) = nI (wm (ρ j))) ∧ (∀ j, j < m → g j = if fr j then (if ρ j = 8 then 2 else wm (ρ j)) else 0) ∧ (∀ j, j < m → g j ≤ 4)
theorem sm_w.cg {σ' : FH} (H : sm_w m p ρ g wm fr cn nd σ) (hf : ∀ a i, (a < 84 ∨ 86 < a) → σ'.1 a i = σ.1 a i) : sm_w m p ρ g wm fr cn nd σ' := by
  obtain ⟨h1, h2, h3, h4, h5, h6, h7⟩ := H
  refine ⟨by rw [hf _ _ (by omega)]; exact h1, h2, by rw [hf _ _ (by omega)]; exact h3, h4, fun j q q2 => ?_, h6, h7⟩
  rw [hf _ _ (by omega), hf _ _ (by omega)]
  exact h5 j q q2
theorem rwH36 (hm : m ≤ 9) (hg : ∀ j, j < m → g j ≤ 4) (w : List Nat) : rwH m g w ≤ 36 := by
  rw [← rc_h_q]
  exact rc_h36 hm hg
/-- countedBy of a set that a walk leaves -/
theorem c_countedW {w : List Nat} {p' : Nat} (hx : sm_x nr p m A B h ρ fr p' W bar σ) (hw : sm_w m p ρ g wm fr cn nd σ) (hv : sw_v m A B p0 w) (k : Q (nI (cn + rwH m g w)) σ) : fMi E (d + 2) mX7_countedBy [.ref 78, .int (nI p), .int (nI (xs ρ fr w))] σ Q := by
  obtain ⟨hr, hρ⟩ := hx.s
  have hi := hx.2.2.2.2.2.2.2.2.2.2.1
  obtain ⟨h1, h2, h3, h4, h5, h6, h7⟩ := hw
  have mem := sw_v_mem w hv
  refine c_countedBy (wm := wm) hx.2.1 (xs_lt hρ w hv) h1 (fun r hr8 q => ?_) ?_
  · obtain ⟨j, a, b, c⟩ := (xs_bit w).mp q
    have := h5 j (mem j a) (by omega)
    rw [c] at this
    exact this
  · rw [xh_w hρ hi h6 mem]
    exact k
end ML4
