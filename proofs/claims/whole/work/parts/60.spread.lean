/-! Search: spread, leastCost -/
def sg_R (n : Nat) (A B h g : Nat → Nat) : Prop := ∀ r, r < n → A r < 6 ∧ B r < 6 ∧ h r ≤ 9 ∧ g r ≤ 4 ∧ 1 ≤ h r
theorem sg_R.s {n : Nat} {A B h g : Nat → Nat} (H : sg_R n A B h g) : ∀ r, r < n → A r < 6 ∧ B r < 6 ∧ 1 ≤ h r := fun r q => ⟨(H r q).1, (H r q).2.1, (H r q).2.2.2.2⟩
/-- walks to the goal by which just so many are counted -/
def wy (n : Nat) (A B h g : Nat → Nat) (p0 cn nd lim : Nat) (w : List Nat) : Prop := sw_v n A B p0 w ∧ sw_p A B p0 w = 5 ∧ cn + rwH n g w = nd ∧ sw_h h w ≤ lim
def lc (n : Nat) (A B h g ρ : Nat → Nat) (p0 cn nd lim v : Nat) : Prop := (v = 1000000000 ∧ ∀ w, ¬ wy n A B h g p0 cn nd lim w) ∨ ∃ w, wy n A B h g p0 cn nd lim w ∧ v = xn h ρ w ∧ ∀ w', wy n A B h g p0 cn nd lim w' → xn h ρ w ≤ xn h ρ w'
theorem rc_h36 {n s : Nat} {g : Nat → Nat} (hn : n ≤ 9) (hg : ∀ r, r < n → g r ≤ 4) : rc_h g n s ≤ 36 := by
  have := fb_sm_bound (f := fun r => if 0 < g r ∧ s.testBit (rc_k g r) = true then g r else 0) (c := 4) (n := n) (fun k hk => by
    show (if _ then g k else 0) ≤ 4
    split
    · exact hg k hk
    · omega)
  unfold rc_h
  omega
section SD
variable {E : am_E} {d : Nat} {σ : FH} {Q : Int32 → FH → Prop} {QV : FH → Prop} {A B h g : Nat → Nat}
theorem c_spread {n p0 lim mg : Nat} (hn : n ≤ 9) (hp : p0 < 6) (hR : sr_R n A B h g σ) (hr : sg_R n A B h g) (hl : lim ≤ 99) (h8 : σ.1 64 8 = nI lim) (hmg : mg < 2 ^ 31)
    (k : ∀ σ' C, σ'.2 = σ.2 → (∀ a j, a ≠ 70 → σ'.1 a j = σ.1 a j) → (∀ z, z < 2 ^ rc_k g n * 6 → σ'.1 70 z = nI (C z)) → sp_I n A B h g p0 lim mg C (2 ^ rc_k g n) → QV σ') : fMv E (d + 3) mX4_spread [.ref 64, .int (nI p0), .int (nI mg)] σ QV := by
  have kl := rc_k_le g n
  have pw : 2 ^ rc_k g n ≤ 512 := Nat.le_trans (Nat.pow_le_pow_right (by decide) (show rc_k g n ≤ 9 by omega)) (by decide)
  have pw0 : 0 < 2 ^ rc_k g n := Nat.two_pow_pos _
  refine v_X4_spread ?_
  unfold t_X4_spread
  rw [hR.2.1, show (6 : Int32) = nI 6 from rfl, pk_mul]
  have key2 : ∀ l s t C, s + l = 2 ^ rc_k g n → t.2 = σ.2 → (∀ a j, a ≠ 70 → t.1 a j = σ.1 a j) → (∀ z, z < 2 ^ rc_k g n * 6 → t.1 70 z = nI (C z)) → sp_I n A B h g p0 lim mg C s → h_X4_spread_42 E (d + 2) (nI mg) (nI s) t QV := by
    intro l
    induction l with
    | zero =>
      intro s t C hs t2 tf tv tI
      refine v_X4_spread_42 ?_
      unfold t_X4_spread_42
      rw [show s = 2 ^ rc_k g n by omega] at *
      rw [tf 64 7 (by omega), hR.2.1]
      exact ⟨fun _ => k t C t2 tf tv tI, fun q => absurd (nI_le (Nat.le_refl _) (by omega)) q⟩
    | succ l ih =>
      intro s t C hs t2 tf tv tI
      refine v_X4_spread_42 ?_
      unfold t_X4_spread_42
      rw [tf 64 7 (by omega), hR.2.1, nI_1 s]
      refine ⟨fun q => absurd q (nI_ge (by omega) (by omega)), fun _ => c_isReached (C := C) (by omega) (fun p hp' => ⟨by have := tI.1 (s * 6 + p); omega, tv _ (by omega)⟩) (fun q => ⟨fun _ => ?_, fun q2 => absurd rfl q2⟩) (fun q => ⟨fun q2 => absurd q2 (by decide), fun _ => ?_⟩)⟩
      · exact ih (s + 1) t C (by omega) t2 tf tv (sp_skip tI q)
      · refine c_settle (lim := lim) hn (by omega) (hR.cg (fun a i q => tf _ _ (by omega))) (fun r q => ⟨(hr r q).1, (hr r q).2.1, (hr r q).2.2.1⟩) tI.1 tv hl (by rw [tf _ _ (by omega)]; exact h8) (fun u m hm u2 uf uv um => ?_)
        refine c_leave (lim := lim) hn (by omega) hmg (hR.cg (fun a i q => by rw [uf _ _ (by omega)]; exact tf _ _ (by omega))) (fun r q => ⟨(hr r q).1, (hr r q).2.1, (hr r q).2.2.1, (hr r q).2.2.2.1⟩) (rs_i_ok hl tI.1 m) uv hl (by rw [uf _ _ (by omega), tf _ _ (by omega)]; exact h8) (fun w w2 wf wv => ?_)
        exact ih (s + 1) w _ (by omega) (by rw [w2, u2, t2]) (fun a j q => by rw [wf _ _ q, uf _ _ q, tf _ _ q]) wv (sp_step hr.s hp hl tI um)
  have key1 : ∀ l i t, i + l = 2 ^ rc_k g n * 6 → t.2 = σ.2 → (∀ a j, a ≠ 70 → t.1 a j = σ.1 a j) → (∀ z, z < i → t.1 70 z = nI 1000000000) → h_X4_spread_11 E (d + 2) (nI p0) (nI mg) (nI (2 ^ rc_k g n * 6)) (nI i) t QV := by
    intro l
    induction l with
    | zero =>
      intro i t hi t2 tf tv
      refine v_X4_spread_11 ?_
      unfold t_X4_spread_11
      rw [show i = 2 ^ rc_k g n * 6 by omega] at *
      rw [nI_clamp (show p0 < 2 ^ 31 by omega)]
      refine ⟨fun _ => ⟨vp_in_nI (by omega) (by decide), ?_⟩, fun q => absurd (nI_le (Nat.le_refl _) (by omega)) q⟩
      rintro _ rfl
      refine key2 (2 ^ rc_k g n) 0 _ (fun z => if z = p0 then 0 else 1000000000) (by omega) t2 (fun a j q => by rw [fsI_k q]; exact tf a j q) (fun z hz => ?_) ⟨fun z => ?_, fun z hz => ?_, ?_, fun z hz => absurd hz (by omega)⟩
      · by_cases e : z = p0
        · subst e; rw [if_pos rfl, fsI_s]; rfl
        · rw [if_neg e, fsI_j e]; exact tv z hz
      · by_cases e : z = p0
        · right; dsimp only; rw [if_pos e]; decide
        · left; dsimp only; rw [if_neg e]
      · dsimp only at hz ⊢
        by_cases e : z = p0
        · rw [if_pos e]
          exact ⟨[], trivial, by unfold sf; rw [e]; show 0 * 6 + p0 = p0; omega, rfl, Nat.zero_le _⟩
        · rw [if_neg e] at hz; exact absurd rfl hz
      · dsimp only
        rw [if_pos rfl]
    | succ l ih =>
      intro i t hi t2 tf tv
      refine v_X4_spread_11 ?_
      unfold t_X4_spread_11
      rw [nI_clamp (show i < 2 ^ 31 by omega), nI_1 i]
      refine ⟨fun q => absurd q (nI_ge (by omega) (by omega)), fun _ => ⟨vp_in_nI (by omega) (by decide), ?_⟩⟩
      rintro _ rfl
      refine ih (i + 1) _ (by omega) t2 (fun a j q => by rw [fsI_k q]; exact tf a j q) (fun z hz => ?_)
      by_cases e : z = i
      · subst e; rw [fsI_s]; rfl
      · rw [fsI_j e]; exact tv z (by omega)
  exact key1 (2 ^ rc_k g n * 6) 0 σ (by omega) rfl (fun _ _ _ => rfl) (fun z q => absurd q (by omega))
theorem c_leastCost {n p0 lim cn nd : Nat} {x : Int32} (hn : n ≤ 9) (hp : p0 < 6) (hR : sr_R n A B h g σ) (hr : sg_R n A B h g) (hl : lim ≤ 99) (h8 : σ.1 64 8 = nI lim) (hcn : cn < 2 ^ 20) (hnd : nd < 2 ^ 20) (hx : x = nI nd - nI cn)
    (k : ∀ σ' v, σ'.2 = σ.2 → (∀ a j, a ≠ 70 → σ'.1 a j = σ.1 a j) → (v = 1000000000 ∨ v < 2 ^ 20) → lc n A B h g (fun r => r) p0 cn nd lim v → Q (nI v) σ') : fMi E (d + 4) mX4_leastCost [.ref 64, .int (nI p0), .int x] σ Q := by
  have kl := rc_k_le g n
  have pw : 2 ^ rc_k g n ≤ 512 := Nat.le_trans (Nat.pow_le_pow_right (by decide) (show rc_k g n ≤ 9 by omega)) (by decide)
  refine v_X4_leastCost ?_
  unfold t_X4_leastCost
  rcases Nat.lt_or_ge nd cn with hlt | hge
  · have neg : x < 0 := by rw [hx]; exact pk_sneg (by omega) hlt
    refine ⟨fun q => absurd q (fa_of_lt neg).2.1, fun _ => ?_⟩
    exact k σ 1000000000 rfl (fun _ _ _ => rfl) (Or.inl rfl) (Or.inl ⟨rfl, fun w q => by have := q.2.2.1; omega⟩)
  · rw [pk_sub hge] at hx
    rw [hx]
    refine ⟨fun _ => ?_, fun q => absurd (nI_pos' (by omega)) q⟩
    refine c_spread (lim := lim) hn hp hR hr hl h8 (by omega) (fun u C u2 uf uv uI => ?_)
    have fin : ∀ v, (v = 1000000000 ∨ ∃ s, s < 2 ^ rc_k g n ∧ rc_h g n s = nd - cn ∧ v = C (s * 6 + 5)) → (∀ s, s < 2 ^ rc_k g n → rc_h g n s = nd - cn → v ≤ C (s * 6 + 5)) → Q (nI v) u := by
      intro v h1 h2
      have low : ∀ w, wy n A B h g p0 cn nd lim w → v ≤ xn h (fun r => r) w := by
        rintro w ⟨w1, w2, w3, w4⟩
        have a := sp_all hn hr.s hp hl uI w w1 (by omega) w4
        have lt := rc_s_lt (wt := g) (nr := n) w (sw_v_mem w w1)
        have b := h2 _ lt (by rw [rc_h_q]; omega)
        unfold sf at a
        rw [w2] at a
        omega
      have vb : v = 1000000000 ∨ v < 2 ^ 20 := by
        rcases h1 with e | ⟨s, _, _, e⟩
        · exact Or.inl e
        · rw [e]; exact uI.1 _
      refine k u v u2 uf vb ?_
      rcases Nat.eq_or_lt_of_le (show v ≤ 1000000000 by omega) with e | e
      · refine Or.inl ⟨e, fun w q => ?_⟩
        have := low w q
        have p := xn_parts (ρ := fun r => r) (fun r z => (hr.s r z).2.2) (fun r z => by show r < 16; omega) q.1 (by have := q.2.2.2; omega)
        omega
      · rcases h1 with q | ⟨s, s1, s2, s3⟩
        · omega
        · obtain ⟨w, w1, w2, w3, w4⟩ := uI.2.1 (s * 6 + 5) (by omega)
          have h6 := sw_p6 hp (fun r q => (hr.s r q).1) (fun r q => (hr.s r q).2.1) w w1
          unfold sf at w2
          have es : rc_s g w = s := by omega
          have ep : sw_p A B p0 w = 5 := by omega
          refine Or.inr ⟨w, ⟨w1, ep, ?_, w4⟩, by rw [w3, s3], fun w' q => ?_⟩
          · have := rc_h_q (wt := g) (nr := n) w
            rw [es] at this
            omega
          · have := low w' q
            omega
    have key : ∀ l i v, i + l = 2 ^ rc_k g n → v ≤ 1000000000 → (v = 1000000000 ∨ ∃ s, s < i ∧ rc_h g n s = nd - cn ∧ v = C (s * 6 + 5)) → (∀ s, s < i → rc_h g n s = nd - cn → v ≤ C (s * 6 + 5)) → h_X4_leastCost_19 E (d + 3) (nI (nd - cn)) (nI v) (nI i) u Q := by
      intro l
      induction l with
      | zero =>
        intro i v hi hv h1 h2
        refine v_X4_leastCost_19 ?_
        unfold t_X4_leastCost_19
        rw [show i = 2 ^ rc_k g n by omega] at *
        rw [uf 64 7 (by omega), hR.2.1]
        exact ⟨fun _ => fin v h1 h2, fun q => absurd (nI_le (Nat.le_refl _) (by omega)) q⟩
      | succ l ih =>
        intro i v hi hv h1 h2
        refine v_X4_leastCost_19 ?_
        unfold t_X4_leastCost_19
        have c36 := rc_h36 (s := i) hn (fun r q => (hr r q).2.2.2.1)
        rw [uf 64 7 (by omega), hR.2.1, nI_clamp (show i < 2 ^ 31 by omega), uf 69 i (by omega), hR.2.2.2 i (by omega), nI_eq (by omega) (by omega), nI_1 i, show (6 : Int32) = nI 6 from rfl, pk_mul, show (5 : Int32) = nI 5 from rfl, nI_add, nI_clamp (show i * 6 + 5 < 2 ^ 31 by omega), uv (i * 6 + 5) (by omega)]
        have cb : C (i * 6 + 5) ≤ 1000000000 := by have := uI.1 (i * 6 + 5); omega
        refine ⟨fun q => absurd q (nI_ge (by omega) (by omega)), fun _ => ⟨vp_in_nI (by omega) (by decide), fun q => ih (i + 1) v (by omega) hv (h1.imp (fun z => z) (fun ⟨s, s1, s2⟩ => ⟨s, by omega, s2⟩)) (fun s hs he => ?_), fun q => ⟨vp_in_nI (by omega) (by decide), ?_⟩⟩⟩
        · by_cases e : s = i
          · subst e; exact absurd he q
          · exact h2 s (by omega) he
        · rintro _ rfl
          by_cases z : C (i * 6 + 5) < v
          · rw [if_pos (nI_lt z (by omega))]
            refine ih (i + 1) _ (by omega) cb (Or.inr ⟨i, by omega, q, rfl⟩) (fun s hs he => ?_)
            by_cases e : s = i
            · subst e; exact Nat.le_refl _
            · have := h2 s (by omega) he
              omega
          · rw [if_neg (nI_nlt (by omega) (by omega))]
            refine ih (i + 1) v (by omega) hv (h1.imp (fun z => z) (fun ⟨s, s1, s2⟩ => ⟨s, by omega, s2⟩)) (fun s hs he => ?_)
            by_cases e : s = i
            · subst e; omega
            · exact h2 s (by omega) he
    exact key (2 ^ rc_k g n) 0 1000000000 (by omega) (Nat.le_refl _) (Or.inl rfl) (fun s q => absurd q (by omega))
end SD
