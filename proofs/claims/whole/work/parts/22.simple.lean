/-! small methods of the class, and the calls that need no loop -/
section C1
variable {E : am_E} {d : Nat} {σ : FH} {Q : Int32 → FH → Prop}
theorem lt_nle {a b : Int32} : (a < b) ↔ ¬ (b ≤ a) := by rw [fa_lt, fa_le]; omega
theorem c_cIsRoad {x : Int32} (k : Q (bi (0 ≤ x ∧ x < σ.1 4 1)) σ) : fMi E (d + 1) mX6_isRoad [.ref 1, .int x] σ Q := by
  refine v_X6_isRoad ?_
  unfold t_X6_isRoad
  refine ⟨fun h => ?_, fun h => ⟨fun h2 => ?_, fun h2 => ?_⟩⟩
  · rw [bi_f (fun q => lt_nle.mp h q.1)] at k; exact k
  · rw [bi_f (fun q => lt_nle.mp q.2 h2)] at k; exact k
  · rw [bi_t ⟨Classical.not_not.mp (fun q => h (lt_nle.mpr q)), lt_nle.mpr h2⟩] at k; exact k
theorem c_cIsPilgrim {x : Int32} (k : Q (bi (0 ≤ x ∧ x < σ.1 4 2)) σ) : fMi E (d + 1) mX6_isPilgrim [.ref 1, .int x] σ Q := by
  refine v_X6_isPilgrim ?_
  unfold t_X6_isPilgrim
  refine ⟨fun h => ?_, fun h => ⟨fun h2 => ?_, fun h2 => ?_⟩⟩
  · rw [bi_f (fun q => lt_nle.mp h q.1)] at k; exact k
  · rw [bi_f (fun q => lt_nle.mp q.2 h2)] at k; exact k
  · rw [bi_t ⟨Classical.not_not.mp (fun q => h (lt_nle.mpr q)), lt_nle.mpr h2⟩] at k; exact k
theorem c_asNumber {x : Int32} (hx : x = 0 ∨ x = 1) (k : Q x σ) : fMi E (d + 1) mX6_asNumber [.int x] σ Q := by
  refine v_X6_asNumber ?_
  unfold t_X6_asNumber
  refine ⟨fun h => by rw [h] at k; exact k, fun h => ?_⟩
  rcases hx with e | e
  · exact absurd e h
  · rw [e] at k; exact k
theorem c_outdate {Q : FH → Prop} (k : Q (fsI σ 71 9 0)) : fMv E (d + 1) mX3_outdate [.ref 71] σ Q := by
  refine v_X3_outdate ?_
  unfold t_X3_outdate
  rintro _ rfl
  exact k
/-- the class's and the reference's test of a number are one -/
theorem bi_rng {x : Int32} {n : Nat} (hn : n < 2 ^ 30) : (0 ≤ x ∧ x ≤ nI n - 1) ↔ (0 ≤ x ∧ x < nI n) := by
  have e : (nI n - 1).toInt = (n : Int) - 1 := by
    have := pk_sub_toInt (a := n) (b := 1) hn (by decide)
    exact this
  rw [fa_le x, e, fa_lt, nI_toInt (by omega)]
  constructor <;> rintro ⟨h1, h2⟩ <;> exact ⟨h1, by omega⟩
theorem rng_nI {x : Int32} {n : Nat} (hn : n < 2 ^ 30) (h : 0 ≤ x ∧ x < nI n) : ∃ j, j < n ∧ x = nI j := by
  refine vp_in_of (n := n) ?_ (by omega)
  rw [vp_in_iff]
  obtain ⟨h1, h2⟩ := h
  rw [fa_le] at h1
  rw [fa_lt, nI_toInt (by omega)] at h2
  exact ⟨h1, h2⟩
theorem nI_rng {j n : Nat} (hn : n < 2 ^ 30) (h : j < n) : (0 : Int32) ≤ nI j ∧ nI j < nI n := ⟨nI_pos' (by omega), nI_lt h (by omega)⟩
end C1
theorem iRw.off {nr nl nr' nl' : Nat} {σ σ' : FH} (h : iRw nr nl σ) (h0 : σ'.2 = σ.2) (h1 : σ'.1 71 9 = 0) : iRw nr' nl' σ' := ⟨by unfold iRf; rw [h0]; exact h.1, Or.inl h1⟩
theorem iWd.up {c c' nr np nl : Nat} {σ : FH} (h : iWd c nr np nl σ) (hc : c ≤ c') : iWd c' nr np nl σ := ⟨h.1.up hc, h.2⟩
theorem inv.up {c c' : Nat} {σ : FH} (h : inv c σ) (hc : c ≤ c') : inv c' σ := by
  obtain ⟨a, b, n, nr, np, nl, w, k, r⟩ := h
  exact ⟨a, b, n, nr, np, nl, w.up hc, k.up hc, r⟩
section OPS
variable {E : am_E} {d c : Nat} {σ : FH}
/-- letter -/
theorem op_letter {x : Int32} (h : inv c σ) : fMi E (d + 2) mX6_letter [.ref 1, .int x] σ (fun a σ1 => fMi E (d + 2) mX7_letter [.ref 78, .int x] σ1 (fun b σ2 => a = b ∧ inv (c + 1) σ2)) := by
  have h0 := h.up (Nat.le_succ c)
  obtain ⟨⟨n, a1, a2, a3, a4⟩, iF, iN, nr, np, nl, iW, iK, iR⟩ := h0
  have key : ∀ σ : FH, σ.1 78 1 = nI n → (P : Int32 → FH → Prop) → ((x < 1 ∨ ¬ x ≤ 126) → P (-102) σ) → (¬ x < 1 → x ≤ 126 → n = 44 → P (-104) σ) → (¬ x < 1 → x ≤ 126 → n < 44 → P (nI (n + 1)) (fsI (fsI σ 79 n x) 78 1 (nI (n + 1)))) → fMi E (d + 2) mX7_letter [.ref 78, .int x] σ P := by
    intro σ a3 P k1 k2 k3
    refine v_X7_letter ?_
    unfold t_X7_letter
    refine c_in32 1 126 rfl rfl ?_
    have e1 : (1 ≤ x ∧ x ≤ 126) ↔ (¬ x < 1 ∧ x ≤ 126) := by rw [lt_nle, Classical.not_not]
    simp only [bi0, Classical.not_not, e1, a3]
    refine ⟨fun hx => ⟨fun hn => ?_, fun hn => ?_⟩, fun hx => k1 ?_⟩
    · have hn' : n < 44 := by
        rcases Nat.lt_or_ge n 44 with q | q
        · exact q
        · exact absurd (by rw [show n = 44 by omega]; rfl) hn
      refine ⟨vp_in_nI hn' (by decide), ?_⟩
      rintro _ rfl _ rfl
      have := k3 hx.1 hx.2 hn'
      have e : (fsI σ 79 n x).1 78 1 = nI n := by rw [fsI_n (by omega)]; exact a3
      rw [nI_clamp (by omega), fsI_s, e, nI_1]
      exact this
    · exact k2 hx.1 hx.2 ((nI_eq (by omega) (by decide)).mp hn)
    · by_cases q : x < 1
      · exact Or.inl q
      · exact Or.inr (fun q2 => hx ⟨q, q2⟩)
  refine v_X6_letter ?_
  unfold t_X6_letter
  refine ⟨fun hx => ?_, fun hx => ⟨fun hx2 => ?_, fun hx2 => ?_⟩⟩
  · exact key σ a3 _ (fun _ => ⟨rfl, h.up (Nat.le_succ c)⟩) (fun q => absurd hx q) (fun q => absurd hx q)
  · refine v_X0_append ?_
    unfold t_X0_append
    rw [a2]
    refine ⟨fun hn => ?_, fun hn => ?_⟩
    · have hn' : n < 44 := (nI_ltI (by omega) (by decide)).mp hn
      refine ⟨vp_in_nI hn' (by decide), ?_⟩
      rintro _ rfl _ rfl
      refine ⟨fun q => absurd q (by decide), fun _ => ?_⟩
      have e : (fsI σ 3 n x).1 2 1 = nI n := by rw [fsI_n (by omega)]; exact a2
      rw [nI_clamp (by omega), fsI_s, e, nI_1]
      refine key _ (by rw [fsI_k (by decide), fsI_k (by decide)]; exact a3) _ (fun q => (q.elim hx (fun q => q hx2)).elim) (fun _ _ q => absurd q (by omega)) (fun _ _ _ => ⟨rfl, ?_⟩)
      refine ⟨⟨n + 1, by omega, by repeat rw [fsI_n (by omega)]
                                   exact fsI_s, by exact fsI_s, fun i hi => ?_⟩, iF.cg (by repeat rw [fsI_n (by omega)]) (by repeat rw [fsI_n (by omega)]) (by repeat rw [fsI_n (by omega)]), iN.cg (fun k h1 h2 h3 => by repeat rw [fsI_n (by omega)]), nr, np, nl, iW.cg (fun k j h1 h2 => by repeat rw [fsI_n (by omega)]) (fun j h1 => by repeat rw [fsI_n (by omega)]) (fun j => by repeat rw [fsI_n (by omega)]) (fun j => by repeat rw [fsI_n (by omega)]) (fun j => by repeat rw [fsI_n (by omega)]) (fun j h1 => by repeat rw [fsI_n (by omega)]), iK.cg (fun k j h1 h2 => by repeat rw [fsI_n (by omega)]) (fun k j h1 h2 => by repeat rw [fsI_n (by omega)]) (by repeat rw [fsI_n (by omega)]) (by repeat rw [fsI_n (by omega)]) (fun j h1 => by repeat rw [fsI_n (by omega)]) (by repeat rw [fsI_n (by omega)]), iR.cg iW.1.1 rfl (fun k j h1 h2 h3 => by repeat rw [fsI_n (by omega)]) (fun j => by repeat rw [fsI_n (by omega)]) (fun j h1 => by repeat rw [fsI_n (by omega)]) (fun j => by repeat rw [fsI_n (by omega)])⟩
      by_cases hin : i = n
      · subst hin
        have e1 : (fsI (fsI (fsI (fsI σ 3 i x) 2 1 (nI (i + 1))) 79 i x) 78 1 (nI (i + 1))).1 79 i = x := by rw [fsI_n (by omega)]; exact fsI_s
        have e2 : (fsI (fsI (fsI (fsI σ 3 i x) 2 1 (nI (i + 1))) 79 i x) 78 1 (nI (i + 1))).1 3 i = x := by rw [fsI_n (by omega), fsI_n (by omega), fsI_n (by omega)]; exact fsI_s
        rw [e1, e2]
        refine ⟨rfl, ?_⟩
        obtain ⟨j, hj, e⟩ := nI_of2 (x := x) (M := 126) (n := 126) rfl (fun q => hx (by rw [fa_lt] at q ⊢; exact Int.lt_trans q (by decide))) hx2
        exact ⟨j, by
          rcases Nat.lt_or_ge 0 j with q | q
          · exact q
          · exact absurd (by rw [e, show j = 0 by omega]; decide) hx, hj, e⟩
      · have hin' : i < n := by omega
        have := a4 i hin'
        have e1 : (fsI (fsI (fsI (fsI σ 3 n x) 2 1 (nI (n + 1))) 79 n x) 78 1 (nI (n + 1))).1 79 i = σ.1 79 i := by repeat rw [fsI_n (by omega)]
        have e2 : (fsI (fsI (fsI (fsI σ 3 n x) 2 1 (nI (n + 1))) 79 n x) 78 1 (nI (n + 1))).1 3 i = σ.1 3 i := by repeat rw [fsI_n (by omega)]
        rw [e1, e2]
        exact this
    · refine ⟨fun _ => ?_, fun q => absurd rfl q⟩
      refine key σ a3 _ (fun q => (q.elim hx (fun q => q hx2)).elim) (fun _ _ _ => ⟨rfl, h.up (Nat.le_succ c)⟩) (fun _ _ q => absurd (nI_lt q (by decide)) hn)
  · exact key σ a3 _ (fun _ => ⟨rfl, h.up (Nat.le_succ c)⟩) (fun _ q => absurd q hx2) (fun _ q => absurd q hx2)
end OPS
