/-! the reference's ways: bestAt, wayBy -/
section MB
variable {E : am_E} {d : Nat} {σ : FH} {Q : Int32 → FH → Prop} {QV : FH → Prop} {m nr p : Nat} {A B h ρ g wm : Nat → Nat} {fr : Nat → Bool} {p0 lim W cn nd : Nat} {bar : Int32}
/-- the cell that is told, or none -/
def bv (σ : FH) (v : Int32) (c : Nat) : Prop := (v = -1 ∧ c = 1000000000) ∨ ∃ z, z < 3072 ∧ v = nI z ∧ rf_c σ z c ∧ c ≠ 1000000000
theorem c_bestAt {D : Nat → Nat} (hx : sm_x nr p m A B h ρ fr p0 W bar σ) (hw : sm_w m p ρ g wm fr cn nd σ) (hl : lim ≤ 99) (hD : ∀ z, z < 3072 → rf_c σ z (D z)) (hS : xS m A B h ρ fr p0 lim D) (h0 : D (512 * p0) = 0) (hc : ∀ z, z < 3072 → xC m A B h ρ fr lim D z)
    (k : ∀ v c, bv σ v c → lc m A B h g ρ p0 cn nd lim c → Q v σ) : fMi E (d + 3) mX7_bestAt [.ref 78, .int (nI p)] σ Q := by
  obtain ⟨hr, hρ⟩ := hx.s
  have hi := hx.2.2.2.2.2.2.2.2.2.2.1
  have p6 := hx.2.2.2.2.2.2.2.2.2.2.2.2
  have m9 := hx.2.2.1
  obtain ⟨w1, w2, w3, w4, w5, w6, w7⟩ := id hw
  have hh : ∀ r, r < m → 1 ≤ h r := fun r q => (hr r q).2.2
  have all := x_all hr hρ p6 hl hS h0 hc
  refine v_X7_bestAt ?_
  unfold t_X7_bestAt
  -- a set counts just so many
  have key : ∀ l i v c, i + l = 512 → ((v = -1 ∧ c = 1000000000) ∨ ∃ s, s < i ∧ v = nI (2560 + s) ∧ D (2560 + s) = c ∧ c ≠ 1000000000 ∧ cn + xh wm s = nd) → (∀ s, s < i → D (2560 + s) ≠ 1000000000 → cn + xh wm s = nd → c ≤ D (2560 + s)) → h_X7_bestAt_4 E (d + 2) (nI p) v (nI i) σ Q := by
    intro l
    induction l with
    | zero =>
      intro i v c hi' b1 b2
      refine v_X7_bestAt_4 ?_
      unfold t_X7_bestAt_4
      rw [show i = 512 by omega] at *
      refine ⟨fun _ => k v c ?_ ?_, fun q => absurd (by decide) q⟩
      · rcases b1 with q | ⟨s, s1, s2, s3, s4, s5⟩
        · exact Or.inl q
        · exact Or.inr ⟨2560 + s, by omega, s2, by rw [← s3]; exact hD _ (by omega), s4⟩
      · have low : ∀ w, wy m A B h g p0 cn nd lim w → c ≤ xn h ρ w := by
          rintro w ⟨a1, a2, a3, a4⟩
          have a := all w a1 a4
          have lt := xs_lt (fr := fr) hρ w a1
          have wp := xn_parts (ρ := ρ) hh (fun r z => by have := hρ r z; omega) a1 (by omega)
          unfold xq at a
          rw [a2, show 512 * 5 = 2560 from rfl] at a
          have := b2 (xs ρ fr w) lt (by omega) (by rw [xh_w hρ hi w6 (sw_v_mem w a1)]; exact a3)
          omega
        rcases b1 with q | ⟨s, s1, s2, s3, s4, s5⟩
        · refine Or.inl ⟨q.2, fun w z => ?_⟩
          have := low w z
          have wp := xn_parts (ρ := ρ) hh (fun r z => by have := hρ r z; omega) z.1 (by have := z.2.2.2; omega)
          omega
        · obtain ⟨w, a1, a2, a3, a4⟩ := hS (2560 + s) (by omega)
          have lt := xs_lt (fr := fr) hρ w a1
          unfold xq at a2
          have e1 : sw_p A B p0 w = 5 := by omega
          have e2 : xs ρ fr w = s := by omega
          refine Or.inr ⟨w, ⟨a1, e1, ?_, a4⟩, by rw [a3]; exact s3.symm, fun w' z => ?_⟩
          · rw [← xh_w hρ hi w6 (sw_v_mem w a1), e2]; exact s5
          · have := low w' z
            omega
    | succ l ih =>
      intro i v c hi' b1 b2
      refine v_X7_bestAt_4 ?_
      unfold t_X7_bestAt_4
      have rz := hD (2560 + i) (by omega)
      have z1 : vp_in (nI (2560 + i)) 3072 := vp_in_nI (by omega) (by decide)
      rw [show (2560 : Int32) = nI 2560 from rfl, nI_add, nI_clamp (by omega), rz.n1, nI_1 i]
      have skip : (D (2560 + i) ≠ 1000000000 → cn + xh wm i = nd → c ≤ D (2560 + i)) → h_X7_bestAt_4 E (d + 2) (nI p) v (nI (i + 1)) σ Q := by
        intro q
        refine ih (i + 1) v c (by omega) (b1.imp (fun z => z) (fun ⟨s, s1, s2⟩ => ⟨s, by omega, s2⟩)) (fun s hs e1 e2 => ?_)
        by_cases e : s = i
        · subst e; exact q e1 e2
        · exact b2 s (by omega) e1 e2
      refine ⟨fun q => absurd q (nI_ge (b := 512) (by omega) (by omega)), fun _ => ⟨z1, fun q => skip (fun z => absurd q z), fun q => ?_⟩⟩
      obtain ⟨w, a1, a2, a3, a4⟩ := hS (2560 + i) q
      have lt := xs_lt (fr := fr) hρ w a1
      unfold xq at a2
      have e1 : sw_p A B p0 w = 5 := by have := sw_p6 p6 (fun r q => (hr r q).1) (fun r q => (hr r q).2.1) w a1; omega
      have e2 : xs ρ fr w = i := by omega
      have xw := xh_w (w := w) hρ hi w6 (sw_v_mem w a1)
      have r36 := rwH36 m9 w7 w
      have cw : ∀ Q' : Int32 → FH → Prop, Q' (nI (cn + rwH m g w)) σ → fMi E (d + 2) mX7_countedBy [.ref 78, .int (nI p), .int (nI i)] σ Q' := by
        intro Q' kq
        have := c_countedW (E := E) (d := d) (Q := Q') hx hw a1 kq
        rw [e2] at this
        exact this
      refine cw _ ?_
      rw [w3, nI_eq (show cn + rwH m g w < 2 ^ 31 by omega) (by omega), ← xw, e2]
      refine ⟨fun q2 => skip (fun _ z => absurd z q2), fun q2 => ?_⟩
      have take : D (2560 + i) < c → h_X7_bestAt_4 E (d + 2) (nI p) (nI (2560 + i)) (nI (i + 1)) σ Q := by
        intro z
        refine ih (i + 1) _ (D (2560 + i)) (by omega) (Or.inr ⟨i, by omega, rfl, rfl, q, q2⟩) (fun s hs e1 e2 => ?_)
        by_cases e : s = i
        · subst e; exact Nat.le_refl _
        · have := b2 s (by omega) e1 e2
          omega
      have skip' : ¬ D (2560 + i) < c → h_X7_bestAt_4 E (d + 2) (nI p) v (nI (i + 1)) σ Q := fun z => skip (fun _ _ => by omega)
      have lt20 : D (2560 + i) < 2 ^ 20 := rz.b.resolve_left q
      rcases b1 with ⟨v1, c1⟩ | ⟨s, s1, s2, s3, s4, s5⟩
      · exact ⟨fun _ => take (by omega), fun z => absurd v1 z⟩
      · have rs := hD (2560 + s) (by omega)
        rw [s3] at rs
        have vz : vp_in v 3072 := by rw [s2]; exact vp_in_nI (by omega) (by decide)
        have vc : v.toNatClampNeg = 2560 + s := by rw [s2]; exact nI_clamp (by omega)
        have vn : ¬ v = -1 := fun z => by
          have := nI_pos (n := 2560 + s) (by omega)
          rw [← s2, z] at this
          exact absurd (by decide) this
        rw [vc]
        refine ⟨fun z => absurd z vn, fun _ => ⟨z1, vz, ?_⟩⟩
        rcases rz with a | a | a
        · exact absurd a.1 q
        · rcases rs with b | b | b
          · exact absurd b.1 s4
          · rw [a.2.1, a.2.2.1, a.2.2.2, b.2.1, b.2.2.1, b.2.2.2]
            exact ⟨fun z => absurd z (by decide), fun _ => ⟨z1, vz, fun z => absurd rfl z, fun _ => ⟨z1, vz, fun z => absurd z (by decide), fun _ => ⟨z1, vz, fun z => absurd rfl z, fun _ => ⟨z1, vz, fun _ => skip' (by omega), fun z => absurd (by decide) z⟩⟩⟩⟩⟩
          · rw [a.2.1, b.2.2.1]
            exact ⟨fun _ => take (by omega), fun z => absurd (nI_lt (a := 0) (b := c / 2048) (by omega) (by omega)) z⟩
        · rcases rs with b | b | b
          · exact absurd b.1 s4
          · rw [a.2.2.1, b.2.1]
            refine ⟨fun z => absurd z (nI_pos (by omega)), fun _ => ⟨z1, vz, fun _ => skip' (by omega), fun z => absurd z (nI_ne0 (by omega) (by omega))⟩⟩
          · rw [a.2.2.1, a.2.2.2.1, a.2.2.2.2, b.2.2.1, b.2.2.2.1, b.2.2.2.2, nI_ltI (a := D (2560 + i) / 2048) (b := c / 2048) (by omega) (by omega), nI_eq (a := D (2560 + i) / 2048) (b := c / 2048) (by omega) (by omega), nI_ltI (a := D (2560 + i) / 16 % 128) (b := c / 16 % 128) (by omega) (by omega), nI_eq (a := D (2560 + i) / 16 % 128) (b := c / 16 % 128) (by omega) (by omega), nI_leI (a := c % 16) (b := D (2560 + i) % 16) (by omega) (by omega)]
            refine ⟨fun t => take (by omega), fun t => ⟨z1, vz, fun t2 => skip' (by omega), fun t2 => ⟨z1, vz, fun t3 => take (by omega), fun t3 => ⟨z1, vz, fun t4 => skip' (by omega), fun t4 => ⟨z1, vz, fun t5 => skip' (by omega), fun t5 => take (by omega)⟩⟩⟩⟩⟩
  exact key 512 0 (-1) 1000000000 (by omega) (Or.inl ⟨rfl, rfl⟩) (fun s q => absurd q (by omega))
/-- layWays and then bestAt -/
theorem c_layBest (hx : sm_x nr p m A B h ρ fr p0 W bar σ) (hw : sm_w m p ρ g wm fr cn nd σ) (hl : lim ≤ 99)
    (k : ∀ σ' v c, σ'.2 = σ.2 → (∀ a i, (a < 84 ∨ 86 < a) → σ'.1 a i = σ.1 a i) → bv σ' v c → lc m A B h g ρ p0 cn nd lim c → Q v σ') : fMv E (d + 3) mX7_layWays [.ref 78, .int (nI p), .int (nI lim)] σ (fun σ4 => fMi E (d + 3) mX7_bestAt [.ref 78, .int (nI p)] σ4 Q) := by
  refine c_layWays hx hl (fun t D tI tc => ?_)
  obtain ⟨t2, tf, tr, tS, t0⟩ := tI
  exact c_bestAt (hx.cg tf) (hw.cg tf) hl tr tS t0 tc (fun v c b l => k t v c t2 tf b l)
end MB
