/-! Search: one edge -/
section SI
variable {E : am_E} {d : Nat} {σ : FH} {Q : Int32 → FH → Prop} {QV : FH → Prop}
theorem c_improve {i x y hi cx cy lim : Nat} (hi9 : i < 9) (hx : x < 3072) (hy : y < 3072) (h9 : hi ≤ 9) (h67 : σ.1 67 i = nI hi) (hcx : σ.1 70 x = nI cx) (hcy : σ.1 70 y = nI cy) (bx : cx = 1000000000 ∨ cx < 2 ^ 20) (byy : cy ≤ 1000000000) (hl : lim < 2 ^ 20) (h8 : σ.1 64 8 = nI lim)
    (k0 : (cx = 1000000000 ∨ cy ≤ sw_e (fun _ => hi) cx i ∨ lim < sw_e (fun _ => hi) cx i / 2048) → Q 0 σ) (k1 : cx < 2 ^ 20 → sw_e (fun _ => hi) cx i < cy → sw_e (fun _ => hi) cx i / 2048 ≤ lim → Q 1 (fsI σ 70 y (nI (sw_e (fun _ => hi) cx i)))) : fMi E (d + 1) mX4_improve [.ref 64, .int (nI i), .int (nI x), .int (nI y)] σ Q := by
  refine v_X4_improve ?_
  unfold t_X4_improve
  rw [nI_clamp (by omega), hcx, show (nI cx = 1000000000) ↔ cx = 1000000000 from nI_eq (by omega) (by decide), show (nI cx = 0) ↔ cx = 0 from nI_eq (by omega) (by decide)]
  have sh : nI hi <<< ((11 : Int32) &&& 31) = nI (hi * 2 ^ 11) := pk_shlN _ 11 (by decide) (by omega)
  have body : cx < 2 ^ 20 → ∀ f, f = (if cx = 0 then i else 0) → t_X4_improve_27 E d (nI i) (nI x) (nI y) (nI f) σ Q := by
    intro hc f hf
    unfold t_X4_improve_27
    rw [nI_clamp (by omega), nI_clamp (by omega), nI_clamp (by omega), hcx, h67, sh, hcy, h8]
    refine ⟨vp_in_nI hx (by decide), vp_in_nI hi9 (by decide), ?_⟩
    rintro _ rfl
    have f9 : f < 9 := by rw [hf]; split <;> omega
    have ev : nI cx + nI (hi * 2 ^ 11) + 16 + nI f = nI (sw_e (fun _ => hi) cx i) := by
      rw [nI_add, show (16 : Int32) = nI 16 from rfl, nI_add, nI_add, hf]
      rfl
    have vl : sw_e (fun _ => hi) cx i < 2 ^ 30 := by unfold sw_e; rw [← hf]; show cx + hi * 2048 + 16 + f < 2 ^ 30; omega
    rw [ev]
    have es : nI (sw_e (fun _ => hi) cx i) >>> ((11 : Int32) &&& 31) = nI (sw_e (fun _ => hi) cx i / 2048) := pk_shrN (by omega) _ 11 (by decide)
    rw [es, nI_leI (by omega) (by omega), nI_leI (by omega) (by omega)]
    refine ⟨vp_in_nI hy (by decide), fun h => k0 (Or.inr (Or.inl h)), fun h => ⟨fun h2 => ⟨vp_in_nI hy (by decide), ?_⟩, fun h2 => k0 (Or.inr (Or.inr (by omega)))⟩⟩
    rintro _ rfl
    exact k1 hc (by omega) h2
  refine ⟨vp_in_nI hx (by decide), fun h => ⟨vp_in_nI hx (by decide), fun h2 => body (by omega) 0 (by rw [if_neg h2]), fun h2 => body (by omega) i (by rw [if_pos h2])⟩, fun h => k0 (Or.inl h)⟩
end SI
