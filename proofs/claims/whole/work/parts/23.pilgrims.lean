/-! pilgrims: the methods of the class and of the reference, and what keeps the invariant -/
theorem inv_keep {c nr : Nat} {σ σ' : FH} (iP : iPg σ) (iF : iFr σ) (iN : iNm σ) (iK : iKp c nr σ) (h : ∀ a i, (a = 1 ∨ (a = 2 ∧ i = 1) ∨ a = 3 ∨ (8 ≤ a ∧ a ≤ 55 ∧ i = 0 ∧ (a ≤ 15 ∨ (28 ≤ a ∧ a ≤ 35) ∨ 48 ≤ a)) ∨ (24 ≤ a ∧ a < 44) ∨ a = 79 ∨ (92 ≤ a ∧ a < 96) ∨ (a = 78 ∧ (i = 1 ∨ i = 8 ∨ i = 14 ∨ (27 ≤ i ∧ i ≤ 30))) ∨ (a = 4 ∧ i = 0) ∨ (a = 69 ∧ i = 0)) → σ'.1 a i = σ.1 a i) : iPg σ' ∧ iFr σ' ∧ iNm σ' ∧ iKp c nr σ' :=
  ⟨iP.cg (h _ _ (by omega)) (h _ _ (by omega)) (fun j => h _ _ (by omega)) (fun j => h _ _ (by omega)), iF.cg (h _ _ (by omega)) (h _ _ (by omega)) (h _ _ (by omega)), iN.cg (fun k h1 h2 h3 => h _ _ (by omega)), iK.cg (fun k j h1 h2 => h _ _ (by omega)) (fun k j h1 h2 => h _ _ (by omega)) (h _ _ (by omega)) (h _ _ (by omega)) (fun j h1 => h _ _ (by omega)) (h _ _ (by omega))⟩
theorem iWd.pg {c c' nr np nl p : Nat} {σ σ' : FH} (h : iWd c nr np nl σ) (hc : c ≤ c') (fr : ∀ a i, ((4 ≤ a ∧ a < 24 ∧ a ≠ 16 + 2 * p ∧ a ≠ 17 + 2 * p ∧ ¬ (a = 4 ∧ i = 3)) ∨ (a = 81 ∧ i < 40) ∨ (a = 82 ∧ ¬ (5 * p ≤ i ∧ i < 5 * p + 5)) ∨ (a = 83 ∧ ¬ (8 * p ≤ i ∧ i < 8 * p + 8)) ∨ a = 87 ∨ (a = 78 ∧ (i = 6 ∨ i = 7 ∨ i = 11 ∨ i = 20))) → σ'.1 a i = σ.1 a i) (hp : p < 4) (hm : σ'.1 78 9 = σ'.1 4 3) (h1 : pr σ' (16 + 2 * p) 82 83 p) (h2 : pgOK c' σ' (16 + 2 * p)) : iWd c' nr np nl σ' := by
  obtain ⟨⟨a1, a2, a3, a4, a5, a6, a7, a8, a9, a10⟩, ⟨b1, b2, b3⟩, b4, b5, b6, b7, b8⟩ := h
  refine ⟨⟨a1, a2, a3, by rw [fr _ _ (by omega)]; exact a4, by rw [fr _ _ (by omega)]; exact a5, by rw [fr _ _ (by omega)]; exact a6, fun i hi => (a7 i hi).cg (fun j _ => fr _ _ (by omega)), fun q hq => ?_, fun i hi => by rw [fr _ _ (by omega)]; exact a9 i hi, by rw [fr _ _ (by omega)]; exact a10⟩, ⟨fun i hi => (b1 i hi).cg (fun j _ => fr _ _ (by omega)) (fun j _ => fr _ _ (by omega)), fun q hq => ?_, fun i hi => by rw [fr _ _ (by omega), fr _ _ (by omega)]; exact b3 i hi⟩, by rw [fr _ _ (by omega)]; exact b4, by rw [fr _ _ (by omega)]; exact b5, by rw [fr _ _ (by omega)]; exact b6, by rw [fr _ _ (by omega), fr _ _ (by omega)]; exact b7, hm⟩
  · by_cases e : q = p
    · subst e
      rw [show 4 + 12 + 2 * q = 16 + 2 * q by omega]
      exact h2
    · exact ((a8 q hq).cg (fun j _ => fr _ _ (by omega)) (fun j _ => fr _ _ (by omega))).up hc
  · by_cases e : q = p
    · subst e
      rw [show 4 + 12 + 2 * q = 16 + 2 * q by omega]
      exact h1
    · exact (b2 q hq).cg (fun j _ => fr _ _ (by omega)) (fun j _ => fr _ _ (by omega)) (fun j _ => fr _ _ (by omega)) (fun j _ => fr _ _ (by omega))
section C2
variable {E : am_E} {d : Nat} {σ : FH} {Q : Int32 → FH → Prop} {QV : FH → Prop}
theorem c_may {k0 k1 : Nat} {x : Int32} (hk0 : isPg k0) (hk1 : isRd k1) (k : Q (bi (σ.1 k0 4 = 0 ∧ (σ.1 k0 0 = σ.1 k1 2 ∨ σ.1 k0 0 = σ.1 k1 3) ∧ ¬ 99 < σ.1 k0 1 + x)) σ) : fMi E (d + 2) mX1_may [.ref k0, .ref k1, .int x] σ Q := by
  refine v_X1_may hk0 hk1 ?_
  unfold t_X1_may
  refine ⟨fun h => ?_, fun h => c_touches hk1 ?_⟩
  · rw [bi_f (fun q => h q.1)] at k; exact k
  · simp only [bi0]
    refine ⟨fun h2 => ?_, fun h2 => ⟨fun h3 => ?_, fun h3 => ?_⟩⟩
    · rw [bi_f (fun q => h2 q.2.1)] at k; exact k
    · rw [bi_f (fun q => q.2.2 h3)] at k; exact k
    · rw [bi_t ⟨h, Classical.not_not.mp h2, h3⟩] at k; exact k
theorem c_wouldCount {k0 k1 r : Nat} (hk0 : isPg k0) (hk1 : isRd k1) (hr : r < 8) (hn : σ.1 k1 0 = nI r) (k : Q (bi (¬ σ.1 k1 4 ≤ σ.1 (k0 + 1) r)) σ) : fMi E (d + 1) mX1_wouldCount [.ref k0, .ref k1] σ Q := by
  refine v_X1_wouldCount hk0 hk1 ?_
  unfold t_X1_wouldCount
  rw [hn, nI_clamp (by omega)]
  refine ⟨vp_in_nI hr (by decide), fun h => ?_, fun h => ?_⟩
  · rw [bi_f (fun q => q h)] at k; exact k
  · rw [bi_t h] at k; exact k
theorem c_go {k0 k1 r : Nat} {x y : Int32} (hk0 : isPg k0) (hk1 : isRd k1) (hne : k1 ≠ k0 ∧ k1 ≠ k0 + 1) (hr : r < 8) (hn : σ.1 k1 0 = nI r)
    (k : ∀ σ', σ'.2 = σ.2 → (∀ a i, ¬ (a = k0 ∧ i < 4) → ¬ (a = k0 + 1 ∧ i = r) → σ'.1 a i = σ.1 a i) → σ'.1 k0 0 = (if σ.1 k0 0 = σ.1 k1 2 then σ.1 k1 3 else σ.1 k1 2) → σ'.1 k0 1 = σ.1 k0 1 + x → σ'.1 k0 2 = (if σ.1 k1 4 ≤ σ.1 (k0 + 1) r then σ.1 k0 2 else σ.1 k0 2 + y) → σ'.1 k0 3 = σ.1 k0 3 + 1 → σ'.1 (k0 + 1) r = (if σ.1 k1 4 ≤ σ.1 (k0 + 1) r then σ.1 (k0 + 1) r else σ.1 k1 4) → QV σ') : fMv E (d + 2) mX1_go [.ref k0, .ref k1, .int x, .int y] σ QV := by
  refine v_X1_go hk0 hk1 ?_
  unfold t_X1_go
  rintro _ rfl
  refine c_across hk1 ?_
  rintro _ rfl _ rfl
  have e2 : (fsI σ k0 1 (σ.1 k0 1 + x)).1 k1 2 = σ.1 k1 2 := fsI_k hne.1
  have e3 : (fsI σ k0 1 (σ.1 k0 1 + x)).1 k1 3 = σ.1 k1 3 := fsI_k hne.1
  have e0 : (fsI σ k0 1 (σ.1 k0 1 + x)).1 k0 0 = σ.1 k0 0 := fsI_j (by decide)
  rw [e0, e2, e3]
  generalize (if σ.1 k0 0 = σ.1 k1 2 then σ.1 k1 3 else σ.1 k1 2) = dst at k ⊢
  refine c_wouldCount (r := r) hk0 hk1 hr ?_ ?_
  · repeat rw [fsI_k hne.1]
    exact hn
  have e4 : ∀ j, (fsI (fsI (fsI σ k0 1 (σ.1 k0 1 + x)) k0 0 dst) k0 3 ((fsI (fsI σ k0 1 (σ.1 k0 1 + x)) k0 0 dst).1 k0 3 + 1)).1 k1 j = σ.1 k1 j := fun j => by repeat rw [fsI_k hne.1]
  have e5 : ∀ j, (fsI (fsI (fsI σ k0 1 (σ.1 k0 1 + x)) k0 0 dst) k0 3 ((fsI (fsI σ k0 1 (σ.1 k0 1 + x)) k0 0 dst).1 k0 3 + 1)).1 (k0 + 1) j = σ.1 (k0 + 1) j := fun j => by repeat rw [fsI_k (by omega)]
  have e6 : (fsI (fsI σ k0 1 (σ.1 k0 1 + x)) k0 0 dst).1 k0 3 = σ.1 k0 3 := by repeat rw [fsI_j (by decide)]
  rw [e4, e5]
  simp only [bi0, Classical.not_not]
  rw [e6] at e4 e5 ⊢
  refine ⟨fun h => k _ rfl (fun a i h1 h2 => by repeat rw [fsI_n (by omega)]) (by rw [fsI_j (by decide)]; exact fsI_s) (by rw [fsI_j (by decide), fsI_j (by decide)]; exact fsI_s) (by rw [if_pos h]; repeat rw [fsI_j (by decide)]) fsI_s (by rw [if_pos h]; exact e5 r), fun h => ?_⟩
  rintro _ rfl
  have e7 : ∀ j, (fsI (fsI (fsI (fsI σ k0 1 (σ.1 k0 1 + x)) k0 0 dst) k0 3 (σ.1 k0 3 + 1)) k0 2 ((fsI (fsI (fsI σ k0 1 (σ.1 k0 1 + x)) k0 0 dst) k0 3 (σ.1 k0 3 + 1)).1 k0 2 + y)).1 k1 j = σ.1 k1 j := fun j => by repeat rw [fsI_k hne.1]
  rw [e7, e7, hn, nI_clamp (by omega)]
  refine ⟨vp_in_nI hr (by decide), ?_⟩
  rintro _ rfl
  have e8 : (fsI (fsI (fsI σ k0 1 (σ.1 k0 1 + x)) k0 0 dst) k0 3 (σ.1 k0 3 + 1)).1 k0 2 = σ.1 k0 2 := by repeat rw [fsI_j (by decide)]
  rw [e8]
  refine k _ rfl (fun a i h1 h2 => by repeat rw [fsI_n (by omega)]) ?_ ?_ ?_ ?_ ?_
  · rw [fsI_k (by omega), fsI_j (by decide), fsI_j (by decide)]; exact fsI_s
  · rw [fsI_k (by omega), fsI_j (by decide), fsI_j (by decide), fsI_j (by decide)]; exact fsI_s
  · rw [if_neg h, fsI_k (by omega)]; exact fsI_s
  · rw [fsI_k (by omega), fsI_j (by decide)]; exact fsI_s
  · rw [if_neg h]; exact fsI_s
theorem c_recover {k0 : Nat} (hk0 : isPg k0) (k : QV (fsI σ k0 1 (if 0 < σ.1 k0 1 - 5 then σ.1 k0 1 - 5 else 0))) : fMv E (d + 2) mX1_recover [.ref k0] σ QV := by
  refine v_X1_recover hk0 ?_
  unfold t_X1_recover
  rintro _ rfl
  exact k
theorem c_ask {k0 : Nat} {x : Int32} (hk0 : isPg k0) (k1 : σ.1 k0 0 = 5 → σ.1 k0 2 = x → QV (fsI σ k0 4 1)) (k2 : ¬ (σ.1 k0 0 = 5 ∧ σ.1 k0 2 = x) → QV σ) : fMv E (d + 1) mX1_ask [.ref k0, .int x] σ QV := by
  refine v_X1_ask hk0 ?_
  unfold t_X1_ask
  refine ⟨fun h => k2 (fun q => h q.1), fun h => ⟨fun h2 => k2 (fun q => h2 q.2), fun h2 => ?_⟩⟩
  rintro _ rfl
  exact k1 h h2
/-! the reference -/
theorem n5 {p j : Nat} : (5 : Int32) * nI p + nI j = nI (5 * p + j) := by rw [show (5 : Int32) = nI 5 from rfl, pk_mul, nI_add]
theorem n5' {p : Nat} : (5 : Int32) * nI p = nI (5 * p) := by rw [show (5 : Int32) = nI 5 from rfl, pk_mul]
theorem n8 {p j : Nat} : (8 : Int32) * nI p + nI j = nI (8 * p + j) := by rw [show (8 : Int32) = nI 8 from rfl, pk_mul, nI_add]
theorem n5_1 {p : Nat} : (5 : Int32) * nI p + 1 = nI (5 * p + 1) := n5 (j := 1)
theorem n5_2 {p : Nat} : (5 : Int32) * nI p + 2 = nI (5 * p + 2) := n5 (j := 2)
theorem n5_3 {p : Nat} : (5 : Int32) * nI p + 3 = nI (5 * p + 3) := n5 (j := 3)
theorem n5_4 {p : Nat} : (5 : Int32) * nI p + 4 = nI (5 * p + 4) := n5 (j := 4)
theorem c_isIn {p : Nat} (hp : p < 4) (k : Q (bi (σ.1 82 (5 * p + 3) = 1)) σ) : fMi E (d + 1) mX7_isIn [.ref 78, .int (nI p)] σ Q := by
  refine v_X7_isIn ?_
  unfold t_X7_isIn
  rw [n5_3, nI_clamp (by omega)]
  refine ⟨vp_in_nI (by omega) (by decide), fun h => ?_, fun h => ?_⟩
  · rw [bi_f h] at k; exact k
  · rw [bi_t h] at k; exact k
def oE (a b x : Int32) : Int32 := if a = x then b else if b = x then a else -1
theorem c_otherEnd {r : Nat} {x : Int32} (hr : r < 9) (k : Q (oE (σ.1 81 (5 * r + 1)) (σ.1 81 (5 * r + 2)) x) σ) : fMi E (d + 1) mX7_otherEnd [.ref 78, .int (nI r), .int x] σ Q := by
  refine v_X7_otherEnd ?_
  unfold t_X7_otherEnd
  rw [n5_1, n5_2, nI_clamp (by omega), nI_clamp (by omega)]
  refine ⟨vp_in_nI (by omega) (by decide), ?_⟩
  rintro _ rfl
  refine ⟨vp_in_nI (by omega) (by decide), ?_⟩
  rintro _ rfl
  unfold oE at k
  refine ⟨fun h => ⟨fun h2 => ?_, fun h2 => ?_⟩, fun h => ?_⟩
  · rw [if_neg h, if_neg h2] at k; exact k
  · rw [if_neg h, if_pos h2] at k; exact k
  · rw [if_pos h] at k; exact k
/-- WORTH as the reference has it -/
theorem c_worthOf {r : Nat} (hr : r < 9) (hk : vp_in (σ.1 81 (5 * r)) 5) (hl : vp_in (σ.1 81 (5 * r + 4)) 2) (k : Q (wrt (σ.1 81 (5 * r)) (σ.1 81 (5 * r + 4))) σ) : fMi E (d + 1) mX7_worthOf [.ref 78, .int (nI r)] σ Q := by
  refine v_X7_worthOf ?_
  unfold t_X7_worthOf
  rw [n5_4, n5', nI_clamp (by omega), nI_clamp (by omega)]
  obtain ⟨kd, h1, e1⟩ := vp_in_of hk (by decide)
  have h2 := vp_b hl
  refine ⟨vp_in_nI (by omega) (by decide), ?_⟩
  rintro _ rfl
  rw [e1] at k ⊢
  have e2 : ∀ a b : Nat, a < 5 → b < 5 → (nI a = nI b ↔ a = b) := fun a b ha hb => nI_eq (by omega) (by omega)
  rcases (show kd = 0 ∨ kd = 1 ∨ kd = 2 ∨ kd = 3 ∨ kd = 4 by omega) with rfl | rfl | rfl | rfl | rfl
  · exact ⟨fun h => absurd rfl h, fun _ => k⟩
  · exact ⟨fun _ => ⟨fun h => absurd rfl h, fun _ => k⟩, fun h => absurd h (by decide)⟩
  · exact ⟨fun _ => ⟨fun _ => ⟨fun h => absurd rfl h, fun _ => k⟩, fun h => absurd h (by decide)⟩, fun h => absurd h (by decide)⟩
  · exact ⟨fun _ => ⟨fun _ => ⟨fun _ => ⟨fun _ => k, fun h => absurd rfl h⟩, fun h => absurd h (by decide)⟩, fun h => absurd h (by decide)⟩, fun h => absurd h (by decide)⟩
  · refine ⟨fun _ => ⟨fun _ => ⟨fun _ => ⟨fun h => absurd h (by decide), fun _ => ⟨vp_in_nI (by omega) (by decide), fun h => ?_, fun h => ?_⟩⟩, fun h => absurd h (by decide)⟩, fun h => absurd h (by decide)⟩, fun h => absurd h (by decide)⟩
    · rcases h2 with e | e
      · rw [e] at k; exact k
      · exact absurd e h
    · rw [h] at k; exact k
theorem c_mayWalk {p r : Nat} {x : Int32} (hp : p < 4) (hr : r < 9) (k : Q (bi (¬ σ.1 82 (5 * p + 3) = 1 ∧ ¬ oE (σ.1 81 (5 * r + 1)) (σ.1 81 (5 * r + 2)) (σ.1 82 (5 * p)) = -1 ∧ ¬ 99 < σ.1 82 (5 * p + 1) + x)) σ) : fMi E (d + 2) mX7_mayWalk [.ref 78, .int (nI p), .int (nI r), .int x] σ Q := by
  refine v_X7_mayWalk ?_
  unfold t_X7_mayWalk
  refine c_isIn hp ?_
  simp only [bi0, Classical.not_not]
  rw [n5_1, n5', nI_clamp (by omega), nI_clamp (by omega)]
  refine ⟨fun h => ?_, fun h => ⟨vp_in_nI (by omega) (by decide), c_otherEnd hr ⟨fun h2 => ?_, fun h2 => ⟨vp_in_nI (by omega) (by decide), fun h3 => ?_, fun h3 => ?_⟩⟩⟩⟩
  · rw [bi_f (fun q => q.1 h)] at k; exact k
  · rw [bi_f (fun q => q.2.1 h2)] at k; exact k
  · rw [bi_f (fun q => q.2.2 h3)] at k; exact k
  · rw [bi_t ⟨h, h2, h3⟩] at k; exact k
theorem c_goes {p r : Nat} {x y : Int32} (hp : p < 4) (hr : r < 8)
    (k : ∀ σ', σ'.2 = σ.2 → (∀ a i, ¬ (a = 82 ∧ 5 * p ≤ i ∧ i < 5 * p + 5) → ¬ (a = 83 ∧ i = 8 * p + r) → σ'.1 a i = σ.1 a i) → σ'.1 82 (5 * p) = oE (σ.1 81 (5 * r + 1)) (σ.1 81 (5 * r + 2)) (σ.1 82 (5 * p)) → σ'.1 82 (5 * p + 1) = σ.1 82 (5 * p + 1) + x → σ'.1 82 (5 * p + 2) = σ.1 82 (5 * p + 2) + (if σ.1 81 (5 * r + 3) ≤ σ.1 83 (8 * p + r) then 0 else y) → σ'.1 82 (5 * p + 3) = σ.1 82 (5 * p + 3) → σ'.1 82 (5 * p + 4) = σ.1 82 (5 * p + 4) + 1 → σ'.1 83 (8 * p + r) = (if σ.1 81 (5 * r + 3) ≤ σ.1 83 (8 * p + r) then σ.1 83 (8 * p + r) else σ.1 81 (5 * r + 3)) → QV σ') : fMv E (d + 2) mX7_goes [.ref 78, .int (nI p), .int (nI r), .int x, .int y] σ QV := by
  refine v_X7_goes ?_
  unfold t_X7_goes
  rw [n5_3, n8, nI_clamp (by omega), nI_clamp (by omega)]
  have key : ∀ (z : Int32), (z = 0 ∨ z = 1) → (∀ σ', σ'.2 = σ.2 → (∀ a i, ¬ (a = 82 ∧ 5 * p ≤ i ∧ i < 5 * p + 5) → ¬ (a = 83 ∧ i = 8 * p + r) → σ'.1 a i = σ.1 a i) → σ'.1 82 (5 * p) = oE (σ.1 81 (5 * r + 1)) (σ.1 81 (5 * r + 2)) (σ.1 82 (5 * p)) → σ'.1 82 (5 * p + 1) = σ.1 82 (5 * p + 1) + x → σ'.1 82 (5 * p + 2) = σ.1 82 (5 * p + 2) + (if z = 0 then 0 else y) → σ'.1 82 (5 * p + 3) = σ.1 82 (5 * p + 3) → σ'.1 82 (5 * p + 4) = σ.1 82 (5 * p + 4) + 1 → σ'.1 83 (8 * p + r) = (if z = 0 then σ.1 83 (8 * p + r) else σ.1 81 (5 * r + 3)) → QV σ') → t_X7_goes_29 E (d + 1) (nI p) (nI r) x y z σ QV := by
    intro z hz k
    unfold t_X7_goes_29
    rw [n5_1, n5_2, n5', nI_clamp (by omega), nI_clamp (by omega), nI_clamp (by omega)]
    refine ⟨vp_in_nI (by omega) (by decide), c_otherEnd (by omega) ⟨vp_in_nI (by omega) (by decide), ?_⟩⟩
    rintro _ rfl
    refine ⟨vp_in_nI (by omega) (by decide), vp_in_nI (by omega) (by decide), ?_⟩
    rintro _ rfl
    refine ⟨vp_in_nI (by omega) (by decide), ?_⟩
    generalize oE (σ.1 81 (5 * r + 1)) (σ.1 81 (5 * r + 2)) (σ.1 82 (5 * p)) = dst at k ⊢
    have e1 : (fsI σ 82 (5 * p) dst).1 82 (5 * p + 1) = σ.1 82 (5 * p + 1) := fsI_j (by omega)
    rw [e1]
    generalize hs : fsI (fsI σ 82 (5 * p) dst) 82 (5 * p + 1) (σ.1 82 (5 * p + 1) + x) = s
    have s2 : s.2 = σ.2 := by rw [← hs]; rfl
    have sf : ∀ a i, ¬ (a = 82 ∧ (i = 5 * p ∨ i = 5 * p + 1)) → s.1 a i = σ.1 a i := fun a i h => by rw [← hs]; repeat rw [fsI_n (by omega)]
    have sa : s.1 82 (5 * p) = dst := by rw [← hs, fsI_j (by omega)]; exact fsI_s
    have sb : s.1 82 (5 * p + 1) = σ.1 82 (5 * p + 1) + x := by rw [← hs]; exact fsI_s
    rw [sf 82 (5 * p + 2) (by omega)]
    have fin : ∀ w : Int32, w = (if z = 0 then 0 else y) → t_X7_goes_88 E (d + 1) (nI p) (nI r) z w (σ.1 82 (5 * p + 2)) (nI (5 * p + 2)) s QV := by
      intro w hw
      unfold t_X7_goes_88
      rw [n5_4, n5_3, n8, nI_clamp (by omega), nI_clamp (by omega), nI_clamp (by omega), nI_clamp (by omega)]
      refine ⟨vp_in_nI (by omega) (by decide), ?_⟩
      rintro _ rfl
      refine ⟨vp_in_nI (by omega) (by decide), vp_in_nI (by omega) (by decide), ?_⟩
      rintro _ rfl
      rw [fsI_n (σ := s) (a := 82) (i := 5 * p + 4) (by omega), sf 82 (5 * p + 4) (by omega)]
      refine ⟨fun h => ⟨vp_in_nI (by omega) (by decide), vp_in_nI (by omega) (by decide), ?_⟩, fun h => ⟨vp_in_nI (by omega) (by decide), vp_in_nI (by omega) (by decide), ?_⟩⟩
      · rintro _ rfl
        rw [if_pos h] at hw
        have e2 : (fsI (fsI s 82 (5 * p + 2) (σ.1 82 (5 * p + 2) + w)) 82 (5 * p + 4) (σ.1 82 (5 * p + 4) + 1)).1 83 (8 * p + r) = σ.1 83 (8 * p + r) := by (repeat rw [fsI_n (by omega)]); exact sf _ _ (by omega)
        rw [e2]
        refine k _ s2 (fun a i h1 h2 => by (repeat rw [fsI_n (by omega)]); exact sf _ _ (by omega)) ?_ ?_ ?_ ?_ ?_ ?_
        · repeat rw [fsI_n (by omega)]
          exact sa
        · repeat rw [fsI_n (by omega)]
          exact sb
        · rw [if_pos h, fsI_n (by omega), fsI_n (by omega), hw]; exact fsI_s
        · repeat rw [fsI_n (by omega)]
          exact sf _ _ (by omega)
        · rw [fsI_n (by omega)]; exact fsI_s
        · rw [if_pos h]; exact fsI_s
      · rintro _ rfl
        rw [if_neg h] at hw
        have e2 : (fsI (fsI s 82 (5 * p + 2) (σ.1 82 (5 * p + 2) + w)) 82 (5 * p + 4) (σ.1 82 (5 * p + 4) + 1)).1 81 (5 * r + 3) = σ.1 81 (5 * r + 3) := by (repeat rw [fsI_n (by omega)]); exact sf _ _ (by omega)
        rw [e2]
        refine k _ s2 (fun a i h1 h2 => by (repeat rw [fsI_n (by omega)]); exact sf _ _ (by omega)) ?_ ?_ ?_ ?_ ?_ ?_
        · repeat rw [fsI_n (by omega)]
          exact sa
        · repeat rw [fsI_n (by omega)]
          exact sb
        · rw [if_neg h, fsI_n (by omega), fsI_n (by omega), hw]; exact fsI_s
        · repeat rw [fsI_n (by omega)]
          exact sf _ _ (by omega)
        · rw [fsI_n (by omega)]; exact fsI_s
        · rw [if_neg h]; exact fsI_s
    exact ⟨fun h => fin 0 (by rw [if_pos h]), fun h => fin y (by rw [if_neg h])⟩
  refine ⟨vp_in_nI (by omega) (by decide), vp_in_nI (by omega) (by decide), fun h => key 0 (Or.inl rfl) ?_, fun h => key 1 (Or.inr rfl) ?_⟩
  · intro σ' g1 g2 g3 g4 g5 g6 g7 g8
    exact k σ' g1 g2 g3 g4 (by rw [g5, if_pos h]; rfl) g6 g7 (by rw [g8, if_pos h]; rfl)
  · intro σ' g1 g2 g3 g4 g5 g6 g7 g8
    exact k σ' g1 g2 g3 g4 (by rw [g5, if_neg h]; rfl) g6 g7 (by rw [g8, if_neg h]; rfl)
theorem c_rests {p : Nat} (hp : p < 4) (k : QV (fsI σ 82 (5 * p + 1) (if 5 ≤ σ.1 82 (5 * p + 1) then σ.1 82 (5 * p + 1) - 5 else 0))) : fMv E (d + 1) mX7_rests [.ref 78, .int (nI p)] σ QV := by
  refine v_X7_rests ?_
  unfold t_X7_rests
  rw [n5_1, nI_clamp (by omega)]
  refine ⟨vp_in_nI (by omega) (by decide), fun h => ⟨vp_in_nI (by omega) (by decide), vp_in_nI (by omega) (by decide), ?_⟩, fun h => ⟨vp_in_nI (by omega) (by decide), ?_⟩⟩
  · rintro _ rfl
    rw [if_pos h] at k; exact k
  · rintro _ rfl
    rw [if_neg h] at k; exact k
theorem fsI_id {σ : FH} {k j : Nat} : fsI σ k j (σ.1 k j) = σ := by
  unfold fsI
  refine Prod.ext ?_ rfl
  funext a i
  by_cases h : a = k ∧ i = j
  · simp [h]
  · simp [h]
theorem c_asks {p : Nat} (hp : p < 4) (k1 : σ.1 82 (5 * p) = 5 → σ.1 82 (5 * p + 2) = σ.1 78 7 → QV (fsI σ 82 (5 * p + 3) 1)) (k2 : ¬ (σ.1 82 (5 * p) = 5 ∧ σ.1 82 (5 * p + 2) = σ.1 78 7) → QV σ) : fMv E (d + 1) mX7_asks [.ref 78, .int (nI p)] σ QV := by
  refine v_X7_asks ?_
  unfold t_X7_asks
  rw [n5_2, n5_3, n5', nI_clamp (by omega), nI_clamp (by omega), nI_clamp (by omega)]
  refine ⟨vp_in_nI (by omega) (by decide), fun h => ⟨vp_in_nI (by omega) (by decide), vp_in_nI (by omega) (by decide), ?_⟩, fun h => ⟨vp_in_nI (by omega) (by decide), fun h2 => ⟨vp_in_nI (by omega) (by decide), vp_in_nI (by omega) (by decide), ?_⟩, fun h2 => ⟨vp_in_nI (by omega) (by decide), ?_⟩⟩⟩
  · rintro _ rfl
    rw [fsI_id]
    exact k2 (fun q => h q.1)
  · rintro _ rfl
    rw [fsI_id]
    exact k2 (fun q => h2 q.2)
  · rintro _ rfl
    exact k1 h h2
end C2
