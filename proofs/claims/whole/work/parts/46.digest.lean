/-! digest -/
def dg (f : Nat → Int32) (h : Int64) : Nat → Int64
  | 0 => h
  | n + 1 => 31 * dg f h n + (f n).toInt64
def dg2 (F : Nat → Nat → Int32) (m : Nat) (h : Int64) : Nat → Int64
  | 0 => h
  | n + 1 => dg (F n) (dg2 F m h n) m
theorem dg_cg {f g : Nat → Int32} {h : Int64} : ∀ n, (∀ i, i < n → f i = g i) → dg f h n = dg g h n
  | 0, _ => rfl
  | n + 1, e => by rw [dg, dg, dg_cg n (fun i hi => e i (by omega)), e n (by omega)]
theorem dg2_cg {F G : Nat → Nat → Int32} {m : Nat} {h : Int64} : ∀ n, (∀ i j, i < n → j < m → F i j = G i j) → dg2 F m h n = dg2 G m h n
  | 0, _ => rfl
  | n + 1, e => by rw [dg2, dg2, dg2_cg n (fun i j hi hj => e i j (by omega) hj), dg_cg m (fun j hj => e n j (by omega) hj)]
theorem dg_add {f : Nat → Int32} {h : Int64} (a : Nat) : ∀ n, dg f h (a + n) = dg (fun i => f (a + i)) (dg f h a) n
  | 0 => rfl
  | n + 1 => by rw [show a + (n + 1) = a + n + 1 by omega, dg, dg, dg_add a n]
def dgR (σ : FH) (r w : Nat) : Int32 := rdV (fun j => σ.1 (8 + r) j) (nI w)
def dgP (σ : FH) (p w : Nat) : Int32 := pgV (fun j => σ.1 (16 + 2 * p) j) (fun j => σ.1 (16 + 2 * p + 1) j) (nI (if w < 5 then w else w + 5))
def dgC (σ : FH) (np w : Nat) : Int32 := if w = 0 then σ.1 4 1 else if w = 1 then σ.1 4 0 else if w = 2 then σ.1 4 2 else if w = 3 then smI (fun p => σ.1 (16 + 2 * p) 4) np else if w = 4 then σ.1 4 3 else if w = 5 then σ.1 4 4 else if w = 6 then σ.1 2 1 else if w = 7 then σ.1 1 7 else σ.1 1 8
section DG
variable {E : am_E} {d c : Nat} {σ : FH} {Q : Int32 → FH → Prop} {QJ : Int64 → FH → Prop} {QV : FH → Prop}
theorem c_dRoads {nr : Nat} {h : Int64} (hn : nr ≤ 8) (h1 : σ.1 4 1 = nI nr) (hl : ∀ r, r < nr → vp_in (σ.1 (8 + r) 5) 2) (k : QJ (dg2 (dgR σ) 6 h nr) σ) : fMj E (d + 3) mX6_digestOfRoads [.ref 1, .long h] σ QJ := by
  refine v_X6_digestOfRoads ?_
  unfold t_X6_digestOfRoads
  have key2 : ∀ r, r < nr → h_X6_digestOfRoads_5 E (d + 2) (dg2 (dgR σ) 6 h (r + 1)) (nI (r + 1)) σ QJ → ∀ l w, w + l = 6 → h_X6_digestOfRoads_20 E (d + 2) (dg (dgR σ r) (dg2 (dgR σ) 6 h r) w) (nI r) (nI w) σ QJ := by
    intro r hr kk l
    induction l with
    | zero =>
      intro w hw
      refine v_X6_digestOfRoads_20 ?_
      unfold t_X6_digestOfRoads_20
      rw [show w = 6 by omega, nI_1 r]
      exact ⟨fun _ => kk, fun h => absurd (by decide) h⟩
    | succ l ih =>
      intro w hw
      refine v_X6_digestOfRoads_20 ?_
      unfold t_X6_digestOfRoads_20
      rw [nI_1 w]
      refine ⟨fun h => absurd h (nI_nlt (a := 5) (by omega) (by omega)), fun _ => c_cRoad hr hn h1 (hl r hr) (ih (w + 1) (by omega))⟩
  have key1 : ∀ l r, r + l = nr → h_X6_digestOfRoads_5 E (d + 2) (dg2 (dgR σ) 6 h r) (nI r) σ QJ := by
    intro l
    induction l with
    | zero =>
      intro r hr
      refine v_X6_digestOfRoads_5 ?_
      unfold t_X6_digestOfRoads_5
      rw [show r = nr by omega, h1]
      exact ⟨fun _ => k, fun h => absurd (nI_le (Nat.le_refl nr) (by omega)) h⟩
    | succ l ih =>
      intro r hr
      refine v_X6_digestOfRoads_5 ?_
      unfold t_X6_digestOfRoads_5
      rw [h1]
      exact ⟨fun h => absurd h (nI_ge (by omega) (by omega)), fun _ => key2 r (by omega) (ih (r + 1) (by omega)) 6 0 (by omega)⟩
  exact key1 nr 0 (by omega)
theorem c_dPilgrims {np : Nat} {h : Int64} (hn : np ≤ 4) (h1 : σ.1 4 2 = nI np) (hl : ∀ p, p < np → vp_in (σ.1 (16 + 2 * p) 4) 2) (k : QJ (dg2 (dgP σ) 13 h np) σ) : fMj E (d + 3) mX6_digestOfPilgrims [.ref 1, .long h] σ QJ := by
  refine v_X6_digestOfPilgrims ?_
  unfold t_X6_digestOfPilgrims
  have key3 : ∀ p, p < np → h_X6_digestOfPilgrims_5 E (d + 2) (dg2 (dgP σ) 13 h (p + 1)) (nI (p + 1)) σ QJ → ∀ l w, w + l = 13 → 5 ≤ w → h_X6_digestOfPilgrims_52 E (d + 2) (dg (dgP σ p) (dg2 (dgP σ) 13 h p) w) (nI p) (nI (w + 5)) σ QJ := by
    intro p hp kk l
    induction l with
    | zero =>
      intro w hw h5
      refine v_X6_digestOfPilgrims_52 ?_
      unfold t_X6_digestOfPilgrims_52
      rw [show w = 13 by omega, nI_1 p]
      exact ⟨fun _ => kk, fun h => absurd (by decide) h⟩
    | succ l ih =>
      intro w hw h5
      refine v_X6_digestOfPilgrims_52 ?_
      unfold t_X6_digestOfPilgrims_52
      rw [nI_1 (w + 5)]
      have ih' := ih (w + 1) (by omega) (by omega)
      rw [dg, show w + 1 + 5 = w + 5 + 1 by omega] at ih'
      unfold dgP at ih'
      rw [if_neg (by omega)] at ih'
      exact ⟨fun h => absurd h (nI_ge (b := 18) (by omega) (by omega)), fun _ => c_cAbout hp hn h1 (hl p hp) ih'⟩
  have key2 : ∀ p, p < np → h_X6_digestOfPilgrims_5 E (d + 2) (dg2 (dgP σ) 13 h (p + 1)) (nI (p + 1)) σ QJ → ∀ l w, w + l = 5 → h_X6_digestOfPilgrims_20 E (d + 2) (dg (dgP σ p) (dg2 (dgP σ) 13 h p) w) (nI p) (nI w) σ QJ := by
    intro p hp kk l
    induction l with
    | zero =>
      intro w hw
      refine v_X6_digestOfPilgrims_20 ?_
      unfold t_X6_digestOfPilgrims_20
      rw [show w = 5 by omega]
      exact ⟨fun _ => key3 p hp kk 8 5 (by omega) (by omega), fun h => absurd (by decide) h⟩
    | succ l ih =>
      intro w hw
      refine v_X6_digestOfPilgrims_20 ?_
      unfold t_X6_digestOfPilgrims_20
      rw [nI_1 w]
      have ih' := ih (w + 1) (by omega)
      rw [dg] at ih'
      unfold dgP at ih'
      rw [if_pos (by omega)] at ih'
      exact ⟨fun h => absurd h (nI_nlt (a := 4) (by omega) (by omega)), fun _ => c_cAbout hp hn h1 (hl p hp) ih'⟩
  have key1 : ∀ l p, p + l = np → h_X6_digestOfPilgrims_5 E (d + 2) (dg2 (dgP σ) 13 h p) (nI p) σ QJ := by
    intro l
    induction l with
    | zero =>
      intro p hp
      refine v_X6_digestOfPilgrims_5 ?_
      unfold t_X6_digestOfPilgrims_5
      rw [show p = np by omega, h1]
      exact ⟨fun _ => k, fun h => absurd (nI_le (Nat.le_refl np) (by omega)) h⟩
    | succ l ih =>
      intro p hp
      refine v_X6_digestOfPilgrims_5 ?_
      unfold t_X6_digestOfPilgrims_5
      rw [h1]
      exact ⟨fun h => absurd h (nI_ge (by omega) (by omega)), fun _ => key2 p (by omega) (ih (p + 1) (by omega)) 5 0 (by omega)⟩
  exact key1 np 0 (by omega)
theorem c_cCount {np w : Nat} (hw : w ≤ 8) (hn : np ≤ 4) (h2 : σ.1 4 2 = nI np) (hl : ∀ p, p < np → vp_in (σ.1 (16 + 2 * p) 4) 2) (k : Q (dgC σ np w) σ) : fMi E (d + 2) mX6_count [.ref 1, .int (nI w)] σ Q := by
  refine v_X6_count ?_
  unfold t_X6_count
  have ew : ∀ n, n < 100 → ((nI w = nI n) ↔ w = n) := fun n h => nI_eq (by omega) (by omega)
  rw [show (nI w = 0) ↔ w = 0 from ew 0 (by omega), show (nI w = 1) ↔ w = 1 from ew 1 (by omega), show (nI w = 2) ↔ w = 2 from ew 2 (by omega), show (nI w = 3) ↔ w = 3 from ew 3 (by omega), show (nI w = 4) ↔ w = 4 from ew 4 (by omega), show (nI w = 5) ↔ w = 5 from ew 5 (by omega), show (nI w = 6) ↔ w = 6 from ew 6 (by omega), show (nI w = 7) ↔ w = 7 from ew 7 (by omega), show (nI w = 8) ↔ w = 8 from ew 8 (by omega)]
  unfold dgC at k
  refine ⟨?_, ?_, ?_, ?_, ?_, ?_, ?_, ?_, ?_, fun h0 h1 h2 h3 h4 h5 h6 h7 h8 => absurd hw (by omega)⟩
  · rintro rfl; simpa using k
  · rintro rfl; simpa using k
  · rintro rfl; simpa using k
  · rintro rfl
    refine c_letInCount (Or.inl rfl) hn h2 hl ?_
    simpa using k
  · rintro rfl; simpa using k
  · rintro rfl; simpa using k
  · rintro rfl; simpa using k
  · rintro rfl; simpa using k
  · rintro rfl; simpa using k
theorem c_mCount {nr np nl w : Nat} (hw : w ≤ 8) (iP : iPg σ) (iF : iFr σ) (iW : iWd c nr np nl σ) (iK : iKp c nr σ) (k : Q (dgC σ np w) σ) : fMi E (d + 2) mX7_countOf [.ref 78, .int (nI w)] σ Q := by
  obtain ⟨⟨a1, a2, a3, a4, a5, a6, a7, a8, a9, a10⟩, ⟨b1, b2, b3⟩, b4, b5, b6, b7, b8⟩ := id iW
  obtain ⟨n, p1, p2, p3, p4⟩ := iP
  obtain ⟨m, f1, f2, f3, f4⟩ := iF
  obtain ⟨nk, k1, k2, k3, k4⟩ := iK
  refine v_X7_countOf ?_
  unfold t_X7_countOf
  have ew : ∀ n, n < 100 → ((nI w = nI n) ↔ w = n) := fun n h => nI_eq (by omega) (by omega)
  rw [show (nI w = 0) ↔ w = 0 from ew 0 (by omega), show (nI w = 1) ↔ w = 1 from ew 1 (by omega), show (nI w = 2) ↔ w = 2 from ew 2 (by omega), show (nI w = 3) ↔ w = 3 from ew 3 (by omega), show (nI w = 4) ↔ w = 4 from ew 4 (by omega), show (nI w = 5) ↔ w = 5 from ew 5 (by omega), show (nI w = 6) ↔ w = 6 from ew 6 (by omega), show (nI w = 7) ↔ w = 7 from ew 7 (by omega), show (nI w = 8) ↔ w = 8 from ew 8 (by omega)]
  unfold dgC at k
  refine ⟨?_, ?_, ?_, ?_, ?_, ?_, ?_, ?_, ?_, fun h0 h1 h2 h3 h4 h5 h6 h7 h8 => absurd hw (by omega)⟩
  · rintro rfl; rw [b4, ← a4]; simpa using k
  · rintro rfl; rw [b7]; simpa using k
  · rintro rfl; rw [b5, ← a5]; simpa using k
  · rintro rfl
    refine c_sumOf (j := 3) (by omega) a2 b5 ?_
    rw [smI_cg np (fun p hp => (b2 p hp).2.2.2.1)]
    simpa using k
  · rintro rfl; rw [b8]; simpa using k
  · rintro rfl; rw [b6, ← a6]; simpa using k
  · rintro rfl; rw [p3, ← p2]; simpa using k
  · rintro rfl; rw [k3, ← k2]; simpa using k
  · rintro rfl; rw [f3, ← f2]; simpa using k
theorem c_say {v : Int64} (k : QV (fsJ σ (31 * σ.2.2 + v))) : fMv E (d + 1) mX7_say [.ref 78, .long v] σ QV := by
  refine v_X7_say ?_
  unfold t_X7_say
  rintro _ rfl
  exact k
end DG
