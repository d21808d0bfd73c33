/-! THE INVARIANT between the class's cells and the reference's. c: how many calls there were at most. -/
/-- a road of the class and its row of the reference -/
def rr (σ : FH) (k A i : Nat) : Prop := σ.1 A (5 * i) = σ.1 k 1 ∧ σ.1 A (5 * i + 1) = σ.1 k 2 ∧ σ.1 A (5 * i + 2) = σ.1 k 3 ∧ σ.1 A (5 * i + 3) = σ.1 k 4 ∧ σ.1 A (5 * i + 4) = σ.1 k 5
def rdOK (σ : FH) (k : Nat) : Prop := vp_in (σ.1 k 1) 5 ∧ vp_in (σ.1 k 2) 6 ∧ vp_in (σ.1 k 3) 6 ∧ σ.1 k 2 ≠ σ.1 k 3 ∧ (∃ h, 1 ≤ h ∧ h ≤ 9 ∧ σ.1 k 4 = nI h) ∧ vp_in (σ.1 k 5) 2
/-- a pilgrim of the class and his row of the reference -/
def pr (σ : FH) (k M K p : Nat) : Prop := σ.1 M (5 * p) = σ.1 k 0 ∧ σ.1 M (5 * p + 1) = σ.1 k 1 ∧ σ.1 M (5 * p + 2) = σ.1 k 2 ∧ σ.1 M (5 * p + 3) = σ.1 k 4 ∧ σ.1 M (5 * p + 4) = σ.1 k 3 ∧ ∀ i, i < 8 → σ.1 K (8 * p + i) = σ.1 (k + 1) i
def pgOK (c : Nat) (σ : FH) (k : Nat) : Prop := vp_in (σ.1 k 0) 6 ∧ vp_in (σ.1 k 1) 100 ∧ vp_in (σ.1 k 2) (4 * c + 1) ∧ vp_in (σ.1 k 4) 2 ∧ ∀ i, i < 8 → vp_in (σ.1 (k + 1) i) 10
def wOK (c w nr np nl : Nat) (σ : FH) : Prop := nr ≤ 8 ∧ np ≤ 4 ∧ nl ≤ 7 ∧ σ.1 w 1 = nI nr ∧ σ.1 w 2 = nI np ∧ σ.1 w 4 = nI nl ∧ (∀ i, i < nr → rdOK σ (w + 4 + i)) ∧ (∀ p, p < np → pgOK c σ (w + 12 + 2 * p)) ∧ (∀ i, i < nl → σ.1 (w + 1) i = -1 ∨ vp_in (σ.1 (w + 1) i) 6) ∧ ∃ n, n ≤ 60 ∧ σ.1 w 0 = nI n
def wRel (w A M K G nr np nl : Nat) (σ : FH) : Prop := (∀ i, i < nr → rr σ (w + 4 + i) A i) ∧ (∀ p, p < np → pr σ (w + 12 + 2 * p) M K p) ∧ ∀ i, i < nl → σ.1 G i = σ.1 (w + 1) i
def iPg (σ : FH) : Prop := ∃ n, n ≤ 44 ∧ σ.1 2 1 = nI n ∧ σ.1 78 1 = nI n ∧ ∀ i, i < n → σ.1 79 i = σ.1 3 i ∧ ∃ q, 1 ≤ q ∧ q ≤ 126 ∧ σ.1 3 i = nI q
def iWd (c nr np nl : Nat) (σ : FH) : Prop := wOK c 4 nr np nl σ ∧ wRel 4 81 82 83 87 nr np nl σ ∧ σ.1 78 6 = nI nr ∧ σ.1 78 11 = nI np ∧ σ.1 78 20 = nI nl ∧ σ.1 78 7 = σ.1 4 0 ∧ σ.1 78 9 = σ.1 4 3
def iFr (σ : FH) : Prop := ∃ n, n ≤ 24 ∧ σ.1 1 8 = nI n ∧ σ.1 78 14 = nI n ∧ σ.1 69 0 = 0
def iKp (c nr : Nat) (σ : FH) : Prop := ∃ nk, nk ≤ c ∧ σ.1 1 7 = nI nk ∧ σ.1 78 8 = nI nk ∧
  ((σ.1 1 6 = 0 ∧ (σ.1 78 27 = -1 ∨ ∃ m, m < nk ∧ σ.1 78 27 = nI m)) ∨
   (σ.1 1 6 = 1 ∧ σ.1 78 27 = nI nk ∧ ∃ np nl, wOK c 24 nr np nl σ ∧ wRel 24 92 93 94 95 nr np nl σ ∧ σ.1 78 28 = nI np ∧ σ.1 78 30 = nI nl ∧ σ.1 78 29 = σ.1 24 3 ∧ σ.1 24 0 = σ.1 4 0))
def iNm (σ : FH) : Prop := ∀ w, isWd w → ∀ i, i < 8 → σ.1 (w + 4 + i) 0 = nI i
/-! what a log can have been: rows of roads (the last one first) with the place behind them -/
def rwX (a b : Nat → Int32) (p : Int32) (r : Nat) : Int32 := if p = a r then b r else a r
def rwGo (nr : Nat) (a b : Nat → Int32) (lg : Int32) (q : List Nat × Int32) : List (List Nat × Int32) :=
  (List.range nr).filterMap (fun r => if (q.2 = a r ∨ q.2 = b r) ∧ (lg = -1 ∨ lg = rwX a b q.2 r) then some (r :: q.1, rwX a b q.2 r) else none)
theorem fm_cg {α β : Type} {f g : α → Option β} : ∀ l : List α, (∀ x, x ∈ l → f x = g x) → l.filterMap f = l.filterMap g
  | [], _ => rfl
  | x :: l, h => by rw [List.filterMap_cons, List.filterMap_cons, h x List.mem_cons_self, fm_cg l (fun y hy => h y (List.mem_cons_of_mem _ hy))]
def rwk (nr : Nat) (a b : Nat → Int32) (lg : Nat → Int32) : Nat → List (List Nat × Int32)
  | 0 => [([], 0)]
  | m + 1 => (rwk nr a b lg m).flatMap (rwGo nr a b (lg m))
/-- halves that a row of roads has counted -/
def rwH (nr : Nat) (wt : Nat → Nat) (q : List Nat) : Nat := fb_sm (fun r => if r ∈ q then wt r else 0) nr
/-- the road by which a half was counted last -/
def rwL (wt : Nat → Nat) : List Nat → Option Nat
  | [] => none
  | r :: q => if 0 < wt r ∧ r ∉ q then some r else rwL wt q
def rwA (l : List (List Nat × Int32)) (wt : Nat → Nat) (v : Int32) : Prop :=
  (∃ r, r < 8 ∧ v = nI r ∧ l ≠ [] ∧ ∀ q, q ∈ l → rwL wt q.1 = some r) ∨ (v = -1 ∧ ¬ ∃ r, r < 8 ∧ l ≠ [] ∧ ∀ q, q ∈ l → rwL wt q.1 = some r)
def rwWt (σ : FH) (i : Nat) : Nat := (wrt (σ.1 (8 + i) 1) (σ.1 (8 + i) 5)).toNatClampNeg
def rwOf (σ : FH) (nr nl : Nat) : List (List Nat × Int32) := rwk nr (fun i => σ.1 (8 + i) 2) (fun i => σ.1 (8 + i) 3) (fun i => σ.1 5 i) nl
def rwT (nr nl : Nat) (σ : FH) : Prop := σ.1 71 0 = nI (rwOf σ nr nl).length ∧ (∀ h, h ≤ 60 → σ.1 72 h = nI ((rwOf σ nr nl).countP (fun q => rwH nr (rwWt σ) q.1 = h))) ∧ rwA (rwOf σ nr nl) (rwWt σ) (σ.1 71 1)
def iRf (σ : FH) : Prop := ((σ.2.1 4 = 74 ∧ σ.2.1 5 = 75) ∨ (σ.2.1 4 = 75 ∧ σ.2.1 5 = 74)) ∧ ((σ.2.1 6 = 76 ∧ σ.2.1 7 = 77) ∨ (σ.2.1 6 = 77 ∧ σ.2.1 7 = 76))
def iRw (nr nl : Nat) (σ : FH) : Prop := iRf σ ∧ (σ.1 71 9 = 0 ∨ (σ.1 71 9 = 1 ∧ rwT nr nl σ))
def inv (c : Nat) (σ : FH) : Prop := iPg σ ∧ iFr σ ∧ iNm σ ∧ ∃ nr np nl, iWd c nr np nl σ ∧ iKp c nr σ ∧ iRw nr nl σ
/-! each piece rests on cells of its own -/
theorem rr.cg {σ σ' : FH} {k A i : Nat} (h : rr σ k A i) (h1 : ∀ j, j < 6 → σ'.1 k j = σ.1 k j) (h2 : ∀ j, j < 5 → σ'.1 A (5 * i + j) = σ.1 A (5 * i + j)) : rr σ' k A i := by
  obtain ⟨a0, a1, a2, a3, a4⟩ := h
  have b0 := h2 0 (by omega)
  simp only [Nat.add_zero] at b0
  exact ⟨by rw [b0, h1 1 (by omega)]; exact a0, by rw [h2 1 (by omega), h1 2 (by omega)]; exact a1, by rw [h2 2 (by omega), h1 3 (by omega)]; exact a2, by rw [h2 3 (by omega), h1 4 (by omega)]; exact a3, by rw [h2 4 (by omega), h1 5 (by omega)]; exact a4⟩
theorem rdOK.cg {σ σ' : FH} {k : Nat} (h : rdOK σ k) (h1 : ∀ j, j < 6 → σ'.1 k j = σ.1 k j) : rdOK σ' k := by
  unfold rdOK at *
  rw [h1 1 (by omega), h1 2 (by omega), h1 3 (by omega), h1 4 (by omega), h1 5 (by omega)]
  exact h
theorem pr.cg {σ σ' : FH} {k M K p : Nat} (h : pr σ k M K p) (h1 : ∀ j, j < 5 → σ'.1 k j = σ.1 k j) (h3 : ∀ j, j < 8 → σ'.1 (k + 1) j = σ.1 (k + 1) j) (h2 : ∀ j, j < 5 → σ'.1 M (5 * p + j) = σ.1 M (5 * p + j)) (h4 : ∀ j, j < 8 → σ'.1 K (8 * p + j) = σ.1 K (8 * p + j)) : pr σ' k M K p := by
  obtain ⟨a0, a1, a2, a3, a4, a5⟩ := h
  have b0 := h2 0 (by omega)
  simp only [Nat.add_zero] at b0
  exact ⟨by rw [b0, h1 0 (by omega)]; exact a0, by rw [h2 1 (by omega), h1 1 (by omega)]; exact a1, by rw [h2 2 (by omega), h1 2 (by omega)]; exact a2, by rw [h2 3 (by omega), h1 4 (by omega)]; exact a3, by rw [h2 4 (by omega), h1 3 (by omega)]; exact a4, fun i hi => by rw [h4 i hi, h3 i hi]; exact a5 i hi⟩
theorem pgOK.cg {c : Nat} {σ σ' : FH} {k : Nat} (h : pgOK c σ k) (h1 : ∀ j, j < 5 → σ'.1 k j = σ.1 k j) (h3 : ∀ j, j < 8 → σ'.1 (k + 1) j = σ.1 (k + 1) j) : pgOK c σ' k := by
  obtain ⟨a0, a1, a2, a3, a4⟩ := h
  exact ⟨by rw [h1 0 (by omega)]; exact a0, by rw [h1 1 (by omega)]; exact a1, by rw [h1 2 (by omega)]; exact a2, by rw [h1 4 (by omega)]; exact a3, fun i hi => by rw [h3 i hi]; exact a4 i hi⟩
theorem vp_mono {x : Int32} {m n : Nat} (h : vp_in x m) (hmn : m ≤ n) : vp_in x n := fun q => h (q.imp (fun a => a) (fun a => Nat.le_trans hmn a))
theorem pgOK.up {c c' : Nat} {σ : FH} {k : Nat} (h : pgOK c σ k) (hc : c ≤ c') : pgOK c' σ k := ⟨h.1, h.2.1, vp_mono h.2.2.1 (by omega), h.2.2.2⟩
theorem wOK.up {c c' w nr np nl : Nat} {σ : FH} (h : wOK c w nr np nl σ) (hc : c ≤ c') : wOK c' w nr np nl σ := by
  obtain ⟨a1, a2, a3, a4, a5, a6, a7, a8, a9⟩ := h
  exact ⟨a1, a2, a3, a4, a5, a6, a7, fun p hp => (a8 p hp).up hc, a9⟩
/-- a world's cells: itself, its log, its roads, its pilgrims -/
theorem wOK.cg {c w nr np nl : Nat} {σ σ' : FH} (h : wOK c w nr np nl σ) (h1 : ∀ k j, w ≤ k → k < w + 20 → σ'.1 k j = σ.1 k j) : wOK c w nr np nl σ' := by
  obtain ⟨a1, a2, a3, a4, a5, a6, a7, a8, a9, a10⟩ := h
  refine ⟨a1, a2, a3, by rw [h1 _ _ (by omega) (by omega)]; exact a4, by rw [h1 _ _ (by omega) (by omega)]; exact a5, by rw [h1 _ _ (by omega) (by omega)]; exact a6, fun i hi => (a7 i hi).cg (fun j _ => h1 _ _ (by omega) (by omega)), fun p hp => (a8 p hp).cg (fun j _ => h1 _ _ (by omega) (by omega)) (fun j _ => h1 _ _ (by omega) (by omega)), fun i hi => by rw [h1 _ _ (by omega) (by omega)]; exact a9 i hi, by rw [h1 _ _ (by omega) (by omega)]; exact a10⟩
theorem wRel.cg {w A M K G nr np nl : Nat} {σ σ' : FH} (hr : nr ≤ 8) (hp : np ≤ 4) (h : wRel w A M K G nr np nl σ) (h1 : ∀ k j, w ≤ k → k < w + 20 → σ'.1 k j = σ.1 k j) (h2 : ∀ j, j < 40 → σ'.1 A j = σ.1 A j) (h3 : ∀ j, σ'.1 M j = σ.1 M j) (h4 : ∀ j, σ'.1 K j = σ.1 K j) (h5 : ∀ j, σ'.1 G j = σ.1 G j) : wRel w A M K G nr np nl σ' := by
  obtain ⟨a1, a2, a3⟩ := h
  refine ⟨fun i hi => (a1 i hi).cg (fun j _ => h1 _ _ (by omega) (by omega)) (fun j _ => h2 _ (by omega)), fun p hp => (a2 p hp).cg (fun j _ => h1 _ _ (by omega) (by omega)) (fun j _ => h1 _ _ (by omega) (by omega)) (fun j _ => h3 _) (fun j _ => h4 _), fun i hi => by rw [h5, h1 _ _ (by omega) (by omega)]; exact a3 i hi⟩
theorem iPg.cg {σ σ' : FH} (h : iPg σ) (h0 : σ'.1 2 1 = σ.1 2 1) (h1 : σ'.1 78 1 = σ.1 78 1) (h2 : ∀ j, σ'.1 3 j = σ.1 3 j) (h3 : ∀ j, σ'.1 79 j = σ.1 79 j) : iPg σ' := by
  obtain ⟨n, a1, a2, a3, a4⟩ := h
  refine ⟨n, a1, by rw [h0]; exact a2, by rw [h1]; exact a3, fun i hi => ?_⟩
  rw [h2, h3]
  exact a4 i hi
theorem iFr.cg {σ σ' : FH} (h : iFr σ) (h0 : σ'.1 1 8 = σ.1 1 8) (h1 : σ'.1 78 14 = σ.1 78 14) (h2 : σ'.1 69 0 = σ.1 69 0) : iFr σ' := by
  unfold iFr at *
  rw [h0, h1, h2]
  exact h
theorem iNm.cg {σ σ' : FH} (h : iNm σ) (h0 : ∀ k, 8 ≤ k → k ≤ 55 → (k ≤ 15 ∨ (28 ≤ k ∧ k ≤ 35) ∨ 48 ≤ k) → σ'.1 k 0 = σ.1 k 0) : iNm σ' := by
  intro w hw i hi
  rw [h0 _ (by rcases hw with rfl | rfl | rfl <;> omega) (by rcases hw with rfl | rfl | rfl <;> omega) (by rcases hw with rfl | rfl | rfl <;> omega)]
  exact h w hw i hi
theorem iWd.cg {c nr np nl : Nat} {σ σ' : FH} (h : iWd c nr np nl σ) (h1 : ∀ k j, 4 ≤ k → k < 24 → σ'.1 k j = σ.1 k j) (h2 : ∀ j, j < 40 → σ'.1 81 j = σ.1 81 j) (h3 : ∀ j, σ'.1 82 j = σ.1 82 j) (h4 : ∀ j, σ'.1 83 j = σ.1 83 j) (h5 : ∀ j, σ'.1 87 j = σ.1 87 j) (h6 : ∀ j, j = 6 ∨ j = 7 ∨ j = 9 ∨ j = 11 ∨ j = 20 → σ'.1 78 j = σ.1 78 j) : iWd c nr np nl σ' := by
  obtain ⟨a1, a2, a3, a4, a5, a6, a7⟩ := h
  refine ⟨a1.cg h1, a2.cg a1.1 a1.2.1 h1 h2 h3 h4 h5, by rw [h6 6 (by omega)]; exact a3, by rw [h6 11 (by omega)]; exact a4, by rw [h6 20 (by omega)]; exact a5, by rw [h6 7 (by omega), h1 4 0 (by omega) (by omega)]; exact a6, by rw [h6 9 (by omega), h1 4 3 (by omega) (by omega)]; exact a7⟩
theorem iKp.cg {c nr : Nat} {σ σ' : FH} (h : iKp c nr σ) (h1 : ∀ k j, 24 ≤ k → k < 44 → σ'.1 k j = σ.1 k j) (h2 : ∀ k j, 92 ≤ k → k < 96 → σ'.1 k j = σ.1 k j) (h3 : σ'.1 1 6 = σ.1 1 6) (h4 : σ'.1 1 7 = σ.1 1 7) (h5 : ∀ j, j = 8 ∨ (27 ≤ j ∧ j ≤ 30) → σ'.1 78 j = σ.1 78 j) (h6 : σ'.1 4 0 = σ.1 4 0) : iKp c nr σ' := by
  obtain ⟨nk, a1, a2, a3, a4⟩ := h
  refine ⟨nk, a1, by rw [h4]; exact a2, by rw [h5 8 (by omega)]; exact a3, ?_⟩
  rw [h3, h5 27 (by omega)]
  rcases a4 with a4 | ⟨b1, b2, np, nl, b3, b4, b5, b6, b7, b8⟩
  · exact Or.inl a4
  · refine Or.inr ⟨b1, b2, np, nl, b3.cg h1, b4.cg b3.1 b3.2.1 h1 (fun j _ => h2 _ _ (by omega) (by omega)) (fun j => h2 _ _ (by omega) (by omega)) (fun j => h2 _ _ (by omega) (by omega)) (fun j => h2 _ _ (by omega) (by omega)), by rw [h5 28 (by omega)]; exact b5, by rw [h5 30 (by omega)]; exact b6, by rw [h5 29 (by omega), h1 24 3 (by omega) (by omega)]; exact b7, by rw [h1 24 0 (by omega) (by omega), h6]; exact b8⟩
theorem iKp.up {c c' nr : Nat} {σ : FH} (h : iKp c nr σ) (hc : c ≤ c') : iKp c' nr σ := by
  obtain ⟨nk, a1, a2, a3, a4⟩ := h
  refine ⟨nk, by omega, a2, a3, a4.imp (fun x => x) ?_⟩
  rintro ⟨b1, b2, np, nl, b3, b4⟩
  exact ⟨b1, b2, np, nl, b3.up hc, b4⟩
theorem rwk_cg {nr : Nat} {a b a' b' lg lg' : Nat → Int32} (ha : ∀ i, i < nr → a' i = a i) (hb : ∀ i, i < nr → b' i = b i) : ∀ nl, (∀ i, i < nl → lg' i = lg i) → rwk nr a' b' lg' nl = rwk nr a b lg nl
  | 0, _ => rfl
  | m + 1, h => by
    have hg : rwGo nr a' b' (lg' m) = rwGo nr a b (lg m) := by
      funext q
      unfold rwGo
      rw [h m (by omega)]
      apply fm_cg
      intro r hr
      have hr' := List.mem_range.mp hr
      unfold rwX
      rw [ha r hr', hb r hr']
    rw [rwk, rwk, rwk_cg ha hb m (fun i hi => h i (by omega)), hg]
theorem rwOf_cg {σ σ' : FH} {nr nl : Nat} (h1 : ∀ i j, i < nr → j = 2 ∨ j = 3 → σ'.1 (8 + i) j = σ.1 (8 + i) j) (h2 : ∀ i, i < nl → σ'.1 5 i = σ.1 5 i) : rwOf σ' nr nl = rwOf σ nr nl :=
  rwk_cg (fun i hi => h1 i 2 hi (Or.inl rfl)) (fun i hi => h1 i 3 hi (Or.inr rfl)) nl h2
theorem rwk_lt {nr : Nat} {a b lg : Nat → Int32} : ∀ nl q, q ∈ rwk nr a b lg nl → ∀ r, r ∈ q.1 → r < nr
  | 0, q, h, r, hr => by
    simp only [rwk, List.mem_singleton] at h
    subst h
    simp at hr
  | m + 1, q, h, r, hr => by
    obtain ⟨q0, h0, h1⟩ := List.mem_flatMap.mp h
    unfold rwGo at h1
    obtain ⟨r0, h2, h3⟩ := List.mem_filterMap.mp h1
    split at h3
    · simp only [Option.some.injEq] at h3
      subst h3
      rcases List.mem_cons.mp hr with e | e
      · subst e; exact List.mem_range.mp h2
      · exact rwk_lt m q0 h0 r e
    · simp at h3
theorem rwL_cg {nr : Nat} {wt wt' : Nat → Nat} (h : ∀ i, i < nr → wt' i = wt i) : ∀ q : List Nat, (∀ r, r ∈ q → r < nr) → rwL wt' q = rwL wt q
  | [], _ => rfl
  | r :: q, hq => by
    rw [rwL, rwL, h r (hq r List.mem_cons_self), rwL_cg h q (fun x hx => hq x (List.mem_cons_of_mem _ hx))]
theorem rwH_cg {nr : Nat} {wt wt' : Nat → Nat} (h : ∀ i, i < nr → wt' i = wt i) (q : List Nat) : rwH nr wt' q = rwH nr wt q := by
  unfold rwH
  exact fb_sm_cong (fun k hk => by rw [h k hk])
theorem rwT.cg {nr nl : Nat} {σ σ' : FH} (h : rwT nr nl σ) (h1 : ∀ i j, i < nr → j = 1 ∨ j = 2 ∨ j = 3 ∨ j = 5 → σ'.1 (8 + i) j = σ.1 (8 + i) j) (h2 : ∀ i, i < nl → σ'.1 5 i = σ.1 5 i) (h3 : σ'.1 71 0 = σ.1 71 0) (h4 : σ'.1 71 1 = σ.1 71 1) (h5 : ∀ j, σ'.1 72 j = σ.1 72 j) : rwT nr nl σ' := by
  obtain ⟨a1, a2, a3⟩ := h
  have e1 : rwOf σ' nr nl = rwOf σ nr nl := rwOf_cg (fun i j hi hj => h1 i j hi (by omega)) h2
  have hw : ∀ i, i < nr → rwWt σ' i = rwWt σ i := fun i hi => by unfold rwWt; rw [h1 i 1 hi (by omega), h1 i 5 hi (by omega)]
  have hl : ∀ q, q ∈ rwOf σ nr nl → rwL (rwWt σ') q.1 = rwL (rwWt σ) q.1 := fun q hq => rwL_cg hw q.1 (rwk_lt nl q hq)
  refine ⟨by rw [h3, e1]; exact a1, fun x hx => ?_, ?_⟩
  · rw [h5, e1, a2 x hx]
    congr 2
    funext q
    rw [rwH_cg hw]
  · rw [h4, e1]
    rcases a3 with ⟨r, b1, b2, b3, b4⟩ | ⟨b1, b2⟩
    · exact Or.inl ⟨r, b1, b2, b3, fun q hq => by rw [hl q hq]; exact b4 q hq⟩
    · exact Or.inr ⟨b1, fun ⟨r, c1, c2, c3⟩ => b2 ⟨r, c1, c2, fun q hq => by rw [← hl q hq]; exact c3 q hq⟩⟩
theorem iRw.cg {nr nl : Nat} {σ σ' : FH} (hr : nr ≤ 8) (h : iRw nr nl σ) (h0 : σ'.2 = σ.2) (h1 : ∀ k j, 8 ≤ k → k < 16 → j = 1 ∨ j = 2 ∨ j = 3 ∨ j = 5 → σ'.1 k j = σ.1 k j) (h2 : ∀ j, σ'.1 5 j = σ.1 5 j) (h3 : ∀ j, j = 0 ∨ j = 1 ∨ j = 9 → σ'.1 71 j = σ.1 71 j) (h5 : ∀ j, σ'.1 72 j = σ.1 72 j) : iRw nr nl σ' := by
  obtain ⟨a1, a2⟩ := h
  refine ⟨by unfold iRf at *; rw [h0]; exact a1, ?_⟩
  rw [h3 9 (by omega)]
  exact a2.imp (fun x => x) (fun x => ⟨x.1, x.2.cg (fun i j hi hj => h1 _ _ (by omega) (by omega) hj) (fun i _ => h2 i) (h3 0 (by omega)) (h3 1 (by omega)) h5⟩)
