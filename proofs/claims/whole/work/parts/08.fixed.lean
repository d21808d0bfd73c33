/-! THE FIXED HEAP: what both constructors leave; no method makes a cell. Cell 1 the CountedTrials, 2 its Page, 4, 24, 44 its Worlds, 64 its Search, 71 its Rows, 78 the reference. -/
def shpL : List (Nat × Nat) := [(0, 0), (9, 0), (3, 0), (0, 44), (8, 0), (0, 7), (1, 8), (2, 4), (5, 0), (5, 0), (5, 0), (5, 0), (5, 0), (5, 0), (5, 0), (5, 0), (4, 0), (0, 8), (4, 0), (0, 8), (4, 0), (0, 8), (4, 0), (0, 8), (8, 0), (0, 7), (1, 8), (2, 4), (5, 0), (5, 0), (5, 0), (5, 0), (5, 0), (5, 0), (5, 0), (5, 0), (4, 0), (0, 8), (4, 0), (0, 8), (4, 0), (0, 8), (4, 0), (0, 8), (8, 0), (0, 7), (1, 8), (2, 4), (5, 0), (5, 0), (5, 0), (5, 0), (5, 0), (5, 0), (5, 0), (5, 0), (4, 0), (0, 8), (4, 0), (0, 8), (4, 0), (0, 8), (4, 0), (0, 8), (7, 0), (0, 9), (0, 9), (0, 9), (0, 9), (0, 512), (0, 3072), (6, 0), (0, 61), (0, 8), (0, 1536), (0, 1536), (0, 1536), (0, 1536), (10, 0), (0, 44), (0, 32), (0, 45), (0, 20), (0, 32), (0, 3072), (0, 3072), (0, 3072), (0, 7), (0, 13824), (0, 13824), (0, 20), (0, 32), (0, 45), (0, 20), (0, 32), (0, 7)]
def shp (k : Nat) : Nat × Nat := shpL.getD k (0, 0)
def crfL : List (List Nat) := [[], [2, 4, 24, 44, 64, 71], [3], [], [0, 0, 0, 0, 0, 5, 6, 7], [], [8, 9, 10, 11, 12, 13, 14, 15], [16, 18, 20, 22], [], [], [], [], [], [], [], [], [0, 0, 0, 0, 0, 17], [], [0, 0, 0, 0, 0, 19], [], [0, 0, 0, 0, 0, 21], [], [0, 0, 0, 0, 0, 23], [], [0, 0, 0, 0, 0, 25, 26, 27], [], [28, 29, 30, 31, 32, 33, 34, 35], [36, 38, 40, 42], [], [], [], [], [], [], [], [], [0, 0, 0, 0, 0, 37], [], [0, 0, 0, 0, 0, 39], [], [0, 0, 0, 0, 0, 41], [], [0, 0, 0, 0, 0, 43], [], [0, 0, 0, 0, 0, 45, 46, 47], [], [48, 49, 50, 51, 52, 53, 54, 55], [56, 58, 60, 62], [], [], [], [], [], [], [], [], [0, 0, 0, 0, 0, 57], [], [0, 0, 0, 0, 0, 59], [], [0, 0, 0, 0, 0, 61], [], [0, 0, 0, 0, 0, 63], [], [65, 66, 67, 68, 69, 70], [], [], [], [], [], [], [0, 0, 72, 73], [], [], [], [], [], [], [79, 0, 80, 0, 0, 0, 0, 0, 0, 0, 81, 0, 82, 83, 0, 84, 85, 86, 0, 0, 0, 87, 88, 89, 0, 90, 91, 0, 0, 0, 0, 92, 93, 94, 95, 0], [], [], [], [], [], [], [], [], [], [], [], [], [], [], [], [], []]
def crf (k j : Nat) : Nat := (crfL.getD k []).getD j 0
abbrev FH : Type := (Nat → Nat → Int32) × (Nat → Nat) × Int64
def frf (σ : FH) (k j : Nat) : Nat := if k = 71 ∧ 4 ≤ j ∧ j ≤ 7 then σ.2.1 j else crf k j
def em (σ : FH) : AH := (96, shp, σ.1, frf σ, fun a => if a = 78 then σ.2.2 else 0)
def fsI (σ : FH) (k j : Nat) (v : Int32) : FH := (fun a i => if a = k ∧ i = j then v else σ.1 a i, σ.2)
def fsR (σ : FH) (j v : Nat) : FH := (σ.1, fun i => if i = j then v else σ.2.1 i, σ.2.2)
def fsJ (σ : FH) (v : Int64) : FH := (σ.1, σ.2.1, v)
def fO (k t : Nat) : Prop := 1 ≤ k ∧ k < 96 ∧ (shp k).1 = t + 3
def fA (k n : Nat) : Prop := 1 ≤ k ∧ k < 96 ∧ shp k = (0, n)
def fQ (k t n : Nat) : Prop := 1 ≤ k ∧ k < 96 ∧ shp k = (t + 1, n)
def isWd (w : Nat) : Prop := w = 4 ∨ w = 24 ∨ w = 44
def isRd (k : Nat) : Prop := ∃ w i, isWd w ∧ i < 8 ∧ k = w + 4 + i
def isPg (k : Nat) : Prop := ∃ w i, isWd w ∧ i < 4 ∧ k = w + 12 + 2 * i
theorem isWd.o {w : Nat} (h : isWd w) : fO w 5 := by rcases h with rfl | rfl | rfl <;> exact ⟨by decide, by decide, rfl⟩
theorem isWd.r5 {w : Nat} (h : isWd w) : crf w 5 = w + 1 := by rcases h with rfl | rfl | rfl <;> rfl
theorem isWd.r6 {w : Nat} (h : isWd w) : crf w 6 = w + 2 := by rcases h with rfl | rfl | rfl <;> rfl
theorem isWd.r7 {w : Nat} (h : isWd w) : crf w 7 = w + 3 := by rcases h with rfl | rfl | rfl <;> rfl
theorem isWd.a1 {w : Nat} (h : isWd w) : fA (w + 1) 7 := by rcases h with rfl | rfl | rfl <;> exact ⟨by decide, by decide, rfl⟩
theorem isWd.q2 {w : Nat} (h : isWd w) : fQ (w + 2) 0 8 := by rcases h with rfl | rfl | rfl <;> exact ⟨by decide, by decide, rfl⟩
theorem isWd.q3 {w : Nat} (h : isWd w) : fQ (w + 3) 1 4 := by rcases h with rfl | rfl | rfl <;> exact ⟨by decide, by decide, rfl⟩
theorem isWd.e2 {w i : Nat} (h : isWd w) (hi : i < 8) : crf (w + 2) i = w + 4 + i := by
  have key : ∀ i, i < 8 → crf (4 + 2) i = 4 + 4 + i ∧ crf (24 + 2) i = 24 + 4 + i ∧ crf (44 + 2) i = 44 + 4 + i := by decide
  obtain ⟨h1, h2, h3⟩ := key i hi
  rcases h with rfl | rfl | rfl <;> assumption
theorem isWd.e3 {w i : Nat} (h : isWd w) (hi : i < 4) : crf (w + 3) i = w + 12 + 2 * i := by
  have key : ∀ i, i < 4 → crf (4 + 3) i = 4 + 12 + 2 * i ∧ crf (24 + 3) i = 24 + 12 + 2 * i ∧ crf (44 + 3) i = 44 + 12 + 2 * i := by decide
  obtain ⟨h1, h2, h3⟩ := key i hi
  rcases h with rfl | rfl | rfl <;> assumption
theorem isRd.o {k : Nat} (h : isRd k) : fO k 2 := by
  obtain ⟨w, i, hw, hi, rfl⟩ := h
  have key : ∀ i, i < 8 → (shp (4 + 4 + i)).1 = 5 ∧ (shp (24 + 4 + i)).1 = 5 ∧ (shp (44 + 4 + i)).1 = 5 := by decide
  obtain ⟨h1, h2, h3⟩ := key i hi
  rcases hw with rfl | rfl | rfl <;> exact ⟨by omega, by omega, by assumption⟩
theorem isPg.f {k : Nat} (h : isPg k) : fO k 1 ∧ crf k 5 = k + 1 ∧ fA (k + 1) 8 ∧ k ≠ 71 := by
  obtain ⟨w, i, hw, hi, rfl⟩ := h
  have key : ∀ i, i < 4 → ((shp (4 + 12 + 2 * i)).1 = 4 ∧ crf (4 + 12 + 2 * i) 5 = 4 + 12 + 2 * i + 1 ∧ shp (4 + 12 + 2 * i + 1) = (0, 8)) ∧ ((shp (24 + 12 + 2 * i)).1 = 4 ∧ crf (24 + 12 + 2 * i) 5 = 24 + 12 + 2 * i + 1 ∧ shp (24 + 12 + 2 * i + 1) = (0, 8)) ∧ ((shp (44 + 12 + 2 * i)).1 = 4 ∧ crf (44 + 12 + 2 * i) 5 = 44 + 12 + 2 * i + 1 ∧ shp (44 + 12 + 2 * i + 1) = (0, 8)) := by decide
  obtain ⟨⟨h1, h2, h3⟩, ⟨h4, h5, h6⟩, ⟨h7, h8, h9⟩⟩ := key i hi
  rcases hw with rfl | rfl | rfl <;> exact ⟨⟨by omega, by omega, by assumption⟩, by assumption, ⟨by omega, by omega, by assumption⟩, by omega⟩
theorem isWd.rd {w : Nat} (h : isWd w) {x : Int32} (hx : vp_in x 8) : isRd (w + 4 + x.toNatClampNeg) := ⟨w, _, h, Nat.not_le.mp fun q => hx (Or.inr q), rfl⟩
theorem isWd.pg {w : Nat} (h : isWd w) {x : Int32} (hx : vp_in x 4) : isPg (w + 12 + 2 * x.toNatClampNeg) := ⟨w, _, h, Nat.not_le.mp fun q => hx (Or.inr q), rfl⟩
theorem frf_c {σ : FH} {k j r : Nat} (hk : k ≠ 71) (h : crf k j = r) : frf σ k j = r := by unfold frf; rw [if_neg (fun q => hk q.1)]; exact h
theorem isWd.ne {w : Nat} (h : isWd w) : w ≠ 71 ∧ w + 2 ≠ 71 ∧ w + 3 ≠ 71 := by rcases h with rfl | rfl | rfl <;> decide
/-- the judgement over the fixed heap -/
def eQ (Q : Option Value → FH → Prop) : Option Value → AH → Prop := fun v s => ∃ σ, s = em σ ∧ Q v σ
abbrev fGB (E : am_E) (d : Nat) (B : Nat × Nat) (M : am_M) (cs ss pc : Nat) (lo : List (Option Value)) (st : List Value) (σ : FH) (Q : Option Value → FH → Prop) : Prop := am_G E d B M cs ss pc lo st (em σ) (eQ Q)
abbrev fG (E : am_E) (d : Nat) (M : am_M) (pc : Nat) (lo : List (Option Value)) (st : List Value) (σ : FH) (Q : Option Value → FH → Prop) : Prop := fGB E d (0, 0) M 0 0 pc lo st σ Q
def fM (E : am_E) (d : Nat) (M : am_M) (av : List Value) (σ : FH) (Q : Option Value → FH → Prop) : Prop := am_Mt E d (0, 0) M av (em σ) (eQ Q)
def qi (Q : Int32 → FH → Prop) : Option Value → FH → Prop := fun v σ => ∃ x : Int32, v = some (.int x) ∧ Q x σ
def qj (Q : Int64 → FH → Prop) : Option Value → FH → Prop := fun v σ => ∃ x : Int64, v = some (.long x) ∧ Q x σ
def qv (Q : FH → Prop) : Option Value → FH → Prop := fun v σ => v = none ∧ Q σ
abbrev fMi (E : am_E) (d : Nat) (M : am_M) (av : List Value) (σ : FH) (Q : Int32 → FH → Prop) : Prop := fM E d M av σ (qi Q)
abbrev fMj (E : am_E) (d : Nat) (M : am_M) (av : List Value) (σ : FH) (Q : Int64 → FH → Prop) : Prop := fM E d M av σ (qj Q)
abbrev fMv (E : am_E) (d : Nat) (M : am_M) (av : List Value) (σ : FH) (Q : FH → Prop) : Prop := fM E d M av σ (qv Q)
theorem am_Mt.mono {E : am_E} {d : Nat} {B : Nat × Nat} {M : am_M} {av : List Value} {σ : AH} {Q Q' : Option Value → AH → Prop} (h : am_Mt E d B M av σ Q) (hq : ∀ v σ, Q v σ → Q' v σ) : am_Mt E d B M av σ Q' := by
  unfold am_Mt Met MetFree at h ⊢
  intro p e ha hc hk s m args below hf happ hp hk'
  obtain ⟨n, o, h1, h2, h3, ⟨⟨v, σ1, e1, e2, e3⟩, h4⟩, h5⟩ := h p e ha hc hk s m args below hf happ hp hk'
  exact ⟨n, o, h1, h2, h3, ⟨⟨v, σ1, e1, hq _ _ e2, e3⟩, h4⟩, h5⟩
theorem fM.mono {E : am_E} {d : Nat} {M : am_M} {av : List Value} {σ : FH} {Q Q' : Option Value → FH → Prop} (h : fM E d M av σ Q) (hq : ∀ v σ, Q v σ → Q' v σ) : fM E d M av σ Q' :=
  am_Mt.mono h (fun v s ⟨σ1, h1, h2⟩ => ⟨σ1, h1, hq _ _ h2⟩)
theorem fMi.mono {E : am_E} {d : Nat} {M : am_M} {av : List Value} {σ : FH} {Q Q' : Int32 → FH → Prop} (h : fMi E d M av σ Q) (hq : ∀ x σ, Q x σ → Q' x σ) : fMi E d M av σ Q' := fM.mono h (fun _ _ ⟨x, h1, h2⟩ => ⟨x, h1, hq _ _ h2⟩)
theorem fMv.mono {E : am_E} {d : Nat} {M : am_M} {av : List Value} {σ : FH} {Q Q' : FH → Prop} (h : fMv E d M av σ Q) (hq : ∀ σ, Q σ → Q' σ) : fMv E d M av σ Q' := fM.mono h (fun _ _ ⟨h1, h2⟩ => ⟨h1, hq _ h2⟩)
theorem fMj.mono {E : am_E} {d : Nat} {M : am_M} {av : List Value} {σ : FH} {Q Q' : Int64 → FH → Prop} (h : fMj E d M av σ Q) (hq : ∀ x σ, Q x σ → Q' x σ) : fMj E d M av σ Q' := fM.mono h (fun _ _ ⟨x, h1, h2⟩ => ⟨x, h1, hq _ _ h2⟩)
section FR
variable {E : am_E} {d : Nat} {B : Nat × Nat} {M : am_M} {cs ss pc : Nat} {lo : List (Option Value)} {st : List Value} {σ : FH} {Q : Option Value → FH → Prop}
theorem fr_ofG {av : List Value} (lo : List (Option Value)) (hy : plainName M.2.1.cls = true) (he : am_lo E 0 lo = lv_args 0 (av.map (am_cv E))) (hn : (lg_sl (av.map (am_cv E))).length ≤ M.2.2.1) (k : fG E d M 0 lo [] σ Q) : fM E d M av σ Q := am_ofG lo hy he hn k
theorem fr_getI {i k t j : Nat} (hd : decode M.1 pc = .ok (.getfield i, 3)) (hf : am_fS M.2.1.cls i t j) (ho : fO k t) (ht : fkd (tyT t j) = 0) (kk : fGB E d B M cs ss (pc + 3) lo (.int (σ.1 k j) :: st) σ Q) : fGB E d B M cs ss pc lo (.ref k :: st) σ Q := ar_getI hd hf ho ht kk
theorem fr_getR {i k t j r : Nat} (hd : decode M.1 pc = .ok (.getfield i, 3)) (hf : am_fS M.2.1.cls i t j) (ho : fO k t) (ht : fkd (tyT t j) = 1) (hr : frf σ k j = r) (h0 : r ≠ 0) (kk : fGB E d B M cs ss (pc + 3) lo (.ref r :: st) σ Q) : fGB E d B M cs ss pc lo (.ref k :: st) σ Q := ar_getR hd hf ho ht hr h0 kk
theorem fr_getJ {i : Nat} (hd : decode M.1 pc = .ok (.getfield i, 3)) (hf : am_fS M.2.1.cls i 7 35) (kk : fGB E d B M cs ss (pc + 3) lo (.long σ.2.2 :: st) σ Q) : fGB E d B M cs ss pc lo (.ref 78 :: st) σ Q := ar_getJ (t := 7) (j := 35) hd hf (show fO 78 7 from ⟨by decide, by decide, rfl⟩) rfl kk
theorem fr_putI {i k t j : Nat} {x : Int32} (hd : decode M.1 pc = .ok (.putfield i, 3)) (hf : am_fQ M.2.1.cls i t j) (ho : fO k t) (ht : fkd (tyT t j) = 0) (hb : tyT t j = .int ∨ x = 0 ∨ x = 1) (kk : fGB E d B M cs ss (pc + 3) lo st (fsI σ k j x) Q) : fGB E d B M cs ss pc lo (.int x :: .ref k :: st) σ Q := ar_putI hd (Or.inl hf) ho ht hb kk
theorem em_sR (σ : FH) (j v : Nat) (h : 4 ≤ j ∧ j ≤ 7) : am_sR (em σ) 71 j v = em (fsR σ j v) := by
  unfold am_sR em fsR
  dsimp only
  congr 4
  funext a i
  unfold frf
  by_cases ha : a = 71
  · subst ha
    by_cases hi : i = j
    · subst hi
      simp [h]
    · simp [hi]
  · simp [ha]
theorem em_sJ (σ : FH) (v : Int64) : am_sJ (em σ) 78 v = em (fsJ σ v) := by
  unfold am_sJ em fsJ
  dsimp only
  congr 4
  funext a
  by_cases ha : a = 78 <;> simp [ha]
theorem fr_putR {i j r : Nat} (hd : decode M.1 pc = .ok (.putfield i, 3)) (hf : am_fQ M.2.1.cls i 3 j) (hj : 4 ≤ j ∧ j ≤ 7) (h0 : r ≠ 0) (kk : fGB E d B M cs ss (pc + 3) lo st (fsR σ j r) Q) : fGB E d B M cs ss pc lo (.ref r :: .ref 71 :: st) σ Q := by
  refine ar_putR (t := 3) hd (Or.inl hf) (show fO 71 3 from ⟨by decide, by decide, rfl⟩) (Or.inr ⟨.int, ?_⟩) h0 ?_
  · rcases (show j = 4 ∨ j = 5 ∨ j = 6 ∨ j = 7 by omega) with rfl | rfl | rfl | rfl <;> rfl
  · rw [em_sR σ j r hj]; exact kk
theorem tyT7_35 : ∀ y, y < 36 → y ≠ 35 → fkd (tyT 7 y) ≠ 2 := by decide
theorem fr_putJ {i : Nat} {x : Int64} (hd : decode M.1 pc = .ok (.putfield i, 3)) (hf : am_fQ M.2.1.cls i 7 35) (kk : fGB E d B M cs ss (pc + 3) lo st (fsJ σ x) Q) : fGB E d B M cs ss pc lo (.long x :: .ref 78 :: st) σ Q := by
  refine ar_putJ (t := 7) (j := 35) hd (Or.inl hf) (show fO 78 7 from ⟨by decide, by decide, rfl⟩) rfl tyT7_35 ?_
  rw [em_sJ]; exact kk
theorem fr_iald {k n : Nat} {x : Int32} (hd : decode M.1 pc = .ok (.iaload, 1)) (ha : fA k n) (hin : vp_in x n) (kk : fGB E d B M cs ss (pc + 1) lo (.int (σ.1 k x.toNatClampNeg) :: st) σ Q) : fGB E d B M cs ss pc lo (.int x :: .ref k :: st) σ Q := ar_iald hd ha hin kk
theorem fr_iast {k n : Nat} {x y : Int32} (hd : decode M.1 pc = .ok (.iastore, 1)) (ha : fA k n) (hin : vp_in x n) (kk : fGB E d B M cs ss (pc + 1) lo st (fsI σ k x.toNatClampNeg y) Q) : fGB E d B M cs ss pc lo (.int y :: .int x :: .ref k :: st) σ Q := ar_iast hd ha hin kk
theorem fr_alen {k n : Nat} (hd : decode M.1 pc = .ok (.arraylength, 1)) (ha : fA k n) (kk : fGB E d B M cs ss (pc + 1) lo (.int (Int32.ofNat n) :: st) σ Q) : fGB E d B M cs ss pc lo (.ref k :: st) σ Q := ar_alen hd ha rfl kk
theorem fr_aaldR {w : Nat} {x : Int32} (hd : decode M.1 pc = .ok (.aaload, 1)) (hw : isWd w) (hin : vp_in x 8) (kk : fGB E d B M cs ss (pc + 1) lo (.ref (w + 4 + x.toNatClampNeg) :: st) σ Q) : fGB E d B M cs ss pc lo (.int x :: .ref (w + 2) :: st) σ Q :=
  ar_aald hd (by decide) hw.q2 hin (frf_c hw.ne.2.1 (hw.e2 (Nat.not_le.mp fun q => hin (Or.inr q)))) (by omega) kk
theorem fr_aaldP {w : Nat} {x : Int32} (hd : decode M.1 pc = .ok (.aaload, 1)) (hw : isWd w) (hin : vp_in x 4) (kk : fGB E d B M cs ss (pc + 1) lo (.ref (w + 12 + 2 * x.toNatClampNeg) :: st) σ Q) : fGB E d B M cs ss pc lo (.int x :: .ref (w + 3) :: st) σ Q :=
  ar_aald hd (by decide) hw.q3 hin (frf_c hw.ne.2.2 (hw.e3 (Nat.not_le.mp fun q => hin (Or.inr q)))) (by omega) kk
/-- forget a local -/
theorem ar_drop {E : am_E} {d : Nat} {B : Nat × Nat} {M : am_M} {cs ss pc : Nat} {lo : List (Option Value)} {st : List Value} {σ : AH} {Q : Option Value → AH → Prop} (i : Nat) {lo2 : List (Option Value)} (hl2 : lo.set i none = lo2) (k : am_G E d B M cs ss pc lo2 st σ Q) : am_G E d B M cs ss pc lo st σ Q := by
  subst hl2
  intro p e s m args below meth c H locs ls Z hC hW hS hl hF
  refine k p e s m args below meth c H locs ls Z hC hW hS ⟨hl.1, hl.2.1, fun q hq => ?_⟩ hF
  obtain ⟨j, v, h1, h2⟩ := (am_lo_mem _ _ _).mp hq
  refine hl.2.2 q ((am_lo_mem _ _ _).mpr ⟨j, v, ?_, h2⟩)
  by_cases hj : j = i
  · subst hj
    by_cases hlt : j < lo.length
    · rw [List.getElem?_set_self hlt] at h1
      simp at h1
    · rw [List.getElem?_eq_none (by simpa using hlt)] at h1
      simp at h1
  · rw [List.getElem?_set_ne (Ne.symm hj)] at h1
    exact h1
/-! calls: a virtual one, a static one, by what comes back -/
theorem fr_callV {i k t n : Nat} {M' : am_M} (As : List Value) {stk : List Value} {q : vw_C} {Q1 : Option Value → FH → Prop} (hd : decode M.1 pc = .ok (.invokevirtual i, 3)) (hlk : Cond.methodLink M.2.1.cls i M'.2.1 ∈ am_T) (hm : am_mV M' n) (hst : stk = As.reverse ++ .ref k :: st) (hn : As.length = n) (hk : fO k t) (hq : clsL[t]? = some q) (hqn : q.1 = M'.2.1.cls) (hr : (st.map fun v => v.category).sum ≤ 8) (hB : cs ≤ B.1 ∧ ss ≤ B.2)
    (kk : fM E d M' (.ref k :: As) σ Q1) (hc : ∀ v σ', Q1 v σ' → fGB E (d + 1) B M cs ss (pc + 3) lo (v.toList ++ st) σ' Q) : fGB E (d + 1) B M cs ss pc lo stk σ Q :=
  ar_callV (B' := (0, 0)) As hd hlk hm hst hn hk hq hqn hr hB (am_Mt.mono kk (fun v s ⟨σ', e, h⟩ => by subst e; exact hc v σ' h))
theorem fr_callS {i n : Nat} {M' : am_M} (As : List Value) {stk : List Value} {Q1 : Option Value → FH → Prop} (hd : decode M.1 pc = .ok (.invokestatic i, 3)) (hlk : Cond.methodLink M.2.1.cls i M'.2.1 ∈ am_T) (hm : am_mS M' n) (hst : stk = As.reverse ++ st) (hn : As.length = n) (hr : (st.map fun v => v.category).sum ≤ 8) (hB : cs ≤ B.1 ∧ ss ≤ B.2)
    (kk : fM E d M' As σ Q1) (hc : ∀ v σ', Q1 v σ' → fGB E (d + 1) B M cs ss (pc + 3) lo (v.toList ++ st) σ' Q) : fGB E (d + 1) B M cs ss pc lo stk σ Q :=
  ar_callS (B' := (0, 0)) As hd hlk hm hst hn hr hB (am_Mt.mono kk (fun v s ⟨σ', e, h⟩ => by subst e; exact hc v σ' h))
theorem fr_iret {Q : Int32 → FH → Prop} {x : Int32} (hd : decode M.1 pc = .ok (.ireturn, 1)) (hr : M.2.2.2 = some .int) (h1 : cs ≤ B.1) (h2 : ss ≤ B.2) (k : Q x σ) : fGB E d B M cs ss pc lo [.int x] σ (qi Q) := ar_iret hd hr h1 h2 ⟨σ, rfl, x, rfl, k⟩
theorem fr_zret {Q : Int32 → FH → Prop} {x : Int32} (hd : decode M.1 pc = .ok (.ireturn, 1)) (hr : M.2.2.2 = some .boolean) (h1 : cs ≤ B.1) (h2 : ss ≤ B.2) (hx : x = 0 ∨ x = 1) (k : Q x σ) : fGB E d B M cs ss pc lo [.int x] σ (qi Q) := ar_zret hd hr h1 h2 hx ⟨σ, rfl, x, rfl, k⟩
theorem fr_lret {Q : Int64 → FH → Prop} {x : Int64} (hd : decode M.1 pc = .ok (.lreturn, 1)) (hr : M.2.2.2 = some .long) (h1 : cs ≤ B.1) (h2 : ss ≤ B.2) (k : Q x σ) : fGB E d B M cs ss pc lo [.long x] σ (qj Q) := ar_lret hd hr h1 h2 ⟨σ, rfl, x, rfl, k⟩
theorem fr_vret {Q : FH → Prop} (hd : decode M.1 pc = .ok (.return_, 1)) (hr : M.2.2.2 = none) (h1 : cs ≤ B.1) (h2 : ss ≤ B.2) (k : Q σ) : fGB E d B M cs ss pc lo [] σ (qv Q) := ar_vret hd hr h1 h2 ⟨σ, rfl, rfl, k⟩
theorem sw_ne {x v : Int32} {n : Int} (h : ¬ x = v) (hv : v.toInt = n) : x.toInt ≠ n := fun e => h (Int32.toInt_inj.mp (e.trans hv.symm))
end FR
