/-! rows over the heap: fields, arrays, calls, new cells -/
/-- what the tables say of class t -/
def am_cS (t : Nat) (q : vw_C) : Prop := clsL[t]? = some q ∧ q.2.2 = nFt t ∧ (∀ w ∈ u_ws q.1 q.2.1 q.2.2, w ∈ am_T) ∧ (∀ k, k < q.2.2 → parseFieldDescriptor (q.2.1 k).2.2.1 = some (tyT t k)) ∧ (∀ a, a < q.2.2 → ∀ b, b < q.2.2 → a ≠ b → (q.2.1 a).2.1 ≠ (q.2.1 b).2.1)
/-- a field named by a class's constant: place j of class t -/
def am_fS (own : String) (i t j : Nat) : Prop := ∃ q : vw_C, am_cS t q ∧ j < q.2.2 ∧ Cond.fieldLink own i (q.2.1 j).1 (q.2.1 j).2.1 (q.2.1 j).2.2.1 ∈ am_T
def am_fP (own : String) (i t j : Nat) (fin : Bool) : Prop := ∃ q : vw_C, am_cS t q ∧ j < q.2.2 ∧ Cond.fieldLink own i (q.2.1 j).1 (q.2.1 j).2.1 (q.2.1 j).2.2.1 ∈ am_T ∧ (q.2.1 j).2.2.2 = fin ∧ (q.2.1 j).1 = own
def am_fQ (own : String) (i t j : Nat) : Prop := ∃ q : vw_C, am_cS t q ∧ j < q.2.2 ∧ Cond.fieldLink own i (q.2.1 j).1 (q.2.1 j).2.1 (q.2.1 j).2.2.1 ∈ am_T ∧ (q.2.1 j).2.2.2 = false
theorem am_fv_at {E : am_E} {σ : AH} {k t j n : Nat} (hj : j < n) : ((List.range n).map (am_fv E σ k t))[j]? = some (am_fv E σ k t j) := by
  rw [List.getElem?_map, List.getElem?_range hj]; rfl
section AR2
variable {E : am_E} {d : Nat} {B : Nat × Nat} {M : am_M} {cs ss pc : Nat} {lo : List (Option Value)} {st : List Value} {σ : AH} {Q : Option Value → AH → Prop}
/-- getfield, of whatever kind -/
theorem ar_get {i k t j : Nat} {v : Value} (hd : decode M.1 pc = .ok (.getfield i, 3)) (hf : am_fS M.2.1.cls i t j) (ho : isO σ k t) (hv : am_fv E σ k t j = am_cv E v) (kk : am_G E d B M cs ss (pc + 3) lo (v :: st) σ Q) : am_G E d B M cs ss pc lo (.ref k :: st) σ Q := by
  intro p e s m args below meth c H locs ls Z hC hW hS hl hF
  obtain ⟨q, ⟨c1, c2, c3, c4, c5⟩, hj, hlk⟩ := hf
  exact va_get (D := E.1) (C := q.1) (T := q.2.1) (N := q.2.2) hC.1 hC.2.1 hC.2.2.2.2.1 c3 hC.2.2.2.1 hW.2.1 hW.1 (k - 1) (am_atO ho) c1 j hj (hC.2.2.2.2.1 _ hlk) (fun _ h => h) (v := am_cv E v) (by rw [← c2, am_fv_at hj, hv]) hd (kk p e s m args below meth c H locs ls Z hC hW hS hl hF)
theorem ar_getI {i k t j : Nat} (hd : decode M.1 pc = .ok (.getfield i, 3)) (hf : am_fS M.2.1.cls i t j) (ho : isO σ k t) (ht : fkd (tyT t j) = 0) (kk : am_G E d B M cs ss (pc + 3) lo (.int (σ.2.2.1 k j) :: st) σ Q) : am_G E d B M cs ss pc lo (.ref k :: st) σ Q :=
  ar_get hd hf ho (by unfold am_fv; rw [ht]; rfl) kk
theorem ar_getR {i k t j r : Nat} (hd : decode M.1 pc = .ok (.getfield i, 3)) (hf : am_fS M.2.1.cls i t j) (ho : isO σ k t) (ht : fkd (tyT t j) = 1) (hr : σ.2.2.2.1 k j = r) (h0 : r ≠ 0) (kk : am_G E d B M cs ss (pc + 3) lo (.ref r :: st) σ Q) : am_G E d B M cs ss pc lo (.ref k :: st) σ Q :=
  ar_get hd hf ho (by unfold am_fv; rw [ht, hr]; show va_rf (am_op E r) = _; unfold am_op; rw [if_neg h0]; rfl) kk
theorem ar_getJ {i k t j : Nat} (hd : decode M.1 pc = .ok (.getfield i, 3)) (hf : am_fS M.2.1.cls i t j) (ho : isO σ k t) (ht : fkd (tyT t j) = 2) (kk : am_G E d B M cs ss (pc + 3) lo (.long (σ.2.2.2.2 k) :: st) σ Q) : am_G E d B M cs ss pc lo (.ref k :: st) σ Q :=
  ar_get hd hf ho (by unfold am_fv; rw [ht]; rfl) kk
/-- what changes one cell of the world keeps the rest of it -/
theorem am_W.put {E : am_E} {σ σ' : AH} {s : State} {H H1 : Heap} {k : Nat} (hW : am_W E σ s H) (h1 : 1 ≤ k) (h2 : k < σ.1) (hn : σ'.1 = σ.1) (ho : ∀ a, a ≠ k → am_cell E σ' a = am_cell E σ a) (he : va_at E.1 clsL (am_ad E k, am_cell E σ' k) H1) (oq : ∀ q : Nat, q ≠ am_ad E k → H1[q]? = H[q]?) (hz : H1.size = H.size) : am_W E σ' s H1 := by
  have hP := hW.1.set (am_D E σ) (am_at h1 h2) he oq
  rw [am_set h1 hn ho] at hP
  refine ⟨hP, hW.2.1, by rw [hz, hn]; exact hW.2.2.1, by rw [hn]; exact hW.2.2.2.1, hW.2.2.2.2.1.kept (oq _ ?_), hW.2.2.2.2.2⟩
  have := hW.2.2.2.2.2
  unfold am_ad
  rw [if_neg (by omega)]
  omega
theorem am_inA {E : am_E} {k : Nat} (h1 : 1 ≤ k) : am_A E (am_ad E k) := by
  show E.2.2.2.1 ≤ am_ad E k
  unfold am_ad
  rw [if_neg (by omega)]
  omega
/-- putfield, of whatever kind: σ' is σ with v there -/
theorem ar_put {i k t j : Nat} {v : Value} {σ' : AH} (hd : decode M.1 pc = .ok (.putfield i, 3)) (hf : am_fQ M.2.1.cls i t j ∨ (am_fP M.2.1.cls i t j true ∧ M.2.1.name = "<init>")) (ho : isO σ k t) (hnw : narrow (tyT t j) (am_cv E v) = am_cv E v) (hft : fits (tyT t j) (am_cv E v) = true)
    (hn : σ'.1 = σ.1) (hsh : σ'.2.1 k = σ.2.1 k) (hoth : ∀ a, a ≠ k → am_cell E σ' a = am_cell E σ a) (hv : am_fv E σ' k t j = am_cv E v) (hvo : ∀ x, x < nFt t → x ≠ j → am_fv E σ' k t x = am_fv E σ k t x) (kk : am_G E d B M cs ss (pc + 3) lo st σ' Q) : am_G E d B M cs ss pc lo (v :: .ref k :: st) σ Q := by
  intro p e s m args below meth c H locs ls Z hC hW hS hl hF
  obtain ⟨q, ⟨c1, c2, c3, c4, c5⟩, hj, hlk, hfin⟩ : ∃ q : vw_C, am_cS t q ∧ j < q.2.2 ∧ Cond.fieldLink M.2.1.cls i (q.2.1 j).1 (q.2.1 j).2.1 (q.2.1 j).2.2.1 ∈ am_T ∧ ((q.2.1 j).2.2.2 = false ∨ ((q.2.1 j).2.2.2 = true ∧ (q.2.1 j).1 = M.2.1.cls ∧ M.2.1.name = "<init>")) := by
    rcases hf with ⟨q, a1, a2, a3, a4⟩ | ⟨⟨q, a1, a2, a3, a4, a5⟩, a6⟩
    · exact ⟨q, a1, a2, a3, Or.inl a4⟩
    · exact ⟨q, a1, a2, a3, Or.inr ⟨a4, a5, a6⟩⟩
  have hts := hC.2.2.2.2.1
  have hap := va_apart (D := E.1) (own := M.2.1.cls) hts c3 (tyT t) c4 c5 hW.2.1 c1
  obtain ⟨r, h1, cell, q1, q2, q3, q4⟩ := hW.1 (k - 1) _ (am_atO ho)
  have hr : r = q := Option.some.inj (h1.symm.trans c1)
  subst hr
  obtain ⟨hSl, hfc, kC, hkC, hkind⟩ := hW.2.1.1 t _ c1
  obtain ⟨cf, kf, fi, f, hi, hsl⟩ := hSl j hj
  have hst := (u_facts hfc hkC (u_lays hts c3 hj) hi).1
  have hlay := hts _ (c3 _ (u_in_lay hj))
  have fin : ∀ H1 : Heap, H1[am_ad E k]? = some (cell.setSlot f.slot (am_cv E v)) → H1.size = H.size → (∀ q : Nat, q ≠ am_ad E k → H1[q]? = H[q]?) → W p E.2.2.2.2.2.2 e (am_rm d B) s m args below meth c H1 (locs ++ [⟨am_ad E k, f.slot⟩]) cs ss Z (F0 m (pc + 3) ls (st.map (am_cv E))) := by
    intro H1 e1 e2 e3
    refine kk p e s m args below meth c H1 _ ls Z hC (hW.put ho.1 ho.2.1 hn hoth ?_ e3 e2) (hS.put e2 e3 (am_inA ho.1)) hl hF
    rw [am_cellO (hsh ▸ ho.2.2)]
    rw [hsl] at e1
    refine ⟨_, c1, t_OB.to (V := updV (vp_V ((List.range (nFt t)).map (am_fv E σ k t))) j (am_cv E v)) ⟨_, e1, q2, q3, t_set q4 hap hj (am_cv E v)⟩ (fun x _ => ?_)⟩
    rw [vp_updV_set (by simpa [← c2] using hj) (am_cv E v) x, am_map_set hv hvo]
  rcases hfin with hfin | ⟨hfin, hdecl, hin2⟩
  · unfold u_lay at hlay
    rw [if_neg (by rw [hfin]; decide)] at hlay
    have h6 := u_store hfc hkC hkind hlay hi (c4 j hj) hnw hft
    exact W.putK hC.1 hC.2.1 (f := f) ⟨hC.2.2.2.1, hts _ hlk, ⟨_, _, _, hi⟩, hst⟩ (by rw [q2]; exact h6) q1 q3 (by rw [hsl]; exact k2_hasslot (q4 j hj)) rfl rfl hd fin
  · unfold u_lay at hlay
    rw [if_pos hfin] at hlay
    have hcf : m.cls = cf := by
      obtain ⟨_, _, c', _, _, _, -, -, hf', -, -, -, hown2, -⟩ := Cond.laysFinal_spec hlay
      have e1 : c' = cf := by have := hi.symm.trans hf'; simp at this; exact this.1.symm
      rw [hdecl] at hown2
      rw [← e1]; exact Option.some.inj (hC.2.2.2.1.symm.trans hown2)
    have h6 := u_fits hfc hkC hkind (Or.inr hlay) hi (c4 j hj) hnw hft
    exact W.putFinK hC.1 hC.2.1 hC.2.2.2.1 (hts _ hlk) hi hst hcf (hC.2.2.2.2.2.2.2.1.trans hin2) (by rw [q2]; exact h6) q1 q3 (by rw [hsl]; exact k2_hasslot (q4 j hj)) rfl rfl hd fin
theorem am_fvI {E : am_E} {σ : AH} {k t j : Nat} (ht : fkd (tyT t j) = 0) : am_fv E σ k t j = .int (σ.2.2.1 k j) := by unfold am_fv; rw [ht]; rfl
theorem am_tyI {ty : FieldType} (h : fkd ty = 0) : ty = .int ∨ ty = .boolean := by
  cases ty <;> simp [fkd] at h ⊢
theorem ar_putI {i k t j : Nat} {x : Int32} (hd : decode M.1 pc = .ok (.putfield i, 3)) (hf : am_fQ M.2.1.cls i t j ∨ (am_fP M.2.1.cls i t j true ∧ M.2.1.name = "<init>")) (ho : isO σ k t) (ht : fkd (tyT t j) = 0) (hb : tyT t j = .int ∨ x = 0 ∨ x = 1) (kk : am_G E d B M cs ss (pc + 3) lo st (am_sI σ k j x) Q) : am_G E d B M cs ss pc lo (.int x :: .ref k :: st) σ Q := by
  have hty := am_tyI ht
  refine ar_put (v := .int x) (σ' := am_sI σ k j x) hd hf ho ?_ ?_ rfl rfl (fun a h => am_sI_o a h) ?_ ?_ kk
  · rcases hb with h | h | h
    · rw [h]; rfl
    · rcases hty with e | e <;> rw [e] <;> subst h <;> rfl
    · rcases hty with e | e <;> rw [e] <;> subst h <;> rfl
  · rcases hb with h | h | h
    · rw [h]; rfl
    · rcases hty with e | e <;> rw [e] <;> subst h <;> rfl
    · rcases hty with e | e <;> rw [e] <;> subst h <;> rfl
  · rw [am_fvI ht]; simp [am_sI, am_cv]
  · intro y _ hy
    unfold am_fv
    have : (am_sI σ k j x).2.2.1 k y = σ.2.2.1 k y := by simp [am_sI, hy]
    rw [this]; rfl
theorem ar_putR {i k t j r : Nat} (hd : decode M.1 pc = .ok (.putfield i, 3)) (hf : am_fQ M.2.1.cls i t j ∨ (am_fP M.2.1.cls i t j true ∧ M.2.1.name = "<init>")) (ho : isO σ k t) (ht : (∃ C, tyT t j = .object C) ∨ ∃ y, tyT t j = .array y) (h0 : r ≠ 0) (kk : am_G E d B M cs ss (pc + 3) lo st (am_sR σ k j r) Q) : am_G E d B M cs ss pc lo (.ref r :: .ref k :: st) σ Q := by
  refine ar_put (v := .ref r) (σ' := am_sR σ k j r) hd hf ho ?_ ?_ rfl rfl (fun a h => am_sR_o a h) ?_ ?_ kk
  · rcases ht with ⟨C, e⟩ | ⟨C, e⟩ <;> rw [e] <;> rfl
  · rcases ht with ⟨C, e⟩ | ⟨C, e⟩ <;> rw [e] <;> rfl
  · have hk : fkd (tyT t j) = 1 := by rcases ht with ⟨C, e⟩ | ⟨C, e⟩ <;> rw [e] <;> rfl
    unfold am_fv; rw [hk]
    have : (am_sR σ k j r).2.2.2.1 k j = r := by simp [am_sR]
    rw [this]; show va_rf (am_op E r) = _; unfold am_op; rw [if_neg h0]; rfl
  · intro y _ hy
    unfold am_fv
    have : (am_sR σ k j r).2.2.2.1 k y = σ.2.2.2.1 k y := by simp [am_sR, hy]
    rw [this]; rfl
theorem ar_putJ {i k t j : Nat} {x : Int64} (hd : decode M.1 pc = .ok (.putfield i, 3)) (hf : am_fQ M.2.1.cls i t j ∨ (am_fP M.2.1.cls i t j true ∧ M.2.1.name = "<init>")) (ho : isO σ k t) (ht : tyT t j = .long) (h1 : ∀ y, y < nFt t → y ≠ j → fkd (tyT t y) ≠ 2) (kk : am_G E d B M cs ss (pc + 3) lo st (am_sJ σ k x) Q) : am_G E d B M cs ss pc lo (.long x :: .ref k :: st) σ Q := by
  refine ar_put (v := .long x) (σ' := am_sJ σ k x) hd hf ho (by rw [ht]; rfl) (by rw [ht]; rfl) rfl rfl (fun a h => am_sJ_o a h) ?_ ?_ kk
  · unfold am_fv; rw [ht]; simp [fkd, am_sJ, am_cv]
  · intro y hyn hy
    have := h1 y hyn hy
    unfold am_fv
    split
    · rfl
    · rename_i h; exact absurd h this
    · rfl
/-! arrays -/
theorem ar_iald {k n : Nat} {x : Int32} (hd : decode M.1 pc = .ok (.iaload, 1)) (ha : isA σ k n) (hin : vp_in x n) (kk : am_G E d B M cs ss (pc + 1) lo (.int (σ.2.2.1 k x.toNatClampNeg) :: st) σ Q) : am_G E d B M cs ss pc lo (.int x :: .ref k :: st) σ Q :=
  fun p e s m args below meth c H locs ls Z hC hW hS hl hF => va_iald (D := E.1) hC.1 hC.2.1 hW.2.1 hW.1 (k - 1) 0 (am_atA ha) rfl hin hd (kk p e s m args below meth c H locs ls Z hC hW hS hl hF)
theorem ar_iast {k n : Nat} {x y : Int32} (hd : decode M.1 pc = .ok (.iastore, 1)) (ha : isA σ k n) (hin : vp_in x n) (kk : am_G E d B M cs ss (pc + 1) lo st (am_sI σ k x.toNatClampNeg y) Q) : am_G E d B M cs ss pc lo (.int y :: .int x :: .ref k :: st) σ Q := by
  intro p e s m args below meth c H locs ls Z hC hW hS hl hF
  refine W.iast hC.1 hC.2.1 (hW.1 (k - 1) _ (am_atA ha)) ((hW.2.1.2 0 _ rfl).1 n (fun j => .int (σ.2.2.1 k j))) (fun q => by cases q) (by show ¬ (x < 0 ∨ (arrV _ _ _).slots.size ≤ _); rw [arrV_size]; exact hin) rfl rfl hd fun H1 e1 z1 oq => ?_
  refine kk p e s m args below meth c H1 _ ls Z hC (hW.put ha.1 ha.2.1 rfl (fun a h => am_sI_o a h) ?_ oq z1) (hS.put z1 oq (am_inA ha.1)) hl hF
  rw [am_cellA (show (am_sI σ k x.toNatClampNeg y).2.1 k = (0, n) from ha.2.2)]
  show H1[am_ad E k]? = some (vp_cell _ _)
  rw [e1]
  rw [vp_cell_i, vp_cell_i, arrV_store]
  congr 2
  funext q
  by_cases hq : q = x.toNatClampNeg
  · subst hq
    simp [updV, am_sI]
  · simp [updV, am_sI, hq]
theorem ar_alen {k n : Nat} {v : Int32} (hd : decode M.1 pc = .ok (.arraylength, 1)) (ha : isA σ k n) (hv : Int32.ofNat n = v) (kk : am_G E d B M cs ss (pc + 1) lo (.int v :: st) σ Q) : am_G E d B M cs ss pc lo (.ref k :: st) σ Q :=
  fun p e s m args below meth c H locs ls Z hC hW hS hl hF => va_alen (D := E.1) hC.1 hC.2.1 hW.2.1 hW.1 (k - 1) 0 (am_atA ha) rfl hv hd (kk p e s m args below meth c H locs ls Z hC hW hS hl hF)
theorem ar_aald {k t n r : Nat} {x : Int32} (hd : decode M.1 pc = .ok (.aaload, 1)) (ht : t < 2) (ha : isQ σ k t n) (hin : vp_in x n) (hr : σ.2.2.2.1 k x.toNatClampNeg = r) (h0 : r ≠ 0) (kk : am_G E d B M cs ss (pc + 1) lo (.ref r :: st) σ Q) : am_G E d B M cs ss pc lo (.int x :: .ref k :: st) σ Q := by
  intro p e s m args below meth c H locs ls Z hC hW hS hl hF
  have k2 := kk p e s m args below meth c H locs ls Z hC hW hS hl hF
  have e0 : va_rf (am_op E (σ.2.2.2.1 k x.toNatClampNeg)) = am_cv E (.ref r) := by rw [hr]; unfold am_op; rw [if_neg h0]; rfl
  rcases (show t = 0 ∨ t = 1 by omega) with rfl | rfl
  · refine va_aldq (D := E.1) (C := RX2) hC.1 hC.2.1 hW.2.1 hW.1 (k - 1) 1 (am_atQ (by omega) ha) rfl hin hd ?_
    rw [e0]; exact k2
  · refine va_aldq (D := E.1) (C := RX1) hC.1 hC.2.1 hW.2.1 hW.1 (k - 1) 2 (am_atQ (by omega) ha) rfl hin hd ?_
    rw [e0]; exact k2
/-- the script -/
theorem ar_sld {x : Int32} (hd : decode M.1 pc = .ok (.iaload, 1)) (hin : vp_in x E.2.2.2.2.1) (kk : am_G E d B M cs ss (pc + 1) lo (.int (E.2.2.2.2.2.1 x.toNatClampNeg) :: st) σ Q) : am_G E d B M cs ss pc lo (.int x :: .ref 0 :: st) σ Q := by
  intro p e s m args below meth c H locs ls Z hC hW hS hl hF
  obtain ⟨scr, h1, h2, h3, h4, h5⟩ := hW.2.2.2.2.1
  have hlt : x.toNatClampNeg < E.2.2.2.2.1 := Nat.not_le.mp fun q => hin (Or.inr q)
  exact W.iald (v := .int (E.2.2.2.2.2.1 x.toNatClampNeg)) hC.1 hC.2.1 h1 h2 h3 (by rw [h4]; exact hin) (h5 _ hlt) rfl rfl hd (kk p e s m args below meth c H locs ls Z hC hW hS hl hF)
theorem ar_slen (hd : decode M.1 pc = .ok (.arraylength, 1)) (kk : am_G E d B M cs ss (pc + 1) lo (.int (Int32.ofNat E.2.2.2.2.1) :: st) σ Q) : am_G E d B M cs ss pc lo (.ref 0 :: st) σ Q := by
  intro p e s m args below meth c H locs ls Z hC hW hS hl hF
  obtain ⟨scr, h1, h2, h3, h4, h5⟩ := hW.2.2.2.2.1
  exact W.alen (n := Int32.ofNat E.2.2.2.2.1) hC.1 hC.2.1 h1 h2 (by rw [h4] <;> rfl) rfl rfl hd (kk p e s m args below meth c H locs ls Z hC hW hS hl hF)
/-! new cells -/
theorem am_nw_o {E : am_E} {σ : AH} {q : Nat × Nat} (a : Nat) (h : a < σ.1) : am_cell E (am_nw σ q) a = am_cell E σ a := by
  have h' : a ≠ σ.1 := by omega
  have e0 : (am_nw σ q).2.1 a = σ.2.1 a := by simp [am_nw, h']
  have e1 : (am_nw σ q).2.2.1 a = σ.2.2.1 a := by funext i; simp [am_nw, h']
  have e3 : (am_nw σ q).2.2.2.1 a = σ.2.2.2.1 a := by funext i; simp [am_nw, h']
  have e4 : (am_nw σ q).2.2.2.2 a = σ.2.2.2.2 a := by simp [am_nw, h']
  have e2 : ∀ t, am_fv E (am_nw σ q) a t = am_fv E σ a t := by
    intro t; funext i
    unfold am_fv
    rw [e1, e3, e4]
  unfold am_cell
  rw [e0, e1, e3]
  split <;> (try simp only [e2])
theorem am_nw_lay {E : am_E} {σ : AH} {q : Nat × Nat} (h : 1 ≤ σ.1) : am_lay E (am_nw σ q) = am_lay E σ ++ [(E.2.2.2.1 + (σ.1 - 1), am_cell E (am_nw σ q) σ.1)] := by
  unfold am_lay
  rw [show (am_nw σ q).1 - 1 = (σ.1 - 1) + 1 from by show σ.1 + 1 - 1 = _; omega, List.range_succ, List.map_append]
  congr 1
  · apply List.map_congr_left
    intro i hi
    rw [am_nw_o (i + 1) (by have := List.mem_range.mp hi; omega)]
  · simp only [List.map_cons, List.map_nil]
    rw [show σ.1 - 1 + 1 = σ.1 by omega]
theorem am_W.push {E : am_E} {σ : AH} {q : Nat × Nat} {s : State} {H H1 : Heap} (hW : am_W E σ s H) (he : va_at E.1 clsL (H.size, am_cell E (am_nw σ q) σ.1) H1) (hz : H1.size = H.size + 1) (o1 : ∀ a : Nat, a < H.size → H1[a]? = H[a]?) : am_W E (am_nw σ q) s H1 := by
  have hsz := hW.2.2.1
  have h1 := hW.2.2.2.1
  have hbz := hW.2.2.2.2.2
  refine ⟨?_, hW.2.1, by rw [hz, hsz]; show _ = _ + (σ.1 + 1 - 1); omega, by show 1 ≤ σ.1 + 1; omega, hW.2.2.2.2.1.kept (o1 _ (by omega)), hbz⟩
  rw [am_nw_lay h1, ← hsz]
  refine (hW.1.kept (fun k x hx => o1 x.1 ((hW.1 k x hx).lt))).app (fun k x hx => ?_)
  have hz : k < 1 := (List.getElem?_eq_some_iff.mp hx).1
  rw [show k = 0 by omega] at hx
  cases hx
  exact he
theorem am_S_push {E : am_E} {H0 H H1 : Heap} {locs : List Loc} (hS : va_S (am_A E) H0 H locs) (hz : H1.size = H.size + 1) (o1 : ∀ a : Nat, a < H.size → H1[a]? = H[a]?) : va_S (am_A E) H0 H1 locs :=
  ⟨Nat.le_trans hS.1 (by omega), fun x h1 h2 => (o1 x (Nat.lt_of_lt_of_le h1 hS.1)).trans (hS.2.1 x h1 h2), hS.2.2⟩
theorem am_adn {E : am_E} {σ : AH} {s : State} {H : Heap} (hW : am_W E σ s H) : am_ad E σ.1 = H.size := by
  have := hW.2.2.2.1
  unfold am_ad
  rw [if_neg (by omega), hW.2.2.1]
def am_okt (ty : FieldType) : Bool := match ty with
  | .int => true
  | .boolean => true
  | .long => true
  | .object _ => true
  | .array _ => true
  | _ => false
theorem ar_new {i t n : Nat} (hd : decode M.1 pc = .ok (.new i, 3)) (hok : ∀ j, j < nFt t → am_okt (tyT t j) = true) (hc : ∃ q, am_cS t q ∧ q.2.2 = n ∧ Cond.classLink M.2.1.cls i q.1 ∈ am_T ∧ Cond.instantiable q.1 n ∈ am_T ∧ Cond.initialized q.1 ∈ am_T) (h1 : cs + 1 ≤ B.1) (h2 : ss + n ≤ B.2) (kk : am_G E d B M (cs + 1) (ss + n) (pc + 3) lo (.ref σ.1 :: st) (am_nw σ (t + 3, 0)) Q) : am_G E d B M cs ss pc lo st σ Q := by
  intro p e s m args below meth c H locs ls Z hC hW hS hl hF
  obtain ⟨q, ⟨c1, c2, c3, c4, c5⟩, rfl, k1, k2, k3⟩ := hc
  have hts := hC.2.2.2.2.1
  have hKn := hW.2.1.1 t _ c1
  refine W.newcK hC.1 hC.2.1 hC.2.2.2.1 (hts _ k1) (hts _ k2) (hts _ k3) rfl hd h1 h2 hKn.2.1 rfl fun H1 kC hkC e1 z1 o1 => ?_
  have kw := kk p e s m args below meth c H1 locs ls Z hC (hW.push ?_ z1 o1) (am_S_push hS z1 o1) hl hF
  · rw [List.map_cons, show am_cv E (.ref σ.1) = .ref H.size from by show Value.ref _ = _; rw [am_adn hW]] at kw
    exact kw
  · rw [am_cellO (t := t) (show ((am_nw σ (t + 3, 0)).2.1 σ.1).1 = t + 3 by simp [am_nw])]
    refine ⟨_, c1, (u_born (tyT t) hts c3 hKn hkC e1 c4).to (fun j hj => ?_)⟩
    rw [c2] at hj
    show _ = ((List.range (nFt t)).map (am_fv E (am_nw σ (t + 3, 0)) σ.1 t)).getD j .null
    rw [List.getD_eq_getElem?_getD, am_fv_at hj, Option.getD_some]
    have hk := hok j hj
    unfold am_fv
    generalize tyT t j = ty at hk ⊢
    cases ty <;> simp [am_okt] at hk <;> simp [fkd, am_nw, defaultValue, am_op, va_rf]
theorem ar_newa {N : Nat} {x : Int32} (hd : decode M.1 pc = .ok (.newarray .int, 2)) (harr : Cond.arrayClass .int ∈ am_T) (hx : ¬ x < 0) (hN : x.toNatClampNeg = N) (hb : N * 4 ≤ 536870912) (h1 : cs + 1 ≤ B.1) (h2 : ss + N ≤ B.2) (kk : am_G E d B M (cs + 1) (ss + N) (pc + 2) lo (.ref σ.1 :: st) (am_nw σ (0, N)) Q) : am_G E d B M cs ss pc lo (.int x :: st) σ Q := by
  intro p e s m args below meth c H locs ls Z hC hW hS hl hF
  refine va_newaK (atype := .int) hC.1 hC.2.1 (hC.2.2.2.2.1 _ harr) rfl hd rfl hx hN hb h1 h2 rfl fun H1 cA' e1 z1 o1 hAr hNm => ?_
  have hcA : cA' = E.2.1 0 := Option.some.inj (hNm.symm.trans (hW.2.1.2 0 _ rfl).2)
  subst hcA
  have kw := kk p e s m args below meth c H1 locs ls Z hC (hW.push ?_ z1 o1) (am_S_push hS z1 o1) hl hF
  · rw [List.map_cons, show am_cv E (.ref σ.1) = .ref H.size from by show Value.ref _ = _; rw [am_adn hW]] at kw
    exact kw
  · rw [am_cellA (n := N) (show (am_nw σ (0, N)).2.1 σ.1 = (0, N) by simp [am_nw])]
    show H1[H.size]? = some (vp_cell _ _)
    rw [e1, vp_cell_i]
    congr 2
    funext j
    simp [am_nw, newarray.typeOf, defaultValue]
theorem ar_newq {i t N : Nat} {C : String} {x : Int32} (hd : decode M.1 pc = .ok (.anewarray i, 3)) (ht : t < 2) (hC0 : (am_tys E)[t + 1]? = some (E.2.1 (t + 1), .object C)) (hcl : Cond.classLink M.2.1.cls i C ∈ am_T) (hov : Cond.arrayOver (.object C) ∈ lw_tbl) (hx : ¬ x < 0) (hN : x.toNatClampNeg = N) (hb : N * 4 ≤ 536870912) (h1 : cs + 1 ≤ B.1) (h2 : ss + N ≤ B.2) (kk : am_G E d B M (cs + 1) (ss + N) (pc + 3) lo (.ref σ.1 :: st) (am_nw σ (t + 1, N)) Q) : am_G E d B M cs ss pc lo (.int x :: st) σ Q := by
  intro p e s m args below meth c H locs ls Z hC hW hS hl hF
  subst hN
  refine W.anew hC.1 hC.2.1 hC.2.2.2.1 (hC.2.2.2.2.1 _ hcl) (va_AO.use (hC.2.2.2.2.2.2.2.2.2 C hov)) rfl hd rfl hx hb h1 h2 fun cA' kA comp f1 f2 f3 f4 => ?_
  obtain ⟨kA', comp', g1, g2, g3, g4⟩ := (hW.2.1.2 (t + 1) _ hC0).2
  have hcA : cA' = E.2.1 (t + 1) := Option.some.inj (f1.symm.trans g4)
  subst hcA
  generalize hH1 : H.push ({ cls := E.2.1 (t + 1), slots := Array.replicate x.toNatClampNeg .null, vm := .none } : Cell) = H1
  have z1 : H1.size = H.size + 1 := by rw [← hH1, Array.size_push]
  have e1 : H1[H.size]? = some (arrV (E.2.1 (t + 1)) x.toNatClampNeg (fun _ => .null)) := by rw [← hH1, Array.getElem?_push_size, ← arrV_new]
  have o1 : ∀ q : Nat, q < H.size → H1[q]? = H[q]? := fun q hq => by rw [← hH1, Array.getElem?_push, if_neg (Nat.ne_of_lt hq)]
  have kw := kk p e s m args below meth c H1 locs ls Z hC (hW.push ?_ z1 o1) (am_S_push hS z1 o1) hl hF
  · rw [List.map_cons, show am_cv E (.ref σ.1) = .ref H.size from by show Value.ref _ = _; rw [am_adn hW]] at kw
    exact kw
  · rw [am_cellQ (n := x.toNatClampNeg) ht (show (am_nw σ (t + 1, x.toNatClampNeg)).2.1 σ.1 = (t + 1, x.toNatClampNeg) by simp [am_nw])]
    show H1[H.size]? = some (vp_cell _ _)
    rw [e1, vp_cell_q]
    congr 2
    funext j
    simp [am_nw, am_op, va_rf]
theorem ar_aast {k t n r u : Nat} {q : vw_C} {x : Int32} (hd : decode M.1 pc = .ok (.aastore, 1)) (ht : t < 2) (ha : isQ σ k t n) (hin : vp_in x n) (hc : clsL[u]? = some q) (htq : (am_tys E)[t + 1]? = some (E.2.1 (t + 1), .object q.1)) (hr : isO σ r u) (kk : am_G E d B M cs ss (pc + 1) lo st (am_sR σ k x.toNatClampNeg r) Q) : am_G E d B M cs ss pc lo (.ref r :: .int x :: .ref k :: st) σ Q := by
  intro p e s m args below meth c H locs ls Z hC hW hS hl hF
  have hlt : x.toNatClampNeg < n := Nat.not_le.mp fun q => hin (Or.inr q)
  have h0 : ¬ x < 0 := fun q => hin (Or.inl q)
  obtain ⟨r', hr', cellV, g1, g2, g3, -⟩ := hW.1 (r - 1) _ (am_atO hr)
  have hcls := (hW.2.1.1 u q hc).2
  obtain ⟨kA, comp, k1, k2, k3, -⟩ := (hW.2.1.2 (t + 1) _ htq).2
  have hcomp : comp = E.1.1 u := Option.some.inj (k3.symm.trans hcls.1)
  subst hcomp
  obtain ⟨kC, hkC, -⟩ := hcls.2
  refine W.aast hC.1 hC.2.1 (hW.1 (k - 1) _ (am_atQ ht ha)) (fun q h => by cases h) (fun h => by cases h) k1 k2 rfl hkC ⟨h0, by show _ < (arrV _ _ _).slots.size; rw [arrV_size]; exact hlt⟩ g1 (fun q h => by rw [g3] at h; cases h) (by rw [g2]; exact hkC) (by rw [g2]; exact va_assign hcls) rfl rfl hd fun H1 e1 z1 oq => ?_
  refine kk p e s m args below meth c H1 _ ls Z hC (hW.put ha.1 ha.2.1 rfl (fun a h => am_sR_o a h) ?_ oq z1) (hS.put z1 oq (am_inA ha.1)) hl hF
  rw [am_cellQ ht (show (am_sR σ k x.toNatClampNeg r).2.1 k = (t + 1, n) from ha.2.2)]
  show H1[am_ad E k]? = some (vp_cell _ _)
  rw [e1]
  rw [vp_cell_q, vp_cell_q, arrV_store]
  have hr0 : r ≠ 0 := by have := hr.1; omega
  congr 2
  funext q
  by_cases hq : q = x.toNatClampNeg
  · subst hq
    simp [updV, am_sR, va_rf, am_op, hr0]
  · simp [updV, am_sR, hq]
end AR2
