/-- z is no cell's number, or a cell that has variables -/
def fz_ng (tm : Nat → List Nat) (n : Nat) (z : Int32) : Prop := fz_bad n z ∨ ∃ c, c < n ∧ z = nI c ∧ ¬ fz_Gr (tm c)
theorem fz_cls (tm : Nat → List Nat) (z : Int32) {n : Nat} (hn : n < 2 ^ 31) : fz_ng tm n z ∨ ∃ c, c < n ∧ z = nI c ∧ fz_Gr (tm c) := by
  rcases fz_ix z hn with h | ⟨c, hc, e⟩
  · exact .inl (.inl h)
  · by_cases g : fz_Gr (tm c)
    · exact .inr ⟨c, hc, e, g⟩
    · exact .inl (.inr ⟨c, hc, e, g⟩)
/-- the table has that row -/
def fz_Hs (tm : Nat → List Nat) (rl rr : Nat → Int32) (t r l m : Nat) : Prop := ∃ j, j < r ∧ tm (rl (6 * t + j)).toNatClampNeg = tm l ∧ tm (rr (6 * t + j)).toNatClampNeg = tm m
section
variable {f_variableCount f_cellCount f_goalCount f_frozenOn f_equationCount f_disequalityCount f_solved f_solutionCount : Int32} {a_kind a_first a_second a_size a_variablesIn a_rowCount a_rowLeft a_rowRight a_goalTable a_goalX a_goalY a_equationX a_equationY a_disequalityX a_disequalityY a_solutionChoice a_value a_walkX a_walkY : Nat → Int32} {a_code a_solutionCode : Nat → Int64}
variable {V n : Nat} {tm : Nat → List Nat}
theorem fz_ngX {post : Int32 → Prop} (hn : n ≤ 48) (hC : fz_CX V tm n a_kind a_first a_second a_size a_variablesIn a_code) (e : f_cellCount = nI n) {z : Int32} (h : fz_ng tm n z) (hp : post 0) : wpX_isGroundCell post (f_variableCount, f_cellCount, f_goalCount, f_frozenOn, f_equationCount, f_disequalityCount, f_solved, f_solutionCount, a_kind, a_first, a_second, a_size, a_variablesIn, a_code, a_rowCount, a_rowLeft, a_rowRight, a_goalTable, a_goalX, a_goalY, a_equationX, a_equationY, a_disequalityX, a_disequalityY, a_solutionChoice, a_solutionCode, a_value, a_walkX, a_walkY) z := by
  rcases h with h | ⟨c, hc, rfl, g⟩
  · unfold wpX_isGroundCell
    refine fz_icX0 e h ?_
    exact br_t rfl hp
  · have cc : (nI c).toNatClampNeg = c := nI_clamp (by omega)
    unfold wpX_isGroundCell
    refine fz_icX1 hn e hc ?_
    exact br_f (by decide) ⟨vp_in_nI (by omega) (by omega), br_f (by rw [cc]; exact fun q => g ((fz_vi0 (hC c hc)).mp q)) hp⟩
theorem fz_grX {post : Int32 → Prop} (hn : n ≤ 48) (hC : fz_CX V tm n a_kind a_first a_second a_size a_variablesIn a_code) (e : f_cellCount = nI n) {c : Nat} (hc : c < n) (g : fz_Gr (tm c)) (hp : post 1) : wpX_isGroundCell post (f_variableCount, f_cellCount, f_goalCount, f_frozenOn, f_equationCount, f_disequalityCount, f_solved, f_solutionCount, a_kind, a_first, a_second, a_size, a_variablesIn, a_code, a_rowCount, a_rowLeft, a_rowRight, a_goalTable, a_goalX, a_goalY, a_equationX, a_equationY, a_disequalityX, a_disequalityY, a_solutionChoice, a_solutionCode, a_value, a_walkX, a_walkY) (nI c) := by
  have cc : (nI c).toNatClampNeg = c := nI_clamp (by omega)
  unfold wpX_isGroundCell
  refine fz_icX1 hn e hc ?_
  exact br_f (by decide) ⟨vp_in_nI (by omega) (by omega), br_t (by rw [cc]; exact (fz_vi0 (hC c hc)).mpr g) hp⟩
theorem fz_ceq (hC : fz_CX V tm n a_kind a_first a_second a_size a_variablesIn a_code) {c d : Nat} (hc : c < n) (hd : d < n) (gc : fz_Gr (tm c)) (gd : fz_Gr (tm d)) : a_code c = a_code d ↔ tm c = tm d := by
  have qc := hC c hc
  have qd := hC d hd
  rw [qc.2.2.2.2.1 gc, qd.2.2.2.2.1 gd, pk_lEQ (fz_vbig qc.1 gc qc.2.1) (fz_vbig qd.1 gd qd.2.1), fz_vjW qc.1 gc qd.1 gd]
theorem fz_hasX (hn : n ≤ 48) (hC : fz_CX V tm n a_kind a_first a_second a_size a_variablesIn a_code) {t r l m : Nat} (ht : t < 4) (hr : r ≤ 6) (er : a_rowCount t = nI r) (hrow : ∀ j, j < r → ∃ c d, c < n ∧ d < n ∧ a_rowLeft (6 * t + j) = nI c ∧ a_rowRight (6 * t + j) = nI d ∧ fz_Gr (tm c) ∧ fz_Gr (tm d)) (hl : l < n) (gl : fz_Gr (tm l)) (hm : m < n) (gm : fz_Gr (tm m)) {post : Int32 → Prop}
    (h1 : fz_Hs tm a_rowLeft a_rowRight t r l m → post 1) (h0 : ¬ fz_Hs tm a_rowLeft a_rowRight t r l m → post 0) : wpX_hasRow post (f_variableCount, f_cellCount, f_goalCount, f_frozenOn, f_equationCount, f_disequalityCount, f_solved, f_solutionCount, a_kind, a_first, a_second, a_size, a_variablesIn, a_code, a_rowCount, a_rowLeft, a_rowRight, a_goalTable, a_goalX, a_goalY, a_equationX, a_equationY, a_disequalityX, a_disequalityY, a_solutionChoice, a_solutionCode, a_value, a_walkX, a_walkY) (nI t) (nI l) (nI m) := by
  have it : vp_in (nI t) 4 := vp_in_nI ht (by omega)
  have il : vp_in (nI l) 48 := vp_in_nI (by omega) (by omega)
  have im : vp_in (nI m) 48 := vp_in_nI (by omega) (by omega)
  have cl : (nI l).toNatClampNeg = l := nI_clamp (by omega)
  have cm : (nI m).toNatClampNeg = m := nI_clamp (by omega)
  have RC : a_rowCount (nI t).toNatClampNeg = nI r := by rw [nI_clamp (by omega)]; exact er
  have key : ∀ (k j : Nat), j + k = r → ¬ fz_Hs tm a_rowLeft a_rowRight t j l m → wX_hasRow_3 post (nI t) (nI l) (nI m) f_variableCount f_cellCount f_goalCount f_frozenOn f_equationCount f_disequalityCount f_solved f_solutionCount a_kind a_first a_second a_size a_variablesIn a_code a_rowCount a_rowLeft a_rowRight a_goalTable a_goalX a_goalY a_equationX a_equationY a_disequalityX a_disequalityY a_solutionChoice a_solutionCode a_value a_walkX a_walkY (k + 1) (nI j) := by
    intro k
    induction k with
    | zero =>
      intro j hj hno
      have e : j = r := by omega
      subst e
      exact ⟨it, pk_le j j (fun _ => h0 hno) (fun q => absurd q (by omega)) RC⟩
    | succ k ih =>
      intro j hj hno
      obtain ⟨c, d, hc, hd, ec, ed, gc, gd⟩ := hrow j (by omega)
      have IX : nI t * 6 + nI j = nI (6 * t + j) := by
        show nI t * nI 6 + nI j = _
        rw [pk_mul, nI_add, Nat.mul_comm]
      have ii : vp_in (nI (6 * t + j)) 24 := vp_in_nI (by omega) (by omega)
      have ci : (nI (6 * t + j)).toNatClampNeg = 6 * t + j := nI_clamp (by omega)
      have LL : a_rowLeft (nI (6 * t + j)).toNatClampNeg = nI c := by rw [ci]; exact ec
      have RR : a_rowRight (nI (6 * t + j)).toNatClampNeg = nI d := by rw [ci]; exact ed
      have iL : vp_in (a_rowLeft (nI (6 * t + j)).toNatClampNeg) 48 := by rw [LL]; exact vp_in_nI (by omega) (by omega)
      have iR : vp_in (a_rowRight (nI (6 * t + j)).toNatClampNeg) 48 := by rw [RR]; exact vp_in_nI (by omega) (by omega)
      have CL : (a_code (a_rowLeft (nI (6 * t + j)).toNatClampNeg).toNatClampNeg = a_code (nI l).toNatClampNeg) ↔ tm c = tm l := by
        rw [LL, nI_clamp (n := c) (by omega), cl]
        exact fz_ceq hC hc hl gc gl
      have CR : (a_code (a_rowRight (nI (6 * t + j)).toNatClampNeg).toNatClampNeg = a_code (nI m).toNatClampNeg) ↔ tm d = tm m := by
        rw [RR, nI_clamp (n := d) (by omega), cm]
        exact fz_ceq hC hd hm gd gm
      have next : ¬ (tm c = tm l ∧ tm d = tm m) → ¬ fz_Hs tm a_rowLeft a_rowRight t (j + 1) l m := by
        rintro hh ⟨i, hi, q1, q2⟩
        rcases Nat.lt_or_ge i j with h2 | h2
        · exact hno ⟨i, h2, q1, q2⟩
        · have : i = j := by omega
          subst this
          rw [ec, nI_clamp (n := c) (by omega)] at q1
          rw [ed, nI_clamp (n := d) (by omega)] at q2
          exact hh ⟨q1, q2⟩
      refine ⟨it, pk_le r j (fun q => absurd q (by omega)) (fun _ => nm_r IX ⟨ii, iL, il, ?_⟩) RC⟩
      by_cases e1 : tm c = tm l
      · refine br_t (CL.mpr e1) ⟨ii, iR, im, ?_⟩
        by_cases e2 : tm d = tm m
        · refine br_t (CR.mpr e2) (h1 ⟨j, by omega, ?_, ?_⟩)
          · rw [ec, nI_clamp (n := c) (by omega)]
            exact e1
          · rw [ed, nI_clamp (n := d) (by omega)]
            exact e2
        · exact br_f (fun q => e2 (CR.mp q)) (nm_r (nI_1 j) (ih (j + 1) (by omega) (next (fun q => e2 q.2))))
      · exact br_f (fun q => e1 (CL.mp q)) (nm_r (nI_1 j) (ih (j + 1) (by omega) (next (fun q => e1 q.1))))
  exact ⟨r + 1, key r 0 (by omega) (fun ⟨j, hj, _⟩ => absurd hj (by omega))⟩
end
section
variable {f_variables f_cells f_goals f_equations f_disequalities f_solved f_found : Int32} {a_sign a_first a_second a_rows a_left a_right a_goalTable a_goalX a_goalY a_goalFrozen a_equalX a_equalY a_differX a_differY a_choiceOf a_pick a_bind a_text a_from a_stack : Nat → Int32}
variable {V n : Nat} {tm : Nat → List Nat}
theorem fz_rowY0 (hV : V ≤ 6) (hn : n ≤ 48) (hC : fz_CY V tm n a_sign a_first a_second) (e : f_cells = nI n) {t : Nat} (ht : t < 4) {z2 z3 : Int32} (h : fz_ng tm n z2 ∨ fz_ng tm n z3) {post : Int32 → SY → Prop} (hp : ∀ tx fr sk, post (-1) (f_variables, f_cells, f_goals, f_equations, f_disequalities, f_solved, f_found, a_sign, a_first, a_second, a_rows, a_left, a_right, a_goalTable, a_goalX, a_goalY, a_goalFrozen, a_equalX, a_equalY, a_differX, a_differY, a_choiceOf, a_pick, a_bind, tx, fr, sk)) : wpY_addRow post (f_variables, f_cells, f_goals, f_equations, f_disequalities, f_solved, f_found, a_sign, a_first, a_second, a_rows, a_left, a_right, a_goalTable, a_goalX, a_goalY, a_goalFrozen, a_equalX, a_equalY, a_differX, a_differY, a_choiceOf, a_pick, a_bind, a_text, a_from, a_stack) (nI t) z2 z3 := by
  refine fz_tabY1 ht ?_
  rcases fz_ix z2 (n := n) (by omega) with b2 | ⟨c, hc, rfl⟩
  · exact fz_icY0 e b2 (br_t rfl (hp _ _ _))
  · refine fz_icY1 hn e hc (br_f (by decide) ?_)
    rcases fz_ix z3 (n := n) (by omega) with b3 | ⟨d, hd, rfl⟩
    · exact fz_icY0 e b3 (br_t rfl (hp _ _ _))
    · have no : ¬ (fz_Gr (tm c) ∧ fz_Gr (tm d)) := by
        rintro ⟨g1, g2⟩
        have nb : ∀ x, x < n → fz_Gr (tm x) → ¬ fz_ng tm n (nI x) := by
          rintro x hx g ((q | q) | ⟨y, hy, q, g'⟩)
          · exact nI_pos (by omega) q
          · exact absurd ((nI_leI (by omega) (by omega)).mp q) (by omega)
          · have := (nI_eq (a := x) (b := y) (by omega) (by omega)).mp q
            rw [this] at g
            exact g' g
        rcases h with q | q
        · exact nb c hc g1 q
        · exact nb d hd g2 q
      refine fz_icY1 hn e hd (br_f (by decide) (fz_grd hV hn hC hc rfl (fun g1 tx fr sk => ?_) (fun g1 tx fr sk => br_t rfl (hp tx fr sk))))
      exact br_f (by decide) (fz_grd hV hn hC hd rfl (fun g2 tx fr sk => absurd ⟨g1, g2⟩ no) (fun g2 tx fr sk => br_t rfl (hp tx fr sk)))
theorem fz_rowY (hV : V ≤ 6) (hn : n ≤ 48) (hC : fz_CY V tm n a_sign a_first a_second) (e : f_cells = nI n) {t r l m : Nat} (ht : t < 4) (hr : r ≤ 6) (er : a_rows t = nI r) (hrow : ∀ j, j < r → ∃ c d, c < n ∧ d < n ∧ a_left (6 * t + j) = nI c ∧ a_right (6 * t + j) = nI d ∧ fz_Gr (tm c) ∧ fz_Gr (tm d)) (hl : l < n) (gl : fz_Gr (tm l)) (hm : m < n) (gm : fz_Gr (tm m)) {post : Int32 → SY → Prop}
    (h6 : r = 6 → ∀ tx fr sk, post (-2) (f_variables, f_cells, f_goals, f_equations, f_disequalities, f_solved, f_found, a_sign, a_first, a_second, a_rows, a_left, a_right, a_goalTable, a_goalX, a_goalY, a_goalFrozen, a_equalX, a_equalY, a_differX, a_differY, a_choiceOf, a_pick, a_bind, tx, fr, sk))
    (h1 : r < 6 → fz_Hs tm a_left a_right t r l m → ∀ bd tx fr sk, post (-1) (f_variables, f_cells, f_goals, f_equations, f_disequalities, f_solved, f_found, a_sign, a_first, a_second, a_rows, a_left, a_right, a_goalTable, a_goalX, a_goalY, a_goalFrozen, a_equalX, a_equalY, a_differX, a_differY, a_choiceOf, a_pick, bd, tx, fr, sk))
    (h0 : r < 6 → ¬ fz_Hs tm a_left a_right t r l m → ∀ bd tx fr sk, post (nI r) (f_variables, f_cells, f_goals, f_equations, f_disequalities, 0, f_found, a_sign, a_first, a_second, upd a_rows t (nI (r + 1)), upd a_left (6 * t + r) (nI l), upd a_right (6 * t + r) (nI m), a_goalTable, a_goalX, a_goalY, a_goalFrozen, a_equalX, a_equalY, a_differX, a_differY, a_choiceOf, a_pick, bd, tx, fr, sk)) : wpY_addRow post (f_variables, f_cells, f_goals, f_equations, f_disequalities, f_solved, f_found, a_sign, a_first, a_second, a_rows, a_left, a_right, a_goalTable, a_goalX, a_goalY, a_goalFrozen, a_equalX, a_equalY, a_differX, a_differY, a_choiceOf, a_pick, a_bind, a_text, a_from, a_stack) (nI t) (nI l) (nI m) := by
  have it : vp_in (nI t) 4 := vp_in_nI ht (by omega)
  have ct : (nI t).toNatClampNeg = t := nI_clamp (by omega)
  have RC : a_rows (nI t).toNatClampNeg = nI r := by rw [ct]; exact er
  refine fz_tabY1 ht (fz_icY1 hn e hl (br_f (by decide) (fz_icY1 hn e hm (br_f (by decide) (fz_grd hV hn hC hl rfl (fun _ tx fr sk => ?_) (fun q => absurd gl q))))))
  refine br_f (by decide) (fz_grd hV hn hC hm rfl (fun _ tx fr sk => ?_) (fun q => absurd gm q))
  refine br_f (by decide) ⟨it, pk_eq r 6 (fun q => h6 q tx fr sk) (fun q => fz_unb (fun bd hbd => ?_)) RC⟩
  have r6 : r < 6 := by omega
  have hb : fz_Vb tm n bd (fun _ => none) := ⟨fun _ _ => rfl, fun v hv => .inl ⟨rfl, hbd v hv⟩⟩
  have key : ∀ (k j : Nat) (tx fr sk : Nat → Int32), j + k = r → ¬ fz_Hs tm a_left a_right t j l m → wY_addRow_66 post (nI t) (nI l) (nI m) (k + 1) (nI j) f_variables f_cells f_goals f_equations f_disequalities f_solved f_found a_sign a_first a_second a_rows a_left a_right a_goalTable a_goalX a_goalY a_goalFrozen a_equalX a_equalY a_differX a_differY a_choiceOf a_pick bd tx fr sk := by
    intro k
    induction k with
    | zero =>
      intro j tx fr sk hj hno
      have ej : j = r := by omega
      subst ej
      have IX : 6 * nI t + a_rows (nI t).toNatClampNeg = nI (6 * t + j) := by
        rw [RC]
        show nI 6 * nI t + nI j = _
        rw [pk_mul, nI_add]
      have ii : vp_in (6 * nI t + a_rows (nI t).toNatClampNeg) 24 := by rw [IX]; exact vp_in_nI (by omega) (by omega)
      have ci : (6 * nI t + a_rows (nI t).toNatClampNeg).toNatClampNeg = 6 * t + j := by rw [IX]; exact nI_clamp (by omega)
      refine ⟨it, pk_le j j (fun _ => ⟨it, ii, nm_r (e' := upd a_left (6 * t + j) (nI l)) (by rw [ci]) ⟨it, ii, nm_r (e' := upd a_right (6 * t + j) (nI m)) (by rw [ci]) ⟨it, it, nm_r (e' := upd a_rows t (nI (j + 1))) (by rw [RC, nI_1, ct]) ⟨it, ?_⟩⟩⟩⟩) (fun q => absurd q (by omega)) RC⟩
      rw [ct, pk_us, nI_pred]
      exact h0 r6 hno bd tx fr sk
    | succ k ih =>
      intro j tx fr sk hj hno
      obtain ⟨c, d, hc, hd, ec, ed, gc, gd⟩ := hrow j (by omega)
      have IX : 6 * nI t + nI j = nI (6 * t + j) := by
        show nI 6 * nI t + nI j = _
        rw [pk_mul, nI_add]
      have ii : vp_in (6 * nI t + nI j) 24 := by rw [IX]; exact vp_in_nI (by omega) (by omega)
      have ci : (6 * nI t + nI j).toNatClampNeg = 6 * t + j := by rw [IX]; exact nI_clamp (by omega)
      have LL : a_left (6 * nI t + nI j).toNatClampNeg = nI c := by rw [ci]; exact ec
      have RR : a_right (6 * nI t + nI j).toNatClampNeg = nI d := by rw [ci]; exact ed
      have next : ¬ (tm c = tm l ∧ tm d = tm m) → ¬ fz_Hs tm a_left a_right t (j + 1) l m := by
        rintro hh ⟨i, hi, q1, q2⟩
        rcases Nat.lt_or_ge i j with h2 | h2
        · exact hno ⟨i, h2, q1, q2⟩
        · have : i = j := by omega
          subst this
          rw [ec, nI_clamp (n := c) (by omega)] at q1
          rw [ed, nI_clamp (n := d) (by omega)] at q2
          exact hh ⟨q1, q2⟩
      refine ⟨it, pk_le r j (fun q => absurd q (by omega)) (fun _ => ⟨ii, fz_same hV hn hC hb hc hl LL rfl (fun e1 tx1 fr1 sk1 => ?_) (fun e1 tx1 fr1 sk1 => ?_)⟩) RC⟩
      · rw [fz_txN, fz_txN] at e1
        refine br_f (by decide) ⟨ii, fz_same hV hn hC hb hd hm RR rfl (fun e2 tx2 fr2 sk2 => ?_) (fun e2 tx2 fr2 sk2 => ?_)⟩
        · rw [fz_txN, fz_txN] at e2
          refine br_f (by decide) (h1 r6 ⟨j, by omega, ?_, ?_⟩ bd tx2 fr2 sk2)
          · rw [ec, nI_clamp (n := c) (by omega)]
            exact e1
          · rw [ed, nI_clamp (n := d) (by omega)]
            exact e2
        · rw [fz_txN, fz_txN] at e2
          exact br_t rfl (nm_r (nI_1 j) (ih (j + 1) tx2 fr2 sk2 (by omega) (next (fun q => e2 q.2))))
      · rw [fz_txN, fz_txN] at e1
        exact br_t rfl (nm_r (nI_1 j) (ih (j + 1) tx1 fr1 sk1 (by omega) (next (fun q => e1 q.1))))
  exact ⟨r + 1, key r 0 tx fr sk (by omega) (fun ⟨j, hj, _⟩ => absurd hj (by omega))⟩
end
theorem i_vc_addRow {k : Nat} {u : SX} {v : SY} (I : i_Rel k u v) (hk : k + 5 ≤ 2561) (v1 : Int32) (v2 : Int32) (v3 : Int32) : wpX_addRow (fun r u' => wpY_addRow (fun r' v' => r' = r ∧ i_Rel (k + 5) u' v') v v1 v2 v3) u v1 v2 v3 := by
  obtain ⟨V, n, G, E, D, tm, f_frozenOn, f_solved, f_solutionCount, f_found, a_kind, a_first, a_second, a_size, a_variablesIn, a_code, a_rowCount, a_rowLeft, a_rowRight, a_goalTable, a_goalX, a_goalY, a_equationX, a_equationY, a_disequalityX, a_disequalityY, a_solutionChoice, a_solutionCode, a_sign, b_first, a_goalFrozen, a_choiceOf, a_value, a_walkX, a_walkY, a_pick, a_bind, a_text, a_from, a_stack, rfl, rfl, h⟩ := I
  have h' := h
  obtain ⟨hV1, hV, hn, hG, hE, hD, hCX, hCY, hRO, hGO, hQE, hQD, hF, hF2, hS⟩ := h'
  rcases fz_ix v1 (n := 4) (by omega) with b1 | ⟨t, ht, rfl⟩
  · unfold wpX_addRow
    refine fz_itX0 b1 ?_
    refine br_t rfl (fz_tabY b1 ⟨rfl, fz_mk h⟩)
  · unfold wpX_addRow
    refine fz_itX1 ht ?_
    refine br_f (by decide) ?_
    rcases fz_cls tm v2 (n := n) (by omega) with b2 | ⟨l, hl, rfl, gl⟩
    · exact fz_ngX hn hCX rfl b2 (br_t rfl (fz_rowY0 hV hn hCY rfl ht (.inl b2) (fun tx fr sk => ⟨rfl, fz_mk h⟩)))
    · refine fz_grX hn hCX rfl hl gl (br_f (by decide) ?_)
      rcases fz_cls tm v3 (n := n) (by omega) with b3 | ⟨m, hm, rfl, gm⟩
      · exact fz_ngX hn hCX rfl b3 (br_t rfl (fz_rowY0 hV hn hCY rfl ht (.inr b3) (fun tx fr sk => ⟨rfl, fz_mk h⟩)))
      · obtain ⟨r, hr, er, hrow⟩ := hRO t ht
        have it : vp_in (nI t) 4 := vp_in_nI ht (by omega)
        have ct : (nI t).toNatClampNeg = t := nI_clamp (by omega)
        have RC : a_rowCount (nI t).toNatClampNeg = nI r := by rw [ct]; exact er
        refine fz_grX hn hCX rfl hm gm (br_f (by decide) ⟨it, pk_lt r 6 (fun r6 => ?_) (fun r6 => ?_) RC⟩)
        · refine fz_hasX hn hCX ht hr er hrow hl gl hm gm (fun hs => ?_) (fun hs => ?_)
          · exact br_f (by decide) (fz_rowY hV hn hCY rfl ht hr er hrow hl gl hm gm (fun q => absurd q (by omega)) (fun _ _ bd tx fr sk => ⟨rfl, fz_mk h⟩) (fun _ q => absurd hs q))
          · have IX : nI t * 6 + nI r = nI (6 * t + r) := by
              show nI t * nI 6 + nI r = _
              rw [pk_mul, nI_add, Nat.mul_comm]
            have ii : vp_in (nI t * 6 + nI r) 24 := by rw [IX]; exact vp_in_nI (by omega) (by omega)
            have ci : (nI t * 6 + nI r).toNatClampNeg = 6 * t + r := by rw [IX]; exact nI_clamp (by omega)
            refine br_t rfl ⟨it, nm_r RC ⟨ii, nm_r (e' := upd a_rowLeft (6 * t + r) (nI l)) (by rw [ci]) ⟨ii, nm_r (e' := upd a_rowRight (6 * t + r) (nI m)) (by rw [ci]) ⟨it, nm_r (e' := upd a_rowCount t (nI (r + 1))) (by rw [nI_1, ct]) ?_⟩⟩⟩⟩
            refine fz_rowY hV hn hCY rfl ht hr er hrow hl gl hm gm (fun q => absurd q (by omega)) (fun _ q => absurd q hs) (fun _ _ bd tx fr sk => ⟨rfl, fz_mk ⟨hV1, hV, hn, hG, hE, hD, hCX, hCY, ?_, hGO, hQE, hQD, hF, hF2, .inl rfl⟩⟩)
            intro t' ht'
            by_cases et : t' = t
            · subst et
              refine ⟨r + 1, by omega, pk_us, fun j hj => ?_⟩
              by_cases ej : j = r
              · subst ej
                exact ⟨l, m, hl, hm, pk_us, pk_us, gl, gm⟩
              · obtain ⟨c, d, hc, hd, ec, ed, gc, gd⟩ := hrow j (by omega)
                refine ⟨c, d, hc, hd, ?_, ?_, gc, gd⟩
                · rw [pk_un (by omega)]
                  exact ec
                · rw [pk_un (by omega)]
                  exact ed
            · obtain ⟨r', hr', er', hrow'⟩ := hRO t' ht'
              refine ⟨r', hr', by rw [pk_un et]; exact er', fun j hj => ?_⟩
              obtain ⟨c, d, hc, hd, ec, ed, gc, gd⟩ := hrow' j hj
              refine ⟨c, d, hc, hd, ?_, ?_, gc, gd⟩
              · rw [pk_un (by omega)]
                exact ec
              · rw [pk_un (by omega)]
                exact ed
        · exact fz_rowY hV hn hCY rfl ht hr er hrow hl gl hm gm (fun _ tx fr sk => ⟨rfl, fz_mk h⟩) (fun q => absurd q (by omega)) (fun q => absurd q (by omega))
