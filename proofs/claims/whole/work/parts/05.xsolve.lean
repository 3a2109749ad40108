section
variable {f_variableCount f_cellCount f_goalCount f_frozenOn f_equationCount f_disequalityCount f_solved f_solutionCount : Int32} {a_kind a_first a_second a_size a_variablesIn a_rowCount a_rowLeft a_rowRight a_goalTable a_goalX a_goalY a_equationX a_equationY a_disequalityX a_disequalityY a_solutionChoice a_value a_walkX a_walkY : Nat → Int32} {a_code a_solutionCode : Nat → Int64}
variable {V n G E D : Nat} {tm : Nat → List Nat}
/-! ===== X: goalsHold ===== -/
theorem fz_ghL (hV : V ≤ 6) (hn : n ≤ 48) (hC : fz_CX V tm n a_kind a_first a_second a_size a_variablesIn a_code) (hG : G ≤ 4) (hGO : fz_GO n a_goalTable a_goalX a_goalY G) (hRO : fz_RO tm n a_rowCount a_rowLeft a_rowRight) {p : Nat → Nat} (hp : ∀ g, p g < 6) {post : Int32 → SX → Prop}
    (h1 : ∀ b val wx wy, fz_Vb tm n val b → (∀ g, g < G → p g < fz_Rw a_rowCount a_goalTable g) → (∀ v, fz_Gv tm a_goalX a_goalY G v → b v ≠ none) → (∀ s, fz_As s → (fz_Mt tm a_goalTable a_goalX a_goalY a_rowLeft a_rowRight 0 G p s ↔ fz_ex tm b s)) → post 1 (f_variableCount, f_cellCount, f_goalCount, f_frozenOn, f_equationCount, f_disequalityCount, f_solved, f_solutionCount, a_kind, a_first, a_second, a_size, a_variablesIn, a_code, a_rowCount, a_rowLeft, a_rowRight, a_goalTable, a_goalX, a_goalY, a_equationX, a_equationY, a_disequalityX, a_disequalityY, a_solutionChoice, a_solutionCode, val, wx, wy))
    (h0 : ∀ val wx wy, (¬ ∃ s, fz_As s ∧ (∀ g, g < G → p g < fz_Rw a_rowCount a_goalTable g) ∧ fz_Mt tm a_goalTable a_goalX a_goalY a_rowLeft a_rowRight 0 G p s) → post 0 (f_variableCount, f_cellCount, f_goalCount, f_frozenOn, f_equationCount, f_disequalityCount, f_solved, f_solutionCount, a_kind, a_first, a_second, a_size, a_variablesIn, a_code, a_rowCount, a_rowLeft, a_rowRight, a_goalTable, a_goalX, a_goalY, a_equationX, a_equationY, a_disequalityX, a_disequalityY, a_solutionChoice, a_solutionCode, val, wx, wy)) :
    ∀ (j : Nat) (x3 : Int32) (b : Nat → Option Nat) (val wx wy : Nat → Int32), j ≤ G → x3 = nI j + (-1) → fz_Vb tm n val b → (∀ g, j ≤ g → g < G → p g < fz_Rw a_rowCount a_goalTable g ∧ ∀ v, (100 + v ∈ tm (a_goalX g).toNatClampNeg ∨ 100 + v ∈ tm (a_goalY g).toNatClampNeg) → b v ≠ none) →
      (∀ s, fz_As s → (fz_Mt tm a_goalTable a_goalX a_goalY a_rowLeft a_rowRight j G p s ↔ fz_ex tm b s)) → ∀ m, j < m → wX_goalsHold_30 post m (nI (fz_x6 p j)) x3 f_variableCount f_cellCount f_goalCount f_frozenOn f_equationCount f_disequalityCount f_solved f_solutionCount a_kind a_first a_second a_size a_variablesIn a_code a_rowCount a_rowLeft a_rowRight a_goalTable a_goalX a_goalY a_equationX a_equationY a_disequalityX a_disequalityY a_solutionChoice a_solutionCode val wx wy := by
  intro j
  induction j with
  | zero =>
    intro x3 b val wx wy _ e3 hb hg hM m hm
    obtain ⟨m, rfl⟩ : ∃ k, m = k + 1 := ⟨m - 1, by omega⟩
    subst e3
    refine br_t (by decide) (h1 b val wx wy hb (fun g hg' => (hg g (Nat.zero_le _) hg').1) (fun v hv => ?_) hM)
    obtain ⟨g, hg', h⟩ := hv
    exact (hg g (Nat.zero_le _) hg').2 v h
  | succ j ih =>
    intro x3 b val wx wy hj e3 hb hg hM m hm
    obtain ⟨m, rfl⟩ : ∃ k, m = k + 1 := ⟨m - 1, by omega⟩
    rw [pk_m1] at e3
    subst e3
    obtain ⟨t, x, y, ht, hx, hy, et, ex, ey⟩ := hGO j (by omega)
    obtain ⟨r, hr, er, hrow⟩ := hRO t ht
    have hR := fz_RwE ht hr et er
    have hb6 := fz_x6b (p := p) (j := j + 1) (fun g _ => hp g) (by omega)
    have hs6 : fz_x6 p (j + 1) = 6 * fz_x6 p j + p j := rfl
    have hpj := hp j
    have eM : nI (fz_x6 p (j + 1)) - nI (fz_x6 p (j + 1)) / 6 * 6 = nI (p j) := by
      have h := pk_rem (a := fz_x6 p (j + 1)) (d := 6) (by omega) (by omega) (by omega)
      rw [show fz_x6 p (j + 1) % 6 = p j by omega] at h
      exact h
    have eD : nI (fz_x6 p (j + 1)) / 6 = nI (fz_x6 p j) := by
      have h := pk_div (a := fz_x6 p (j + 1)) (d := 6) (by omega) (by omega) (by omega)
      rw [show fz_x6 p (j + 1) / 6 = fz_x6 p j by omega] at h
      exact h
    have ij : vp_in (nI j) 4 := vp_in_nI (by omega) (by omega)
    have cj : (nI j).toNatClampNeg = j := nI_clamp (by omega)
    have T : a_goalTable (nI j).toNatClampNeg = nI t := by rw [cj]; exact et
    have it : vp_in (a_goalTable (nI j).toNatClampNeg) 4 := by rw [T]; exact vp_in_nI ht (by omega)
    have RC : a_rowCount (a_goalTable (nI j).toNatClampNeg).toNatClampNeg = nI r := by rw [T, nI_clamp (by omega)]; exact er
    have A5 : a_goalTable (nI j).toNatClampNeg * 6 + nI (p j) = nI (t * 6 + p j) := by
      rw [T]
      show nI t * nI 6 + nI (p j) = _
      rw [pk_mul, nI_add]
    have GX : a_goalX (nI j).toNatClampNeg = nI x := by rw [cj]; exact ex
    have GY : a_goalY (nI j).toNatClampNeg = nI y := by rw [cj]; exact ey
    refine br_f (nI_pos (by omega)) ⟨by decide, nm_r eM ⟨by decide, nm_r eD ⟨ij, it, pk_lt (p j) r (fun hpr => ?_) (fun hpr => ?_) rfl RC⟩⟩⟩
    · obtain ⟨c, d, hc, hd, ec, ed, gc, gd⟩ := hrow (p j) hpr
      have i5 : vp_in (nI (t * 6 + p j)) 24 := vp_in_nI (by omega) (by omega)
      have L : a_rowLeft (nI (t * 6 + p j)).toNatClampNeg = nI c := by rw [nI_clamp (by omega), Nat.mul_comm]; exact ec
      have Rr : a_rowRight (nI (t * 6 + p j)).toNatClampNeg = nI d := by rw [nI_clamp (by omega), Nat.mul_comm]; exact ed
      have step : ∀ s, fz_Mt tm a_goalTable a_goalX a_goalY a_rowLeft a_rowRight j G p s ↔ (fz_sb s (tm x) = tm c ∧ fz_sb s (tm y) = tm d) ∧ fz_Mt tm a_goalTable a_goalX a_goalY a_rowLeft a_rowRight (j + 1) G p s := fun s => fz_MtS (by omega) ht (by omega) (by omega) (by omega) (by omega) et ex ey ec ed
      have up : ∀ s, fz_Mt tm a_goalTable a_goalX a_goalY a_rowLeft a_rowRight 0 G p s → fz_Mt tm a_goalTable a_goalX a_goalY a_rowLeft a_rowRight j G p s := fun s h g _ hg' => h g (Nat.zero_le _) hg'
      refine ⟨ij, nm_r A5 ⟨ij, i5, fz_agree hV hn hC hb hx hc False (fun z => z.elim) (fun _ => gc) GX L ?_ ?_⟩⟩
      · intro b1 val1 wx1 wy1 hb1 _ le1 vr1 if1
        refine br_f (by decide) ⟨ij, i5, fz_agree hV hn hC hb1 hy hd False (fun z => z.elim) (fun _ => gd) GY Rr ?_ ?_⟩
        · intro b2 val2 wx2 wy2 hb2 _ le2 vr2 if2
          refine br_f (by decide) (fun x3' e3' => ih x3' b2 val2 wx2 wy2 (by omega) e3' hb2 (fun g hg1 hg2 => ?_) (fun s hs => ?_) m (by omega))
          · rcases Nat.eq_or_lt_of_le hg1 with e | e
            · subst e
              refine ⟨by rw [hR]; exact hpr, fun v hv => ?_⟩
              rw [ex, ey, nI_clamp (n := x) (by omega), nI_clamp (n := y) (by omega)] at hv
              rcases hv with hv | hv
              · exact fz_lene le2 (vr1 v hv)
              · exact vr2 v hv
            · refine ⟨(hg g e hg2).1, fun v hv => fz_lene le2 (fz_lene le1 ((hg g e hg2).2 v hv))⟩
          · rw [step s]
            constructor
            · rintro ⟨⟨k1, k2⟩, k3⟩
              have q0 := (hM s hs).mp k3
              have q1 := (if1 s hs q0).mp (by rw [fz_sbg gc]; exact k1)
              exact (if2 s hs q1).mp (by rw [fz_sbg gd]; exact k2)
            · intro q2
              have q1 := fz_exle le2 q2
              have q0 := fz_exle le1 q1
              have k1 := (if1 s hs q0).mpr q1
              have k2 := (if2 s hs q1).mpr q2
              rw [fz_sbg gc] at k1
              rw [fz_sbg gd] at k2
              exact ⟨⟨k1, k2⟩, (hM s hs).mpr q0⟩
        · intro b2 val2 wx2 wy2 hb2 _ no2
          refine br_t rfl (h0 val2 wx2 wy2 ?_)
          rintro ⟨s, hs, _, k⟩
          obtain ⟨⟨k1, k2⟩, k3⟩ := (step s).mp (up s k)
          have q0 := (hM s hs).mp k3
          have q1 := (if1 s hs q0).mp (by rw [fz_sbg gc]; exact k1)
          exact no2 s hs q1 (by rw [fz_sbg gd]; exact k2)
      · intro b1 val1 wx1 wy1 hb1 _ no1
        refine br_t rfl (h0 val1 wx1 wy1 ?_)
        rintro ⟨s, hs, _, k⟩
        obtain ⟨⟨k1, k2⟩, k3⟩ := (step s).mp (up s k)
        exact no1 s hs ((hM s hs).mp k3) (by rw [fz_sbg gc]; exact k1)
    · refine h0 val wx wy ?_
      rintro ⟨s, hs, k, _⟩
      have := k j (by omega)
      rw [hR] at this
      omega
theorem fz_goalsHold (hV : V ≤ 6) (hn : n ≤ 48) (hC : fz_CX V tm n a_kind a_first a_second a_size a_variablesIn a_code) (hG : G ≤ 4) (hGO : fz_GO n a_goalTable a_goalX a_goalY G) (hRO : fz_RO tm n a_rowCount a_rowLeft a_rowRight) (eG : f_goalCount = nI G) {p : Nat → Nat} (hp : ∀ g, p g < 6) {post : Int32 → SX → Prop} {z : Int32} (ez : z = nI (fz_x6 p G))
    (h1 : ∀ b val wx wy, fz_Vb tm n val b → (∀ g, g < G → p g < fz_Rw a_rowCount a_goalTable g) → (∀ v, fz_Gv tm a_goalX a_goalY G v → b v ≠ none) → (∀ s, fz_As s → (fz_Mt tm a_goalTable a_goalX a_goalY a_rowLeft a_rowRight 0 G p s ↔ fz_ex tm b s)) → post 1 (f_variableCount, f_cellCount, f_goalCount, f_frozenOn, f_equationCount, f_disequalityCount, f_solved, f_solutionCount, a_kind, a_first, a_second, a_size, a_variablesIn, a_code, a_rowCount, a_rowLeft, a_rowRight, a_goalTable, a_goalX, a_goalY, a_equationX, a_equationY, a_disequalityX, a_disequalityY, a_solutionChoice, a_solutionCode, val, wx, wy))
    (h0 : ∀ val wx wy, (¬ ∃ s, fz_As s ∧ (∀ g, g < G → p g < fz_Rw a_rowCount a_goalTable g) ∧ fz_Mt tm a_goalTable a_goalX a_goalY a_rowLeft a_rowRight 0 G p s) → post 0 (f_variableCount, f_cellCount, f_goalCount, f_frozenOn, f_equationCount, f_disequalityCount, f_solved, f_solutionCount, a_kind, a_first, a_second, a_size, a_variablesIn, a_code, a_rowCount, a_rowLeft, a_rowRight, a_goalTable, a_goalX, a_goalY, a_equationX, a_equationY, a_disequalityX, a_disequalityY, a_solutionChoice, a_solutionCode, val, wx, wy)) :
    wpX_goalsHold post (f_variableCount, f_cellCount, f_goalCount, f_frozenOn, f_equationCount, f_disequalityCount, f_solved, f_solutionCount, a_kind, a_first, a_second, a_size, a_variablesIn, a_code, a_rowCount, a_rowLeft, a_rowRight, a_goalTable, a_goalX, a_goalY, a_equationX, a_equationY, a_disequalityX, a_disequalityY, a_solutionChoice, a_solutionCode, a_value, a_walkX, a_walkY) z := by
  subst ez
  have key : ∀ (k i : Nat) (val : Nat → Int32), i + k = 6 → (∀ v, v < i → val v = -1) → wX_goalsHold_2 post (nI (fz_x6 p G)) f_variableCount f_cellCount f_goalCount f_frozenOn f_equationCount f_disequalityCount f_solved f_solutionCount (k + 1) (nI i) a_kind a_first a_second a_size a_variablesIn a_code a_rowCount a_rowLeft a_rowRight a_goalTable a_goalX a_goalY a_equationX a_equationY a_disequalityX a_disequalityY a_solutionChoice a_solutionCode val a_walkX a_walkY := by
    intro k
    induction k with
    | zero =>
      intro i val hi hv
      have e6 : i = 6 := by omega
      subst e6
      refine pk_le 6 6 (fun _ => nm_r (e' := nI G + (-1)) (by rw [eG, Int32.sub_eq_add_neg]) ⟨G + 1, ?_⟩) (fun h => absurd h (by omega))
      refine fz_ghL hV hn hC hG hGO hRO hp h1 h0 G _ (fun _ => none) val a_walkX a_walkY (Nat.le_refl _) rfl ⟨fun _ _ => rfl, fun v hv' => .inl ⟨rfl, hv v hv'⟩⟩ (fun g h1' h2' => absurd h2' (by omega)) (fun s _ => ?_) (G + 1) (by omega)
      exact ⟨fun _ v c hvc => absurd hvc (by simp), fun _ g h1' h2' => absurd h2' (by omega)⟩
    | succ k ih =>
      intro i val hi hv
      refine pk_le 6 i (fun h => absurd h (by omega)) (fun _ => ⟨vp_in_nI (by omega) (by omega), nm_r (e' := upd val i (-1)) (by rw [nI_clamp (by omega)]) (nm_r (nI_1 i) (ih (i + 1) _ (by omega) (fun v hv' => ?_)))⟩)
      by_cases e : v = i
      · rw [e]
        exact pk_us
      · rw [pk_un e]
        exact hv v (by omega)
  exact ⟨7, key 6 0 a_value rfl (fun v hv => absurd hv (by omega))⟩
/-! ===== X: equationsHold, disequalitiesHold ===== -/
theorem fz_eqH (hV : V ≤ 6) (hn : n ≤ 48) (hC : fz_CX V tm n a_kind a_first a_second a_size a_variablesIn a_code) (hE : E ≤ 4) (hQ : fz_QO n a_equationX a_equationY E) (eE : f_equationCount = nI E) {b : Nat → Option Nat} (hb : fz_Vb tm n a_value b)
    (hv : ∀ i, i < E → ∀ v, (100 + v ∈ tm (a_equationX i).toNatClampNeg ∨ 100 + v ∈ tm (a_equationY i).toNatClampNeg) → b v ≠ none) {post : Int32 → SX → Prop}
    (h1 : ∀ val wx wy, fz_Vb tm n val b → (∀ s, fz_As s → fz_ex tm b s → fz_Eq tm a_equationX a_equationY E s) → post 1 (f_variableCount, f_cellCount, f_goalCount, f_frozenOn, f_equationCount, f_disequalityCount, f_solved, f_solutionCount, a_kind, a_first, a_second, a_size, a_variablesIn, a_code, a_rowCount, a_rowLeft, a_rowRight, a_goalTable, a_goalX, a_goalY, a_equationX, a_equationY, a_disequalityX, a_disequalityY, a_solutionChoice, a_solutionCode, val, wx, wy))
    (h0 : ∀ val wx wy, fz_Vb tm n val b → (∀ s, fz_As s → fz_ex tm b s → ¬ fz_Eq tm a_equationX a_equationY E s) → post 0 (f_variableCount, f_cellCount, f_goalCount, f_frozenOn, f_equationCount, f_disequalityCount, f_solved, f_solutionCount, a_kind, a_first, a_second, a_size, a_variablesIn, a_code, a_rowCount, a_rowLeft, a_rowRight, a_goalTable, a_goalX, a_goalY, a_equationX, a_equationY, a_disequalityX, a_disequalityY, a_solutionChoice, a_solutionCode, val, wx, wy)) :
    wpX_equationsHold post (f_variableCount, f_cellCount, f_goalCount, f_frozenOn, f_equationCount, f_disequalityCount, f_solved, f_solutionCount, a_kind, a_first, a_second, a_size, a_variablesIn, a_code, a_rowCount, a_rowLeft, a_rowRight, a_goalTable, a_goalX, a_goalY, a_equationX, a_equationY, a_disequalityX, a_disequalityY, a_solutionChoice, a_solutionCode, a_value, a_walkX, a_walkY) := by
  have key : ∀ (k i : Nat) (val wx wy : Nat → Int32), i + k = E → fz_Vb tm n val b → (∀ s, fz_As s → fz_ex tm b s → fz_Eq tm a_equationX a_equationY i s) → wX_equationsHold_2 post (k + 1) (nI i) f_variableCount f_cellCount f_goalCount f_frozenOn f_equationCount f_disequalityCount f_solved f_solutionCount a_kind a_first a_second a_size a_variablesIn a_code a_rowCount a_rowLeft a_rowRight a_goalTable a_goalX a_goalY a_equationX a_equationY a_disequalityX a_disequalityY a_solutionChoice a_solutionCode val wx wy := by
    intro k
    induction k with
    | zero =>
      intro i val wx wy hi hb' h
      have e : i = E := by omega
      subst e
      exact pk_le i i (fun _ => h1 val wx wy hb' h) (fun h => absurd h (by omega)) eE
    | succ k ih =>
      intro i val wx wy hi hb' h
      obtain ⟨x, y, hx, hy, ex, ey⟩ := hQ i (by omega)
      have ci : (nI i).toNatClampNeg = i := nI_clamp (by omega)
      have ii : vp_in (nI i) 4 := vp_in_nI (by omega) (by omega)
      have QX : a_equationX (nI i).toNatClampNeg = nI x := by rw [ci]; exact ex
      have QY : a_equationY (nI i).toNatClampNeg = nI y := by rw [ci]; exact ey
      have hvi := hv i (by omega)
      rw [ex, ey, nI_clamp (n := x) (by omega), nI_clamp (n := y) (by omega)] at hvi
      refine pk_le E i (fun h => absurd h (by omega)) (fun _ => ⟨ii, ii, fz_agree hV hn hC hb' hx hy True (fun _ => hvi) (fun z => absurd trivial z) QX QY ?_ ?_⟩) eE
      · intro b1 val1 wx1 wy1 hb1 e1 _ _ if1
        have e1' := e1 trivial
        subst e1'
        refine br_f (by decide) (nm_r (nI_1 i) (ih (i + 1) val1 wx1 wy1 (by omega) hb1 (fun s hs hx' => ?_)))
        intro j hj
        rcases Nat.lt_or_ge j i with h2 | h2
        · exact h s hs hx' j h2
        · have : j = i := by omega
          subst this
          rw [ex, ey, nI_clamp (n := x) (by omega), nI_clamp (n := y) (by omega)]
          exact (if1 s hs hx').mpr hx'
      · intro b1 val1 wx1 wy1 hb1 e1 no
        have e1' := e1 trivial
        subst e1'
        refine br_t rfl (h0 val1 wx1 wy1 hb1 (fun s hs hx' q => no s hs hx' ?_))
        have := q i (by omega)
        rw [ex, ey, nI_clamp (n := x) (by omega), nI_clamp (n := y) (by omega)] at this
        exact this
  exact ⟨E + 1, key E 0 a_value a_walkX a_walkY (by omega) hb (fun s _ _ j hj => absurd hj (by omega))⟩
theorem fz_dfH (hV : V ≤ 6) (hn : n ≤ 48) (hC : fz_CX V tm n a_kind a_first a_second a_size a_variablesIn a_code) (hD : D ≤ 6) (hQ : fz_QO n a_disequalityX a_disequalityY D) (eD : f_disequalityCount = nI D) {b : Nat → Option Nat} (hb : fz_Vb tm n a_value b)
    (hv : ∀ i, i < D → ∀ v, (100 + v ∈ tm (a_disequalityX i).toNatClampNeg ∨ 100 + v ∈ tm (a_disequalityY i).toNatClampNeg) → b v ≠ none) {post : Int32 → SX → Prop}
    (h1 : ∀ val wx wy, fz_Vb tm n val b → (∀ s, fz_As s → fz_ex tm b s → fz_Df tm a_disequalityX a_disequalityY D s) → post 1 (f_variableCount, f_cellCount, f_goalCount, f_frozenOn, f_equationCount, f_disequalityCount, f_solved, f_solutionCount, a_kind, a_first, a_second, a_size, a_variablesIn, a_code, a_rowCount, a_rowLeft, a_rowRight, a_goalTable, a_goalX, a_goalY, a_equationX, a_equationY, a_disequalityX, a_disequalityY, a_solutionChoice, a_solutionCode, val, wx, wy))
    (h0 : ∀ val wx wy, fz_Vb tm n val b → (∀ s, fz_As s → fz_ex tm b s → ¬ fz_Df tm a_disequalityX a_disequalityY D s) → post 0 (f_variableCount, f_cellCount, f_goalCount, f_frozenOn, f_equationCount, f_disequalityCount, f_solved, f_solutionCount, a_kind, a_first, a_second, a_size, a_variablesIn, a_code, a_rowCount, a_rowLeft, a_rowRight, a_goalTable, a_goalX, a_goalY, a_equationX, a_equationY, a_disequalityX, a_disequalityY, a_solutionChoice, a_solutionCode, val, wx, wy)) :
    wpX_disequalitiesHold post (f_variableCount, f_cellCount, f_goalCount, f_frozenOn, f_equationCount, f_disequalityCount, f_solved, f_solutionCount, a_kind, a_first, a_second, a_size, a_variablesIn, a_code, a_rowCount, a_rowLeft, a_rowRight, a_goalTable, a_goalX, a_goalY, a_equationX, a_equationY, a_disequalityX, a_disequalityY, a_solutionChoice, a_solutionCode, a_value, a_walkX, a_walkY) := by
  have key : ∀ (k i : Nat) (val wx wy : Nat → Int32), i + k = D → fz_Vb tm n val b → (∀ s, fz_As s → fz_ex tm b s → fz_Df tm a_disequalityX a_disequalityY i s) → wX_disequalitiesHold_2 post (k + 1) (nI i) f_variableCount f_cellCount f_goalCount f_frozenOn f_equationCount f_disequalityCount f_solved f_solutionCount a_kind a_first a_second a_size a_variablesIn a_code a_rowCount a_rowLeft a_rowRight a_goalTable a_goalX a_goalY a_equationX a_equationY a_disequalityX a_disequalityY a_solutionChoice a_solutionCode val wx wy := by
    intro k
    induction k with
    | zero =>
      intro i val wx wy hi hb' h
      have e : i = D := by omega
      subst e
      exact pk_le i i (fun _ => h1 val wx wy hb' h) (fun h => absurd h (by omega)) eD
    | succ k ih =>
      intro i val wx wy hi hb' h
      obtain ⟨x, y, hx, hy, ex, ey⟩ := hQ i (by omega)
      have ci : (nI i).toNatClampNeg = i := nI_clamp (by omega)
      have ii : vp_in (nI i) 6 := vp_in_nI (by omega) (by omega)
      have QX : a_disequalityX (nI i).toNatClampNeg = nI x := by rw [ci]; exact ex
      have QY : a_disequalityY (nI i).toNatClampNeg = nI y := by rw [ci]; exact ey
      have hvi := hv i (by omega)
      rw [ex, ey, nI_clamp (n := x) (by omega), nI_clamp (n := y) (by omega)] at hvi
      refine pk_le D i (fun h => absurd h (by omega)) (fun _ => ⟨ii, ii, fz_agree hV hn hC hb' hx hy True (fun _ => hvi) (fun z => absurd trivial z) QX QY ?_ ?_⟩) eD
      · intro b1 val1 wx1 wy1 hb1 e1 _ _ if1
        have e1' := e1 trivial
        subst e1'
        refine br_f (by decide) (h0 val1 wx1 wy1 hb1 (fun s hs hx' q => ?_))
        have := q i (by omega)
        rw [ex, ey, nI_clamp (n := x) (by omega), nI_clamp (n := y) (by omega)] at this
        exact this ((if1 s hs hx').mpr hx')
      · intro b1 val1 wx1 wy1 hb1 e1 no
        have e1' := e1 trivial
        subst e1'
        refine br_t rfl (nm_r (nI_1 i) (ih (i + 1) val1 wx1 wy1 (by omega) hb1 (fun s hs hx' => ?_)))
        intro j hj
        rcases Nat.lt_or_ge j i with h2 | h2
        · exact h s hs hx' j h2
        · have : j = i := by omega
          subst this
          rw [ex, ey, nI_clamp (n := x) (by omega), nI_clamp (n := y) (by omega)]
          exact no s hs hx'
  exact ⟨D + 1, key D 0 a_value a_walkX a_walkY (by omega) hb (fun s _ _ j hj => absurd hj (by omega))⟩
/-! ===== X: keepSolution, findSolutions ===== -/
/-- the code of a variable's value -/
def fz_cv (cd : Nat → Int64) (b : Nat → Option Nat) (v : Nat) : Int64 := match b v with
  | some c => cd c
  | none => 0
theorem fz_keep (hn : n ≤ 48) {b : Nat → Option Nat} (hb : fz_Vb tm n a_value b) {k : Nat} (hk : k < 1296) (ek : f_solutionCount = nI k) {z : Int32} {post : SX → Prop}
    (h : ∀ sC : Nat → Int64, (∀ v, v < 6 → sC (k * 6 + v) = fz_cv a_code b v) → (∀ j, j < k * 6 → sC j = a_solutionCode j) → post (f_variableCount, f_cellCount, f_goalCount, f_frozenOn, f_equationCount, f_disequalityCount, f_solved, nI (k + 1), a_kind, a_first, a_second, a_size, a_variablesIn, a_code, a_rowCount, a_rowLeft, a_rowRight, a_goalTable, a_goalX, a_goalY, a_equationX, a_equationY, a_disequalityX, a_disequalityY, upd a_solutionChoice k z, sC, a_value, a_walkX, a_walkY)) :
    wpX_keepSolution post (f_variableCount, f_cellCount, f_goalCount, f_frozenOn, f_equationCount, f_disequalityCount, f_solved, f_solutionCount, a_kind, a_first, a_second, a_size, a_variablesIn, a_code, a_rowCount, a_rowLeft, a_rowRight, a_goalTable, a_goalX, a_goalY, a_equationX, a_equationY, a_disequalityX, a_disequalityY, a_solutionChoice, a_solutionCode, a_value, a_walkX, a_walkY) z := by
  have key : ∀ (m i : Nat) (sC : Nat → Int64), i + m = 6 → (∀ v, v < i → sC (k * 6 + v) = fz_cv a_code b v) → (∀ j, j < k * 6 → sC j = a_solutionCode j) → wX_keepSolution_12 post f_variableCount f_cellCount f_goalCount f_frozenOn f_equationCount f_disequalityCount f_solved f_solutionCount (m + 1) (nI i) a_kind a_first a_second a_size a_variablesIn a_code a_rowCount a_rowLeft a_rowRight a_goalTable a_goalX a_goalY a_equationX a_equationY a_disequalityX a_disequalityY (upd a_solutionChoice k z) sC a_value a_walkX a_walkY := by
    intro m
    induction m with
    | zero =>
      intro i sC hi h1 h2
      have e : i = 6 := by omega
      subst e
      exact pk_le 6 6 (fun _ => nm_r (e' := nI (k + 1)) (by rw [ek, nI_1]) (h sC h1 h2)) (fun h => absurd h (by omega))
    | succ m ih =>
      intro i sC hi h1 h2
      have ci : (nI i).toNatClampNeg = i := nI_clamp (by omega)
      have ii : vp_in (nI i) 6 := vp_in_nI (by omega) (by omega)
      have ix : f_solutionCount * 6 + nI i = nI (k * 6 + i) := by
        rw [ek]
        show nI k * nI 6 + nI i = _
        rw [pk_mul, nI_add]
      have iv : vp_in (f_solutionCount * 6 + nI i) 7776 := by rw [ix]; exact vp_in_nI (by omega) (by omega)
      have put : ∀ z0 : Int64, z0 = fz_cv a_code b i → wX_keepSolution_43 post (wX_keepSolution_12 post f_variableCount f_cellCount f_goalCount f_frozenOn f_equationCount f_disequalityCount f_solved f_solutionCount (m + 1)) (nI i) z0 f_variableCount f_cellCount f_goalCount f_frozenOn f_equationCount f_disequalityCount f_solved f_solutionCount a_kind a_first a_second a_size a_variablesIn a_code a_rowCount a_rowLeft a_rowRight a_goalTable a_goalX a_goalY a_equationX a_equationY a_disequalityX a_disequalityY (upd a_solutionChoice k z) sC a_value a_walkX a_walkY := by
        intro z0 e0
        refine ⟨iv, nm_r (e' := vp_updL sC (k * 6 + i) z0) (by rw [ix, nI_clamp (by omega)]) (nm_r (nI_1 i) (ih (i + 1) _ (by omega) (fun v hv => ?_) (fun j hj => ?_)))⟩
        · by_cases e : v = i
          · rw [e, pk_uLs]
            exact e0
          · rw [pk_uLn (by omega)]
            exact h1 v (by omega)
        · rw [pk_uLn (by omega)]
          exact h2 j hj
      have VV : a_value (nI i).toNatClampNeg = a_value i := by rw [ci]
      rcases hb.2 i (by omega) with ⟨q1, q2⟩ | ⟨c, q1, q2, q3, q4⟩
      · exact pk_le 6 i (fun h => absurd h (by omega)) (fun _ => ⟨ii, br_t (VV.trans q2) (put 0 (by unfold fz_cv; rw [q1]))⟩)
      · refine pk_le 6 i (fun h => absurd h (by omega)) (fun _ => ⟨ii, br_f (fun z => fz_nm1 c (by omega) ((VV.trans q3).symm.trans z)) ⟨ii, ?_, put _ ?_⟩⟩)
        · rw [VV, q3]
          exact vp_in_nI (by omega) (by omega)
        · unfold fz_cv
          rw [VV, q3, nI_clamp (by omega), q2]
  refine ⟨by rw [ek]; exact vp_in_nI (by omega) (by omega), nm_r (e' := upd a_solutionChoice k z) (by rw [ek, nI_clamp (by omega)]) ⟨7, key 6 0 a_solutionCode rfl (fun v hv => absurd hv (by omega)) (fun j _ => rfl)⟩⟩
/-- X's solutions: the numbers of a list, and the codes that every fitting assignment gives -/
def fz_SX (tm : Nat → List Nat) (gt gx gy rl rr : Nat → Int32) (G : Nat) (L : List Nat) (sc : Nat → Int32) (sC : Nat → Int64) : Prop :=
  fz_sp sc 0 L ∧ ∀ k c, L[k]? = some c → ∀ p, (∀ g, g < G → p g < 6) → fz_x6 p G = c → ∀ s, fz_As s → fz_Mt tm gt gx gy rl rr 0 G p s → ∀ v, v < 6 → fz_Gv tm gx gy G v → sC (k * 6 + v) = lN (fz_vl (s v))
def fz_PX (tm : Nat → List Nat) (rc gt gx gy rl rr ex ey dx dy : Nat → Int32) (G E D : Nat) (c : Nat) : Prop :=
  ∃ p, (∀ g, g < G → p g < fz_Rw rc gt g) ∧ fz_Good tm gt gx gy rl rr ex ey dx dy G E D p ∧ fz_x6 p G = c
def fz_PY (tm : Nat → List Nat) (rc gt gx gy rl rr ex ey dx dy : Nat → Int32) (G E D : Nat) (c : Nat) : Prop :=
  ∃ p, (∀ g, g < G → p g < fz_Rw rc gt g) ∧ fz_Good tm gt gx gy rl rr ex ey dx dy G E D p ∧ fz_yR (fz_Rw rc gt) p G = c
theorem fz_Rw6 (hGO : fz_GO n a_goalTable a_goalX a_goalY G) (hRO : fz_RO tm n a_rowCount a_rowLeft a_rowRight) : ∀ g, g < G → fz_Rw a_rowCount a_goalTable g ≤ 6 := by
  intro g hg
  obtain ⟨t, x, y, ht, _, _, et, _, _⟩ := hGO g hg
  obtain ⟨r, hr, er, _⟩ := hRO t ht
  rw [fz_RwE ht hr et er]
  exact hr
theorem fz_find (hV : V ≤ 6) (hn : n ≤ 48) (hC : fz_CX V tm n a_kind a_first a_second a_size a_variablesIn a_code) (hG : G ≤ 4) (hGO : fz_GO n a_goalTable a_goalX a_goalY G) (hRO : fz_RO tm n a_rowCount a_rowLeft a_rowRight) (eG : f_goalCount = nI G)
    (hE : E ≤ 4) (hQE : fz_QO n a_equationX a_equationY E) (eE : f_equationCount = nI E) (hD : D ≤ 6) (hQD : fz_QO n a_disequalityX a_disequalityY D) (eD : f_disequalityCount = nI D)
    (hvE : ∀ i, i < E → ∀ v, (100 + v ∈ tm (a_equationX i).toNatClampNeg ∨ 100 + v ∈ tm (a_equationY i).toNatClampNeg) → fz_Gv tm a_goalX a_goalY G v)
    (hvD : ∀ i, i < D → ∀ v, (100 + v ∈ tm (a_disequalityX i).toNatClampNeg ∨ 100 + v ∈ tm (a_disequalityY i).toNatClampNeg) → fz_Gv tm a_goalX a_goalY G v) {post : SX → Prop}
    (h : ∀ sc sC val wx wy, fz_SX tm a_goalTable a_goalX a_goalY a_rowLeft a_rowRight G (fz_fl (fz_PX tm a_rowCount a_goalTable a_goalX a_goalY a_rowLeft a_rowRight a_equationX a_equationY a_disequalityX a_disequalityY G E D) (6 ^ G)) sc sC →
      post (f_variableCount, f_cellCount, f_goalCount, f_frozenOn, f_equationCount, f_disequalityCount, f_solved, nI (fz_fl (fz_PX tm a_rowCount a_goalTable a_goalX a_goalY a_rowLeft a_rowRight a_equationX a_equationY a_disequalityX a_disequalityY G E D) (6 ^ G)).length, a_kind, a_first, a_second, a_size, a_variablesIn, a_code, a_rowCount, a_rowLeft, a_rowRight, a_goalTable, a_goalX, a_goalY, a_equationX, a_equationY, a_disequalityX, a_disequalityY, sc, sC, val, wx, wy)) :
    wpX_findSolutions post (f_variableCount, f_cellCount, f_goalCount, f_frozenOn, f_equationCount, f_disequalityCount, f_solved, f_solutionCount, a_kind, a_first, a_second, a_size, a_variablesIn, a_code, a_rowCount, a_rowLeft, a_rowRight, a_goalTable, a_goalX, a_goalY, a_equationX, a_equationY, a_disequalityX, a_disequalityY, a_solutionChoice, a_solutionCode, a_value, a_walkX, a_walkY) := by
  have h64 : 6 ^ G ≤ 1296 := by
    have h2 : 6 ^ G ≤ 6 ^ 4 := Nat.pow_le_pow_right (by omega) hG
    have h3 : 6 ^ 4 = 1296 := by decide
    omega
  have hR6 := fz_Rw6 hGO hRO
  have key : ∀ (m i : Nat) (sc : Nat → Int32) (sC : Nat → Int64) (val wx wy : Nat → Int32), i + m = 6 ^ G → fz_SX tm a_goalTable a_goalX a_goalY a_rowLeft a_rowRight G (fz_fl (fz_PX tm a_rowCount a_goalTable a_goalX a_goalY a_rowLeft a_rowRight a_equationX a_equationY a_disequalityX a_disequalityY G E D) i) sc sC →
      wX_findSolutions_30 post (nI (6 ^ G)) (m + 1) (nI i) f_variableCount f_cellCount f_goalCount f_frozenOn f_equationCount f_disequalityCount f_solved (nI (fz_fl (fz_PX tm a_rowCount a_goalTable a_goalX a_goalY a_rowLeft a_rowRight a_equationX a_equationY a_disequalityX a_disequalityY G E D) i).length) a_kind a_first a_second a_size a_variablesIn a_code a_rowCount a_rowLeft a_rowRight a_goalTable a_goalX a_goalY a_equationX a_equationY a_disequalityX a_disequalityY sc sC val wx wy := by
    intro m
    induction m with
    | zero =>
      intro i sc sC val wx wy hi hS
      have e : i = 6 ^ G := by omega
      rw [e] at hS ⊢
      exact pk_le (6 ^ G) (6 ^ G) (fun _ => h sc sC val wx wy hS) (fun h => absurd h (by omega))
    | succ m ih =>
      intro i sc sC val wx wy hi hS
      obtain ⟨p, hp, ep⟩ := fz_x6s G i (by omega)
      have same : ∀ q, (∀ g, g < G → q g < 6) → fz_x6 q G = i → ∀ g, g < G → q g = p g := fun q hq eq => fz_x6e G (fun g hg => ⟨hq g hg, hp g⟩) (eq.trans ep.symm)
      have no : ∀ sc sC val wx wy, fz_SX tm a_goalTable a_goalX a_goalY a_rowLeft a_rowRight G (fz_fl (fz_PX tm a_rowCount a_goalTable a_goalX a_goalY a_rowLeft a_rowRight a_equationX a_equationY a_disequalityX a_disequalityY G E D) i) sc sC → ¬ fz_PX tm a_rowCount a_goalTable a_goalX a_goalY a_rowLeft a_rowRight a_equationX a_equationY a_disequalityX a_disequalityY G E D i →
          wX_findSolutions_30 post (nI (6 ^ G)) (m + 1) (nI (i + 1)) f_variableCount f_cellCount f_goalCount f_frozenOn f_equationCount f_disequalityCount f_solved (nI (fz_fl (fz_PX tm a_rowCount a_goalTable a_goalX a_goalY a_rowLeft a_rowRight a_equationX a_equationY a_disequalityX a_disequalityY G E D) i).length) a_kind a_first a_second a_size a_variablesIn a_code a_rowCount a_rowLeft a_rowRight a_goalTable a_goalX a_goalY a_equationX a_equationY a_disequalityX a_disequalityY sc sC val wx wy := by
        intro sc sC val wx wy hS hn'
        have := ih (i + 1) sc sC val wx wy (by omega)
        rw [fz_flF hn'] at this
        exact this hS
      have hlen := fz_fll (fz_PX tm a_rowCount a_goalTable a_goalX a_goalY a_rowLeft a_rowRight a_equationX a_equationY a_disequalityX a_disequalityY G E D) i
      refine pk_le (6 ^ G) i (fun h => absurd h (by omega)) (fun _ => fz_goalsHold hV hn hC hG hGO hRO eG hp (congrArg nI ep.symm) ?_ ?_)
      · intro b val1 wx1 wy1 hb hval hgv hif
        refine br_f (by decide) (fz_eqH hV hn hC hE hQE eE hb (fun j hj v hv => hgv v (hvE j hj v hv)) ?_ ?_)
        · intro val2 wx2 wy2 hb2 hEq
          refine br_f (by decide) (fz_dfH hV hn hC hD hQD eD hb2 (fun j hj v hv => hgv v (hvD j hj v hv)) ?_ ?_)
          · intro val3 wx3 wy3 hb3 hDf
            have yes : fz_PX tm a_rowCount a_goalTable a_goalX a_goalY a_rowLeft a_rowRight a_equationX a_equationY a_disequalityX a_disequalityY G E D i := by
              have hA : fz_As (fz_tot tm b) := by
                refine fz_totA (fun v c hv => ?_)
                rcases Nat.lt_or_ge v 6 with h6 | h6
                · rcases hb.2 v h6 with ⟨q1, _⟩ | ⟨d, q1, q2, _, q4⟩
                  · rw [q1] at hv
                    exact absurd hv (by simp)
                  · rw [hv] at q2
                    rw [Option.some.inj q2]
                    exact ⟨(hC d q1).1, q4⟩
                · rw [hb.1 v h6] at hv
                  exact absurd hv (by simp)
              have hX := fz_totE tm b
              exact ⟨p, hval, ⟨fz_tot tm b, hA, (hif _ hA).mpr hX, hEq _ hA hX, hDf _ hA hX⟩, ep⟩
            refine br_f (by decide) (fz_keep hn hb3 (k := (fz_fl (fz_PX tm a_rowCount a_goalTable a_goalX a_goalY a_rowLeft a_rowRight a_equationX a_equationY a_disequalityX a_disequalityY G E D) i).length) (by omega) rfl (fun sC' c1 c2 => nm_r (nI_1 i) ?_))
            have := ih (i + 1) (upd sc (fz_fl (fz_PX tm a_rowCount a_goalTable a_goalX a_goalY a_rowLeft a_rowRight a_equationX a_equationY a_disequalityX a_disequalityY G E D) i).length (nI i)) sC' val3 wx3 wy3 (by omega)
            rw [fz_flT yes, List.length_append] at this
            refine this ⟨?_, ?_⟩
            · have := fz_spu hS.1 i
              rw [Nat.zero_add] at this
              exact this
            · intro k c hkc q hq eq s hs hM v hv6 hgv'
              rcases Nat.lt_or_ge k (fz_fl (fz_PX tm a_rowCount a_goalTable a_goalX a_goalY a_rowLeft a_rowRight a_equationX a_equationY a_disequalityX a_disequalityY G E D) i).length with hk | hk
              · rw [List.getElem?_append_left hk] at hkc
                rw [c2 _ (by omega)]
                exact hS.2 k c hkc q hq eq s hs hM v hv6 hgv'
              · rw [List.getElem?_append_right hk] at hkc
                have h0 : k - (fz_fl (fz_PX tm a_rowCount a_goalTable a_goalX a_goalY a_rowLeft a_rowRight a_equationX a_equationY a_disequalityX a_disequalityY G E D) i).length = 0 := by
                  rcases Nat.eq_zero_or_pos (k - (fz_fl (fz_PX tm a_rowCount a_goalTable a_goalX a_goalY a_rowLeft a_rowRight a_equationX a_equationY a_disequalityX a_disequalityY G E D) i).length) with z | z
                  · exact z
                  · rw [List.getElem?_eq_none (by rw [List.length_singleton]; omega)] at hkc
                    exact absurd hkc (by simp)
                rw [h0] at hkc
                have hc : i = c := by simpa using hkc
                have hke : k = (fz_fl (fz_PX tm a_rowCount a_goalTable a_goalX a_goalY a_rowLeft a_rowRight a_equationX a_equationY a_disequalityX a_disequalityY G E D) i).length := by omega
                rw [hke, c1 v hv6]
                have hx := (hif s hs).mp (fz_Mtp (same q hq (eq.trans hc.symm)) hM)
                have hbv := hgv v hgv'
                rcases hb.2 v hv6 with ⟨q1, _⟩ | ⟨d, q1, q2, _, q4⟩
                · exact absurd q1 hbv
                · unfold fz_cv
                  rw [q2, hx v d q2]
                  exact (hC d q1).2.2.2.2.1 q4
          · intro val3 wx3 wy3 hb3 hDf
            refine br_t rfl (nm_r (nI_1 i) (no sc sC val3 wx3 wy3 hS ?_))
            rintro ⟨q, hq, ⟨s, hs, hM, _, hD'⟩, eq⟩
            have hx := (hif s hs).mp (fz_Mtp (same q (fun g hg => by have := hq g hg; have := hR6 g hg; omega) eq) hM)
            exact hDf s hs hx hD'
        · intro val2 wx2 wy2 hb2 hEq
          refine br_t rfl (nm_r (nI_1 i) (no sc sC val2 wx2 wy2 hS ?_))
          rintro ⟨q, hq, ⟨s, hs, hM, hE', _⟩, eq⟩
          have hx := (hif s hs).mp (fz_Mtp (same q (fun g hg => by have := hq g hg; have := hR6 g hg; omega) eq) hM)
          exact hEq s hs hx hE'
      · intro val1 wx1 wy1 hno
        refine br_t rfl (nm_r (nI_1 i) (no sc sC val1 wx1 wy1 hS ?_))
        rintro ⟨q, hq, ⟨s, hs, hM, _, _⟩, eq⟩
        have hqp := same q (fun g hg => by have := hq g hg; have := hR6 g hg; omega) eq
        exact hno ⟨s, hs, fun g hg => by rw [← hqp g hg]; exact hq g hg, fz_Mtp hqp hM⟩
  have start : ∀ (m g : Nat), g + m = G → wX_findSolutions_4 post f_variableCount f_cellCount f_goalCount f_frozenOn f_equationCount f_disequalityCount f_solved f_solutionCount a_kind a_first a_second a_size a_variablesIn a_code a_rowCount a_rowLeft a_rowRight a_goalTable a_goalX a_goalY a_equationX a_equationY a_disequalityX a_disequalityY a_solutionChoice a_solutionCode a_value a_walkX a_walkY (m + 1) (nI (6 ^ g)) (nI g) := by
    intro m
    induction m with
    | zero =>
      intro g hg
      have e : g = G := by omega
      subst e
      refine pk_le g g (fun _ => ⟨6 ^ g + 1, ?_⟩) (fun h => absurd h (by omega)) eG
      exact key (6 ^ g) 0 a_solutionChoice a_solutionCode a_value a_walkX a_walkY (by omega) ⟨fz_sp0 _ _, fun k c hkc => absurd hkc (by rw [fz_fl0]; simp)⟩
    | succ m ih =>
      intro g hg
      have e6 : nI (6 ^ g) * 6 = nI (6 ^ (g + 1)) := by
        rw [Nat.pow_succ]
        exact pk_mul (6 ^ g) 6
      exact pk_le G g (fun h => absurd h (by omega)) (fun _ => nm_r e6 (nm_r (nI_1 g) (ih (g + 1) (by omega)))) eG
  exact ⟨G + 1, start G 0 (by omega)⟩
end
