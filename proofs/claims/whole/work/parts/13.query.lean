theorem fz_m1n {v : Nat} (h : v < 32) : ¬ (-1 : Int32) = nI v := by
  intro q
  exact fz_nm1 v (by omega) q.symm
section
variable {V : Nat} {n : Nat} {G : Nat} {E : Nat} {D : Nat} {tm : Nat → List Nat} {f_frozenOn : Int32} {f_solved : Int32} {f_solutionCount : Int32} {f_found : Int32} {a_kind : Nat → Int32} {a_first : Nat → Int32} {a_second : Nat → Int32} {a_size : Nat → Int32} {a_variablesIn : Nat → Int32} {a_code : Nat → Int64} {a_rowCount : Nat → Int32} {a_rowLeft : Nat → Int32} {a_rowRight : Nat → Int32} {a_goalTable : Nat → Int32} {a_goalX : Nat → Int32} {a_goalY : Nat → Int32} {a_equationX : Nat → Int32} {a_equationY : Nat → Int32} {a_disequalityX : Nat → Int32} {a_disequalityY : Nat → Int32} {a_solutionChoice : Nat → Int32} {a_solutionCode : Nat → Int64} {a_sign : Nat → Int32} {b_first : Nat → Int32} {a_goalFrozen : Nat → Int32} {a_choiceOf : Nat → Int32} {a_value : Nat → Int32} {a_walkX : Nat → Int32} {a_walkY : Nat → Int32} {a_pick : Nat → Int32} {a_bind : Nat → Int32} {a_text : Nat → Int32} {a_from : Nat → Int32} {a_stack : Nat → Int32}
/-- one goal more -/
theorem fz_newG (h : fz_Inv V n G E D tm f_frozenOn f_solved f_solutionCount f_found a_kind a_first a_second a_size a_variablesIn a_code a_rowCount a_rowLeft a_rowRight a_goalTable a_goalX a_goalY a_equationX a_equationY a_disequalityX a_disequalityY a_solutionChoice a_solutionCode a_sign b_first a_goalFrozen a_choiceOf) (h4 : G < 4) {t x y : Nat} (ht : t < 4) (hx : x < n) (hy : y < n) {fz fv : Int32} (hf : (fz = 0 ∧ fv = -1) ∨ ∃ v, v < V ∧ fv = nI v ∧ fz = (1 : Int32) <<< (nI v &&& 31)) :
    fz_Inv V n (G + 1) E D tm (f_frozenOn ||| fz) 0 f_solutionCount f_found a_kind a_first a_second a_size a_variablesIn a_code a_rowCount a_rowLeft a_rowRight (upd a_goalTable G (nI t)) (upd a_goalX G (nI x)) (upd a_goalY G (nI y)) a_equationX a_equationY a_disequalityX a_disequalityY a_solutionChoice a_solutionCode a_sign b_first (upd a_goalFrozen G fv) a_choiceOf := by
  obtain ⟨hV1, hV, hn, hG, hE, hD, hCX, hCY, hRO, hGO, hQE, hQD, hF, hF2, hS⟩ := h
  refine ⟨hV1, hV, hn, by omega, hE, hD, hCX, hCY, hRO, fun g hg => ?_, hQE, hQD, fun i hi => ?_, fun g hg => ?_, .inl rfl⟩
  · by_cases e : g = G
    · subst e
      exact ⟨t, x, y, ht, hx, hy, pk_us, pk_us, pk_us⟩
    · obtain ⟨t', x', y', q1, q2, q3, q4, q5, q6⟩ := hGO g (by omega)
      exact ⟨t', x', y', q1, q2, q3, by rw [pk_un e]; exact q4, by rw [pk_un e]; exact q5, by rw [pk_un e]; exact q6⟩
  · rw [b_or, Bool.or_eq_true, hF i hi]
    have bitf : bt fz i = true ↔ fv = nI i := by
      rcases hf with ⟨e1, e2⟩ | ⟨v, hv, e1, e2⟩
      · rw [e1, e2, b_0]
        exact ⟨fun q => absurd q (by decide), fun q => absurd q (fz_m1n hi)⟩
      · rw [e1, e2, fz_one (by omega) hi, decide_eq_true_iff, nI_eq (by omega) (by omega)]
        exact ⟨fun q => q.symm, fun q => q.symm⟩
    rw [bitf]
    constructor
    · rintro (⟨g, hg, q⟩ | q)
      · exact ⟨g, by omega, by rw [pk_un (by omega)]; exact q⟩
      · exact ⟨G, by omega, by rw [pk_us]; exact q⟩
    · rintro ⟨g, hg, q⟩
      by_cases e : g = G
      · rw [e, pk_us] at q
        exact .inr q
      · rw [pk_un e] at q
        exact .inl ⟨g, by omega, q⟩
  · by_cases e : g = G
    · rw [e, pk_us]
      rcases hf with ⟨_, e2⟩ | ⟨v, hv, e1, _⟩
      · exact .inl e2
      · exact .inr ⟨v, hv, e1⟩
    · rw [pk_un e]
      exact hF2 g (by omega)
theorem fz_newE (h : fz_Inv V n G E D tm f_frozenOn f_solved f_solutionCount f_found a_kind a_first a_second a_size a_variablesIn a_code a_rowCount a_rowLeft a_rowRight a_goalTable a_goalX a_goalY a_equationX a_equationY a_disequalityX a_disequalityY a_solutionChoice a_solutionCode a_sign b_first a_goalFrozen a_choiceOf) (h4 : E < 4) {x y : Nat} (hx : x < n) (hy : y < n) : fz_Inv V n G (E + 1) D tm f_frozenOn 0 f_solutionCount f_found a_kind a_first a_second a_size a_variablesIn a_code a_rowCount a_rowLeft a_rowRight a_goalTable a_goalX a_goalY (upd a_equationX E (nI x)) (upd a_equationY E (nI y)) a_disequalityX a_disequalityY a_solutionChoice a_solutionCode a_sign b_first a_goalFrozen a_choiceOf := by
  obtain ⟨hV1, hV, hn, hG, hE, hD, hCX, hCY, hRO, hGO, hQE, hQD, hF, hF2, hS⟩ := h
  refine ⟨hV1, hV, hn, hG, by omega, hD, hCX, hCY, hRO, hGO, fun g hg => ?_, hQD, hF, hF2, .inl rfl⟩
  by_cases e : g = E
  · subst e
    exact ⟨x, y, hx, hy, pk_us, pk_us⟩
  · obtain ⟨x', y', q2, q3, q5, q6⟩ := hQE g (by omega)
    exact ⟨x', y', q2, q3, by rw [pk_un e]; exact q5, by rw [pk_un e]; exact q6⟩
theorem fz_newD (h : fz_Inv V n G E D tm f_frozenOn f_solved f_solutionCount f_found a_kind a_first a_second a_size a_variablesIn a_code a_rowCount a_rowLeft a_rowRight a_goalTable a_goalX a_goalY a_equationX a_equationY a_disequalityX a_disequalityY a_solutionChoice a_solutionCode a_sign b_first a_goalFrozen a_choiceOf) (h6 : D < 6) {x y : Nat} (hx : x < n) (hy : y < n) : fz_Inv V n G E (D + 1) tm f_frozenOn 0 f_solutionCount f_found a_kind a_first a_second a_size a_variablesIn a_code a_rowCount a_rowLeft a_rowRight a_goalTable a_goalX a_goalY a_equationX a_equationY (upd a_disequalityX D (nI x)) (upd a_disequalityY D (nI y)) a_solutionChoice a_solutionCode a_sign b_first a_goalFrozen a_choiceOf := by
  obtain ⟨hV1, hV, hn, hG, hE, hD, hCX, hCY, hRO, hGO, hQE, hQD, hF, hF2, hS⟩ := h
  refine ⟨hV1, hV, hn, hG, hE, by omega, hCX, hCY, hRO, hGO, hQE, fun g hg => ?_, hF, hF2, .inl rfl⟩
  by_cases e : g = D
  · subst e
    exact ⟨x, y, hx, hy, pk_us, pk_us⟩
  · obtain ⟨x', y', q2, q3, q5, q6⟩ := hQD g (by omega)
    exact ⟨x', y', q2, q3, by rw [pk_un e]; exact q5, by rw [pk_un e]; exact q6⟩
theorem fz_noQ (h : fz_Inv V n G E D tm f_frozenOn f_solved f_solutionCount f_found a_kind a_first a_second a_size a_variablesIn a_code a_rowCount a_rowLeft a_rowRight a_goalTable a_goalX a_goalY a_equationX a_equationY a_disequalityX a_disequalityY a_solutionChoice a_solutionCode a_sign b_first a_goalFrozen a_choiceOf) : fz_Inv V n 0 0 0 tm 0 0 f_solutionCount f_found a_kind a_first a_second a_size a_variablesIn a_code a_rowCount a_rowLeft a_rowRight a_goalTable a_goalX a_goalY a_equationX a_equationY a_disequalityX a_disequalityY a_solutionChoice a_solutionCode a_sign b_first a_goalFrozen a_choiceOf := by
  obtain ⟨hV1, hV, hn, hG, hE, hD, hCX, hCY, hRO, hGO, hQE, hQD, hF, hF2, hS⟩ := h
  refine ⟨hV1, hV, hn, by omega, by omega, by omega, hCX, hCY, hRO, fun g hg => absurd hg (by omega), fun g hg => absurd hg (by omega), fun g hg => absurd hg (by omega), fun i hi => ?_, fun g hg => absurd hg (by omega), .inl rfl⟩
  rw [b_0]
  exact ⟨fun q => absurd q (by decide), fun ⟨g, hg, _⟩ => absurd hg (by omega)⟩
end
theorem fz_nbad {n c : Nat} (hn : n < 2 ^ 31) (hc : c < n) : ¬ fz_bad n (nI c) := by
  rintro (q | q)
  · exact nI_pos (by omega) q
  · exact absurd ((nI_leI hn (by omega)).mp q) (by omega)
section
variable {V : Nat} {n : Nat} {G : Nat} {E : Nat} {D : Nat} {tm : Nat → List Nat} {f_frozenOn : Int32} {f_solved : Int32} {f_solutionCount : Int32} {f_found : Int32} {a_kind : Nat → Int32} {a_first : Nat → Int32} {a_second : Nat → Int32} {a_size : Nat → Int32} {a_variablesIn : Nat → Int32} {a_code : Nat → Int64} {a_rowCount : Nat → Int32} {a_rowLeft : Nat → Int32} {a_rowRight : Nat → Int32} {a_goalTable : Nat → Int32} {a_goalX : Nat → Int32} {a_goalY : Nat → Int32} {a_equationX : Nat → Int32} {a_equationY : Nat → Int32} {a_disequalityX : Nat → Int32} {a_disequalityY : Nat → Int32} {a_solutionChoice : Nat → Int32} {a_solutionCode : Nat → Int64} {a_sign : Nat → Int32} {b_first : Nat → Int32} {a_goalFrozen : Nat → Int32} {a_choiceOf : Nat → Int32} {a_value : Nat → Int32} {a_walkX : Nat → Int32} {a_walkY : Nat → Int32} {a_pick : Nat → Int32} {a_bind : Nat → Int32} {a_text : Nat → Int32} {a_from : Nat → Int32} {a_stack : Nat → Int32}
theorem fz_goalX (h : fz_Inv V n G E D tm f_frozenOn f_solved f_solutionCount f_found a_kind a_first a_second a_size a_variablesIn a_code a_rowCount a_rowLeft a_rowRight a_goalTable a_goalX a_goalY a_equationX a_equationY a_disequalityX a_disequalityY a_solutionChoice a_solutionCode a_sign b_first a_goalFrozen a_choiceOf) {v1 v2 v3 fz : Int32} {post : Int32 → SX → Prop} (hb : (fz_bad 4 v1 ∨ fz_bad n v2 ∨ fz_bad n v3) → post (-1) (nI V, nI n, nI G, f_frozenOn, nI E, nI D, f_solved, f_solutionCount, a_kind, a_first, a_second, a_size, a_variablesIn, a_code, a_rowCount, a_rowLeft, a_rowRight, a_goalTable, a_goalX, a_goalY, a_equationX, a_equationY, a_disequalityX, a_disequalityY, a_solutionChoice, a_solutionCode, a_value, a_walkX, a_walkY))
    (hf : ∀ t x y, t < 4 → x < n → y < n → v1 = nI t → v2 = nI x → v3 = nI y → G = 4 → post (-2) (nI V, nI n, nI G, f_frozenOn, nI E, nI D, f_solved, f_solutionCount, a_kind, a_first, a_second, a_size, a_variablesIn, a_code, a_rowCount, a_rowLeft, a_rowRight, a_goalTable, a_goalX, a_goalY, a_equationX, a_equationY, a_disequalityX, a_disequalityY, a_solutionChoice, a_solutionCode, a_value, a_walkX, a_walkY))
    (ho : ∀ t x y, t < 4 → x < n → y < n → v1 = nI t → v2 = nI x → v3 = nI y → G < 4 → post (nI G) (nI V, nI n, nI (G + 1), f_frozenOn ||| fz, nI E, nI D, 0, f_solutionCount, a_kind, a_first, a_second, a_size, a_variablesIn, a_code, a_rowCount, a_rowLeft, a_rowRight, upd a_goalTable G v1, upd a_goalX G v2, upd a_goalY G v3, a_equationX, a_equationY, a_disequalityX, a_disequalityY, a_solutionChoice, a_solutionCode, a_value, a_walkX, a_walkY)) : wpX_addGoal post (nI V, nI n, nI G, f_frozenOn, nI E, nI D, f_solved, f_solutionCount, a_kind, a_first, a_second, a_size, a_variablesIn, a_code, a_rowCount, a_rowLeft, a_rowRight, a_goalTable, a_goalX, a_goalY, a_equationX, a_equationY, a_disequalityX, a_disequalityY, a_solutionChoice, a_solutionCode, a_value, a_walkX, a_walkY) v1 v2 v3 fz := by
  have hn := h.2.2.1
  have hG := h.2.2.2.1
  rcases fz_ix v1 (n := 4) (by omega) with b1 | ⟨t, ht, rfl⟩
  · unfold wpX_addGoal
    refine fz_itX0 b1 ?_
    exact br_t rfl (hb (.inl b1))
  · unfold wpX_addGoal
    refine fz_itX1 ht ?_
    refine br_f (by decide) ?_
    rcases fz_ix v2 (n := n) (by omega) with b2 | ⟨x, hx, rfl⟩
    · exact fz_icX0 rfl b2 (br_t rfl (hb (.inr (.inl b2))))
    · refine fz_icX1 hn rfl hx (br_f (by decide) ?_)
      rcases fz_ix v3 (n := n) (by omega) with b3 | ⟨y, hy, rfl⟩
      · exact fz_icX0 rfl b3 (br_t rfl (hb (.inr (.inr b3))))
      · refine fz_icX1 hn rfl hy (br_f (by decide) (pk_lt G 4 (fun g4 => ?_) (fun g4 => hf t x y ht hx hy rfl rfl rfl (by omega))))
        have i4 : vp_in (nI G) 4 := vp_in_nI g4 (by omega)
        have cG : (nI G).toNatClampNeg = G := nI_clamp (by omega)
        refine ⟨i4, nm_r (e' := upd a_goalTable G (nI t)) (by rw [cG]) ⟨i4, nm_r (e' := upd a_goalX G (nI x)) (by rw [cG]) ⟨i4, nm_r (e' := upd a_goalY G (nI y)) (by rw [cG]) (nm_e (nm_r (nI_1 G) ?_))⟩⟩⟩
        rw [nI_pred]
        exact ho t x y ht hx hy rfl rfl rfl g4
theorem fz_goalY (h : fz_Inv V n G E D tm f_frozenOn f_solved f_solutionCount f_found a_kind a_first a_second a_size a_variablesIn a_code a_rowCount a_rowLeft a_rowRight a_goalTable a_goalX a_goalY a_equationX a_equationY a_disequalityX a_disequalityY a_solutionChoice a_solutionCode a_sign b_first a_goalFrozen a_choiceOf) {v1 v2 v3 fv : Int32} (fl : fv < nI V) {post : Int32 → SY → Prop} (hb : (fz_bad 4 v1 ∨ fz_bad n v2 ∨ fz_bad n v3) → post (-1) (nI V, nI n, nI G, nI E, nI D, f_solved, f_found, a_sign, b_first, a_second, a_rowCount, a_rowLeft, a_rowRight, a_goalTable, a_goalX, a_goalY, a_goalFrozen, a_equationX, a_equationY, a_disequalityX, a_disequalityY, a_choiceOf, a_pick, a_bind, a_text, a_from, a_stack))
    (hf : ∀ t x y, t < 4 → x < n → y < n → v1 = nI t → v2 = nI x → v3 = nI y → G = 4 → post (-2) (nI V, nI n, nI G, nI E, nI D, f_solved, f_found, a_sign, b_first, a_second, a_rowCount, a_rowLeft, a_rowRight, a_goalTable, a_goalX, a_goalY, a_goalFrozen, a_equationX, a_equationY, a_disequalityX, a_disequalityY, a_choiceOf, a_pick, a_bind, a_text, a_from, a_stack))
    (ho : ∀ t x y, t < 4 → x < n → y < n → v1 = nI t → v2 = nI x → v3 = nI y → G < 4 → post (nI G) (nI V, nI n, nI (G + 1), nI E, nI D, 0, f_found, a_sign, b_first, a_second, a_rowCount, a_rowLeft, a_rowRight, upd a_goalTable G v1, upd a_goalX G v2, upd a_goalY G v3, upd a_goalFrozen G fv, a_equationX, a_equationY, a_disequalityX, a_disequalityY, a_choiceOf, a_pick, a_bind, a_text, a_from, a_stack)) : wpY_addGoal post (nI V, nI n, nI G, nI E, nI D, f_solved, f_found, a_sign, b_first, a_second, a_rowCount, a_rowLeft, a_rowRight, a_goalTable, a_goalX, a_goalY, a_goalFrozen, a_equationX, a_equationY, a_disequalityX, a_disequalityY, a_choiceOf, a_pick, a_bind, a_text, a_from, a_stack) fv v1 v2 v3 := by
  have hn := h.2.2.1
  have hG := h.2.2.2.1
  rcases fz_ix v1 (n := 4) (by omega) with b1 | ⟨t, ht, rfl⟩
  · exact fz_tabY b1 (hb (.inl b1))
  · refine fz_tabY1 ht ?_
    rcases fz_ix v2 (n := n) (by omega) with b2 | ⟨x, hx, rfl⟩
    · exact fz_icY0 rfl b2 (br_t rfl (hb (.inr (.inl b2))))
    · refine fz_icY1 hn rfl hx (br_f (by decide) ?_)
      rcases fz_ix v3 (n := n) (by omega) with b3 | ⟨y, hy, rfl⟩
      · exact fz_icY0 rfl b3 (br_t rfl (hb (.inr (.inr b3))))
      · refine fz_icY1 hn rfl hy (br_f (by decide) (br_t fl (pk_eq G 4 (fun g4 => hf t x y ht hx hy rfl rfl rfl g4) (fun g4 => ?_))))
        have i4 : vp_in (nI G) 4 := vp_in_nI (by omega) (by omega)
        have cG : (nI G).toNatClampNeg = G := nI_clamp (by omega)
        refine ⟨i4, nm_r (e' := upd a_goalTable G (nI t)) (by rw [cG]) ⟨i4, nm_r (e' := upd a_goalX G (nI x)) (by rw [cG]) ⟨i4, nm_r (e' := upd a_goalY G (nI y)) (by rw [cG]) ⟨i4, nm_r (e' := upd a_goalFrozen G fv) (by rw [cG]) (nm_r (nI_1 G) ?_)⟩⟩⟩⟩
        rw [nI_pred]
        exact ho t x y ht hx hy rfl rfl rfl (by omega)
end
theorem i_vc_goal {k : Nat} {u : SX} {v : SY} (I : i_Rel k u v) (hk : k + 5 ≤ 2561) (v1 : Int32) (v2 : Int32) (v3 : Int32) : wpX_goal (fun r u' => wpY_goal (fun r' v' => r' = r ∧ i_Rel (k + 5) u' v') v v1 v2 v3) u v1 v2 v3 := by
  obtain ⟨V, n, G, E, D, tm, f_frozenOn, f_solved, f_solutionCount, f_found, a_kind, a_first, a_second, a_size, a_variablesIn, a_code, a_rowCount, a_rowLeft, a_rowRight, a_goalTable, a_goalX, a_goalY, a_equationX, a_equationY, a_disequalityX, a_disequalityY, a_solutionChoice, a_solutionCode, a_sign, b_first, a_goalFrozen, a_choiceOf, a_value, a_walkX, a_walkY, a_pick, a_bind, a_text, a_from, a_stack, rfl, rfl, h⟩ := I
  have hn := h.2.2.1
  have fl : (-1 : Int32) < nI V := by
    have h0 : (0 : Int32) ≤ nI V := nI_pos' (by have := h.2.1; omega)
    exact Int32.lt_of_lt_of_le (by decide) h0
  have no : ∀ t x y, t < 4 → x < n → y < n → ¬ (fz_bad 4 (nI t) ∨ fz_bad n (nI x) ∨ fz_bad n (nI y)) := by
    rintro t x y ht hx hy (q | q | q)
    · exact fz_nbad (by omega) ht q
    · exact fz_nbad (by omega) hx q
    · exact fz_nbad (by omega) hy q
  unfold wpX_goal wpY_goal
  refine fz_goalX h (fun hb => ?_) (fun t x y ht hx hy e1 e2 e3 g4 => ?_) (fun t x y ht hx hy e1 e2 e3 g4 => ?_)
  · refine fz_goalY h fl (fun _ => ⟨rfl, fz_mk h⟩) (fun t x y ht hx hy e1 e2 e3 g4 => ?_) (fun t x y ht hx hy e1 e2 e3 g4 => ?_)
    · subst e1 e2 e3
      exact absurd hb (no t x y ht hx hy)
    · subst e1 e2 e3
      exact absurd hb (no t x y ht hx hy)
  · subst e1 e2 e3
    exact fz_goalY h fl (fun hb => absurd hb (no t x y ht hx hy)) (fun _ _ _ _ _ _ _ _ _ _ => ⟨rfl, fz_mk h⟩) (fun _ _ _ _ _ _ _ _ _ q => absurd q (by omega))
  · subst e1 e2 e3
    exact fz_goalY h fl (fun hb => absurd hb (no t x y ht hx hy)) (fun _ _ _ _ _ _ _ _ _ q => absurd q (by omega)) (fun _ _ _ _ _ _ _ _ _ _ => ⟨rfl, fz_mk (fz_newG h g4 ht hx hy (.inl ⟨rfl, rfl⟩))⟩)
theorem i_vc_freeze {k : Nat} {u : SX} {v : SY} (I : i_Rel k u v) (hk : k + 5 ≤ 2561) (v1 : Int32) (v2 : Int32) (v3 : Int32) (v4 : Int32) : wpX_freeze (fun r u' => wpY_freeze (fun r' v' => r' = r ∧ i_Rel (k + 5) u' v') v v1 v2 v3 v4) u v1 v2 v3 v4 := by
  obtain ⟨V, n, G, E, D, tm, f_frozenOn, f_solved, f_solutionCount, f_found, a_kind, a_first, a_second, a_size, a_variablesIn, a_code, a_rowCount, a_rowLeft, a_rowRight, a_goalTable, a_goalX, a_goalY, a_equationX, a_equationY, a_disequalityX, a_disequalityY, a_solutionChoice, a_solutionCode, a_sign, b_first, a_goalFrozen, a_choiceOf, a_value, a_walkX, a_walkY, a_pick, a_bind, a_text, a_from, a_stack, rfl, rfl, h⟩ := I
  have hV := h.2.1
  have hn := h.2.2.1
  have no : ∀ t x y, t < 4 → x < n → y < n → ¬ (fz_bad 4 (nI t) ∨ fz_bad n (nI x) ∨ fz_bad n (nI y)) := by
    rintro t x y ht hx hy (q | q | q)
    · exact fz_nbad (by omega) ht q
    · exact fz_nbad (by omega) hx q
    · exact fz_nbad (by omega) hy q
  rcases fz_ix v1 (n := V) (by omega) with b1 | ⟨j, hj, rfl⟩
  · unfold wpX_freeze wpY_freeze
    refine fz_ivX0 rfl b1 ?_
    refine br_t rfl ?_
    by_cases k0 : 0 ≤ v1
    · rcases b1 with q | q
      · exact absurd k0 (Int32.not_le.mpr q)
      · refine br_t k0 ?_
        rcases fz_ix v2 (n := 4) (by omega) with b2 | ⟨t, ht, rfl⟩
        · exact fz_tabY b2 ⟨rfl, fz_mk h⟩
        · refine fz_tabY1 ht ?_
          rcases fz_ix v3 (n := n) (by omega) with b3 | ⟨x, hx, rfl⟩
          · exact fz_icY0 rfl b3 (br_t rfl ⟨rfl, fz_mk h⟩)
          · refine fz_icY1 hn rfl hx (br_f (by decide) ?_)
            rcases fz_ix v4 (n := n) (by omega) with b4 | ⟨y, hy, rfl⟩
            · exact fz_icY0 rfl b4 (br_t rfl ⟨rfl, fz_mk h⟩)
            · exact fz_icY1 hn rfl hy (br_f (by decide) (br_f (Int32.not_lt.mpr q) ⟨rfl, fz_mk h⟩))
    · exact br_f k0 ⟨rfl, fz_mk h⟩
  · have p0 : (0 : Int32) ≤ nI j := nI_pos' (by omega)
    have fl : nI j < nI V := (nI_ltI (by omega) (by omega)).mpr hj
    unfold wpX_freeze wpY_freeze
    refine fz_ivX1 hV rfl hj ?_
    refine br_f (by decide) ?_
    refine fz_goalX h (fun hb => br_t p0 ?_) (fun t x y ht hx hy e1 e2 e3 g4 => br_t p0 ?_) (fun t x y ht hx hy e1 e2 e3 g4 => br_t p0 ?_)
    · refine fz_goalY h fl (fun _ => ⟨rfl, fz_mk h⟩) (fun t x y ht hx hy e1 e2 e3 g4 => ?_) (fun t x y ht hx hy e1 e2 e3 g4 => ?_)
      · subst e1 e2 e3
        exact absurd hb (no t x y ht hx hy)
      · subst e1 e2 e3
        exact absurd hb (no t x y ht hx hy)
    · subst e1 e2 e3
      exact fz_goalY h fl (fun hb => absurd hb (no t x y ht hx hy)) (fun _ _ _ _ _ _ _ _ _ _ => ⟨rfl, fz_mk h⟩) (fun _ _ _ _ _ _ _ _ _ q => absurd q (by omega))
    · subst e1 e2 e3
      exact fz_goalY h fl (fun hb => absurd hb (no t x y ht hx hy)) (fun _ _ _ _ _ _ _ _ _ q => absurd q (by omega)) (fun _ _ _ _ _ _ _ _ _ _ => ⟨rfl, fz_mk (fz_newG h g4 ht hx hy (.inr ⟨j, hj, rfl, rfl⟩))⟩)
theorem i_vc_equal {k : Nat} {u : SX} {v : SY} (I : i_Rel k u v) (hk : k + 5 ≤ 2561) (v1 : Int32) (v2 : Int32) : wpX_equal (fun r u' => wpY_equal (fun r' v' => r' = r ∧ i_Rel (k + 5) u' v') v v1 v2) u v1 v2 := by
  obtain ⟨V, n, G, E, D, tm, f_frozenOn, f_solved, f_solutionCount, f_found, a_kind, a_first, a_second, a_size, a_variablesIn, a_code, a_rowCount, a_rowLeft, a_rowRight, a_goalTable, a_goalX, a_goalY, a_equationX, a_equationY, a_disequalityX, a_disequalityY, a_solutionChoice, a_solutionCode, a_sign, b_first, a_goalFrozen, a_choiceOf, a_value, a_walkX, a_walkY, a_pick, a_bind, a_text, a_from, a_stack, rfl, rfl, h⟩ := I
  have hn := h.2.2.1
  have hE := h.2.2.2.2.1
  rcases fz_ix v1 (n := n) (by omega) with b2 | ⟨x, hx, rfl⟩
  · unfold wpX_equal wpY_equal
    refine fz_icX0 rfl b2 ?_
    refine br_t rfl ?_
    refine fz_icY0 rfl b2 ?_
    exact br_t rfl ⟨rfl, fz_mk h⟩
  · unfold wpX_equal wpY_equal
    refine fz_icX1 hn rfl hx ?_
    refine br_f (by decide) ?_
    rcases fz_ix v2 (n := n) (by omega) with b3 | ⟨y, hy, rfl⟩
    · exact fz_icX0 rfl b3 (br_t rfl (fz_icY1 hn rfl hx (br_f (by decide) (fz_icY0 rfl b3 (br_t rfl ⟨rfl, fz_mk h⟩)))))
    · refine fz_icX1 hn rfl hy (br_f (by decide) (pk_lt E 4 (fun g4 => ?_) (fun g4 => ?_)))
      · have i4 : vp_in (nI E) 4 := vp_in_nI g4 (by omega)
        have cG : (nI E).toNatClampNeg = E := nI_clamp (by omega)
        exact ⟨i4, nm_r (e' := upd a_equationX E (nI x)) (by rw [cG]) ⟨i4, nm_r (e' := upd a_equationY E (nI y)) (by rw [cG]) (nm_r (nI_1 E) (fz_icY1 hn rfl hx (br_f (by decide) (fz_icY1 hn rfl hy (br_f (by decide) (pk_eq E 4 (fun q => absurd q (by omega)) (fun _ => ⟨i4, nm_r (e' := upd a_equationX E (nI x)) (by rw [cG]) ⟨i4, nm_r (e' := upd a_equationY E (nI y)) (by rw [cG]) (nm_r (nI_1 E) ⟨rfl, fz_mk (fz_newE h g4 hx hy)⟩)⟩⟩)))))))⟩⟩
      · exact fz_icY1 hn rfl hx (br_f (by decide) (fz_icY1 hn rfl hy (br_f (by decide) (pk_eq E 4 (fun _ => ⟨rfl, fz_mk h⟩) (fun q => absurd (show E = 4 by omega) q)))))
theorem i_vc_differ {k : Nat} {u : SX} {v : SY} (I : i_Rel k u v) (hk : k + 5 ≤ 2561) (v1 : Int32) (v2 : Int32) : wpX_differ (fun r u' => wpY_differ (fun r' v' => r' = r ∧ i_Rel (k + 5) u' v') v v1 v2) u v1 v2 := by
  obtain ⟨V, n, G, E, D, tm, f_frozenOn, f_solved, f_solutionCount, f_found, a_kind, a_first, a_second, a_size, a_variablesIn, a_code, a_rowCount, a_rowLeft, a_rowRight, a_goalTable, a_goalX, a_goalY, a_equationX, a_equationY, a_disequalityX, a_disequalityY, a_solutionChoice, a_solutionCode, a_sign, b_first, a_goalFrozen, a_choiceOf, a_value, a_walkX, a_walkY, a_pick, a_bind, a_text, a_from, a_stack, rfl, rfl, h⟩ := I
  have hn := h.2.2.1
  have hD := h.2.2.2.2.2.1
  rcases fz_ix v1 (n := n) (by omega) with b2 | ⟨x, hx, rfl⟩
  · unfold wpX_differ wpY_differ
    refine fz_icX0 rfl b2 ?_
    refine br_t rfl ?_
    refine fz_icY0 rfl b2 ?_
    exact br_t rfl ⟨rfl, fz_mk h⟩
  · unfold wpX_differ wpY_differ
    refine fz_icX1 hn rfl hx ?_
    refine br_f (by decide) ?_
    rcases fz_ix v2 (n := n) (by omega) with b3 | ⟨y, hy, rfl⟩
    · exact fz_icX0 rfl b3 (br_t rfl (fz_icY1 hn rfl hx (br_f (by decide) (fz_icY0 rfl b3 (br_t rfl ⟨rfl, fz_mk h⟩)))))
    · refine fz_icX1 hn rfl hy (br_f (by decide) (pk_lt D 6 (fun g4 => ?_) (fun g4 => ?_)))
      · have i4 : vp_in (nI D) 6 := vp_in_nI g4 (by omega)
        have cG : (nI D).toNatClampNeg = D := nI_clamp (by omega)
        exact ⟨i4, nm_r (e' := upd a_disequalityX D (nI x)) (by rw [cG]) ⟨i4, nm_r (e' := upd a_disequalityY D (nI y)) (by rw [cG]) (nm_r (nI_1 D) (fz_icY1 hn rfl hx (br_f (by decide) (fz_icY1 hn rfl hy (br_f (by decide) (pk_eq D 6 (fun q => absurd q (by omega)) (fun _ => ⟨i4, nm_r (e' := upd a_disequalityX D (nI x)) (by rw [cG]) ⟨i4, nm_r (e' := upd a_disequalityY D (nI y)) (by rw [cG]) (nm_r (nI_1 D) ⟨rfl, fz_mk (fz_newD h g4 hx hy)⟩)⟩⟩)))))))⟩⟩
      · exact fz_icY1 hn rfl hx (br_f (by decide) (fz_icY1 hn rfl hy (br_f (by decide) (pk_eq D 6 (fun _ => ⟨rfl, fz_mk h⟩) (fun q => absurd (show D = 6 by omega) q)))))
theorem i_vc_forget {k : Nat} {u : SX} {v : SY} (I : i_Rel k u v) (hk : k + 5 ≤ 2561) : wpX_forget (fun r u' => wpY_forget (fun r' v' => r' = r ∧ i_Rel (k + 5) u' v') v) u := by
  obtain ⟨V, n, G, E, D, tm, f_frozenOn, f_solved, f_solutionCount, f_found, a_kind, a_first, a_second, a_size, a_variablesIn, a_code, a_rowCount, a_rowLeft, a_rowRight, a_goalTable, a_goalX, a_goalY, a_equationX, a_equationY, a_disequalityX, a_disequalityY, a_solutionChoice, a_solutionCode, a_sign, b_first, a_goalFrozen, a_choiceOf, a_value, a_walkX, a_walkY, a_pick, a_bind, a_text, a_from, a_stack, rfl, rfl, h⟩ := I
  have q := fz_mk (V := V) (n := n) (G := 0) (E := 0) (D := 0) (tm := tm) (f_frozenOn := 0) (f_solved := 0) (f_solutionCount := f_solutionCount) (f_found := f_found) (a_kind := a_kind) (a_first := a_first) (a_second := a_second) (a_size := a_size) (a_variablesIn := a_variablesIn) (a_code := a_code) (a_rowCount := a_rowCount) (a_rowLeft := a_rowLeft) (a_rowRight := a_rowRight) (a_goalTable := a_goalTable) (a_goalX := a_goalX) (a_goalY := a_goalY) (a_equationX := a_equationX) (a_equationY := a_equationY) (a_disequalityX := a_disequalityX) (a_disequalityY := a_disequalityY) (a_solutionChoice := a_solutionChoice) (a_solutionCode := a_solutionCode) (a_sign := a_sign) (b_first := b_first) (a_goalFrozen := a_goalFrozen) (a_choiceOf := a_choiceOf) (a_value := a_value) (a_walkX := a_walkX) (a_walkY := a_walkY) (a_pick := a_pick) (a_bind := a_bind) (a_text := a_text) (a_from := a_from) (a_stack := a_stack) (k := k + 5) (fz_noQ h)
  exact ⟨rfl, q⟩
def fz_zr (rc : Nat → Int32) : Nat → Nat → Int32
  | 0 => rc
  | i + 1 => upd (fz_zr rc i) i 0
theorem fz_zr0 (rc : Nat → Int32) : ∀ i t, t < i → fz_zr rc i t = 0 := by
  intro i
  induction i with
  | zero => intro t ht; omega
  | succ i ih =>
    intro t ht
    show upd (fz_zr rc i) i 0 t = 0
    by_cases e : t = i
    · rw [e]
      exact pk_us
    · rw [pk_un e]
      exact ih t (by omega)
theorem i_vc_clear {k : Nat} {u : SX} {v : SY} (I : i_Rel k u v) (hk : k + 5 ≤ 2561) : wpX_clear (fun r u' => wpY_clear (fun r' v' => r' = r ∧ i_Rel (k + 5) u' v') v) u := by
  obtain ⟨V, n, G, E, D, tm, f_frozenOn, f_solved, f_solutionCount, f_found, a_kind, a_first, a_second, a_size, a_variablesIn, a_code, a_rowCount, a_rowLeft, a_rowRight, a_goalTable, a_goalX, a_goalY, a_equationX, a_equationY, a_disequalityX, a_disequalityY, a_solutionChoice, a_solutionCode, a_sign, b_first, a_goalFrozen, a_choiceOf, a_value, a_walkX, a_walkY, a_pick, a_bind, a_text, a_from, a_stack, rfl, rfl, h⟩ := I
  have fin : fz_Inv V 0 0 0 0 tm 0 0 f_solutionCount f_found a_kind a_first a_second a_size a_variablesIn a_code (fz_zr a_rowCount 4) a_rowLeft a_rowRight a_goalTable a_goalX a_goalY a_equationX a_equationY a_disequalityX a_disequalityY a_solutionChoice a_solutionCode a_sign b_first a_goalFrozen a_choiceOf := by
    obtain ⟨hV1, hV, hn, hG, hE, hD, hCX, hCY, hRO, hGO, hQE, hQD, hF, hF2, hS⟩ := fz_noQ h
    exact ⟨hV1, hV, by omega, hG, hE, hD, fun c hc => absurd hc (by omega), fun c hc => absurd hc (by omega), fun t ht => ⟨0, by omega, fz_zr0 _ 4 t ht, fun j hj => absurd hj (by omega)⟩, fun c hc => absurd hc (by omega), fun c hc => absurd hc (by omega), fun c hc => absurd hc (by omega), hF, fun c hc => absurd hc (by omega), .inl rfl⟩
  have keyY : ∀ (post : Int32 → SY → Prop), post (nI n) (nI V, 0, 0, 0, 0, 0, f_found, a_sign, b_first, a_second, fz_zr a_rowCount 4, a_rowLeft, a_rowRight, a_goalTable, a_goalX, a_goalY, a_goalFrozen, a_equationX, a_equationY, a_disequalityX, a_disequalityY, a_choiceOf, a_pick, a_bind, a_text, a_from, a_stack) → ∀ (m i : Nat), i + m = 4 → wY_clear_17 post (nI n) (nI V) 0 0 0 0 0 f_found (m + 1) (nI i) a_sign b_first a_second (fz_zr a_rowCount i) a_rowLeft a_rowRight a_goalTable a_goalX a_goalY a_goalFrozen a_equationX a_equationY a_disequalityX a_disequalityY a_choiceOf a_pick a_bind a_text a_from a_stack := by
    intro post hp m
    induction m with
    | zero =>
      intro i hi
      have e : i = 4 := by omega
      subst e
      exact pk_le 4 4 (fun _ => hp) (fun q => absurd q (by omega))
    | succ m ih =>
      intro i hi
      exact pk_le 4 i (fun q => absurd q (by omega)) (fun _ => ⟨vp_in_nI (by omega) (by omega), nm_r (e' := fz_zr a_rowCount (i + 1)) (by rw [nI_clamp (by omega)]; rfl) (nm_r (nI_1 i) (ih (i + 1) (by omega)))⟩)
  have keyX : ∀ (post : Int32 → SX → Prop), post (nI n) (nI V, 0, 0, 0, 0, 0, 0, f_solutionCount, a_kind, a_first, a_second, a_size, a_variablesIn, a_code, fz_zr a_rowCount 4, a_rowLeft, a_rowRight, a_goalTable, a_goalX, a_goalY, a_equationX, a_equationY, a_disequalityX, a_disequalityY, a_solutionChoice, a_solutionCode, a_value, a_walkX, a_walkY) → ∀ (m i : Nat), i + m = 4 → wX_clear_11 post (nI n) (nI V) (nI n) 0 0 0 0 0 f_solutionCount (m + 1) (nI i) a_kind a_first a_second a_size a_variablesIn a_code (fz_zr a_rowCount i) a_rowLeft a_rowRight a_goalTable a_goalX a_goalY a_equationX a_equationY a_disequalityX a_disequalityY a_solutionChoice a_solutionCode a_value a_walkX a_walkY := by
    intro post hp m
    induction m with
    | zero =>
      intro i hi
      have e : i = 4 := by omega
      subst e
      exact pk_le 4 4 (fun _ => hp) (fun q => absurd q (by omega))
    | succ m ih =>
      intro i hi
      exact pk_le 4 i (fun q => absurd q (by omega)) (fun _ => ⟨vp_in_nI (by omega) (by omega), nm_r (e' := fz_zr a_rowCount (i + 1)) (by rw [nI_clamp (by omega)]; rfl) (nm_r (nI_1 i) (ih (i + 1) (by omega)))⟩)
  have q := fz_mk (V := V) (n := 0) (G := 0) (E := 0) (D := 0) (tm := tm) (f_frozenOn := 0) (f_solved := 0) (f_solutionCount := f_solutionCount) (f_found := f_found) (a_kind := a_kind) (a_first := a_first) (a_second := a_second) (a_size := a_size) (a_variablesIn := a_variablesIn) (a_code := a_code) (a_rowCount := fz_zr a_rowCount 4) (a_rowLeft := a_rowLeft) (a_rowRight := a_rowRight) (a_goalTable := a_goalTable) (a_goalX := a_goalX) (a_goalY := a_goalY) (a_equationX := a_equationX) (a_equationY := a_equationY) (a_disequalityX := a_disequalityX) (a_disequalityY := a_disequalityY) (a_solutionChoice := a_solutionChoice) (a_solutionCode := a_solutionCode) (a_sign := a_sign) (b_first := b_first) (a_goalFrozen := a_goalFrozen) (a_choiceOf := a_choiceOf) (a_value := a_value) (a_walkX := a_walkX) (a_walkY := a_walkY) (a_pick := a_pick) (a_bind := a_bind) (a_text := a_text) (a_from := a_from) (a_stack := a_stack) (k := k + 5) fin
  exact ⟨5, keyX _ ⟨5, keyY _ ⟨rfl, q⟩ 4 0 rfl⟩ 4 0 rfl⟩
