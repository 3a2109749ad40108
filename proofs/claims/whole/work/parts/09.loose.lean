/-! ===== bits ===== -/
theorem fz_b1 : ∀ i, i < 32 → bt 1 i = decide (i = 0) := by decide +kernel
theorem fz_bit (x : Int32) {v : Nat} (hv : v < 32) : (x >>> (nI v &&& 31)) &&& 1 = 1 ↔ bt x v = true := by
  have h : ∀ i, i < 32 → bt ((x >>> (nI v &&& 31)) &&& 1) i = (decide (i = 0) && bt x v) := by
    intro i hi
    rw [b_and, fz_b1 i hi]
    by_cases e : i = 0
    · subst e
      rw [b_sshr v hv x hi, if_pos (by omega), Nat.add_zero, Bool.and_comm]
    · rw [decide_eq_false e, Bool.and_false, Bool.false_and]
  constructor
  · intro e
    have := h 0 (by omega)
    rw [e, fz_b1 0 (by omega)] at this
    simpa using this.symm
  · intro e
    refine b_ext (fun i hi => ?_)
    rw [h i hi, e, fz_b1 i hi, Bool.and_true]
theorem fz_one {v : Nat} (hv : v < 32) {i : Nat} (hi : i < 32) : bt ((1 : Int32) <<< (nI v &&& 31)) i = decide (i = v) := by
  rw [b_shl v hv 1 hi]
  by_cases e : i = v
  · subst e
    rw [Nat.sub_self, fz_b1 0 (by omega)]
    simp
  · by_cases l : v ≤ i
    · rw [fz_b1 (i - v) (by omega), decide_eq_false (show ¬ i - v = 0 by omega), decide_eq_false e, Bool.and_false]
    · rw [decide_eq_false l, decide_eq_false e, Bool.false_and]
/-- the variable is spoken of: a goal is frozen on it, or it stands in an equation or a disequality -/
def fz_Sp (tm : Nat → List Nat) (gf ex ey dx dy : Nat → Int32) (G E D v : Nat) : Prop :=
  (∃ g, g < G ∧ gf g = nI v) ∨ (∃ i, i < E ∧ (100 + v ∈ tm (ex i).toNatClampNeg ∨ 100 + v ∈ tm (ey i).toNatClampNeg)) ∨ (∃ i, i < D ∧ (100 + v ∈ tm (dx i).toNatClampNeg ∨ 100 + v ∈ tm (dy i).toNatClampNeg))
section
variable {f_variables f_cells f_goals f_equations f_disequalities f_solved f_found : Int32} {a_sign a_first a_second a_rows a_left a_right a_goalTable a_goalX a_goalY a_goalFrozen a_equalX a_equalY a_differX a_differY a_choiceOf a_pick a_bind a_text a_from a_stack : Nat → Int32}
variable {V n G E D : Nat} {tm : Nat → List Nat}
theorem fz_ing (hV : V ≤ 6) (hn : n ≤ 48) (hC : fz_CY V tm n a_sign a_first a_second) (hG : G ≤ 4) (hGO : fz_GO n a_goalTable a_goalX a_goalY G) (eG : f_goals = nI G) {v : Nat} (hv : v < 6) {zv : Int32} (ev : zv = nI v) {post : Int32 → SY → Prop}
    (h1 : fz_Gv tm a_goalX a_goalY G v → ∀ tx fr sk, post 1 (f_variables, f_cells, f_goals, f_equations, f_disequalities, f_solved, f_found, a_sign, a_first, a_second, a_rows, a_left, a_right, a_goalTable, a_goalX, a_goalY, a_goalFrozen, a_equalX, a_equalY, a_differX, a_differY, a_choiceOf, a_pick, a_bind, tx, fr, sk)) (h0 : ¬ fz_Gv tm a_goalX a_goalY G v → ∀ tx fr sk, post 0 (f_variables, f_cells, f_goals, f_equations, f_disequalities, f_solved, f_found, a_sign, a_first, a_second, a_rows, a_left, a_right, a_goalTable, a_goalX, a_goalY, a_goalFrozen, a_equalX, a_equalY, a_differX, a_differY, a_choiceOf, a_pick, a_bind, tx, fr, sk)) : wpY_inGoals post (f_variables, f_cells, f_goals, f_equations, f_disequalities, f_solved, f_found, a_sign, a_first, a_second, a_rows, a_left, a_right, a_goalTable, a_goalX, a_goalY, a_goalFrozen, a_equalX, a_equalY, a_differX, a_differY, a_choiceOf, a_pick, a_bind, a_text, a_from, a_stack) zv := by
  subst ev
  have key : ∀ (k g : Nat) (tx fr sk : Nat → Int32), g + k = G → (∀ j, j < g → ¬ (100 + v ∈ tm (a_goalX j).toNatClampNeg ∨ 100 + v ∈ tm (a_goalY j).toNatClampNeg)) → wY_inGoals_2 post (nI v) (k + 1) (nI g) f_variables f_cells f_goals f_equations f_disequalities f_solved f_found a_sign a_first a_second a_rows a_left a_right a_goalTable a_goalX a_goalY a_goalFrozen a_equalX a_equalY a_differX a_differY a_choiceOf a_pick a_bind tx fr sk := by
    intro k
    induction k with
    | zero =>
      intro g tx fr sk hg hno
      have e : g = G := by omega
      subst e
      refine pk_le g g (fun _ => h0 ?_ tx fr sk) (fun h => absurd h (by omega)) eG
      rintro ⟨j, hj, hh⟩
      exact hno j hj hh
    | succ k ih =>
      intro g tx fr sk hg hno
      obtain ⟨t, x, y, ht, hx, hy, et, ex, ey⟩ := hGO g (by omega)
      have cg : (nI g).toNatClampNeg = g := nI_clamp (by omega)
      have ig : vp_in (nI g) 4 := vp_in_nI (by omega) (by omega)
      refine pk_le G g (fun h => absurd h (by omega)) (fun _ => ⟨ig, fz_occ hV hn hC hx hv rfl (by rw [cg]; exact ex) (fun hm tx1 fr1 sk1 => ?_) (fun hm tx1 fr1 sk1 => ?_)⟩) eG
      · refine br_f (by decide) (h1 ⟨g, by omega, .inl ?_⟩ tx1 fr1 sk1)
        rw [ex, nI_clamp (by omega)]
        exact hm
      · refine br_t rfl ⟨ig, fz_occ hV hn hC hy hv rfl (by rw [cg]; exact ey) (fun hm2 tx2 fr2 sk2 => ?_) (fun hm2 tx2 fr2 sk2 => ?_)⟩
        · refine br_f (by decide) (h1 ⟨g, by omega, .inr ?_⟩ tx2 fr2 sk2)
          rw [ey, nI_clamp (by omega)]
          exact hm2
        · refine br_t rfl (nm_r (nI_1 g) (ih (g + 1) tx2 fr2 sk2 (by omega) (fun j hj => ?_)))
          rcases Nat.lt_or_ge j g with h2 | h2
          · exact hno j h2
          · have : j = g := by omega
            subst this
            rw [ex, ey, nI_clamp (n := x) (by omega), nI_clamp (n := y) (by omega)]
            rintro (q | q)
            · exact hm q
            · exact hm2 q
  exact ⟨G + 1, key G 0 a_text a_from a_stack (by omega) (fun j hj => absurd hj (by omega))⟩
theorem fz_spo (hV : V ≤ 6) (hn : n ≤ 48) (hC : fz_CY V tm n a_sign a_first a_second) (hG : G ≤ 4) (eG : f_goals = nI G) (hE : E ≤ 4) (hQE : fz_QO n a_equalX a_equalY E) (eE : f_equations = nI E) (hD : D ≤ 6) (hQD : fz_QO n a_differX a_differY D) (eD : f_disequalities = nI D) {v : Nat} (hv : v < 6) {zv : Int32} (ev : zv = nI v) {post : Int32 → SY → Prop}
    (h1 : fz_Sp tm a_goalFrozen a_equalX a_equalY a_differX a_differY G E D v → ∀ tx fr sk, post 1 (f_variables, f_cells, f_goals, f_equations, f_disequalities, f_solved, f_found, a_sign, a_first, a_second, a_rows, a_left, a_right, a_goalTable, a_goalX, a_goalY, a_goalFrozen, a_equalX, a_equalY, a_differX, a_differY, a_choiceOf, a_pick, a_bind, tx, fr, sk)) (h0 : ¬ fz_Sp tm a_goalFrozen a_equalX a_equalY a_differX a_differY G E D v → ∀ tx fr sk, post 0 (f_variables, f_cells, f_goals, f_equations, f_disequalities, f_solved, f_found, a_sign, a_first, a_second, a_rows, a_left, a_right, a_goalTable, a_goalX, a_goalY, a_goalFrozen, a_equalX, a_equalY, a_differX, a_differY, a_choiceOf, a_pick, a_bind, tx, fr, sk)) : wpY_spokenOf post (f_variables, f_cells, f_goals, f_equations, f_disequalities, f_solved, f_found, a_sign, a_first, a_second, a_rows, a_left, a_right, a_goalTable, a_goalX, a_goalY, a_goalFrozen, a_equalX, a_equalY, a_differX, a_differY, a_choiceOf, a_pick, a_bind, a_text, a_from, a_stack) zv := by
  subst ev
  have k76 : (∀ g, g < G → ¬ a_goalFrozen g = nI v) → (∀ j, j < E → ¬ (100 + v ∈ tm (a_equalX j).toNatClampNeg ∨ 100 + v ∈ tm (a_equalY j).toNatClampNeg)) → ∀ (k g : Nat) (tx fr sk : Nat → Int32), g + k = D → (∀ j, j < g → ¬ (100 + v ∈ tm (a_differX j).toNatClampNeg ∨ 100 + v ∈ tm (a_differY j).toNatClampNeg)) → wY_spokenOf_76 post (nI v) (k + 1) (nI g) f_variables f_cells f_goals f_equations f_disequalities f_solved f_found a_sign a_first a_second a_rows a_left a_right a_goalTable a_goalX a_goalY a_goalFrozen a_equalX a_equalY a_differX a_differY a_choiceOf a_pick a_bind tx fr sk := by
    intro n1 n2 k
    induction k with
    | zero =>
      intro g tx fr sk hg hno
      have e : g = D := by omega
      subst e
      refine pk_le g g (fun _ => h0 ?_ tx fr sk) (fun h => absurd h (by omega)) eD
      rintro (⟨j, hj, hh⟩ | ⟨j, hj, hh⟩ | ⟨j, hj, hh⟩)
      · exact n1 j hj hh
      · exact n2 j hj hh
      · exact hno j hj hh
    | succ k ih =>
      intro g tx fr sk hg hno
      obtain ⟨x, y, hx, hy, ex, ey⟩ := hQD g (by omega)
      have cg : (nI g).toNatClampNeg = g := nI_clamp (by omega)
      have ig : vp_in (nI g) 6 := vp_in_nI (by omega) (by omega)
      refine pk_le D g (fun h => absurd h (by omega)) (fun _ => ⟨ig, fz_occ hV hn hC hx hv rfl (by rw [cg]; exact ex) (fun hm tx1 fr1 sk1 => ?_) (fun hm tx1 fr1 sk1 => ?_)⟩) eD
      · refine br_f (by decide) (h1 (.inr (.inr ⟨g, by omega, .inl ?_⟩)) tx1 fr1 sk1)
        rw [ex, nI_clamp (by omega)]
        exact hm
      · refine br_t rfl ⟨ig, fz_occ hV hn hC hy hv rfl (by rw [cg]; exact ey) (fun hm2 tx2 fr2 sk2 => ?_) (fun hm2 tx2 fr2 sk2 => ?_)⟩
        · refine br_f (by decide) (h1 (.inr (.inr ⟨g, by omega, .inr ?_⟩)) tx2 fr2 sk2)
          rw [ey, nI_clamp (by omega)]
          exact hm2
        · refine br_t rfl (nm_r (nI_1 g) (ih (g + 1) tx2 fr2 sk2 (by omega) (fun j hj => ?_)))
          rcases Nat.lt_or_ge j g with h2 | h2
          · exact hno j h2
          · have : j = g := by omega
            subst this
            rw [ex, ey, nI_clamp (n := x) (by omega), nI_clamp (n := y) (by omega)]
            rintro (q | q)
            · exact hm q
            · exact hm2 q
  have k30 : (∀ g, g < G → ¬ a_goalFrozen g = nI v) → ∀ (k g : Nat) (tx fr sk : Nat → Int32), g + k = E → (∀ j, j < g → ¬ (100 + v ∈ tm (a_equalX j).toNatClampNeg ∨ 100 + v ∈ tm (a_equalY j).toNatClampNeg)) → wY_spokenOf_30 post (nI v) (k + 1) (nI g) f_variables f_cells f_goals f_equations f_disequalities f_solved f_found a_sign a_first a_second a_rows a_left a_right a_goalTable a_goalX a_goalY a_goalFrozen a_equalX a_equalY a_differX a_differY a_choiceOf a_pick a_bind tx fr sk := by
    intro n1 k
    induction k with
    | zero =>
      intro g tx fr sk hg hno
      have e : g = E := by omega
      subst e
      exact pk_le g g (fun _ => ⟨D + 1, k76 n1 hno D 0 tx fr sk (by omega) (fun j hj => absurd hj (by omega))⟩) (fun h => absurd h (by omega)) eE
    | succ k ih =>
      intro g tx fr sk hg hno
      obtain ⟨x, y, hx, hy, ex, ey⟩ := hQE g (by omega)
      have cg : (nI g).toNatClampNeg = g := nI_clamp (by omega)
      have ig : vp_in (nI g) 4 := vp_in_nI (by omega) (by omega)
      refine pk_le E g (fun h => absurd h (by omega)) (fun _ => ⟨ig, fz_occ hV hn hC hx hv rfl (by rw [cg]; exact ex) (fun hm tx1 fr1 sk1 => ?_) (fun hm tx1 fr1 sk1 => ?_)⟩) eE
      · refine br_f (by decide) (h1 (.inr (.inl ⟨g, by omega, .inl ?_⟩)) tx1 fr1 sk1)
        rw [ex, nI_clamp (by omega)]
        exact hm
      · refine br_t rfl ⟨ig, fz_occ hV hn hC hy hv rfl (by rw [cg]; exact ey) (fun hm2 tx2 fr2 sk2 => ?_) (fun hm2 tx2 fr2 sk2 => ?_)⟩
        · refine br_f (by decide) (h1 (.inr (.inl ⟨g, by omega, .inr ?_⟩)) tx2 fr2 sk2)
          rw [ey, nI_clamp (by omega)]
          exact hm2
        · refine br_t rfl (nm_r (nI_1 g) (ih (g + 1) tx2 fr2 sk2 (by omega) (fun j hj => ?_)))
          rcases Nat.lt_or_ge j g with h2 | h2
          · exact hno j h2
          · have : j = g := by omega
            subst this
            rw [ex, ey, nI_clamp (n := x) (by omega), nI_clamp (n := y) (by omega)]
            rintro (q | q)
            · exact hm q
            · exact hm2 q
  have k2 : ∀ (k g : Nat), g + k = G → (∀ j, j < g → ¬ a_goalFrozen j = nI v) → wY_spokenOf_2 post (nI v) f_variables f_cells f_goals f_equations f_disequalities f_solved f_found a_sign a_first a_second a_rows a_left a_right a_goalTable a_goalX a_goalY a_goalFrozen a_equalX a_equalY a_differX a_differY a_choiceOf a_pick a_bind a_text a_from a_stack (k + 1) (nI g) := by
    intro k
    induction k with
    | zero =>
      intro g hg hno
      have e : g = G := by omega
      subst e
      exact pk_le g g (fun _ => ⟨E + 1, k30 hno E 0 a_text a_from a_stack (by omega) (fun j hj => absurd hj (by omega))⟩) (fun h => absurd h (by omega)) eG
    | succ k ih =>
      intro g hg hno
      have cg : (nI g).toNatClampNeg = g := nI_clamp (by omega)
      have ig : vp_in (nI g) 4 := vp_in_nI (by omega) (by omega)
      have F : a_goalFrozen (nI g).toNatClampNeg = a_goalFrozen g := by rw [cg]
      refine pk_le G g (fun h => absurd h (by omega)) (fun _ => ⟨ig, br_c (fun hf => h1 (.inl ⟨g, by omega, F.symm.trans hf⟩) _ _ _) (fun hf => nm_r (nI_1 g) (ih (g + 1) (by omega) (fun j hj => ?_)))⟩) eG
      rcases Nat.lt_or_ge j g with h2 | h2
      · exact hno j h2
      · have : j = g := by omega
        subst this
        exact fun q => hf (F.trans q)
  exact ⟨G + 1, k2 G 0 (by omega) (fun j hj => absurd hj (by omega))⟩
theorem fz_looY (hV : V ≤ 6) (hn : n ≤ 48) (hC : fz_CY V tm n a_sign a_first a_second) (eV : f_variables = nI V) (hG : G ≤ 4) (hGO : fz_GO n a_goalTable a_goalX a_goalY G) (eG : f_goals = nI G) (hE : E ≤ 4) (hQE : fz_QO n a_equalX a_equalY E) (eE : f_equations = nI E) (hD : D ≤ 6) (hQD : fz_QO n a_differX a_differY D) (eD : f_disequalities = nI D) {post : Int32 → SY → Prop}
    (h1 : (∃ v, v < V ∧ fz_Sp tm a_goalFrozen a_equalX a_equalY a_differX a_differY G E D v ∧ ¬ fz_Gv tm a_goalX a_goalY G v) → ∀ tx fr sk, post 1 (f_variables, f_cells, f_goals, f_equations, f_disequalities, f_solved, f_found, a_sign, a_first, a_second, a_rows, a_left, a_right, a_goalTable, a_goalX, a_goalY, a_goalFrozen, a_equalX, a_equalY, a_differX, a_differY, a_choiceOf, a_pick, a_bind, tx, fr, sk))
    (h0 : (∀ v, v < V → fz_Sp tm a_goalFrozen a_equalX a_equalY a_differX a_differY G E D v → fz_Gv tm a_goalX a_goalY G v) → ∀ tx fr sk, post 0 (f_variables, f_cells, f_goals, f_equations, f_disequalities, f_solved, f_found, a_sign, a_first, a_second, a_rows, a_left, a_right, a_goalTable, a_goalX, a_goalY, a_goalFrozen, a_equalX, a_equalY, a_differX, a_differY, a_choiceOf, a_pick, a_bind, tx, fr, sk)) : wpY_loose post (f_variables, f_cells, f_goals, f_equations, f_disequalities, f_solved, f_found, a_sign, a_first, a_second, a_rows, a_left, a_right, a_goalTable, a_goalX, a_goalY, a_goalFrozen, a_equalX, a_equalY, a_differX, a_differY, a_choiceOf, a_pick, a_bind, a_text, a_from, a_stack) := by
  have key : ∀ (k v : Nat) (tx fr sk : Nat → Int32), v + k = V → (∀ w, w < v → fz_Sp tm a_goalFrozen a_equalX a_equalY a_differX a_differY G E D w → fz_Gv tm a_goalX a_goalY G w) → wY_loose_2 post (k + 1) (nI v) f_variables f_cells f_goals f_equations f_disequalities f_solved f_found a_sign a_first a_second a_rows a_left a_right a_goalTable a_goalX a_goalY a_goalFrozen a_equalX a_equalY a_differX a_differY a_choiceOf a_pick a_bind tx fr sk := by
    intro k
    induction k with
    | zero =>
      intro v tx fr sk hv hno
      have e : v = V := by omega
      subst e
      exact pk_le v v (fun _ => h0 hno tx fr sk) (fun h => absurd h (by omega)) eV
    | succ k ih =>
      intro v tx fr sk hv hno
      refine pk_le V v (fun h => absurd h (by omega)) (fun _ => fz_spo hV hn hC hG eG hE hQE eE hD hQD eD (by omega) rfl (fun hs tx1 fr1 sk1 => ?_) (fun hs tx1 fr1 sk1 => ?_)) eV
      · refine br_f (by decide) (fz_ing hV hn hC hG hGO eG (by omega) rfl (fun hg tx2 fr2 sk2 => ?_) (fun hg tx2 fr2 sk2 => ?_))
        · refine br_f (by decide) (nm_r (nI_1 v) (ih (v + 1) tx2 fr2 sk2 (by omega) (fun w hw hs' => ?_)))
          rcases Nat.lt_or_ge w v with h2 | h2
          · exact hno w h2 hs'
          · have : w = v := by omega
            rw [this]
            exact hg
        · exact br_t rfl (h1 ⟨v, by omega, hs, hg⟩ tx2 fr2 sk2)
      · refine br_t rfl (nm_r (nI_1 v) (ih (v + 1) tx1 fr1 sk1 (by omega) (fun w hw hs' => ?_)))
        rcases Nat.lt_or_ge w v with h2 | h2
        · exact hno w h2 hs'
        · have : w = v := by omega
          rw [this] at hs'
          exact absurd hs' hs
  exact ⟨V + 1, key V 0 a_text a_from a_stack (by omega) (fun w hw => absurd hw (by omega))⟩
end
section
variable {f_variableCount f_cellCount f_goalCount f_frozenOn f_equationCount f_disequalityCount f_solved f_solutionCount : Int32} {a_kind a_first a_second a_size a_variablesIn a_rowCount a_rowLeft a_rowRight a_goalTable a_goalX a_goalY a_equationX a_equationY a_disequalityX a_disequalityY a_solutionChoice a_value a_walkX a_walkY : Nat → Int32} {a_code a_solutionCode : Nat → Int64}
variable {V n G E D : Nat} {tm : Nat → List Nat} {gf : Nat → Int32}
theorem fz_viB (hC : fz_CX V tm n a_kind a_first a_second a_size a_variablesIn a_code) {c : Nat} (hc : c < n) {i : Nat} (hi : i < 32) : bt (a_variablesIn c) i = true ↔ 100 + i ∈ tm c := by
  rw [(hC c hc).2.2.2.1 i hi]
  exact decide_eq_true_iff
theorem fz_or3 {x y z : Int32} {i : Nat} : bt (x ||| (y ||| z)) i = true ↔ bt x i = true ∨ (bt y i = true ∨ bt z i = true) := by
  rw [b_or, b_or, Bool.or_eq_true, Bool.or_eq_true]
theorem fz_gvX (hn : n ≤ 48) (hC : fz_CX V tm n a_kind a_first a_second a_size a_variablesIn a_code) (hG : G ≤ 4) (hGO : fz_GO n a_goalTable a_goalX a_goalY G) (eG : f_goalCount = nI G) {post : Int32 → Prop} (h : ∀ M : Int32, (∀ i, i < 32 → (bt M i = true ↔ fz_Gv tm a_goalX a_goalY G i)) → post M) : wpX_goalVariables post (f_variableCount, f_cellCount, f_goalCount, f_frozenOn, f_equationCount, f_disequalityCount, f_solved, f_solutionCount, a_kind, a_first, a_second, a_size, a_variablesIn, a_code, a_rowCount, a_rowLeft, a_rowRight, a_goalTable, a_goalX, a_goalY, a_equationX, a_equationY, a_disequalityX, a_disequalityY, a_solutionChoice, a_solutionCode, a_value, a_walkX, a_walkY) := by
  have key : ∀ (k g : Nat) (M : Int32), g + k = G → (∀ i, i < 32 → (bt M i = true ↔ fz_Gv tm a_goalX a_goalY g i)) → wX_goalVariables_4 post f_variableCount f_cellCount f_goalCount f_frozenOn f_equationCount f_disequalityCount f_solved f_solutionCount a_kind a_first a_second a_size a_variablesIn a_code a_rowCount a_rowLeft a_rowRight a_goalTable a_goalX a_goalY a_equationX a_equationY a_disequalityX a_disequalityY a_solutionChoice a_solutionCode a_value a_walkX a_walkY (k + 1) M (nI g) := by
    intro k
    induction k with
    | zero =>
      intro g M hg hM
      have e : g = G := by omega
      subst e
      exact pk_le g g (fun _ => h M hM) (fun h => absurd h (by omega)) eG
    | succ k ih =>
      intro g M hg hM
      obtain ⟨t, x, y, ht, hx, hy, et, ex, ey⟩ := hGO g (by omega)
      have cg : (nI g).toNatClampNeg = g := nI_clamp (by omega)
      have ig : vp_in (nI g) 4 := vp_in_nI (by omega) (by omega)
      have GX : a_goalX (nI g).toNatClampNeg = nI x := by rw [cg]; exact ex
      have GY : a_goalY (nI g).toNatClampNeg = nI y := by rw [cg]; exact ey
      have ix : vp_in (a_goalX (nI g).toNatClampNeg) 48 := by rw [GX]; exact vp_in_nI (by omega) (by omega)
      have iy : vp_in (a_goalY (nI g).toNatClampNeg) 48 := by rw [GY]; exact vp_in_nI (by omega) (by omega)
      refine pk_le G g (fun h => absurd h (by omega)) (fun _ => ⟨ig, ix, ig, iy, nm_r (e' := M ||| (a_variablesIn x ||| a_variablesIn y)) (by rw [GX, GY, nI_clamp (n := x) (by omega), nI_clamp (n := y) (by omega)]) (nm_r (nI_1 g) (ih (g + 1) _ (by omega) (fun i hi => ?_)))⟩) eG
      rw [fz_or3, hM i hi, fz_viB hC hx hi, fz_viB hC hy hi]
      constructor
      · rintro (⟨j, hj, hh⟩ | hh)
        · exact ⟨j, by omega, hh⟩
        · refine ⟨g, by omega, ?_⟩
          rw [ex, ey, nI_clamp (n := x) (by omega), nI_clamp (n := y) (by omega)]
          exact hh
      · rintro ⟨j, hj, hh⟩
        rcases Nat.lt_or_ge j g with h2 | h2
        · exact .inl ⟨j, h2, hh⟩
        · have : j = g := by omega
          subst this
          rw [ex, ey, nI_clamp (n := x) (by omega), nI_clamp (n := y) (by omega)] at hh
          exact .inr hh
  exact ⟨G + 1, key G 0 0 (by omega) (fun i _ => ⟨fun q => by rw [b_0] at q; exact absurd q (by decide), fun ⟨j, hj, _⟩ => absurd hj (by omega)⟩)⟩
theorem fz_looX (hn : n ≤ 48) (hC : fz_CX V tm n a_kind a_first a_second a_size a_variablesIn a_code) (hG : G ≤ 4) (hGO : fz_GO n a_goalTable a_goalX a_goalY G) (eG : f_goalCount = nI G) (hE : E ≤ 4) (hQE : fz_QO n a_equationX a_equationY E) (eE : f_equationCount = nI E) (hD : D ≤ 6) (hQD : fz_QO n a_disequalityX a_disequalityY D) (eD : f_disequalityCount = nI D)
    (hF : ∀ i, i < 32 → (bt f_frozenOn i = true ↔ ∃ g, g < G ∧ gf g = nI i)) {post : Int32 → Prop}
    (h1 : (∃ v, v < 32 ∧ fz_Sp tm gf a_equationX a_equationY a_disequalityX a_disequalityY G E D v ∧ ¬ fz_Gv tm a_goalX a_goalY G v) → post 1)
    (h0 : (∀ v, v < 32 → fz_Sp tm gf a_equationX a_equationY a_disequalityX a_disequalityY G E D v → fz_Gv tm a_goalX a_goalY G v) → post 0) : wpX_isLoose post (f_variableCount, f_cellCount, f_goalCount, f_frozenOn, f_equationCount, f_disequalityCount, f_solved, f_solutionCount, a_kind, a_first, a_second, a_size, a_variablesIn, a_code, a_rowCount, a_rowLeft, a_rowRight, a_goalTable, a_goalX, a_goalY, a_equationX, a_equationY, a_disequalityX, a_disequalityY, a_solutionChoice, a_solutionCode, a_value, a_walkX, a_walkY) := by
  have k49 : ∀ (k g : Nat) (M : Int32), g + k = D → (∀ i, i < 32 → (bt M i = true ↔ fz_Sp tm gf a_equationX a_equationY a_disequalityX a_disequalityY G E g i)) → wX_isLoose_49 post f_variableCount f_cellCount f_goalCount f_frozenOn f_equationCount f_disequalityCount f_solved f_solutionCount a_kind a_first a_second a_size a_variablesIn a_code a_rowCount a_rowLeft a_rowRight a_goalTable a_goalX a_goalY a_equationX a_equationY a_disequalityX a_disequalityY a_solutionChoice a_solutionCode a_value a_walkX a_walkY (k + 1) M (nI g) := by
    intro k
    induction k with
    | zero =>
      intro g M hg hM
      have e : g = D := by omega
      subst e
      refine pk_le g g (fun _ => fz_gvX hn hC hG hGO eG (fun N hN => ?_)) (fun h => absurd h (by omega)) eD
      have hbit : ∀ i, i < 32 → (bt (M &&& (N ^^^ (-1))) i = true ↔ (fz_Sp tm gf a_equationX a_equationY a_disequalityX a_disequalityY G E g i ∧ ¬ fz_Gv tm a_goalX a_goalY G i)) := by
        intro i hi
        rw [b_and, b_xor, b_m1 i hi, Bool.and_eq_true, hM i hi, ← hN i hi]
        cases bt N i <;> simp
      by_cases z : M &&& (N ^^^ (-1)) = 0
      · refine br_t z (h0 (fun v hv hs => ?_))
        have := hbit v hv
        rw [z, b_0] at this
        exact Classical.byContradiction (fun hg => absurd (this.mpr ⟨hs, hg⟩) (by decide))
      · refine br_f z (h1 (Classical.byContradiction (fun hno => z (b_ext (fun i hi => ?_)))))
        rw [b_0]
        cases e : bt (M &&& (N ^^^ (-1))) i with
        | false => rfl
        | true => exact absurd ⟨i, hi, (hbit i hi).mp e⟩ hno
    | succ k ih =>
      intro g M hg hM
      obtain ⟨x, y, hx, hy, ex, ey⟩ := hQD g (by omega)
      have cg : (nI g).toNatClampNeg = g := nI_clamp (by omega)
      have ig : vp_in (nI g) 6 := vp_in_nI (by omega) (by omega)
      have GX : a_disequalityX (nI g).toNatClampNeg = nI x := by rw [cg]; exact ex
      have GY : a_disequalityY (nI g).toNatClampNeg = nI y := by rw [cg]; exact ey
      have ix : vp_in (a_disequalityX (nI g).toNatClampNeg) 48 := by rw [GX]; exact vp_in_nI (by omega) (by omega)
      have iy : vp_in (a_disequalityY (nI g).toNatClampNeg) 48 := by rw [GY]; exact vp_in_nI (by omega) (by omega)
      refine pk_le D g (fun h => absurd h (by omega)) (fun _ => ⟨ig, ix, ig, iy, nm_r (e' := M ||| (a_variablesIn x ||| a_variablesIn y)) (by rw [GX, GY, nI_clamp (n := x) (by omega), nI_clamp (n := y) (by omega)]) (nm_r (nI_1 g) (ih (g + 1) _ (by omega) (fun i hi => ?_)))⟩) eD
      rw [fz_or3, hM i hi, fz_viB hC hx hi, fz_viB hC hy hi]
      constructor
      · rintro ((q | q | ⟨j, hj, hh⟩) | hh)
        · exact .inl q
        · exact .inr (.inl q)
        · exact .inr (.inr ⟨j, by omega, hh⟩)
        · refine .inr (.inr ⟨g, by omega, ?_⟩)
          rw [ex, ey, nI_clamp (n := x) (by omega), nI_clamp (n := y) (by omega)]
          exact hh
      · rintro (q | q | ⟨j, hj, hh⟩)
        · exact .inl (.inl q)
        · exact .inl (.inr (.inl q))
        · rcases Nat.lt_or_ge j g with h2 | h2
          · exact .inl (.inr (.inr ⟨j, h2, hh⟩))
          · have : j = g := by omega
            subst this
            rw [ex, ey, nI_clamp (n := x) (by omega), nI_clamp (n := y) (by omega)] at hh
            exact .inr hh
  have k7 : ∀ (k g : Nat) (M : Int32), g + k = E → (∀ i, i < 32 → (bt M i = true ↔ fz_Sp tm gf a_equationX a_equationY a_disequalityX a_disequalityY G g 0 i)) → wX_isLoose_7 post f_variableCount f_cellCount f_goalCount f_frozenOn f_equationCount f_disequalityCount f_solved f_solutionCount a_kind a_first a_second a_size a_variablesIn a_code a_rowCount a_rowLeft a_rowRight a_goalTable a_goalX a_goalY a_equationX a_equationY a_disequalityX a_disequalityY a_solutionChoice a_solutionCode a_value a_walkX a_walkY (k + 1) M (nI g) := by
    intro k
    induction k with
    | zero =>
      intro g M hg hM
      have e : g = E := by omega
      subst e
      exact pk_le g g (fun _ => ⟨D + 1, k49 D 0 M (by omega) hM⟩) (fun h => absurd h (by omega)) eE
    | succ k ih =>
      intro g M hg hM
      obtain ⟨x, y, hx, hy, ex, ey⟩ := hQE g (by omega)
      have cg : (nI g).toNatClampNeg = g := nI_clamp (by omega)
      have ig : vp_in (nI g) 4 := vp_in_nI (by omega) (by omega)
      have GX : a_equationX (nI g).toNatClampNeg = nI x := by rw [cg]; exact ex
      have GY : a_equationY (nI g).toNatClampNeg = nI y := by rw [cg]; exact ey
      have ix : vp_in (a_equationX (nI g).toNatClampNeg) 48 := by rw [GX]; exact vp_in_nI (by omega) (by omega)
      have iy : vp_in (a_equationY (nI g).toNatClampNeg) 48 := by rw [GY]; exact vp_in_nI (by omega) (by omega)
      refine pk_le E g (fun h => absurd h (by omega)) (fun _ => ⟨ig, ix, ig, iy, nm_r (e' := M ||| (a_variablesIn x ||| a_variablesIn y)) (by rw [GX, GY, nI_clamp (n := x) (by omega), nI_clamp (n := y) (by omega)]) (nm_r (nI_1 g) (ih (g + 1) _ (by omega) (fun i hi => ?_)))⟩) eE
      rw [fz_or3, hM i hi, fz_viB hC hx hi, fz_viB hC hy hi]
      constructor
      · rintro ((q | ⟨j, hj, hh⟩ | ⟨j, hj, hh⟩) | hh)
        · exact .inl q
        · exact .inr (.inl ⟨j, by omega, hh⟩)
        · exact absurd hj (by omega)
        · refine .inr (.inl ⟨g, by omega, ?_⟩)
          rw [ex, ey, nI_clamp (n := x) (by omega), nI_clamp (n := y) (by omega)]
          exact hh
      · rintro (q | ⟨j, hj, hh⟩ | ⟨j, hj, hh⟩)
        · exact .inl (.inl q)
        · rcases Nat.lt_or_ge j g with h2 | h2
          · exact .inl (.inr (.inl ⟨j, h2, hh⟩))
          · have : j = g := by omega
            subst this
            rw [ex, ey, nI_clamp (n := x) (by omega), nI_clamp (n := y) (by omega)] at hh
            exact .inr hh
        · exact absurd hj (by omega)
  refine ⟨E + 1, k7 E 0 f_frozenOn (by omega) (fun i hi => ?_)⟩
  rw [hF i hi]
  constructor
  · exact fun q => .inl q
  · rintro (q | ⟨j, hj, _⟩ | ⟨j, hj, _⟩)
    · exact q
    · exact absurd hj (by omega)
    · exact absurd hj (by omega)
end
