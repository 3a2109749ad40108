theorem i_vc_solutions {k : Nat} {u : SX} {v : SY} (I : i_Rel k u v) (hk : k + 5 ≤ 2561) : wpX_solutions (fun r => wpY_solutions (fun r' => r' = r ∧ i_Rel (k + 5) u v) v) u := by
  obtain ⟨V, n, G, E, D, tm, f_frozenOn, f_solved, f_solutionCount, f_found, a_kind, a_first, a_second, a_size, a_variablesIn, a_code, a_rowCount, a_rowLeft, a_rowRight, a_goalTable, a_goalX, a_goalY, a_equationX, a_equationY, a_disequalityX, a_disequalityY, a_solutionChoice, a_solutionCode, a_sign, b_first, a_goalFrozen, a_choiceOf, a_value, a_walkX, a_walkY, a_pick, a_bind, a_text, a_from, a_stack, rfl, rfl, h⟩ := I
  have hS := h.2.2.2.2.2.2.2.2.2.2.2.2.2.2
  rcases hS with e0 | ⟨e1, K, hK, q1, q2, _⟩
  · subst e0
    exact br_t rfl (br_t rfl ⟨rfl, fz_mk h⟩)
  · subst e1
    exact br_f (by decide) (br_f (by decide) ⟨q2.trans q1.symm, fz_mk h⟩)
/-- Y tests a number by 0 and an upper end -/
theorem fz_2Y {A B : Prop} {K : Nat} {f z : Int32} (e : f = nI K) (hz : fz_bad K z) (a : A) : (z < 0 → A) ∧ (¬ z < 0 → ((f ≤ z → A) ∧ (¬ f ≤ z → B))) := by
  by_cases q : z < 0
  · exact br_t q a
  · refine br_f q (br_t ?_ a)
    rcases hz with h | h
    · exact absurd h q
    · rw [e]
      exact h
theorem fz_2Y1 {A B : Prop} {K c : Nat} {f : Int32} (hK : K ≤ 1296) (e : f = nI K) (hc : c < K) (b : B) : (nI c < 0 → A) ∧ (¬ nI c < 0 → ((f ≤ nI c → A) ∧ (¬ f ≤ nI c → B))) :=
  br_f (nI_pos (by omega)) (pk_le K c (fun q => absurd q (by omega)) (fun _ => b) e)
/-- or by 0 and 'below the upper end' -/
theorem fz_3Y {A B : Prop} {K : Nat} {f z : Int32} (e : f = nI K) (hz : fz_bad K z) (a : A) : (z < 0 → A) ∧ (¬ z < 0 → ((z < f → B) ∧ (¬ z < f → A))) := by
  by_cases q : z < 0
  · exact br_t q a
  · refine br_f q (br_f ?_ a)
    rcases hz with h | h
    · exact absurd h q
    · rw [e]
      exact Int32.not_lt.mpr h
theorem fz_3Y1 {A B : Prop} {K c : Nat} {f : Int32} (hK : K ≤ 1296) (e : f = nI K) (hc : c < K) (b : B) : (nI c < 0 → A) ∧ (¬ nI c < 0 → ((nI c < f → B) ∧ (¬ nI c < f → A))) :=
  br_f (nI_pos (by omega)) (pk_lt c K (fun _ => b) (fun q => absurd q (by omega)) rfl e)
theorem i_vc_rowOf {k : Nat} {u : SX} {v : SY} (I : i_Rel k u v) (hk : k + 5 ≤ 2561) (v1 : Int32) (v2 : Int32) : wpX_rowOf (fun r => wpY_rowOf (fun r' v' => r' = r ∧ i_Rel (k + 5) u v') v v1 v2) u v1 v2 := by
  obtain ⟨V, n, G, E, D, tm, f_frozenOn, f_solved, f_solutionCount, f_found, a_kind, a_first, a_second, a_size, a_variablesIn, a_code, a_rowCount, a_rowLeft, a_rowRight, a_goalTable, a_goalX, a_goalY, a_equationX, a_equationY, a_disequalityX, a_disequalityY, a_solutionChoice, a_solutionCode, a_sign, b_first, a_goalFrozen, a_choiceOf, a_value, a_walkX, a_walkY, a_pick, a_bind, a_text, a_from, a_stack, rfl, rfl, h⟩ := I
  have h' := h
  obtain ⟨hV1, hV, hn, hG, hE, hD, hCX, hCY, hRO, hGO, hQE, hQD, hF, hF2, hS⟩ := h'
  rcases hS with e0 | ⟨e1, K, hK, q1, q2, _, _, hs⟩
  · subst e0
    exact br_t rfl (br_t rfl ⟨rfl, fz_mk h⟩)
  · subst e1
    refine br_f (by decide) ?_
    rcases fz_ix v1 (n := K) (by omega) with b1 | ⟨j, hj, rfl⟩
    · exact fz_isX0 q1 b1 (br_t rfl (br_f (by decide) (fz_2Y q2 b1 ⟨rfl, fz_mk h⟩)))
    · refine fz_isX1 hK q1 hj (br_f (by decide) ?_)
      rcases fz_ix v2 (n := G) (by omega) with b2 | ⟨g, hg, rfl⟩
      · exact fz_3Y rfl b2 (br_f (by decide) (fz_2Y1 hK q2 hj (fz_3Y rfl b2 ⟨rfl, fz_mk h⟩)))
      · obtain ⟨p, hp, _, c1, c2, _⟩ := hs j hj
        have hR6 := fz_Rw6 hGO hRO
        have hp6 : ∀ g, g < G → p g < 6 := fun g hg' => by have := hp g hg'; have := hR6 g hg'; omega
        have ij : vp_in (nI j) 1296 := vp_in_nI (by omega) (by omega)
        have cj : (nI j).toNatClampNeg = j := nI_clamp (by omega)
        have YY : wpY_rowOf (fun r' v' => r' = nI (p g) ∧ i_Rel (k + 5) (nI V, nI n, nI G, f_frozenOn, nI E, nI D, 1, f_solutionCount, a_kind, a_first, a_second, a_size, a_variablesIn, a_code, a_rowCount, a_rowLeft, a_rowRight, a_goalTable, a_goalX, a_goalY, a_equationX, a_equationY, a_disequalityX, a_disequalityY, a_solutionChoice, a_solutionCode, a_value, a_walkX, a_walkY) v') (nI V, nI n, nI G, nI E, nI D, 1, f_found, a_sign, b_first, a_second, a_rowCount, a_rowLeft, a_rowRight, a_goalTable, a_goalX, a_goalY, a_goalFrozen, a_equationX, a_equationY, a_disequalityX, a_disequalityY, a_choiceOf, a_pick, a_bind, a_text, a_from, a_stack) (nI j) (nI g) := by
          refine br_f (by decide) (fz_2Y1 hK q2 hj (fz_3Y1 (by omega) rfl hg ⟨ij, fz_pick hG hGO hRO rfl hp (by rw [cj]; exact c2) (fun pk hpk => ⟨vp_in_nI (by omega) (by omega), ?_, fz_mk h⟩)⟩))
          rw [nI_clamp (by omega)]
          exact hpk g hg
        have key : ∀ (m i : Nat), i = g + m → i < G → wX_rowOf_47 (fun r => wpY_rowOf (fun r' v' => r' = r ∧ i_Rel (k + 5) (nI V, nI n, nI G, f_frozenOn, nI E, nI D, 1, f_solutionCount, a_kind, a_first, a_second, a_size, a_variablesIn, a_code, a_rowCount, a_rowLeft, a_rowRight, a_goalTable, a_goalX, a_goalY, a_equationX, a_equationY, a_disequalityX, a_disequalityY, a_solutionChoice, a_solutionCode, a_value, a_walkX, a_walkY) v') (nI V, nI n, nI G, nI E, nI D, 1, f_found, a_sign, b_first, a_second, a_rowCount, a_rowLeft, a_rowRight, a_goalTable, a_goalX, a_goalY, a_goalFrozen, a_equationX, a_equationY, a_disequalityX, a_disequalityY, a_choiceOf, a_pick, a_bind, a_text, a_from, a_stack) (nI j) (nI g)) (nI g) (nI V) (nI n) (nI G) f_frozenOn (nI E) (nI D) 1 f_solutionCount a_kind a_first a_second a_size a_variablesIn a_code a_rowCount a_rowLeft a_rowRight a_goalTable a_goalX a_goalY a_equationX a_equationY a_disequalityX a_disequalityY a_solutionChoice a_solutionCode a_value a_walkX a_walkY (m + 1) (nI (fz_x6 p (i + 1))) (nI i) := by
          intro m
          induction m with
          | zero =>
            intro i hi hiG
            have e : i = g := by omega
            subst e
            have hb6 := fz_x6b (p := p) (j := i + 1) (fun g hg' => hp6 g (by omega)) (by omega)
            have hs6 : fz_x6 p (i + 1) = 6 * fz_x6 p i + p i := rfl
            have hpi := hp6 i hg
            have eM : nI (fz_x6 p (i + 1)) - nI (fz_x6 p (i + 1)) / 6 * 6 = nI (p i) := by
              have h := pk_rem (a := fz_x6 p (i + 1)) (d := 6) (by omega) (by omega) (by omega)
              rw [show fz_x6 p (i + 1) % 6 = p i by omega] at h
              exact h
            refine pk_le i i (fun _ => ⟨by decide, ?_⟩) (fun q => absurd q (by omega))
            rw [eM]
            exact YY
          | succ m ih =>
            intro i hi hiG
            have hb6 := fz_x6b (p := p) (j := i + 1) (fun g hg' => hp6 g (by omega)) (by omega)
            have hs6 : fz_x6 p (i + 1) = 6 * fz_x6 p i + p i := rfl
            have hpi := hp6 i hiG
            obtain ⟨i, rfl⟩ : ∃ z, i = z + 1 := ⟨i - 1, by omega⟩
            have eD : nI (fz_x6 p (i + 1 + 1)) / 6 = nI (fz_x6 p (i + 1)) := by
              have h := pk_div (a := fz_x6 p (i + 1 + 1)) (d := 6) (by omega) (by omega) (by omega)
              rw [show fz_x6 p (i + 1 + 1) / 6 = fz_x6 p (i + 1) by omega] at h
              exact h
            exact pk_le (i + 1) g (fun q => absurd q (by omega)) (fun _ => ⟨by decide, nm_r eD (nm_r (pk_m1 i) (ih i (by omega) (by omega)))⟩)
        obtain ⟨G', hG'⟩ : ∃ z, G = z + 1 := ⟨G - 1, by omega⟩
        refine fz_3Y1 (by omega) rfl hg ⟨ij, nm_r (e' := nI (fz_x6 p (G' + 1))) (by rw [cj, ← hG']; exact c1) (nm_r (e' := nI G') (by rw [hG', nI_pred]) ⟨G' - g + 1, key (G' - g) G' (by omega) (by omega)⟩)⟩
section
variable {V : Nat} {n : Nat} {G : Nat} {E : Nat} {D : Nat} {tm : Nat → List Nat} {f_frozenOn : Int32} {f_solved : Int32} {f_solutionCount : Int32} {f_found : Int32} {a_kind : Nat → Int32} {a_first : Nat → Int32} {a_second : Nat → Int32} {a_size : Nat → Int32} {a_variablesIn : Nat → Int32} {a_code : Nat → Int64} {a_rowCount : Nat → Int32} {a_rowLeft : Nat → Int32} {a_rowRight : Nat → Int32} {a_goalTable : Nat → Int32} {a_goalX : Nat → Int32} {a_goalY : Nat → Int32} {a_equationX : Nat → Int32} {a_equationY : Nat → Int32} {a_disequalityX : Nat → Int32} {a_disequalityY : Nat → Int32} {a_solutionChoice : Nat → Int32} {a_solutionCode : Nat → Int64} {a_sign : Nat → Int32} {b_first : Nat → Int32} {a_goalFrozen : Nat → Int32} {a_choiceOf : Nat → Int32} {a_value : Nat → Int32} {a_walkX : Nat → Int32} {a_walkY : Nat → Int32} {a_pick : Nat → Int32} {a_bind : Nat → Int32} {a_text : Nat → Int32} {a_from : Nat → Int32} {a_stack : Nat → Int32}
theorem fz_valY (h : fz_Inv V n G E D tm f_frozenOn 1 f_solutionCount f_found a_kind a_first a_second a_size a_variablesIn a_code a_rowCount a_rowLeft a_rowRight a_goalTable a_goalX a_goalY a_equationX a_equationY a_disequalityX a_disequalityY a_solutionChoice a_solutionCode a_sign b_first a_goalFrozen a_choiceOf) {K : Nat} (hK : K ≤ 1296) (q2 : f_found = nI K)
    (hvE : ∀ i, i < E → ∀ v, (100 + v ∈ tm (a_equationX i).toNatClampNeg ∨ 100 + v ∈ tm (a_equationY i).toNatClampNeg) → fz_Gv tm a_goalX a_goalY G v)
    (hvD : ∀ i, i < D → ∀ v, (100 + v ∈ tm (a_disequalityX i).toNatClampNeg ∨ 100 + v ∈ tm (a_disequalityY i).toNatClampNeg) → fz_Gv tm a_goalX a_goalY G v)
    {j : Nat} (hj : j < K) {p : Nat → Nat} (hp : ∀ g, g < G → p g < fz_Rw a_rowCount a_goalTable g) (hg : fz_Good tm a_goalTable a_goalX a_goalY a_rowLeft a_rowRight a_equationX a_equationY a_disequalityX a_disequalityY G E D p) (c2 : a_choiceOf j = nI (fz_yR (fz_Rw a_rowCount a_goalTable) p G))
    (c3 : ∀ s, fz_As s → fz_Mt tm a_goalTable a_goalX a_goalY a_rowLeft a_rowRight 0 G p s → ∀ v, v < 6 → fz_Gv tm a_goalX a_goalY G v → a_solutionCode (j * 6 + v) = lN (fz_vl (s v))) {w : Nat} (hw : w < V) {post : Int64 → SY → Prop}
    (h0 : ¬ fz_Gv tm a_goalX a_goalY G w → ∀ tx fr sk, post (-1) (nI V, nI n, nI G, nI E, nI D, 1, f_found, a_sign, b_first, a_second, a_rowCount, a_rowLeft, a_rowRight, a_goalTable, a_goalX, a_goalY, a_goalFrozen, a_equationX, a_equationY, a_disequalityX, a_disequalityY, a_choiceOf, a_pick, a_bind, tx, fr, sk))
    (h1 : fz_Gv tm a_goalX a_goalY G w → ∀ pk bd tx fr sk, post (a_solutionCode (j * 6 + w)) (nI V, nI n, nI G, nI E, nI D, 1, f_found, a_sign, b_first, a_second, a_rowCount, a_rowLeft, a_rowRight, a_goalTable, a_goalX, a_goalY, a_goalFrozen, a_equationX, a_equationY, a_disequalityX, a_disequalityY, a_choiceOf, pk, bd, tx, fr, sk)) : wpY_valueOf post (nI V, nI n, nI G, nI E, nI D, 1, f_found, a_sign, b_first, a_second, a_rowCount, a_rowLeft, a_rowRight, a_goalTable, a_goalX, a_goalY, a_goalFrozen, a_equationX, a_equationY, a_disequalityX, a_disequalityY, a_choiceOf, a_pick, a_bind, a_text, a_from, a_stack) (nI j) (nI w) := by
  obtain ⟨hV1, hV, hn, hG, hE, hD, hCX, hCY, hRO, hGO, hQE, hQD, hF, hF2, hS⟩ := h
  have cj : (nI j).toNatClampNeg = j := nI_clamp (by omega)
  refine br_f (by decide) (fz_2Y1 hK q2 hj (fz_3Y1 (by omega) rfl hw (fz_ing hV hn hCY hG hGO rfl (by omega) rfl (fun hgv tx fr sk => ?_) (fun hgv tx fr sk => ?_))))
  · refine br_f (by decide) ⟨vp_in_nI (by omega) (by omega), fz_try hV hn hCY hG hGO hRO rfl hE hQE rfl hD hQD rfl hvE hvD hp (by rw [cj]; exact c2) (fun b bd1 pk1 tx1 fr1 sk1 hb hbv hA hMt _ _ => ?_) (fun q => absurd hg q)⟩
    have cw : (nI w).toNatClampNeg = w := nI_clamp (by omega)
    rcases hb.2 w (by omega) with ⟨n1, _⟩ | ⟨d, hd, n1, n2, n3⟩
    · exact absurd n1 (hbv w hgv)
    · refine ⟨vp_in_nI (by omega) (by omega), fz_num hV hn hCY hd (by rw [cw]; exact n2) (fun tx2 fr2 sk2 => ?_)⟩
      have := c3 _ hA hMt w (by omega) hgv
      rw [fz_totE tm b w d n1] at this
      rw [← this]
      exact h1 hgv pk1 bd1 tx2 fr2 sk2
  · exact br_t rfl (h0 hgv tx fr sk)
end
theorem i_vc_valueOf {k : Nat} {u : SX} {v : SY} (I : i_Rel k u v) (hk : k + 5 ≤ 2561) (v1 : Int32) (v2 : Int32) : wpX_valueOf (fun r => wpY_valueOf (fun r' v' => r' = r ∧ i_Rel (k + 5) u v') v v1 v2) u v1 v2 := by
  obtain ⟨V, n, G, E, D, tm, f_frozenOn, f_solved, f_solutionCount, f_found, a_kind, a_first, a_second, a_size, a_variablesIn, a_code, a_rowCount, a_rowLeft, a_rowRight, a_goalTable, a_goalX, a_goalY, a_equationX, a_equationY, a_disequalityX, a_disequalityY, a_solutionChoice, a_solutionCode, a_sign, b_first, a_goalFrozen, a_choiceOf, a_value, a_walkX, a_walkY, a_pick, a_bind, a_text, a_from, a_stack, rfl, rfl, h⟩ := I
  have h' := h
  obtain ⟨hV1, hV, hn, hG, hE, hD, hCX, hCY, hRO, hGO, hQE, hQD, hF, hF2, hS⟩ := h'
  rcases hS with e0 | ⟨e1, K, hK, q1, q2, hvE, hvD, hs⟩
  · subst e0
    exact br_t rfl (br_t rfl ⟨rfl, fz_mk h⟩)
  · subst e1
    refine br_f (by decide) (fz_gvX hn hCX hG hGO rfl (fun M hM => ?_))
    rcases fz_ix v1 (n := K) (by omega) with b1 | ⟨j, hj, rfl⟩
    · exact fz_isX0 q1 b1 (br_t rfl (br_f (by decide) (fz_2Y q2 b1 ⟨rfl, fz_mk h⟩)))
    · refine fz_isX1 hK q1 hj (br_f (by decide) ?_)
      rcases fz_ix v2 (n := V) (by omega) with b2 | ⟨w, hw, rfl⟩
      · exact fz_ivX0 rfl b2 (br_t rfl (br_f (by decide) (fz_2Y1 hK q2 hj (fz_3Y rfl b2 ⟨rfl, fz_mk h⟩))))
      · obtain ⟨p, hp, hg, c1, c2, c3⟩ := hs j hj
        refine fz_ivX1 hV rfl hw (br_f (by decide) (fz_coX (by omega) (fun hb => ?_) (fun hb => ?_)))
        · have hgv := (hM w (by omega)).mp hb
          have IX : nI j * 6 + nI w = nI (j * 6 + w) := by
            show nI j * nI 6 + nI w = _
            rw [pk_mul, nI_add]
          have ii : vp_in (nI j * 6 + nI w) 7776 := by rw [IX]; exact vp_in_nI (by omega) (by omega)
          have ci : (nI j * 6 + nI w).toNatClampNeg = j * 6 + w := by rw [IX]; exact nI_clamp (by omega)
          refine br_f (by decide) ⟨ii, ?_⟩
          rw [ci]
          exact fz_valY h hK q2 hvE hvD hj hp hg c2 c3 hw (fun q => absurd hgv q) (fun _ pk bd tx fr sk => ⟨rfl, fz_mk h⟩)
        · have hgv : ¬ fz_Gv tm a_goalX a_goalY G w := fun q => hb ((hM w (by omega)).mpr q)
          exact br_t rfl (fz_valY h hK q2 hvE hvD hj hp hg c2 c3 hw (fun _ tx fr sk => ⟨rfl, fz_mk h⟩) (fun q => absurd q hgv))
theorem i_vc_alike {k : Nat} {u : SX} {v : SY} (I : i_Rel k u v) (hk : k + 5 ≤ 2561) (v1 : Int32) (v2 : Int32) (v3 : Int32) : wpX_alike (fun r => wpY_alike (fun r' v' => r' = r ∧ i_Rel (k + 5) u v') v v1 v2 v3) u v1 v2 v3 := by
  obtain ⟨V, n, G, E, D, tm, f_frozenOn, f_solved, f_solutionCount, f_found, a_kind, a_first, a_second, a_size, a_variablesIn, a_code, a_rowCount, a_rowLeft, a_rowRight, a_goalTable, a_goalX, a_goalY, a_equationX, a_equationY, a_disequalityX, a_disequalityY, a_solutionChoice, a_solutionCode, a_sign, b_first, a_goalFrozen, a_choiceOf, a_value, a_walkX, a_walkY, a_pick, a_bind, a_text, a_from, a_stack, rfl, rfl, h⟩ := I
  have h' := h
  obtain ⟨hV1, hV, hn, hG, hE, hD, hCX, hCY, hRO, hGO, hQE, hQD, hF, hF2, hS⟩ := h'
  rcases hS with e0 | ⟨e1, K, hK, q1, q2, hvE, hvD, hs⟩
  · subst e0
    exact br_t rfl (br_t rfl ⟨rfl, fz_mk h⟩)
  · subst e1
    refine br_f (by decide) ?_
    rcases fz_ix v1 (n := K) (by omega) with b1 | ⟨i, hi, rfl⟩
    · exact fz_isX0 q1 b1 (br_t rfl (br_f (by decide) (fz_2Y q2 b1 ⟨rfl, fz_mk h⟩)))
    · refine fz_isX1 hK q1 hi (br_f (by decide) ?_)
      rcases fz_ix v2 (n := K) (by omega) with b2 | ⟨j, hj, rfl⟩
      · exact fz_isX0 q1 b2 (br_t rfl (br_f (by decide) (fz_2Y1 hK q2 hi (fz_3Y q2 b2 ⟨rfl, fz_mk h⟩))))
      · refine fz_isX1 hK q1 hj (br_f (by decide) (fz_gvX hn hCX hG hGO rfl (fun M hM => nm_e ?_)))
        obtain ⟨p, hp, hg, c1, c2, c3⟩ := hs i hi
        obtain ⟨p', hp', hg', c1', c2', c3'⟩ := hs j hj
        -- Y's loop
        have keyY : ∀ (r : Int32) (m w : Nat) (pk bd tx fr sk : Nat → Int32), w + m = V → ((∀ x, w ≤ x → x < V → bt v3 x = true → fz_Gv tm a_goalX a_goalY G x → a_solutionCode (i * 6 + x) = a_solutionCode (j * 6 + x)) → r = 1) → ((∃ x, w ≤ x ∧ x < V ∧ bt v3 x = true ∧ fz_Gv tm a_goalX a_goalY G x ∧ ¬ a_solutionCode (i * 6 + x) = a_solutionCode (j * 6 + x)) → r = 0) →
            wY_alike_36 (fun r' v' => r' = r ∧ i_Rel (k + 5) (nI V, nI n, nI G, f_frozenOn, nI E, nI D, 1, f_solutionCount, a_kind, a_first, a_second, a_size, a_variablesIn, a_code, a_rowCount, a_rowLeft, a_rowRight, a_goalTable, a_goalX, a_goalY, a_equationX, a_equationY, a_disequalityX, a_disequalityY, a_solutionChoice, a_solutionCode, a_value, a_walkX, a_walkY) v') (nI i) (nI j) v3 (m + 1) (nI w) (nI V) (nI n) (nI G) (nI E) (nI D) 1 f_found a_sign b_first a_second a_rowCount a_rowLeft a_rowRight a_goalTable a_goalX a_goalY a_goalFrozen a_equationX a_equationY a_disequalityX a_disequalityY a_choiceOf pk bd tx fr sk := by
          intro r m
          induction m with
          | zero =>
            intro w pk bd tx fr sk hw y1 y0
            exact pk_le V w (fun _ => ⟨(y1 (fun x hx hx' => absurd hx' (by omega))).symm, fz_mk h⟩) (fun q => absurd q (by omega))
          | succ m ih =>
            intro w pk bd tx fr sk hw y1 y0
            have next : (bt v3 w = true → fz_Gv tm a_goalX a_goalY G w → a_solutionCode (i * 6 + w) = a_solutionCode (j * 6 + w)) → ∀ pk bd tx fr sk, wY_alike_36 (fun r' v' => r' = r ∧ i_Rel (k + 5) (nI V, nI n, nI G, f_frozenOn, nI E, nI D, 1, f_solutionCount, a_kind, a_first, a_second, a_size, a_variablesIn, a_code, a_rowCount, a_rowLeft, a_rowRight, a_goalTable, a_goalX, a_goalY, a_equationX, a_equationY, a_disequalityX, a_disequalityY, a_solutionChoice, a_solutionCode, a_value, a_walkX, a_walkY) v') (nI i) (nI j) v3 (m + 1) (nI (w + 1)) (nI V) (nI n) (nI G) (nI E) (nI D) 1 f_found a_sign b_first a_second a_rowCount a_rowLeft a_rowRight a_goalTable a_goalX a_goalY a_goalFrozen a_equationX a_equationY a_disequalityX a_disequalityY a_choiceOf pk bd tx fr sk := by
              intro hh pk bd tx fr sk
              refine ih (w + 1) pk bd tx fr sk (by omega) (fun q => y1 (fun x hx hx' hb hg => ?_)) (fun ⟨x, hx, q⟩ => y0 ⟨x, by omega, q⟩)
              rcases Nat.eq_or_lt_of_le hx with e | e
              · subst e
                exact hh hb hg
              · exact q x e hx' hb hg
            refine pk_le V w (fun q => absurd q (by omega)) (fun _ => ?_)
            by_cases hb : bt v3 w = true
            · refine br_t ((fz_bit v3 (by omega)).mpr hb) ?_
              refine fz_valY h hK q2 hvE hvD hi hp hg c2 c3 (by omega) (fun hgv tx1 fr1 sk1 => ?_) (fun hgv pk1 bd1 tx1 fr1 sk1 => ?_)
              · refine fz_valY h hK q2 hvE hvD hj hp' hg' c2' c3' (by omega) (fun _ tx2 fr2 sk2 => ?_) (fun q => absurd q hgv)
                exact br_t rfl (nm_r (nI_1 w) (next (fun _ q => absurd q hgv) _ _ _ _ _))
              · refine fz_valY h hK q2 hvE hvD hj hp' hg' c2' c3' (by omega) (fun q => absurd hgv q) (fun _ pk2 bd2 tx2 fr2 sk2 => ?_)
                refine br_c (fun e => nm_r (nI_1 w) (next (fun _ _ => e) _ _ _ _ _)) (fun e => ⟨(y0 ⟨w, Nat.le_refl _, by omega, hb, hgv, e⟩).symm, fz_mk h⟩)
            · exact br_f (fun q => hb ((fz_bit v3 (by omega)).mp q)) (nm_r (nI_1 w) (next (fun q => absurd q hb) _ _ _ _ _))
        have YY : ∀ r : Int32, ((∀ x, x < V → bt v3 x = true → fz_Gv tm a_goalX a_goalY G x → a_solutionCode (i * 6 + x) = a_solutionCode (j * 6 + x)) → r = 1) → ((∃ x, x < V ∧ bt v3 x = true ∧ fz_Gv tm a_goalX a_goalY G x ∧ ¬ a_solutionCode (i * 6 + x) = a_solutionCode (j * 6 + x)) → r = 0) → wpY_alike (fun r' v' => r' = r ∧ i_Rel (k + 5) (nI V, nI n, nI G, f_frozenOn, nI E, nI D, 1, f_solutionCount, a_kind, a_first, a_second, a_size, a_variablesIn, a_code, a_rowCount, a_rowLeft, a_rowRight, a_goalTable, a_goalX, a_goalY, a_equationX, a_equationY, a_disequalityX, a_disequalityY, a_solutionChoice, a_solutionCode, a_value, a_walkX, a_walkY) v') (nI V, nI n, nI G, nI E, nI D, 1, f_found, a_sign, b_first, a_second, a_rowCount, a_rowLeft, a_rowRight, a_goalTable, a_goalX, a_goalY, a_goalFrozen, a_equationX, a_equationY, a_disequalityX, a_disequalityY, a_choiceOf, a_pick, a_bind, a_text, a_from, a_stack) (nI i) (nI j) v3 := by
          intro r y1 y0
          exact br_f (by decide) (fz_2Y1 hK q2 hi (fz_3Y1 hK q2 hj ⟨V + 1, keyY r V 0 a_pick a_bind a_text a_from a_stack (by omega) (fun q => y1 (fun x hx => q x (Nat.zero_le _) hx)) (fun ⟨x, _, q⟩ => y0 ⟨x, q⟩)⟩))
        have bm : ∀ x, x < 32 → (bt (v3 &&& M) x = true ↔ (bt v3 x = true ∧ fz_Gv tm a_goalX a_goalY G x)) := by
          intro x hx
          rw [b_and, Bool.and_eq_true, hM x hx]
        have keyX : ∀ (m w : Nat), w + m = V → (∀ x, x < w → bt v3 x = true → fz_Gv tm a_goalX a_goalY G x → a_solutionCode (i * 6 + x) = a_solutionCode (j * 6 + x)) → wX_alike_36 (fun r => wpY_alike (fun r' v' => r' = r ∧ i_Rel (k + 5) (nI V, nI n, nI G, f_frozenOn, nI E, nI D, 1, f_solutionCount, a_kind, a_first, a_second, a_size, a_variablesIn, a_code, a_rowCount, a_rowLeft, a_rowRight, a_goalTable, a_goalX, a_goalY, a_equationX, a_equationY, a_disequalityX, a_disequalityY, a_solutionChoice, a_solutionCode, a_value, a_walkX, a_walkY) v') (nI V, nI n, nI G, nI E, nI D, 1, f_found, a_sign, b_first, a_second, a_rowCount, a_rowLeft, a_rowRight, a_goalTable, a_goalX, a_goalY, a_goalFrozen, a_equationX, a_equationY, a_disequalityX, a_disequalityY, a_choiceOf, a_pick, a_bind, a_text, a_from, a_stack) (nI i) (nI j) v3) (nI i) (nI j) (v3 &&& M) (nI V) (nI n) (nI G) f_frozenOn (nI E) (nI D) 1 f_solutionCount a_kind a_first a_second a_size a_variablesIn a_code a_rowCount a_rowLeft a_rowRight a_goalTable a_goalX a_goalY a_equationX a_equationY a_disequalityX a_disequalityY a_solutionChoice a_solutionCode a_value a_walkX a_walkY (m + 1) (nI w) := by
          intro m
          induction m with
          | zero =>
            intro w hw hall
            refine pk_le V w (fun _ => YY 1 (fun _ => rfl) (fun ⟨x, hx, hb, hg, e⟩ => absurd (hall x (by omega) hb hg) e)) (fun q => absurd q (by omega))
          | succ m ih =>
            intro w hw hall
            have I1 : nI i * 6 + nI w = nI (i * 6 + w) := by
              show nI i * nI 6 + nI w = _
              rw [pk_mul, nI_add]
            have I2 : nI j * 6 + nI w = nI (j * 6 + w) := by
              show nI j * nI 6 + nI w = _
              rw [pk_mul, nI_add]
            have i1 : vp_in (nI i * 6 + nI w) 7776 := by rw [I1]; exact vp_in_nI (by omega) (by omega)
            have i2 : vp_in (nI j * 6 + nI w) 7776 := by rw [I2]; exact vp_in_nI (by omega) (by omega)
            have C1 : a_solutionCode (nI i * 6 + nI w).toNatClampNeg = a_solutionCode (i * 6 + w) := by rw [I1, nI_clamp (by omega)]
            have C2 : a_solutionCode (nI j * 6 + nI w).toNatClampNeg = a_solutionCode (j * 6 + w) := by rw [I2, nI_clamp (by omega)]
            have next : (bt v3 w = true → fz_Gv tm a_goalX a_goalY G w → a_solutionCode (i * 6 + w) = a_solutionCode (j * 6 + w)) → _ := fun hh => ih (w + 1) (by omega) (fun x hx hb hg => by
              rcases Nat.lt_or_ge x w with l | l
              · exact hall x l hb hg
              · have : x = w := by omega
                subst this
                exact hh hb hg)
            refine pk_le V w (fun q => absurd q (by omega)) (fun _ => ⟨i1, nm_r C1 ⟨i2, nm_r C2 (fz_coX (by omega) (fun hb => ?_) (fun hb => ?_))⟩⟩)
            · obtain ⟨b1, b2⟩ := (bm w (by omega)).mp hb
              refine br_f (by decide) (br_c (fun e => nm_r (nI_1 w) (next (fun _ _ => e))) (fun e => ?_))
              exact YY 0 (fun q => absurd (q w (by omega) b1 b2) e) (fun _ => rfl)
            · exact br_t rfl (nm_r (nI_1 w) (next (fun b1 b2 => absurd ((bm w (by omega)).mpr ⟨b1, b2⟩) hb)))
        exact ⟨V + 1, keyX V 0 (by omega) (fun x hx => absurd hx (by omega))⟩
