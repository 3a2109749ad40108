section
variable {V : Nat} {n : Nat} {G : Nat} {E : Nat} {D : Nat} {tm : Nat → List Nat} {f_frozenOn : Int32} {f_solved : Int32} {f_solutionCount : Int32} {f_found : Int32} {a_kind : Nat → Int32} {a_first : Nat → Int32} {a_second : Nat → Int32} {a_size : Nat → Int32} {a_variablesIn : Nat → Int32} {a_code : Nat → Int64} {a_rowCount : Nat → Int32} {a_rowLeft : Nat → Int32} {a_rowRight : Nat → Int32} {a_goalTable : Nat → Int32} {a_goalX : Nat → Int32} {a_goalY : Nat → Int32} {a_equationX : Nat → Int32} {a_equationY : Nat → Int32} {a_disequalityX : Nat → Int32} {a_disequalityY : Nat → Int32} {a_solutionChoice : Nat → Int32} {a_solutionCode : Nat → Int64} {a_sign : Nat → Int32} {b_first : Nat → Int32} {a_goalFrozen : Nat → Int32} {a_choiceOf : Nat → Int32} {a_value : Nat → Int32} {a_walkX : Nat → Int32} {a_walkY : Nat → Int32} {a_pick : Nat → Int32} {a_bind : Nat → Int32} {a_text : Nat → Int32} {a_from : Nat → Int32} {a_stack : Nat → Int32}
theorem fz_varV (hC : fz_CX V tm n a_kind a_first a_second a_size a_variablesIn a_code) : ∀ c, c < n → ∀ v, 100 + v ∈ tm c → v < V := by
  intro c
  induction c using Nat.strongRecOn with
  | _ c ih =>
    intro hc v hv
    rcases (hC c hc).2.2.2.2.2 with ⟨a, l1, l2, e, _⟩ | ⟨w, hw, e, _⟩ | ⟨a, b, la, lb, e, _⟩
    · rw [e, List.mem_singleton] at hv
      omega
    · rw [e, List.mem_singleton] at hv
      omega
    · rw [e] at hv
      rcases List.mem_cons.mp hv with q | q
      · omega
      · rcases List.mem_append.mp q with q | q
        · exact ih a la (by omega) v q
        · exact ih b lb (by omega) v q
theorem fz_QV (hn : n ≤ 48) (hC : fz_CX V tm n a_kind a_first a_second a_size a_variablesIn a_code) {qx qy : Nat → Int32} {Q : Nat} (hQ : fz_QO n qx qy Q) {i : Nat} (hi : i < Q) {v : Nat} (h : 100 + v ∈ tm (qx i).toNatClampNeg ∨ 100 + v ∈ tm (qy i).toNatClampNeg) : v < V := by
  obtain ⟨x, y, hx, hy, ex, ey⟩ := hQ i hi
  rw [ex, ey, nI_clamp (n := x) (by omega), nI_clamp (n := y) (by omega)] at h
  rcases h with h | h
  · exact fz_varV hC x hx v h
  · exact fz_varV hC y hy v h
theorem fz_SpV (h : fz_Inv V n G E D tm f_frozenOn f_solved f_solutionCount f_found a_kind a_first a_second a_size a_variablesIn a_code a_rowCount a_rowLeft a_rowRight a_goalTable a_goalX a_goalY a_equationX a_equationY a_disequalityX a_disequalityY a_solutionChoice a_solutionCode a_sign b_first a_goalFrozen a_choiceOf) {v : Nat} (hv : v < 32) (hs : fz_Sp tm a_goalFrozen a_equationX a_equationY a_disequalityX a_disequalityY G E D v) : v < V := by
  obtain ⟨hV1, hV, hn, hG, hE, hD, hCX, hCY, hRO, hGO, hQE, hQD, hF, hF2, hS⟩ := h
  rcases hs with ⟨g, hg, e⟩ | ⟨i, hi, q⟩ | ⟨i, hi, q⟩
  · rcases hF2 g hg with e2 | ⟨w, hw, e2⟩
    · rw [e2] at e
      exact absurd e (fz_m1n hv)
    · rw [e2] at e
      have := (nI_eq (a := w) (b := v) (by omega) (by omega)).mp e
      omega
  · exact fz_QV hn hCX hQE hi q
  · exact fz_QV hn hCX hQD hi q
theorem fz_solY (h : fz_Inv V n G E D tm f_frozenOn f_solved f_solutionCount f_found a_kind a_first a_second a_size a_variablesIn a_code a_rowCount a_rowLeft a_rowRight a_goalTable a_goalX a_goalY a_equationX a_equationY a_disequalityX a_disequalityY a_solutionChoice a_solutionCode a_sign b_first a_goalFrozen a_choiceOf) (hvE : ∀ i, i < E → ∀ v, (100 + v ∈ tm (a_equationX i).toNatClampNeg ∨ 100 + v ∈ tm (a_equationY i).toNatClampNeg) → fz_Gv tm a_goalX a_goalY G v)
    (hvD : ∀ i, i < D → ∀ v, (100 + v ∈ tm (a_disequalityX i).toNatClampNeg ∨ 100 + v ∈ tm (a_disequalityY i).toNatClampNeg) → fz_Gv tm a_goalX a_goalY G v) {post : Int32 → SY → Prop}
    (hp : ∀ ch pk bd tx fr sk, fz_sp ch 0 (fz_fl (fz_PY tm a_rowCount a_goalTable a_goalX a_goalY a_rowLeft a_rowRight a_equationX a_equationY a_disequalityX a_disequalityY G E D) (fz_pr (fz_Rw a_rowCount a_goalTable) G)) →
      post (nI (fz_fl (fz_PY tm a_rowCount a_goalTable a_goalX a_goalY a_rowLeft a_rowRight a_equationX a_equationY a_disequalityX a_disequalityY G E D) (fz_pr (fz_Rw a_rowCount a_goalTable) G)).length) (nI V, nI n, nI G, nI E, nI D, 1, nI (fz_fl (fz_PY tm a_rowCount a_goalTable a_goalX a_goalY a_rowLeft a_rowRight a_equationX a_equationY a_disequalityX a_disequalityY G E D) (fz_pr (fz_Rw a_rowCount a_goalTable) G)).length, a_sign, b_first, a_second, a_rowCount, a_rowLeft, a_rowRight, a_goalTable, a_goalX, a_goalY, a_goalFrozen, a_equationX, a_equationY, a_disequalityX, a_disequalityY, ch, pk, bd, tx, fr, sk)) :
    ∃ m, wY_solve_29 post m 0 (nI V) (nI n) (nI G) (nI E) (nI D) f_solved 0 a_sign b_first a_second a_rowCount a_rowLeft a_rowRight a_goalTable a_goalX a_goalY a_goalFrozen a_equationX a_equationY a_disequalityX a_disequalityY a_choiceOf a_pick a_bind a_text a_from a_stack := by
  obtain ⟨hV1, hV, hn, hG, hE, hD, hCX, hCY, hRO, hGO, hQE, hQD, hF, hF2, hS⟩ := h
  have hR6 := fz_Rw6 hGO hRO
  have hM := fz_prb hG hR6
  have key : ∀ (m i : Nat) (ch pk bd tx fr sk : Nat → Int32), i + m = fz_pr (fz_Rw a_rowCount a_goalTable) G → fz_sp ch 0 (fz_fl (fz_PY tm a_rowCount a_goalTable a_goalX a_goalY a_rowLeft a_rowRight a_equationX a_equationY a_disequalityX a_disequalityY G E D) i) →
      wY_solve_29 post (m + 1) (nI i) (nI V) (nI n) (nI G) (nI E) (nI D) f_solved (nI (fz_fl (fz_PY tm a_rowCount a_goalTable a_goalX a_goalY a_rowLeft a_rowRight a_equationX a_equationY a_disequalityX a_disequalityY G E D) i).length) a_sign b_first a_second a_rowCount a_rowLeft a_rowRight a_goalTable a_goalX a_goalY a_goalFrozen a_equationX a_equationY a_disequalityX a_disequalityY ch pk bd tx fr sk := by
    intro m
    induction m with
    | zero =>
      intro i ch pk bd tx fr sk hi hsp
      have e : i = fz_pr (fz_Rw a_rowCount a_goalTable) G := by omega
      refine fz_choices hG hGO hRO rfl ?_
      rw [e] at hsp ⊢
      exact pk_le (fz_pr (fz_Rw a_rowCount a_goalTable) G) (fz_pr (fz_Rw a_rowCount a_goalTable) G) (fun _ => hp ch pk bd tx fr sk hsp) (fun q => absurd q (by omega))
    | succ m ih =>
      intro i ch pk bd tx fr sk hi hsp
      obtain ⟨p, hpv, ep⟩ := fz_yRs (R := fz_Rw a_rowCount a_goalTable) G i (by omega)
      have hlen := fz_fll (fz_PY tm a_rowCount a_goalTable a_goalX a_goalY a_rowLeft a_rowRight a_equationX a_equationY a_disequalityX a_disequalityY G E D) i
      refine fz_choices hG hGO hRO rfl (pk_le (fz_pr (fz_Rw a_rowCount a_goalTable) G) i (fun q => absurd q (by omega)) (fun _ => fz_try hV hn hCY hG hGO hRO rfl hE hQE rfl hD hQD rfl hvE hvD hpv (congrArg nI ep.symm) ?_ ?_))
      · intro b bd1 pk1 tx1 fr1 sk1 _ _ hA hMt hEq hDf
        have yes : fz_PY tm a_rowCount a_goalTable a_goalX a_goalY a_rowLeft a_rowRight a_equationX a_equationY a_disequalityX a_disequalityY G E D i := ⟨p, hpv, ⟨_, hA, hMt, hEq, hDf⟩, ep⟩
        have cl : (nI (fz_fl (fz_PY tm a_rowCount a_goalTable a_goalX a_goalY a_rowLeft a_rowRight a_equationX a_equationY a_disequalityX a_disequalityY G E D) i).length).toNatClampNeg = (fz_fl (fz_PY tm a_rowCount a_goalTable a_goalX a_goalY a_rowLeft a_rowRight a_equationX a_equationY a_disequalityX a_disequalityY G E D) i).length := nI_clamp (by omega)
        refine br_f (by decide) ⟨vp_in_nI (by omega) (by omega), nm_r (e' := upd ch (fz_fl (fz_PY tm a_rowCount a_goalTable a_goalX a_goalY a_rowLeft a_rowRight a_equationX a_equationY a_disequalityX a_disequalityY G E D) i).length (nI i)) (by rw [cl]) (nm_r (nI_1 _) (nm_r (nI_1 i) ?_))⟩
        have := ih (i + 1) (upd ch (fz_fl (fz_PY tm a_rowCount a_goalTable a_goalX a_goalY a_rowLeft a_rowRight a_equationX a_equationY a_disequalityX a_disequalityY G E D) i).length (nI i)) pk1 bd1 tx1 fr1 sk1 (by omega)
        rw [fz_flT yes, List.length_append] at this
        refine this ?_
        have q := fz_spu hsp i
        rw [Nat.zero_add] at q
        exact q
      · intro hno bd1 pk1 tx1 fr1 sk1
        have hn' : ¬ fz_PY tm a_rowCount a_goalTable a_goalX a_goalY a_rowLeft a_rowRight a_equationX a_equationY a_disequalityX a_disequalityY G E D i := by
          rintro ⟨q, hq, hg, eq⟩
          exact hno (fz_Goodp q p (fz_yRe G (fun g hg' => ⟨hq g hg', hpv g hg'⟩) (eq.trans ep.symm)) hg)
        refine br_t rfl (nm_r (nI_1 i) ?_)
        have := ih (i + 1) ch pk1 bd1 tx1 fr1 sk1 (by omega)
        rw [fz_flF hn'] at this
        exact this hsp
  exact ⟨fz_pr (fz_Rw a_rowCount a_goalTable) G + 1, key (fz_pr (fz_Rw a_rowCount a_goalTable) G) 0 a_choiceOf a_pick a_bind a_text a_from a_stack (by omega) (fz_sp0 _ _)⟩
theorem fz_fin (h : fz_Inv V n G E D tm f_frozenOn f_solved f_solutionCount f_found a_kind a_first a_second a_size a_variablesIn a_code a_rowCount a_rowLeft a_rowRight a_goalTable a_goalX a_goalY a_equationX a_equationY a_disequalityX a_disequalityY a_solutionChoice a_solutionCode a_sign b_first a_goalFrozen a_choiceOf) (hvE : ∀ i, i < E → ∀ v, (100 + v ∈ tm (a_equationX i).toNatClampNeg ∨ 100 + v ∈ tm (a_equationY i).toNatClampNeg) → fz_Gv tm a_goalX a_goalY G v)
    (hvD : ∀ i, i < D → ∀ v, (100 + v ∈ tm (a_disequalityX i).toNatClampNeg ∨ 100 + v ∈ tm (a_disequalityY i).toNatClampNeg) → fz_Gv tm a_goalX a_goalY G v) {sc ch : Nat → Int32} {sC : Nat → Int64}
    (hX : fz_SX tm a_goalTable a_goalX a_goalY a_rowLeft a_rowRight G (fz_fl (fz_PX tm a_rowCount a_goalTable a_goalX a_goalY a_rowLeft a_rowRight a_equationX a_equationY a_disequalityX a_disequalityY G E D) (6 ^ G)) sc sC)
    (hY : fz_sp ch 0 (fz_fl (fz_PY tm a_rowCount a_goalTable a_goalX a_goalY a_rowLeft a_rowRight a_equationX a_equationY a_disequalityX a_disequalityY G E D) (fz_pr (fz_Rw a_rowCount a_goalTable) G))) :
    (fz_fl (fz_PY tm a_rowCount a_goalTable a_goalX a_goalY a_rowLeft a_rowRight a_equationX a_equationY a_disequalityX a_disequalityY G E D) (fz_pr (fz_Rw a_rowCount a_goalTable) G)).length = (fz_fl (fz_PX tm a_rowCount a_goalTable a_goalX a_goalY a_rowLeft a_rowRight a_equationX a_equationY a_disequalityX a_disequalityY G E D) (6 ^ G)).length ∧
    fz_Sv G E D tm (nI (fz_fl (fz_PX tm a_rowCount a_goalTable a_goalX a_goalY a_rowLeft a_rowRight a_equationX a_equationY a_disequalityX a_disequalityY G E D) (6 ^ G)).length) (nI (fz_fl (fz_PY tm a_rowCount a_goalTable a_goalX a_goalY a_rowLeft a_rowRight a_equationX a_equationY a_disequalityX a_disequalityY G E D) (fz_pr (fz_Rw a_rowCount a_goalTable) G)).length) a_rowCount a_rowLeft a_rowRight a_goalTable a_goalX a_goalY a_equationX a_equationY a_disequalityX a_disequalityY sc sC ch := by
  obtain ⟨hV1, hV, hn, hG, hE, hD, hCX, hCY, hRO, hGO, hQE, hQD, hF, hF2, hS⟩ := h
  have hR6 := fz_Rw6 hGO hRO
  have hM := fz_prb hG hR6
  have two : fz_fl (fz_PX tm a_rowCount a_goalTable a_goalX a_goalY a_rowLeft a_rowRight a_equationX a_equationY a_disequalityX a_disequalityY G E D) (6 ^ G) = (fz_fl (fz_PY tm a_rowCount a_goalTable a_goalX a_goalY a_rowLeft a_rowRight a_equationX a_equationY a_disequalityX a_disequalityY G E D) (fz_pr (fz_Rw a_rowCount a_goalTable) G)).map (fun m => fz_x6 (fz_ph (fz_Rw a_rowCount a_goalTable) G m) G) :=
    fz_two (R := fz_Rw a_rowCount a_goalTable) hR6 (Q := fz_Good tm a_goalTable a_goalX a_goalY a_rowLeft a_rowRight a_equationX a_equationY a_disequalityX a_disequalityY G E D) fz_Goodp
  have hlen : (fz_fl (fz_PY tm a_rowCount a_goalTable a_goalX a_goalY a_rowLeft a_rowRight a_equationX a_equationY a_disequalityX a_disequalityY G E D) (fz_pr (fz_Rw a_rowCount a_goalTable) G)).length = (fz_fl (fz_PX tm a_rowCount a_goalTable a_goalX a_goalY a_rowLeft a_rowRight a_equationX a_equationY a_disequalityX a_disequalityY G E D) (6 ^ G)).length := by rw [two, List.length_map]
  have hle := fz_fll (fz_PY tm a_rowCount a_goalTable a_goalX a_goalY a_rowLeft a_rowRight a_equationX a_equationY a_disequalityX a_disequalityY G E D) (fz_pr (fz_Rw a_rowCount a_goalTable) G)
  refine ⟨hlen, _, ?_, rfl, congrArg nI hlen, hvE, hvD, fun k hk => ?_⟩
  · omega
  · obtain ⟨m, hm, hmem, _⟩ := fz_at (l := fz_fl (fz_PY tm a_rowCount a_goalTable a_goalX a_goalY a_rowLeft a_rowRight a_equationX a_equationY a_disequalityX a_disequalityY G E D) (fz_pr (fz_Rw a_rowCount a_goalTable) G)) (i := k) (by omega)
    obtain ⟨hlt, q, hq, hg, eq⟩ := fz_flm.mp hmem
    obtain ⟨v1, v2⟩ := fz_phs hlt
    have qp := fz_yRe G (fun g hg' => ⟨hq g hg', v1 g hg'⟩) (eq.trans v2.symm)
    have hx : (fz_fl (fz_PX tm a_rowCount a_goalTable a_goalX a_goalY a_rowLeft a_rowRight a_equationX a_equationY a_disequalityX a_disequalityY G E D) (6 ^ G))[k]? = some (fz_x6 (fz_ph (fz_Rw a_rowCount a_goalTable) G m) G) := by
      rw [two, List.getElem?_map, hm]
      rfl
    refine ⟨fz_ph (fz_Rw a_rowCount a_goalTable) G m, v1, fz_Goodp q _ qp hg, ?_, ?_, ?_⟩
    · have := hX.1 k _ hx
      rw [Nat.zero_add] at this
      exact this
    · have := hY k _ hm
      rw [Nat.zero_add] at this
      rw [v2]
      exact this
    · intro s hs hMt v hv hgv
      exact hX.2 k _ hx _ (fun g hg' => by have := v1 g hg'; have := hR6 g hg'; omega) rfl s hs hMt v hv hgv
end
theorem i_vc_solve {k : Nat} {u : SX} {v : SY} (I : i_Rel k u v) (hk : k + 5 ≤ 2561) : wpX_solve (fun r u' => wpY_solve (fun r' v' => r' = r ∧ i_Rel (k + 5) u' v') v) u := by
  obtain ⟨V, n, G, E, D, tm, f_frozenOn, f_solved, f_solutionCount, f_found, a_kind, a_first, a_second, a_size, a_variablesIn, a_code, a_rowCount, a_rowLeft, a_rowRight, a_goalTable, a_goalX, a_goalY, a_equationX, a_equationY, a_disequalityX, a_disequalityY, a_solutionChoice, a_solutionCode, a_sign, b_first, a_goalFrozen, a_choiceOf, a_value, a_walkX, a_walkY, a_pick, a_bind, a_text, a_from, a_stack, rfl, rfl, h⟩ := I
  have h' := h
  obtain ⟨hV1, hV, hn, hG, hE, hD, hCX, hCY, hRO, hGO, hQE, hQD, hF, hF2, hS⟩ := h'
  rcases hS with e0 | ⟨e1, K, hK, q1, q2, _⟩
  · subst e0
    refine br_t rfl (fz_looX hn hCX hG hGO rfl hE hQE rfl hD hQD rfl hF (fun hl => ?_) (fun hl => ?_))
    · obtain ⟨w, hw, hs, hg⟩ := hl
      have hwV := fz_SpV h hw hs
      refine br_f (by decide) (br_t rfl (fz_looY hV hn hCY rfl hG hGO rfl hE hQE rfl hD hQD rfl (fun _ tx fr sk => br_f (by decide) ⟨rfl, fz_mk h⟩) (fun hall => absurd (hall w hwV hs) hg)))
    · have hvE : ∀ i, i < E → ∀ v, (100 + v ∈ tm (a_equationX i).toNatClampNeg ∨ 100 + v ∈ tm (a_equationY i).toNatClampNeg) → fz_Gv tm a_goalX a_goalY G v := by
        intro i hi v hv
        have := fz_QV hn hCX hQE hi hv
        exact hl v (by omega) (.inr (.inl ⟨i, hi, hv⟩))
      have hvD : ∀ i, i < D → ∀ v, (100 + v ∈ tm (a_disequalityX i).toNatClampNeg ∨ 100 + v ∈ tm (a_disequalityY i).toNatClampNeg) → fz_Gv tm a_goalX a_goalY G v := by
        intro i hi v hv
        have := fz_QV hn hCX hQD hi hv
        exact hl v (by omega) (.inr (.inr ⟨i, hi, hv⟩))
      refine br_t rfl (fz_find hV hn hCX hG hGO hRO rfl hE hQE rfl hD hQD rfl hvE hvD (fun sc sC val wx wy hX => ?_))
      refine br_t rfl (fz_looY hV hn hCY rfl hG hGO rfl hE hQE rfl hD hQD rfl (fun hx => ?_) (fun _ tx fr sk => br_t rfl (fz_solY h hvE hvD (fun ch pk bd tx fr sk hY => ?_))))
      · obtain ⟨w, hw, hs, hg⟩ := hx
        exact absurd (hl w (by omega) hs) hg
      · obtain ⟨f1, f2⟩ := fz_fin h hvE hvD hX hY
        exact ⟨congrArg nI f1, fz_mk ⟨hV1, hV, hn, hG, hE, hD, hCX, hCY, hRO, hGO, hQE, hQD, hF, hF2, .inr ⟨rfl, f2⟩⟩⟩
  · subst e1
    exact br_f (by decide) (br_f (by decide) ⟨q2.trans q1.symm, fz_mk h⟩)
