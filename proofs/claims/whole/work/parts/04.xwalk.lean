section
variable {f_variableCount f_cellCount f_goalCount f_frozenOn f_equationCount f_disequalityCount f_solved f_solutionCount : Int32} {a_kind a_first a_second a_size a_variablesIn a_rowCount a_rowLeft a_rowRight a_goalTable a_goalX a_goalY a_equationX a_equationY a_disequalityX a_disequalityY a_solutionChoice a_value a_walkX a_walkY : Nat → Int32} {a_code a_solutionCode : Nat → Int64}
variable {V n : Nat} {tm : Nat → List Nat}
/-! ===== X: replaced, agree ===== -/
theorem fz_rep (hV : V ≤ 6) (hn : n ≤ 48) (hC : fz_CX V tm n a_kind a_first a_second a_size a_variablesIn a_code) {b : Nat → Option Nat} (hb : fz_Vb tm n a_value b) {x : Nat} (hx : x < n) :
    ∃ x', x' < n ∧ (∀ (z : Int32) (post : Int32 → Prop), z = nI x → post (nI x') → wpX_replaced post (f_variableCount, f_cellCount, f_goalCount, f_frozenOn, f_equationCount, f_disequalityCount, f_solved, f_solutionCount, a_kind, a_first, a_second, a_size, a_variablesIn, a_code, a_rowCount, a_rowLeft, a_rowRight, a_goalTable, a_goalX, a_goalY, a_equationX, a_equationY, a_disequalityX, a_disequalityY, a_solutionChoice, a_solutionCode, a_value, a_walkX, a_walkY) z) ∧ (∀ s, fz_ex tm b s → fz_sb s (tm x') = fz_sb s (tm x)) ∧
      (x' = x ∨ (fz_Gr (tm x') ∧ ∀ v, 100 + v ∈ tm x → b v ≠ none)) ∧ (a_kind x' = 1 → x' = x ∧ ∃ v, v < 6 ∧ tm x = [100 + v] ∧ b v = none ∧ a_first x = nI v) := by
  have hx8 : x < 48 := by omega
  have ex : (nI x).toNatClampNeg = x := nI_clamp (by omega)
  have hi : vp_in (nI x) 48 := vp_in_nI hx8 (by omega)
  obtain ⟨hw, hl, _, _, _, h⟩ := hC x hx
  by_cases hk : a_kind x = 1
  · rcases h with ⟨a, _, _, _, k⟩ | ⟨v, hv, e, k, f⟩ | ⟨a, c, _, _, _, k, _⟩
    · rw [hk] at k
      exact absurd k (by decide)
    · have ev : (nI v).toNatClampNeg = v := nI_clamp (by omega)
      have hvi : vp_in (nI v) 6 := vp_in_nI (by omega) (by omega)
      have F : a_first (nI x).toNatClampNeg = nI v := by rw [ex]; exact f
      have K : a_kind (nI x).toNatClampNeg = 1 := by rw [ex]; exact hk
      have VL : a_value (a_first (nI x).toNatClampNeg).toNatClampNeg = a_value v := by rw [F, ev]
      have F6 : vp_in (a_first (nI x).toNatClampNeg) 6 := by rw [F]; exact hvi
      rcases hb.2 v (by omega) with ⟨h1, h2⟩ | ⟨c, h1, h2, h3, h4⟩
      · refine ⟨x, hx, fun z post hz hp => ?_, fun s _ => rfl, .inl rfl, fun _ => ⟨rfl, v, by omega, e, h1, f⟩⟩
        subst hz
        exact ⟨hi, br_t K ⟨hi, F6, br_t (VL.trans h2) hp⟩⟩
      · refine ⟨c, h1, fun z post hz hp => ?_, fun s hs => ?_, .inr ⟨h4, fun w hw => ?_⟩, fun hk' => ?_⟩
        · subst hz
          refine ⟨hi, br_t K ⟨hi, F6, br_f (fun q => fz_nm1 c (by omega) ((VL.trans h3).symm.trans q)) ⟨hi, F6, ?_⟩⟩⟩
          rw [VL, h3]
          exact hp
        · rw [e, fz_sbV, hs v c h2, fz_sbg h4]
        · rw [e, List.mem_singleton] at hw
          have : w = v := by omega
          rw [this, h2]
          simp
        · obtain ⟨_, _, _, _, _, h'⟩ := hC c h1
          rcases h' with ⟨a, _, _, _, k'⟩ | ⟨w, _, e', _, _⟩ | ⟨a, d, _, _, _, k', _⟩
          · rw [hk'] at k'
            exact absurd k' (by decide)
          · have := h4 (100 + w) (by rw [e']; exact List.mem_singleton.mpr rfl)
            omega
          · rw [hk'] at k'
            exact absurd k' (by decide)
    · rw [hk] at k
      exact absurd k (by decide)
  · refine ⟨x, hx, fun z post hz hp => ?_, fun s _ => rfl, .inl rfl, fun q => absurd q hk⟩
    subst hz
    exact ⟨hi, br_f (fun q => hk (by rw [ex] at q; exact q)) hp⟩
theorem fz_agL (hV : V ≤ 6) (hn : n ≤ 48) (hC : fz_CX V tm n a_kind a_first a_second a_size a_variablesIn a_code) {b0 : Nat → Option Nat} {e : Prop} {J : (Nat → List Nat) → Prop} {A0 : List Nat} {post : Int32 → SX → Prop}
    (h1 : ∀ b val wx wy, fz_Vb tm n val b → fz_AI tm n b0 e J A0 b [] → post 1 (f_variableCount, f_cellCount, f_goalCount, f_frozenOn, f_equationCount, f_disequalityCount, f_solved, f_solutionCount, a_kind, a_first, a_second, a_size, a_variablesIn, a_code, a_rowCount, a_rowLeft, a_rowRight, a_goalTable, a_goalX, a_goalY, a_equationX, a_equationY, a_disequalityX, a_disequalityY, a_solutionChoice, a_solutionCode, val, wx, wy))
    (h0 : ∀ b val wx wy, fz_Vb tm n val b → (e → b = b0) → (∀ s, fz_As s → fz_ex tm b0 s → ¬ J s) → post 0 (f_variableCount, f_cellCount, f_goalCount, f_frozenOn, f_equationCount, f_disequalityCount, f_solved, f_solutionCount, a_kind, a_first, a_second, a_size, a_variablesIn, a_code, a_rowCount, a_rowLeft, a_rowRight, a_goalTable, a_goalX, a_goalY, a_equationX, a_equationY, a_disequalityX, a_disequalityY, a_solutionChoice, a_solutionCode, val, wx, wy)) :
    ∀ (m : Nat) (st : List (Nat × Nat)) (k : Nat) (b : Nat → Option Nat) (val wx wy : Nat → Int32), fz_Ph tm st < m → k + fz_Ph tm st ≤ 53 → fz_Vb tm n val b → fz_sq wx wy st → fz_AI tm n b0 e J A0 b st →
      wX_agree_19 post f_variableCount f_cellCount f_goalCount f_frozenOn f_equationCount f_disequalityCount f_solved f_solutionCount m (nI st.length) (nI k) a_kind a_first a_second a_size a_variablesIn a_code a_rowCount a_rowLeft a_rowRight a_goalTable a_goalX a_goalY a_equationX a_equationY a_disequalityX a_disequalityY a_solutionChoice a_solutionCode val wx wy := by
  have hw : ∀ c, c < n → fz_WT (tm c) := fun c hc => (hC c hc).1
  intro m
  induction m with
  | zero => intro st k b val wx wy hm; omega
  | succ m ih =>
    intro st k b val wx wy hm hk hb hs hI
    have hl := fz_Phl tm st
    cases st with
    | nil => exact pk_le 64 k (fun h => absurd h (by omega)) (fun _ => pk_le 0 0 (fun _ => pk_eq 0 0 (fun _ => h1 b val wx wy hb hI) (fun h => absurd rfl h)) (fun h => absurd h (by omega)))
    | cons q t =>
      have hP : fz_Ph tm (q :: t) = fz_cs tm q + fz_Ph tm t := rfl
      have hc1 : 1 ≤ fz_cs tm q := by unfold fz_cs; omega
      have hl' : t.length + 1 ≤ fz_Ph tm (q :: t) := hl
      have ix : (nI t.length).toNatClampNeg = t.length := nI_clamp (by omega)
      have ix1 : (nI t.length + 1).toNatClampNeg = t.length + 1 := by rw [nI_1]; exact nI_clamp (by omega)
      have w1 : wx (nI t.length).toNatClampNeg = nI q.1 := by rw [ix]; exact hs.1
      have w2 : wy (nI t.length).toNatClampNeg = nI q.2 := by rw [ix]; exact hs.2.1
      have i66 : vp_in (nI t.length) 66 := vp_in_nI (by omega) (by omega)
      have i67 : vp_in (nI t.length + 1) 66 := by rw [nI_1]; exact vp_in_nI (by omega) (by omega)
      obtain ⟨hq1, hq2⟩ := hI.1 q List.mem_cons_self
      obtain ⟨a, ha, ra, sa, oa, ka⟩ := fz_rep (f_variableCount := f_variableCount) (f_cellCount := f_cellCount) (f_goalCount := f_goalCount) (f_frozenOn := f_frozenOn) (f_equationCount := f_equationCount) (f_disequalityCount := f_disequalityCount) (f_solved := f_solved) (f_solutionCount := f_solutionCount) (a_kind := a_kind) (a_first := a_first) (a_second := a_second) (a_size := a_size) (a_variablesIn := a_variablesIn) (a_code := a_code) (a_rowCount := a_rowCount) (a_rowLeft := a_rowLeft) (a_rowRight := a_rowRight) (a_goalTable := a_goalTable) (a_goalX := a_goalX) (a_goalY := a_goalY) (a_equationX := a_equationX) (a_equationY := a_equationY) (a_disequalityX := a_disequalityX) (a_disequalityY := a_disequalityY) (a_solutionChoice := a_solutionChoice) (a_solutionCode := a_solutionCode) (a_value := val) (a_walkX := wx) (a_walkY := wy) hV hn hC hb hq1
      obtain ⟨c, hc, rc, sc, oc, kc⟩ := fz_rep (f_variableCount := f_variableCount) (f_cellCount := f_cellCount) (f_goalCount := f_goalCount) (f_frozenOn := f_frozenOn) (f_equationCount := f_equationCount) (f_disequalityCount := f_disequalityCount) (f_solved := f_solved) (f_solutionCount := f_solutionCount) (a_kind := a_kind) (a_first := a_first) (a_second := a_second) (a_size := a_size) (a_variablesIn := a_variablesIn) (a_code := a_code) (a_rowCount := a_rowCount) (a_rowLeft := a_rowLeft) (a_rowRight := a_rowRight) (a_goalTable := a_goalTable) (a_goalX := a_goalX) (a_goalY := a_goalY) (a_equationX := a_equationX) (a_equationY := a_equationY) (a_disequalityX := a_disequalityX) (a_disequalityY := a_disequalityY) (a_solutionChoice := a_solutionChoice) (a_solutionCode := a_solutionCode) (a_value := val) (a_walkX := wx) (a_walkY := wy) hV hn hC hb hq2
      have ia : vp_in (nI a) 48 := vp_in_nI (by omega) (by omega)
      have ic : vp_in (nI c) 48 := vp_in_nI (by omega) (by omega)
      have ea : (nI a).toNatClampNeg = a := nI_clamp (by omega)
      have ec : (nI c).toNatClampNeg = c := nI_clamp (by omega)
      have hca := hC a ha
      have hcc := hC c hc
      have eb : e → b = b0 := fun he => (hI.2.2.1 he).1
      refine pk_le 64 k (fun h => absurd h (by omega)) (fun _ => pk_le (t.length + 1) 0 (fun h => absurd h (by omega)) (fun _ => nm_r (pk_m1 t.length) ⟨i66, ra _ _ w1 ⟨i66, rc _ _ w2 ?_⟩⟩))
      by_cases ka1 : a_kind a = 1
      · obtain ⟨e1, v, hv, tv, bv, fv⟩ := ka ka1
        have ne := fz_AIn hI tv bv
        have gc : fz_Gr (tm c) := by
          rcases oc with o | o
          · rw [o]
            exact hI.2.2.2.1 ne q List.mem_cons_self
          · exact o.1
        have K : a_kind (nI a).toNatClampNeg = 1 := by rw [ea]; exact ka1
        have F : a_first (nI a).toNatClampNeg = nI v := by rw [ea, e1]; exact fv
        have F6 : vp_in (a_first (nI a).toNatClampNeg) 6 := by rw [F]; exact vp_in_nI hv (by omega)
        have U : upd val (a_first (nI a).toNatClampNeg).toNatClampNeg (nI c) = upd val v (nI c) := by rw [F, nI_clamp (by omega)]
        exact ⟨ia, br_t K ⟨ia, F6, nm_r U (nm_r (nI_1 k) (ih t (k + 1) (fz_set b v c) (upd val v (nI c)) wx wy (by omega) (by omega) (fz_VbS hb hv hc gc) hs.2.2 (fz_AIb hI tv bv gc sc)))⟩⟩
      · have K : ¬ a_kind (nI a).toNatClampNeg = 1 := by rw [ea]; exact ka1
        have AG : ¬ (fz_Gr (tm a) ∧ fz_Gr (tm c)) → wX_agree_125 post (wX_agree_19 post f_variableCount f_cellCount f_goalCount f_frozenOn f_equationCount f_disequalityCount f_solved f_solutionCount m) (nI t.length) (nI k) (nI a) (nI c) f_variableCount f_cellCount f_goalCount f_frozenOn f_equationCount f_disequalityCount f_solved f_solutionCount a_kind a_first a_second a_size a_variablesIn a_code a_rowCount a_rowLeft a_rowRight a_goalTable a_goalX a_goalY a_equationX a_equationY a_disequalityX a_disequalityY a_solutionChoice a_solutionCode val wx wy := by
          intro ng
          have kc1 : ¬ a_kind c = 1 := by
            intro h
            obtain ⟨e1, v, hv, tv, bv, _⟩ := kc h
            have hm : 100 + v ∈ tm q.2 := by rw [tv]; exact List.mem_singleton.mpr rfl
            by_cases he : e
            · obtain ⟨eb', hh⟩ := hI.2.2.1 he
              exact hh q List.mem_cons_self v (.inr hm) (eb' ▸ bv)
            · have := hI.2.2.2.1 he q List.mem_cons_self _ hm
              omega
          by_cases ka2 : a_kind a = 2
          · have K2 : a_kind (nI a).toNatClampNeg = 2 := by rw [ea]; exact ka2
            obtain ⟨a1, a2, la1, la2, ta, fa, da⟩ : ∃ a1 a2, a1 < a ∧ a2 < a ∧ tm a = 17 :: (tm a1 ++ tm a2) ∧ a_first a = nI a1 ∧ a_second a = nI a2 := by
              rcases hca.2.2.2.2.2 with ⟨_, _, _, _, k'⟩ | ⟨_, _, _, k', _⟩ | ⟨a1, a2, la1, la2, ta, _, fa, da⟩
              · rw [ka2] at k'
                exact absurd k' (by decide)
              · exact absurd k' ka1
              · exact ⟨a1, a2, la1, la2, ta, fa, da⟩
            by_cases kc2 : a_kind c = 2
            · have C2 : a_kind (nI c).toNatClampNeg = 2 := by rw [ec]; exact kc2
              obtain ⟨c1, c2, lc1, lc2, tc, fc, dc⟩ : ∃ c1 c2, c1 < c ∧ c2 < c ∧ tm c = 17 :: (tm c1 ++ tm c2) ∧ a_first c = nI c1 ∧ a_second c = nI c2 := by
                rcases hcc.2.2.2.2.2 with ⟨_, _, _, _, k'⟩ | ⟨_, _, _, k', _⟩ | ⟨c1, c2, lc1, lc2, tc, _, fc, dc⟩
                · rw [kc2] at k'
                  exact absurd k' (by decide)
                · exact absurd k' kc1
                · exact ⟨c1, c2, lc1, lc2, tc, fc, dc⟩
              have A2 : a_second (nI a).toNatClampNeg = nI a2 := by rw [ea]; exact da
              have A1 : a_first (nI a).toNatClampNeg = nI a1 := by rw [ea]; exact fa
              have D2 : a_second (nI c).toNatClampNeg = nI c2 := by rw [ec]; exact dc
              have D1 : a_first (nI c).toNatClampNeg = nI c1 := by rw [ec]; exact fc
              have U1 : upd wx (nI t.length).toNatClampNeg (a_second (nI a).toNatClampNeg) = upd wx t.length (nI a2) := by rw [ix, A2]
              have U2 : upd wy (nI t.length).toNatClampNeg (a_second (nI c).toNatClampNeg) = upd wy t.length (nI c2) := by rw [ix, D2]
              have U3 : upd (upd wx t.length (nI a2)) (nI t.length + 1).toNatClampNeg (a_first (nI a).toNatClampNeg) = upd (upd wx t.length (nI a2)) (t.length + 1) (nI a1) := by rw [ix1, A1]
              have U4 : upd (upd wy t.length (nI c2)) (nI t.length + 1).toNatClampNeg (a_first (nI c).toNatClampNeg) = upd (upd wy t.length (nI c2)) (t.length + 1) (nI c1) := by rw [ix1, D1]
              have e2 : nI t.length + 2 = nI (t.length + 2) := nI_add t.length 2
              have pa := fz_fP (tm a1) (tm a2) (fz_WTlen (hw a1 (by omega))) (fz_WTlen (hw a2 (by omega)))
              have pc := fz_fP (tm c1) (tm c2) (fz_WTlen (hw c1 (by omega))) (fz_WTlen (hw c2 (by omega)))
              rw [← ta] at pa
              rw [← tc] at pc
              have qa : fz_f (tm a) ≤ fz_f (tm q.1) := by
                rcases oa with o | o
                · rw [o]
                  exact Nat.le_refl _
                · rw [fz_fG o.1]
                  omega
              have qc : fz_f (tm c) ≤ fz_f (tm q.2) := by
                rcases oc with o | o
                · rw [o]
                  exact Nat.le_refl _
                · rw [fz_fG o.1]
                  omega
              have hcost : fz_Ph tm ((a1, c1) :: (a2, c2) :: t) + 1 ≤ fz_Ph tm (q :: t) := by
                show (1 + fz_f (tm a1) + fz_f (tm c1)) + ((1 + fz_f (tm a2) + fz_f (tm c2)) + fz_Ph tm t) + 1 ≤ (1 + fz_f (tm q.1) + fz_f (tm q.2)) + fz_Ph tm t
                by_cases ga : fz_Gr (tm a)
                · have := pc.2 (fun gc => ng ⟨ga, gc⟩)
                  have := pa.1
                  omega
                · have := pa.2 ga
                  have := pc.1
                  omega
              exact ⟨ia, br_t K2 ⟨ic, br_t C2 ⟨ia, i66, nm_r U1 ⟨ic, i66, nm_r U2 ⟨ia, i67, nm_r U3 ⟨ic, i67, nm_r U4 (nm_r e2 (nm_r (nI_1 k) (ih ((a1, c1) :: (a2, c2) :: t) (k + 1) b val _ _ (by omega) (by omega) hb (fz_sq2 hs.2.2 a1 c1 a2 c2) (fz_AIp hw hI (by omega) (by omega) (by omega) (by omega) ta tc sa sc oa (oc.imp id (fun o => o.1))))))⟩⟩⟩⟩⟩⟩
            · have C2 : ¬ a_kind (nI c).toNatClampNeg = 2 := by rw [ec]; exact kc2
              refine ⟨ia, br_t K2 ⟨ic, br_f C2 (h0 b val wx wy hb eb (fz_AI0 hI ?_))⟩⟩
              intro s hs' hx hh
              rcases hcc.2.2.2.2.2 with ⟨k', l1, l2, tc, _⟩ | ⟨_, _, _, k', _⟩ | ⟨_, _, _, _, _, k', _⟩
              · rw [← sa s hx, ← sc s hx, ta, tc, fz_sbP, fz_sb1, fz_s1L (by omega)] at hh
                have := (List.cons.inj hh).1
                omega
              · exact kc1 k'
              · exact kc2 k'
          · have K2 : ¬ a_kind (nI a).toNatClampNeg = 2 := by rw [ea]; exact ka2
            refine ⟨ia, br_f K2 (h0 b val wx wy hb eb (fz_AI0 hI ?_))⟩
            intro s hs' hx hh
            rcases hca.2.2.2.2.2 with ⟨k', l1, l2, ta, _⟩ | ⟨_, _, _, k', _⟩ | ⟨_, _, _, _, _, k', _⟩
            · have ga : fz_Gr (tm a) := by
                intro z hz
                rw [ta, List.mem_singleton] at hz
                omega
              rcases hcc.2.2.2.2.2 with ⟨k'', m1, m2, tc, _⟩ | ⟨_, _, _, k'', _⟩ | ⟨c1, c2, _, _, tc, _, _⟩
              · refine ng ⟨ga, ?_⟩
                intro z hz
                rw [tc, List.mem_singleton] at hz
                omega
              · exact kc1 k''
              · rw [← sa s hx, ← sc s hx, ta, tc, fz_sbP, fz_sb1, fz_s1L (by omega)] at hh
                have := (List.cons.inj hh).1
                omega
            · exact ka1 k'
            · exact ka2 k'
        by_cases ga : fz_Gr (tm a)
        · have Va : a_variablesIn (nI a).toNatClampNeg = 0 := by rw [ea]; exact (fz_vi0 hca).mpr ga
          by_cases gc : fz_Gr (tm c)
          · have Vc : a_variablesIn (nI c).toNatClampNeg = 0 := by rw [ec]; exact (fz_vi0 hcc).mpr gc
            have Ca : a_code (nI a).toNatClampNeg = lN (fz_vl (tm a)) := by rw [ea]; exact hca.2.2.2.2.1 ga
            have Cc : a_code (nI c).toNatClampNeg = lN (fz_vl (tm c)) := by rw [ec]; exact hcc.2.2.2.2.1 gc
            by_cases et : tm a = tm c
            · refine ⟨ia, br_f K ⟨ia, br_t Va ⟨ic, br_t Vc ⟨ia, ic, br_t (by rw [Ca, Cc, et]) (nm_r (nI_1 k) (ih t (k + 1) b val wx wy (by omega) (by omega) hb hs.2.2 (fz_AIs hI ?_ ?_)))⟩⟩⟩⟩
              · intro v hv
                rcases oa with o | o
                · rw [← o] at hv
                  have := ga _ hv
                  omega
                · exact o.2 v hv
              · intro s _ hx
                rw [← sa s hx, ← sc s hx, et]
            · refine ⟨ia, br_f K ⟨ia, br_t Va ⟨ic, br_t Vc ⟨ia, ic, br_f ?_ (h0 b val wx wy hb eb (fz_AI0 hI ?_))⟩⟩⟩⟩
              · rw [Ca, Cc, pk_lEQ (fz_vbig hca.1 ga hca.2.1) (fz_vbig hcc.1 gc hcc.2.1), fz_vjW hca.1 ga hcc.1 gc]
                exact et
              · intro s _ hx hh
                rw [← sa s hx, ← sc s hx, fz_sbg ga, fz_sbg gc] at hh
                exact et hh
          · have Vc : ¬ a_variablesIn (nI c).toNatClampNeg = 0 := by rw [ec]; exact fun z => gc ((fz_vi0 hcc).mp z)
            exact ⟨ia, br_f K ⟨ia, br_t Va ⟨ic, br_f Vc (AG (fun z => gc z.2))⟩⟩⟩
        · have Va : ¬ a_variablesIn (nI a).toNatClampNeg = 0 := by rw [ea]; exact fun z => ga ((fz_vi0 hca).mp z)
          exact ⟨ia, br_f K ⟨ia, br_f Va (AG (fun z => ga z.1))⟩⟩
theorem fz_agree (hV : V ≤ 6) (hn : n ≤ 48) (hC : fz_CX V tm n a_kind a_first a_second a_size a_variablesIn a_code) {b0 : Nat → Option Nat} (hb : fz_Vb tm n a_value b0) {x y : Nat} (hx : x < n) (hy : y < n) (e : Prop)
    (he : e → ∀ v, (100 + v ∈ tm x ∨ 100 + v ∈ tm y) → b0 v ≠ none) (hg : ¬ e → fz_Gr (tm y)) {zx zy : Int32} (ex : zx = nI x) (ey : zy = nI y) {post : Int32 → SX → Prop}
    (h1 : ∀ b val wx wy, fz_Vb tm n val b → (e → b = b0) → fz_le b0 b → (∀ v, 100 + v ∈ tm x → b v ≠ none) → (∀ s, fz_As s → fz_ex tm b0 s → (fz_sb s (tm x) = fz_sb s (tm y) ↔ fz_ex tm b s)) → post 1 (f_variableCount, f_cellCount, f_goalCount, f_frozenOn, f_equationCount, f_disequalityCount, f_solved, f_solutionCount, a_kind, a_first, a_second, a_size, a_variablesIn, a_code, a_rowCount, a_rowLeft, a_rowRight, a_goalTable, a_goalX, a_goalY, a_equationX, a_equationY, a_disequalityX, a_disequalityY, a_solutionChoice, a_solutionCode, val, wx, wy))
    (h0 : ∀ b val wx wy, fz_Vb tm n val b → (e → b = b0) → (∀ s, fz_As s → fz_ex tm b0 s → ¬ fz_sb s (tm x) = fz_sb s (tm y)) → post 0 (f_variableCount, f_cellCount, f_goalCount, f_frozenOn, f_equationCount, f_disequalityCount, f_solved, f_solutionCount, a_kind, a_first, a_second, a_size, a_variablesIn, a_code, a_rowCount, a_rowLeft, a_rowRight, a_goalTable, a_goalX, a_goalY, a_equationX, a_equationY, a_disequalityX, a_disequalityY, a_solutionChoice, a_solutionCode, val, wx, wy)) :
    wpX_agree post (f_variableCount, f_cellCount, f_goalCount, f_frozenOn, f_equationCount, f_disequalityCount, f_solved, f_solutionCount, a_kind, a_first, a_second, a_size, a_variablesIn, a_code, a_rowCount, a_rowLeft, a_rowRight, a_goalTable, a_goalX, a_goalY, a_equationX, a_equationY, a_disequalityX, a_disequalityY, a_solutionChoice, a_solutionCode, a_value, a_walkX, a_walkY) zx zy := by
  subst ex ey
  have hP : fz_Ph tm [(x, y)] ≤ 53 := by
    show 1 + fz_f (tm x) + fz_f (tm y) + 0 ≤ 53
    have := fz_fle (tm x)
    have := fz_fle (tm y)
    have := (hC x hx).2.1
    have := (hC y hy).2.1
    omega
  refine nm_e (nm_e ⟨54, fz_agL hV hn hC (b0 := b0) (e := e) (J := fun s => fz_sb s (tm x) = fz_sb s (tm y)) (A0 := tm x) ?_ h0 54 [(x, y)] 0 b0 a_value _ _ (by omega) (by omega) hb ⟨pk_us, pk_us, trivial⟩ ?_⟩)
  · intro b val wx wy hv hI
    refine h1 b val wx wy hv (fun z => (hI.2.2.1 z).1) hI.2.2.2.2.2 (fun v hv => ?_) (fun s hs h0' => ?_)
    · rcases hI.2.2.2.2.1 v hv with h | ⟨q, hq, _⟩
      · exact h
      · exact absurd hq (by simp)
    · exact Iff.trans (hI.2.1 s hs h0') ⟨fun z => z.1, fun z => ⟨z, fun q hq => absurd hq (by simp)⟩⟩
  · refine ⟨fun q hq => ?_, fun s hs h0' => ?_, fun z => ⟨rfl, fun q hq => ?_⟩, fun z q hq => ?_, fun v hv => .inr ⟨(x, y), List.mem_singleton.mpr rfl, hv⟩, fun v c hv => hv⟩
    · rw [List.mem_singleton.mp hq]
      exact ⟨hx, hy⟩
    · exact ⟨fun z => ⟨h0', fun q hq => by rw [List.mem_singleton.mp hq]; exact z⟩, fun z => z.2 (x, y) (List.mem_singleton.mpr rfl)⟩
    · rw [List.mem_singleton.mp hq]
      exact he z
    · rw [List.mem_singleton.mp hq]
      exact hg z
end
