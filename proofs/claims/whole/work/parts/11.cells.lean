theorem i_vc0 (k0 : Int32) : wpX_init (fun u => wpY_init (fun v => i_Rel 1 u v) k0) k0 := by
  have key : ∀ V : Nat, 1 ≤ V → V ≤ 6 → fz_Inv V 0 0 0 0 (fun _ => []) 0 0 0 0 (fun _ => 0) (fun _ => 0) (fun _ => 0) (fun _ => 0) (fun _ => 0) (fun _ => 0) (fun _ => 0) (fun _ => 0) (fun _ => 0) (fun _ => 0) (fun _ => 0) (fun _ => 0) (fun _ => 0) (fun _ => 0) (fun _ => 0) (fun _ => 0) (fun _ => 0) (fun _ => 0) (fun _ => 0) (fun _ => 0) (fun _ => 0) (fun _ => 0) := by
    intro V h1 h6
    refine ⟨h1, h6, by omega, by omega, by omega, by omega, fun c hc => absurd hc (by omega), fun c hc => absurd hc (by omega), fun t ht => ⟨0, by omega, rfl, fun j hj => absurd hj (by omega)⟩, fun c hc => absurd hc (by omega), fun c hc => absurd hc (by omega), fun c hc => absurd hc (by omega), fun i hi => ?_, fun c hc => absurd hc (by omega), .inl rfl⟩
    rw [b_0]
    exact ⟨fun q => absurd q (by decide), fun ⟨g, hg, _⟩ => absurd hg (by omega)⟩
  by_cases h1 : 1 ≤ k0
  · by_cases h6 : k0 ≤ 6
    · obtain ⟨j, hj, rfl⟩ := nI_of (x := k0) (Int32.not_lt.mpr (Int32.le_trans (by decide) h1))
      have j1 := (nI_leI (a := 1) (by omega) hj).mp h1
      have j6 := (nI_leI (b := 6) hj (by omega)).mp h6
      exact br_t h1 (br_t h6 (br_t h1 (br_t h6 (fz_mk (V := j) (n := 0) (G := 0) (E := 0) (D := 0) (tm := fun _ => []) (f_frozenOn := 0) (f_solved := 0) (f_solutionCount := 0) (f_found := 0) (a_kind := fun _ => 0) (a_first := fun _ => 0) (a_second := fun _ => 0) (a_size := fun _ => 0) (a_variablesIn := fun _ => 0) (a_code := fun _ => 0) (a_rowCount := fun _ => 0) (a_rowLeft := fun _ => 0) (a_rowRight := fun _ => 0) (a_goalTable := fun _ => 0) (a_goalX := fun _ => 0) (a_goalY := fun _ => 0) (a_equationX := fun _ => 0) (a_equationY := fun _ => 0) (a_disequalityX := fun _ => 0) (a_disequalityY := fun _ => 0) (a_solutionChoice := fun _ => 0) (a_solutionCode := fun _ => 0) (a_sign := fun _ => 0) (b_first := fun _ => 0) (a_goalFrozen := fun _ => 0) (a_choiceOf := fun _ => 0) (a_value := fun _ => 0) (a_walkX := fun _ => 0) (a_walkY := fun _ => 0) (a_pick := fun _ => 0) (a_bind := fun _ => 0) (a_text := fun _ => 0) (a_from := fun _ => 0) (a_stack := fun _ => 0) (key j j1 j6)))))
    · exact br_t h1 (br_f h6 (br_t h1 (br_f h6 (fz_mk (V := 6) (n := 0) (G := 0) (E := 0) (D := 0) (tm := fun _ => []) (f_frozenOn := 0) (f_solved := 0) (f_solutionCount := 0) (f_found := 0) (a_kind := fun _ => 0) (a_first := fun _ => 0) (a_second := fun _ => 0) (a_size := fun _ => 0) (a_variablesIn := fun _ => 0) (a_code := fun _ => 0) (a_rowCount := fun _ => 0) (a_rowLeft := fun _ => 0) (a_rowRight := fun _ => 0) (a_goalTable := fun _ => 0) (a_goalX := fun _ => 0) (a_goalY := fun _ => 0) (a_equationX := fun _ => 0) (a_equationY := fun _ => 0) (a_disequalityX := fun _ => 0) (a_disequalityY := fun _ => 0) (a_solutionChoice := fun _ => 0) (a_solutionCode := fun _ => 0) (a_sign := fun _ => 0) (b_first := fun _ => 0) (a_goalFrozen := fun _ => 0) (a_choiceOf := fun _ => 0) (a_value := fun _ => 0) (a_walkX := fun _ => 0) (a_walkY := fun _ => 0) (a_pick := fun _ => 0) (a_bind := fun _ => 0) (a_text := fun _ => 0) (a_from := fun _ => 0) (a_stack := fun _ => 0) (key 6 (by omega) (by omega))))))
  · exact br_f h1 (br_f h1 (fz_mk (V := 1) (n := 0) (G := 0) (E := 0) (D := 0) (tm := fun _ => []) (f_frozenOn := 0) (f_solved := 0) (f_solutionCount := 0) (f_found := 0) (a_kind := fun _ => 0) (a_first := fun _ => 0) (a_second := fun _ => 0) (a_size := fun _ => 0) (a_variablesIn := fun _ => 0) (a_code := fun _ => 0) (a_rowCount := fun _ => 0) (a_rowLeft := fun _ => 0) (a_rowRight := fun _ => 0) (a_goalTable := fun _ => 0) (a_goalX := fun _ => 0) (a_goalY := fun _ => 0) (a_equationX := fun _ => 0) (a_equationY := fun _ => 0) (a_disequalityX := fun _ => 0) (a_disequalityY := fun _ => 0) (a_solutionChoice := fun _ => 0) (a_solutionCode := fun _ => 0) (a_sign := fun _ => 0) (b_first := fun _ => 0) (a_goalFrozen := fun _ => 0) (a_choiceOf := fun _ => 0) (a_value := fun _ => 0) (a_walkX := fun _ => 0) (a_walkY := fun _ => 0) (a_pick := fun _ => 0) (a_bind := fun _ => 0) (a_text := fun _ => 0) (a_from := fun _ => 0) (a_stack := fun _ => 0) (key 1 (by omega) (by omega))))
theorem i_vc_atom {k : Nat} {u : SX} {v : SY} (I : i_Rel k u v) (hk : k + 5 ≤ 2561) (v1 : Int32) : wpX_atom (fun r u' => wpY_atom (fun r' v' => r' = r ∧ i_Rel (k + 5) u' v') v v1) u v1 := by
  obtain ⟨V, n, G, E, D, tm, f_frozenOn, f_solved, f_solutionCount, f_found, a_kind, a_first, a_second, a_size, a_variablesIn, a_code, a_rowCount, a_rowLeft, a_rowRight, a_goalTable, a_goalX, a_goalY, a_equationX, a_equationY, a_disequalityX, a_disequalityY, a_solutionChoice, a_solutionCode, a_sign, b_first, a_goalFrozen, a_choiceOf, a_value, a_walkX, a_walkY, a_pick, a_bind, a_text, a_from, a_stack, rfl, rfl, h⟩ := I
  have hn := h.2.2.1
  rcases Nat.lt_or_ge n 48 with h48 | h48
  · have i48 : vp_in (nI n) 48 := vp_in_nI h48 (by omega)
    have cn : (nI n).toNatClampNeg = n := nI_clamp (by omega)
    refine pk_lt n 48 (fun _ => ?_) (fun q => absurd q (by omega))
    by_cases k0 : v1 < 0
    · exact br_t k0 (pk_eq n 48 (fun q => absurd q (by omega)) (fun _ => br_t k0 ⟨rfl, fz_mk h⟩))
    · obtain ⟨j, hj, rfl⟩ := nI_of k0
      rcases Nat.lt_or_ge j 16 with h16 | h16
      · have e1 : vp_updL a_code (nI n).toNatClampNeg ((nI j + 1).toInt64) = vp_updL a_code n (lN (j + 1)) := by rw [cn, nI_1, nI_l (by omega)]
        have e2 : upd a_size (nI n).toNatClampNeg 1 = upd a_size n 1 := by rw [cn]
        have e3 : upd a_variablesIn (nI n).toNatClampNeg 0 = upd a_variablesIn n 0 := by rw [cn]
        refine br_f k0 (pk_lt j 16 (fun _ => ⟨i48, nm_r e1 ⟨i48, nm_r e2 ⟨i48, nm_r e3 (fz_addX h48 rfl ?_)⟩⟩⟩) (fun q => absurd q (by omega)))
        refine pk_eq n 48 (fun q => absurd q (by omega)) (fun _ => br_f k0 (pk_le j 15 (fun _ => fz_mkY h48 rfl ⟨rfl, fz_mk (fz_new h h48 (A := [j + 1]) (fz_WTL (.inl ⟨by omega, by omega⟩)) (by simp) rfl (fun i hi => ?_) (fun _ => ?_) (.inl ⟨j + 1, by omega, by omega, rfl, rfl⟩) (.inl ⟨j + 1, by omega, by omega, rfl, nI_1 j⟩))⟩) (fun q => absurd q (by omega))))
        · rw [b_0]
          exact (decide_eq_false (fun q => by rw [List.mem_singleton] at q; omega)).symm
        · rw [show fz_vl [j + 1] = j + 1 by simp [fz_vl]]
      · exact br_f k0 (pk_lt j 16 (fun q => absurd q (by omega)) (fun _ => pk_eq n 48 (fun q => absurd q (by omega)) (fun _ => br_f k0 (pk_le j 15 (fun q => absurd q (by omega)) (fun _ => ⟨rfl, fz_mk h⟩)))))
  · exact pk_lt n 48 (fun q => absurd q (by omega)) (fun _ => pk_eq n 48 (fun _ => ⟨rfl, fz_mk h⟩) (fun q => absurd (show n = 48 by omega) q))
theorem i_vc_variable {k : Nat} {u : SX} {v : SY} (I : i_Rel k u v) (hk : k + 5 ≤ 2561) (v1 : Int32) : wpX_variable (fun r u' => wpY_variable (fun r' v' => r' = r ∧ i_Rel (k + 5) u' v') v v1) u v1 := by
  obtain ⟨V, n, G, E, D, tm, f_frozenOn, f_solved, f_solutionCount, f_found, a_kind, a_first, a_second, a_size, a_variablesIn, a_code, a_rowCount, a_rowLeft, a_rowRight, a_goalTable, a_goalX, a_goalY, a_equationX, a_equationY, a_disequalityX, a_disequalityY, a_solutionChoice, a_solutionCode, a_sign, b_first, a_goalFrozen, a_choiceOf, a_value, a_walkX, a_walkY, a_pick, a_bind, a_text, a_from, a_stack, rfl, rfl, h⟩ := I
  have hn := h.2.2.1
  have hV := h.2.1
  rcases Nat.lt_or_ge n 48 with h48 | h48
  · have i48 : vp_in (nI n) 48 := vp_in_nI h48 (by omega)
    have cn : (nI n).toNatClampNeg = n := nI_clamp (by omega)
    refine pk_lt n 48 (fun _ => ?_) (fun q => absurd q (by omega))
    rcases fz_ix v1 (n := V) (by omega) with hb | ⟨j, hj, rfl⟩
    · refine fz_ivX0 rfl hb (br_t rfl (pk_eq n 48 (fun q => absurd q (by omega)) (fun _ => ?_)))
      by_cases k0 : v1 < 0
      · exact br_t k0 ⟨rfl, fz_mk h⟩
      · rcases hb with q | q
        · exact absurd q k0
        · exact br_f k0 (br_f (Int32.not_lt.mpr q) ⟨rfl, fz_mk h⟩)
    · have e1 : vp_updL a_code (nI n).toNatClampNeg 0 = vp_updL a_code n 0 := by rw [cn]
      have e2 : upd a_size (nI n).toNatClampNeg 1 = upd a_size n 1 := by rw [cn]
      have e3 : upd a_variablesIn (nI n).toNatClampNeg ((1 : Int32) <<< (nI j &&& 31)) = upd a_variablesIn n ((1 : Int32) <<< (nI j &&& 31)) := by rw [cn]
      refine fz_ivX1 hV rfl hj (br_f (by decide) ⟨i48, nm_r e1 ⟨i48, nm_r e2 ⟨i48, nm_r e3 (fz_addX h48 rfl ?_)⟩⟩⟩)
      refine pk_eq n 48 (fun q => absurd q (by omega)) (fun _ => br_f (nI_pos (by omega)) (pk_lt j V (fun _ => fz_mkY h48 rfl ⟨rfl, fz_mk (fz_new h h48 (A := [100 + j]) (fz_WTL (.inr ⟨by omega, by omega⟩)) (by simp) rfl (fun i hi => ?_) (fun g => ?_) (.inr (.inl ⟨j, hj, rfl, rfl, rfl⟩)) (.inr (.inl ⟨j, hj, rfl, nI_add 100 j⟩)))⟩) (fun q => absurd q (by omega))))
      · rw [fz_one (by omega) hi]
        by_cases e : i = j
        · rw [decide_eq_true e, decide_eq_true (by rw [e]; exact List.mem_singleton.mpr rfl)]
        · rw [decide_eq_false e, decide_eq_false (fun q => by rw [List.mem_singleton] at q; omega)]
      · have := g (100 + j) (List.mem_singleton.mpr rfl)
        omega
  · exact pk_lt n 48 (fun q => absurd q (by omega)) (fun _ => pk_eq n 48 (fun _ => ⟨rfl, fz_mk h⟩) (fun q => absurd (show n = 48 by omega) q))
section
variable {f_variableCount f_cellCount f_goalCount f_frozenOn f_equationCount f_disequalityCount f_solved f_solutionCount : Int32} {a_kind a_first a_second a_size a_variablesIn a_rowCount a_rowLeft a_rowRight a_goalTable a_goalX a_goalY a_equationX a_equationY a_disequalityX a_disequalityY a_solutionChoice a_value a_walkX a_walkY : Nat → Int32} {a_code a_solutionCode : Nat → Int64}
theorem fz_shiftX {m : Nat} (hm : m < 2 ^ 31) {z : Int32} (ez : z = nI m) {post : Int64 → Prop} (h : post (lN (18 ^ m))) : wpX_codeShift post (f_variableCount, f_cellCount, f_goalCount, f_frozenOn, f_equationCount, f_disequalityCount, f_solved, f_solutionCount, a_kind, a_first, a_second, a_size, a_variablesIn, a_code, a_rowCount, a_rowLeft, a_rowRight, a_goalTable, a_goalX, a_goalY, a_equationX, a_equationY, a_disequalityX, a_disequalityY, a_solutionChoice, a_solutionCode, a_value, a_walkX, a_walkY) z := by
  subst ez
  have key : ∀ (k i : Nat), i + k = m → wX_codeShift_5 post (nI m) f_variableCount f_cellCount f_goalCount f_frozenOn f_equationCount f_disequalityCount f_solved f_solutionCount a_kind a_first a_second a_size a_variablesIn a_code a_rowCount a_rowLeft a_rowRight a_goalTable a_goalX a_goalY a_equationX a_equationY a_disequalityX a_disequalityY a_solutionChoice a_solutionCode a_value a_walkX a_walkY (k + 1) (lN (18 ^ i)) (nI i) := by
    intro k
    induction k with
    | zero =>
      intro i hi
      have e : i = m := by omega
      subst e
      exact pk_le i i (fun _ => h) (fun q => absurd q (by omega))
    | succ k ih =>
      intro i hi
      have e : lN (18 ^ i) * 18 = lN (18 ^ (i + 1)) := by
        rw [Nat.pow_succ]
        exact lN_mul (18 ^ i) 18
      exact pk_le m i (fun q => absurd q (by omega)) (fun _ => nm_r e (nm_r (nI_1 i) (ih (i + 1) (by omega))))
  exact ⟨m + 1, key m 0 (by omega)⟩
end
theorem i_vc_pair {k : Nat} {u : SX} {v : SY} (I : i_Rel k u v) (hk : k + 5 ≤ 2561) (v1 : Int32) (v2 : Int32) : wpX_pair (fun r u' => wpY_pair (fun r' v' => r' = r ∧ i_Rel (k + 5) u' v') v v1 v2) u v1 v2 := by
  obtain ⟨V, n, G, E, D, tm, f_frozenOn, f_solved, f_solutionCount, f_found, a_kind, a_first, a_second, a_size, a_variablesIn, a_code, a_rowCount, a_rowLeft, a_rowRight, a_goalTable, a_goalX, a_goalY, a_equationX, a_equationY, a_disequalityX, a_disequalityY, a_solutionChoice, a_solutionCode, a_sign, b_first, a_goalFrozen, a_choiceOf, a_value, a_walkX, a_walkY, a_pick, a_bind, a_text, a_from, a_stack, rfl, rfl, h⟩ := I
  have hn := h.2.2.1
  have hV := h.2.1
  have hCX := h.2.2.2.2.2.2.1
  have hCY := h.2.2.2.2.2.2.2.1
  rcases Nat.lt_or_ge n 48 with h48 | h48
  · have i48 : vp_in (nI n) 48 := vp_in_nI h48 (by omega)
    have cn : (nI n).toNatClampNeg = n := nI_clamp (by omega)
    refine pk_lt n 48 (fun _ => ?_) (fun q => absurd q (by omega))
    have nY : ¬ nI n = 48 := fun q => absurd ((nI_eq (b := 48) (by omega) (by omega)).mp q) (by omega)
    rcases fz_ix v1 (n := n) (by omega) with hb | ⟨a, ha, rfl⟩
    · exact fz_icX0 rfl hb (br_t rfl (br_f nY (fz_icY0 rfl hb (br_t rfl ⟨rfl, fz_mk h⟩))))
    · rcases fz_ix v2 (n := n) (by omega) with hb | ⟨b, hb, rfl⟩
      · exact fz_icX1 hn rfl ha (br_f (by decide) (fz_icX0 rfl hb (br_t rfl (br_f nY (fz_icY1 hn rfl ha (br_f (by decide) (fz_icY0 rfl hb (br_t rfl ⟨rfl, fz_mk h⟩))))))))
      · obtain ⟨wa, la, sa, va, ca, _⟩ := hCX a ha
        obtain ⟨wb, lb, sb, vb, cb, _⟩ := hCX b hb
        have ia : vp_in (nI a) 48 := vp_in_nI (by omega) (by omega)
        have ib : vp_in (nI b) 48 := vp_in_nI (by omega) (by omega)
        have ea : (nI a).toNatClampNeg = a := nI_clamp (by omega)
        have eb : (nI b).toNatClampNeg = b := nI_clamp (by omega)
        have SZ : 1 + a_size (nI a).toNatClampNeg + a_size (nI b).toNatClampNeg = nI (1 + (tm a).length + (tm b).length) := by
          rw [ea, eb, sa, sb]
          show nI 1 + _ + _ = _
          rw [nI_add, nI_add]
        have SY' : (1 : Int32) + nI (tm a).length + nI (tm b).length = nI (1 + (tm a).length + (tm b).length) := by
          show nI 1 + _ + _ = _
          rw [nI_add, nI_add]
        have wr : ∀ (post : Int32 → SY → Prop), (∀ tx fr sk, post (nI (tm a).length) (nI V, nI n, nI G, nI E, nI D, f_solved, f_found, a_sign, b_first, a_second, a_rowCount, a_rowLeft, a_rowRight, a_goalTable, a_goalX, a_goalY, a_goalFrozen, a_equationX, a_equationY, a_disequalityX, a_disequalityY, a_choiceOf, a_pick, a_bind, tx, fr, sk)) → wpY_write post (nI V, nI n, nI G, nI E, nI D, f_solved, f_found, a_sign, b_first, a_second, a_rowCount, a_rowLeft, a_rowRight, a_goalTable, a_goalX, a_goalY, a_goalFrozen, a_equationX, a_equationY, a_disequalityX, a_disequalityY, a_choiceOf, a_pick, a_bind, a_text, a_from, a_stack) (nI a) 0 0 := by
          intro post hp
          refine fz_write hV hn hCY (b := fun _ => none) (.inl ⟨rfl, rfl⟩) (base := 0) (by omega) rfl ha rfl (fun tx fr sk _ _ _ => ?_)
          rw [fz_txN]
          exact hp tx fr sk
        have wr2 : ∀ (post : Int32 → SY → Prop) (tx fr sk : Nat → Int32), (∀ tx fr sk, post (nI (tm b).length) (nI V, nI n, nI G, nI E, nI D, f_solved, f_found, a_sign, b_first, a_second, a_rowCount, a_rowLeft, a_rowRight, a_goalTable, a_goalX, a_goalY, a_goalFrozen, a_equationX, a_equationY, a_disequalityX, a_disequalityY, a_choiceOf, a_pick, a_bind, tx, fr, sk)) → wpY_write post (nI V, nI n, nI G, nI E, nI D, f_solved, f_found, a_sign, b_first, a_second, a_rowCount, a_rowLeft, a_rowRight, a_goalTable, a_goalX, a_goalY, a_goalFrozen, a_equationX, a_equationY, a_disequalityX, a_disequalityY, a_choiceOf, a_pick, a_bind, tx, fr, sk) (nI b) 0 0 := by
          intro post tx fr sk hp
          refine fz_write hV hn hCY (b := fun _ => none) (.inl ⟨rfl, rfl⟩) (base := 0) (by omega) rfl hb rfl (fun tx fr sk _ _ _ => ?_)
          rw [fz_txN]
          exact hp tx fr sk
        rcases Nat.lt_or_ge 13 (1 + (tm a).length + (tm b).length) with hs | hs
        · exact fz_icX1 hn rfl ha (br_f (by decide) (fz_icX1 hn rfl hb (br_f (by decide) ⟨ia, ib, pk_le (1 + (tm a).length + (tm b).length) 13 (fun q => absurd q (by omega)) (fun _ => br_f nY (fz_icY1 hn rfl ha (br_f (by decide) (fz_icY1 hn rfl hb (br_f (by decide) (wr _ (fun tx fr sk => wr2 _ tx fr sk (fun tx2 fr2 sk2 => pk_le (1 + (tm a).length + (tm b).length) 13 (fun q => absurd q (by omega)) (fun _ => ⟨rfl, fz_mk h⟩) SY')))))))) SZ⟩)))
        · have PC : ∀ post : Int64 → Prop, post ((((17 * lN (18 ^ (tm a).length)) + a_code a) * lN (18 ^ (tm b).length)) + a_code b) → wpX_pairCode post (nI V, nI n, nI G, f_frozenOn, nI E, nI D, f_solved, f_solutionCount, a_kind, a_first, a_second, a_size, a_variablesIn, a_code, a_rowCount, a_rowLeft, a_rowRight, a_goalTable, a_goalX, a_goalY, a_equationX, a_equationY, a_disequalityX, a_disequalityY, a_solutionChoice, a_solutionCode, a_value, a_walkX, a_walkY) (nI a) (nI b) := by
            intro post hp
            refine ⟨ia, fz_shiftX (m := (tm a).length) (by omega) (by rw [ea]; exact sa) ⟨ib, fz_shiftX (m := (tm b).length) (by omega) (by rw [eb]; exact sb) ⟨ia, ib, ?_⟩⟩⟩
            rw [ea, eb]
            exact hp
          have u1 : ∀ z : Int64, vp_updL a_code (nI n).toNatClampNeg z = vp_updL a_code n z := by intro z; rw [cn]
          have u2 : upd a_size (nI n).toNatClampNeg (1 + a_size (nI a).toNatClampNeg + a_size (nI b).toNatClampNeg) = upd a_size n (nI (1 + (tm a).length + (tm b).length)) := by rw [SZ, cn]
          have u3 : upd a_variablesIn (nI n).toNatClampNeg (a_variablesIn (nI a).toNatClampNeg ||| a_variablesIn (nI b).toNatClampNeg) = upd a_variablesIn n (a_variablesIn a ||| a_variablesIn b) := by rw [ea, eb, cn]
          refine fz_icX1 hn rfl ha (br_f (by decide) (fz_icX1 hn rfl hb (br_f (by decide) ⟨ia, ib, pk_le (1 + (tm a).length + (tm b).length) 13 (fun _ => PC _ ⟨i48, nm_r (u1 _) ⟨ia, ib, i48, nm_r u2 ⟨ia, ib, i48, nm_r u3 (fz_addX h48 rfl ?_)⟩⟩⟩) (fun q => absurd q (by omega)) SZ⟩)))
          refine br_f nY (fz_icY1 hn rfl ha (br_f (by decide) (fz_icY1 hn rfl hb (br_f (by decide) (wr _ (fun tx fr sk => wr2 _ tx fr sk (fun tx2 fr2 sk2 => pk_le (1 + (tm a).length + (tm b).length) 13 (fun _ => fz_mkY h48 rfl ⟨rfl, fz_mk (fz_new h h48 (A := 17 :: (tm a ++ tm b)) (fz_WTP wa wb) ?_ ?_ (fun i hi => ?_) (fun g => ?_) (.inr (.inr ⟨a, b, ha, hb, rfl, rfl, rfl, rfl⟩)) (.inr (.inr ⟨a, b, ha, hb, rfl, rfl, rfl, rfl⟩)))⟩) (fun q => absurd q (by omega)) SY')))))))
          · simp only [List.length_cons, List.length_append]
            omega
          · rw [List.length_cons, List.length_append]
            exact congrArg nI (by omega)
          · rw [b_or, va i hi, vb i hi]
            by_cases q1 : 100 + i ∈ tm a
            · rw [decide_eq_true q1, Bool.true_or, decide_eq_true (List.mem_cons_of_mem _ (List.mem_append_left _ q1))]
            · by_cases q2 : 100 + i ∈ tm b
              · rw [decide_eq_true q2, Bool.or_true, decide_eq_true (List.mem_cons_of_mem _ (List.mem_append_right _ q2))]
              · rw [decide_eq_false q1, decide_eq_false q2, decide_eq_false]
                · rfl
                · intro q
                  rcases List.mem_cons.mp q with e | q
                  · omega
                  · rcases List.mem_append.mp q with q | q
                    · exact q1 q
                    · exact q2 q
          · have g2 := fz_GrP.mp g
            rw [ca g2.1, cb g2.2]
            have e : fz_vl (17 :: (tm a ++ tm b)) = (17 * 18 ^ (tm a).length + fz_vl (tm a)) * 18 ^ (tm b).length + fz_vl (tm b) := by
              rw [fz_vC, fz_vA, List.length_append, Nat.pow_add, Nat.add_mul, Nat.mul_assoc, Nat.add_assoc]
            rw [e, ← lN_add, ← lN_mul, ← lN_add, ← lN_mul]
            rfl
  · exact pk_lt n 48 (fun q => absurd q (by omega)) (fun _ => pk_eq n 48 (fun _ => ⟨rfl, fz_mk h⟩) (fun q => absurd (show n = 48 by omega) q))
