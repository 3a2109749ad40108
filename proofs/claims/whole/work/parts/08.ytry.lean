theorem fz_CtNe {k : Nat} {l : List Nat} (h : fz_Ct (k + 1) l) : l ≠ [] := by
  intro e
  rw [e] at h
  have := fz_CtN h
  omega
theorem fz_pr6 {R : Nat → Nat} : ∀ G, (∀ g, g < G → R g ≤ 6) → fz_pr R G ≤ 6 ^ G := by
  intro G
  induction G with
  | zero => intro _; exact Nat.le_refl _
  | succ G ih =>
    intro h
    show fz_pr R G * R G ≤ 6 ^ (G + 1)
    rw [Nat.pow_succ]
    exact Nat.mul_le_mul (ih (fun g hg => h g (by omega))) (h G (by omega))
theorem fz_prb {R : Nat → Nat} {G : Nat} (hG : G ≤ 4) (h : ∀ g, g < G → R g ≤ 6) : fz_pr R G ≤ 1296 := by
  have h1 := fz_pr6 G h
  have h2 : 6 ^ G ≤ 6 ^ 4 := Nat.pow_le_pow_right (by omega) hG
  have h3 : 6 ^ 4 = 1296 := by decide
  omega
section
variable {f_variables f_cells f_goals f_equations f_disequalities f_solved f_found : Int32} {a_sign a_first a_second a_rows a_left a_right a_goalTable a_goalX a_goalY a_goalFrozen a_equalX a_equalY a_differX a_differY a_choiceOf a_pick a_bind a_text a_from a_stack : Nat → Int32}
variable {V n G E D : Nat} {tm : Nat → List Nat}
theorem fz_read (hV : V ≤ 6) (hn : n ≤ 48) (hC : fz_CY V tm n a_sign a_first a_second) {b : Nat → Option Nat} (hb : fz_Vb tm n a_bind b) {x y : Nat} (hx : x < n) (hy : y < n) (gy : fz_Gr (tm y)) {zx zy : Int32} (ex : zx = nI x) (ey : zy = nI y) {post : Int32 → SY → Prop}
    (h1 : ∀ b' bd tx fr sk, fz_Vb tm n bd b' → fz_le b b' → (∀ v, 100 + v ∈ tm x → b' v ≠ none) → (∀ s, fz_As s → fz_ex tm b s → fz_sb s (tm x) = tm y → fz_ex tm b' s) → post 1 (f_variables, f_cells, f_goals, f_equations, f_disequalities, f_solved, f_found, a_sign, a_first, a_second, a_rows, a_left, a_right, a_goalTable, a_goalX, a_goalY, a_goalFrozen, a_equalX, a_equalY, a_differX, a_differY, a_choiceOf, a_pick, bd, tx, fr, sk))
    (h0 : (∀ s, fz_As s → ¬ fz_sb s (tm x) = tm y) → ∀ bd tx fr sk, post 0 (f_variables, f_cells, f_goals, f_equations, f_disequalities, f_solved, f_found, a_sign, a_first, a_second, a_rows, a_left, a_right, a_goalTable, a_goalX, a_goalY, a_goalFrozen, a_equalX, a_equalY, a_differX, a_differY, a_choiceOf, a_pick, bd, tx, fr, sk)) :
    wpY_readBeside post (f_variables, f_cells, f_goals, f_equations, f_disequalities, f_solved, f_found, a_sign, a_first, a_second, a_rows, a_left, a_right, a_goalTable, a_goalX, a_goalY, a_goalFrozen, a_equalX, a_equalY, a_differX, a_differY, a_choiceOf, a_pick, a_bind, a_text, a_from, a_stack) zx zy := by
  have lx := (hC x hx).2.1
  have ly := (hC y hy).2.1
  refine fz_write hV hn hC (b := fun _ => none) (.inl ⟨rfl, rfl⟩) (base := 0) (by omega) rfl hx ex (fun tx fr sk hsp _ _ => ?_)
  refine fz_write hV hn hC (b := fun _ => none) (.inl ⟨rfl, rfl⟩) (base := 128) (by omega) rfl hy ey (fun tx2 fr2 sk2 hsp2 hfr hk2 => ?_)
  rw [fz_txN] at hsp hsp2 hfr
  rw [fz_txN]
  have hsp1 : fz_sp tx2 0 (tm x) := fz_spk hsp (fun i hi => hk2 _ (by omega))
  have key : ∀ (k i w : Nat) (b' : Nat → Option Nat) (bd sk : Nat → Int32), i + k = (tm x).length → (∃ q, fz_Ct q ((tm x).drop i) ∧ fz_Ct q ((tm y).drop w)) → fz_Vb tm n bd b' → fz_le b b' → (∀ j, j < i → ∀ a, (tm x)[j]? = some a → ∀ v, a = 100 + v → b' v ≠ none) →
      (∀ s, fz_As s → fz_sb s (tm x) = tm y → fz_sb s ((tm x).drop i) = (tm y).drop w ∧ (fz_ex tm b s → fz_ex tm b' s)) → wY_readBeside_24 post (nI (tm x).length) (k + 1) (nI w) (nI i) f_variables f_cells f_goals f_equations f_disequalities f_solved f_found a_sign a_first a_second a_rows a_left a_right a_goalTable a_goalX a_goalY a_goalFrozen a_equalX a_equalY a_differX a_differY a_choiceOf a_pick bd tx2 fr2 sk := by
    intro k
    induction k with
    | zero =>
      intro i w b' bd sk hi _ hb' hle hv hs
      refine pk_le (tm x).length i (fun _ => h1 b' bd tx2 fr2 sk hb' hle (fun v hm => ?_) (fun s hA h0' he => (hs s hA he).2 h0')) (fun h => absurd h (by omega))
      exact fz_nat (P := fun a => ∀ v, a = 100 + v → b' v ≠ none) (fun j hj a ha => hv j (by omega) a ha) _ hm v rfl
    | succ k ih =>
      intro i w b' bd sk hi hq hb' hle hv hs
      obtain ⟨a, ha, hm, hdr⟩ := fz_at (l := tm x) (i := i) (by omega)
      obtain ⟨q, c1, c2⟩ := hq
      obtain ⟨q, rfl⟩ : ∃ r, q = r + 1 := by
        cases q with
        | zero =>
          have e : (tm x).drop i = [] := c1
          rw [hdr] at e
          exact absurd e (by simp)
        | succ r => exact ⟨r, rfl⟩
      have hwl : w < (tm y).length := by
        rcases Nat.lt_or_ge w (tm y).length with h | h
        · exact h
        · exact absurd (List.drop_eq_nil_of_le h) (fz_CtNe c2)
      obtain ⟨a2, ha2, hm2, hdr2⟩ := fz_at (l := tm y) (i := w) hwl
      have ha6 := fz_symb hC hx hm
      have hb6 := fz_symb hC hy hm2
      have T1 : tx2 (nI i).toNatClampNeg = nI a := by rw [nI_clamp (by omega), ← hsp1 i a ha, Nat.zero_add]
      have e1 : (128 : Int32) + nI w = nI (128 + w) := nI_add 128 w
      have c128 : (128 + nI w).toNatClampNeg = 128 + w := by rw [e1]; exact nI_clamp (by omega)
      have T2 : tx2 (128 + nI w).toNatClampNeg = nI a2 := by rw [c128]; exact hsp2 w a2 ha2
      have i1 : vp_in (nI i) 256 := vp_in_nI (by omega) (by omega)
      have i2 : vp_in (128 + nI w) 256 := by rw [e1]; exact vp_in_nI (by omega) (by omega)
      refine pk_le (tm x).length i (fun h => absurd h (by omega)) (fun _ => pk_lt w 128 (fun _ => ⟨i1, pk_lt a 100 (fun hlt => ⟨i1, i2, pk_eq a a2 (fun e => ?_) (fun e => ?_) T1 T2⟩) (fun hge => ?_) T1⟩) (fun h => absurd h (by omega)))
      · subst e
        refine nm_r (nI_1 w) (nm_r (nI_1 i) (ih (i + 1) (w + 1) b' bd sk (by omega) ?_ hb' hle (fun j hj z hz v ez => ?_) (fun s hA he => ?_)))
        · rw [hdr] at c1
          rw [hdr2] at c2
          by_cases e17 : a = 17
          · subst e17
            exact ⟨q + 2, fz_CtP c1, fz_CtP c2⟩
          · exact ⟨q, (fz_CtL c1 e17).2, (fz_CtL c2 e17).2⟩
        · by_cases ej : j = i
          · rw [ej, ha] at hz
            have := Option.some.inj hz
            omega
          · exact hv j (by omega) z hz v ez
        · have hh := hs s hA he
          rw [hdr, hdr2, fz_sbC, fz_s1L hlt] at hh
          exact ⟨(List.cons.inj hh.1).2, hh.2⟩
      · refine h0 (fun s hA he => ?_) bd tx2 fr2 sk
        have hh := (hs s hA he).1
        rw [hdr, hdr2, fz_sbC, fz_s1L hlt] at hh
        exact e (List.cons.inj hh).1
      · obtain ⟨v, rfl⟩ : ∃ v, a = 100 + v := ⟨a - 100, by omega⟩
        obtain ⟨d, rest, hd, efr, hdd⟩ := hfr w hwl
        rw [fz_txN] at hdd
        have wd := (hC d hd).1
        have ld := (hC d hd).2.1
        have gd : fz_Gr (tm d) := by
          intro z hz
          exact gy z (List.mem_of_mem_drop (i := w) (by rw [hdd]; exact List.mem_append_left _ hz))
        have X6 : tx2 (nI i).toNatClampNeg - 100 = nI v := by
          rw [T1]
          have := pk_sub (a := 100 + v) (b := 100) (by omega)
          rw [Nat.add_sub_cancel_left] at this
          exact this
        have X7 : fr2 (128 + nI w).toNatClampNeg = nI d := by rw [c128]; exact efr
        have cv : (nI v).toNatClampNeg = v := nI_clamp (by omega)
        have iv : vp_in (nI v) 6 := vp_in_nI (by omega) (by omega)
        have hrest : rest = (tm y).drop (w + (tm d).length) := by
          rw [← List.drop_drop, hdd, List.drop_left]
        have sub : ∀ s, fz_As s → fz_sb s (tm x) = tm y → s v = tm d ∧ fz_sb s ((tm x).drop (i + 1)) = (tm y).drop (w + (tm d).length) := by
          intro s hA he
          have hh := (hs s hA he).1
          rw [hdr, hdd, fz_sbC, fz_s1V] at hh
          have := fz_cut (fz_AsT hA v) (fz_WTm wd) hh
          rw [← hrest]
          exact this
        have ct : ∃ q, fz_Ct q ((tm x).drop (i + 1)) ∧ fz_Ct q ((tm y).drop (w + (tm d).length)) := by
          rw [hdr] at c1
          rw [hdd] at c2
          rw [← hrest]
          exact ⟨q, (fz_CtL c1 (by omega)).2, fz_CtK wd c2⟩
        rcases hb'.2 v (by omega) with ⟨q1, q2⟩ | ⟨d', q1, q2, q3, q4⟩
        · refine ⟨i1, nm_r X6 ⟨i2, nm_r X7 ⟨iv, br_f ?_ ⟨iv, nm_r (e' := upd bd v (nI d)) (by rw [cv]) ?_⟩⟩⟩⟩
          · rw [cv, q2]
            decide
          · refine fz_len hV hn hC hd rfl (fun sk' => nm_r (nI_add w (tm d).length) (nm_r (nI_1 i) (ih (i + 1) (w + (tm d).length) (fz_set b' v d) (upd bd v (nI d)) sk' (by omega) ct (fz_VbS hb' (by omega) hd gd) (fun u c hu => ?_) (fun j hj z hz u eu => ?_) (fun s hA he => ?_))))
            · have := hle u c hu
              by_cases euv : u = v
              · rw [euv, q1] at this
                exact absurd this (by simp)
              · rw [fz_setN euv]
                exact this
            · by_cases euv : u = v
              · rw [euv, fz_setS]
                simp
              · rw [fz_setN euv]
                by_cases ej : j = i
                · rw [ej, ha] at hz
                  have := Option.some.inj hz
                  omega
                · exact hv j (by omega) z hz u eu
            · obtain ⟨k1, k2⟩ := sub s hA he
              exact ⟨k2, fun h0' => (fz_exS q1 s).mpr ⟨(hs s hA he).2 h0', k1⟩⟩
        · refine ⟨i1, nm_r X6 ⟨i2, nm_r X7 ⟨iv, br_t ?_ ?_⟩⟩⟩
          · rw [cv, q3]
            exact nI_pos' (by omega)
          · refine fz_len hV hn hC hd rfl (fun sk' => nm_r (nI_add w (tm d).length) (nm_r (nI_1 i) (ih (i + 1) (w + (tm d).length) b' bd sk' (by omega) ct hb' hle (fun j hj z hz u eu => ?_) (fun s hA he => ?_))))
            · by_cases ej : j = i
              · rw [ej, ha] at hz
                have := Option.some.inj hz
                have : u = v := by omega
                rw [this, q2]
                simp
              · exact hv j (by omega) z hz u eu
            · exact ⟨(sub s hA he).2, (hs s hA he).2⟩
  exact ⟨(tm x).length + 1, key (tm x).length 0 0 b a_bind sk2 (by omega) ⟨1, fz_Ct1 (hC x hx).1, fz_Ct1 (hC y hy).1⟩ hb (fun v c h => h) (fun j hj => absurd hj (by omega)) (fun s _ he => ⟨he, fun h => h⟩)⟩
theorem fz_unb {post : SY → Prop} (h : ∀ bd : Nat → Int32, (∀ v, v < 6 → bd v = -1) → post (f_variables, f_cells, f_goals, f_equations, f_disequalities, f_solved, f_found, a_sign, a_first, a_second, a_rows, a_left, a_right, a_goalTable, a_goalX, a_goalY, a_goalFrozen, a_equalX, a_equalY, a_differX, a_differY, a_choiceOf, a_pick, bd, a_text, a_from, a_stack)) : wpY_unbind post (f_variables, f_cells, f_goals, f_equations, f_disequalities, f_solved, f_found, a_sign, a_first, a_second, a_rows, a_left, a_right, a_goalTable, a_goalX, a_goalY, a_goalFrozen, a_equalX, a_equalY, a_differX, a_differY, a_choiceOf, a_pick, a_bind, a_text, a_from, a_stack) := by
  have key : ∀ (k i : Nat) (bd : Nat → Int32), i + k = 6 → (∀ v, v < i → bd v = -1) → wY_unbind_2 post f_variables f_cells f_goals f_equations f_disequalities f_solved f_found (k + 1) (nI i) a_sign a_first a_second a_rows a_left a_right a_goalTable a_goalX a_goalY a_goalFrozen a_equalX a_equalY a_differX a_differY a_choiceOf a_pick bd a_text a_from a_stack := by
    intro k
    induction k with
    | zero =>
      intro i bd hi hv
      exact pk_le 6 i (fun _ => h bd (fun v hv' => hv v (by omega))) (fun h => absurd h (by omega))
    | succ k ih =>
      intro i bd hi hv
      refine pk_le 6 i (fun h => absurd h (by omega)) (fun _ => ⟨vp_in_nI (by omega) (by omega), nm_r (e' := upd bd i (-1)) (by rw [nI_clamp (by omega)]) (nm_r (nI_1 i) (ih (i + 1) _ (by omega) (fun v hv' => ?_)))⟩)
      by_cases e : v = i
      · rw [e]
        exact pk_us
      · rw [pk_un e]
        exact hv v (by omega)
  exact ⟨7, key 6 0 a_bind rfl (fun v hv => absurd hv (by omega))⟩
theorem fz_pick (hG : G ≤ 4) (hGO : fz_GO n a_goalTable a_goalX a_goalY G) (hRO : fz_RO tm n a_rows a_left a_right) (eG : f_goals = nI G) {p : Nat → Nat} (hp : ∀ g, g < G → p g < fz_Rw a_rows a_goalTable g) {z : Int32} (ez : z = nI (fz_yR (fz_Rw a_rows a_goalTable) p G)) {post : SY → Prop}
    (h : ∀ pk : Nat → Int32, (∀ g, g < G → pk g = nI (p g)) → post (f_variables, f_cells, f_goals, f_equations, f_disequalities, f_solved, f_found, a_sign, a_first, a_second, a_rows, a_left, a_right, a_goalTable, a_goalX, a_goalY, a_goalFrozen, a_equalX, a_equalY, a_differX, a_differY, a_choiceOf, pk, a_bind, a_text, a_from, a_stack)) : wpY_setPicks post (f_variables, f_cells, f_goals, f_equations, f_disequalities, f_solved, f_found, a_sign, a_first, a_second, a_rows, a_left, a_right, a_goalTable, a_goalX, a_goalY, a_goalFrozen, a_equalX, a_equalY, a_differX, a_differY, a_choiceOf, a_pick, a_bind, a_text, a_from, a_stack) z := by
  subst ez
  have R6 : ∀ g, g < G → fz_Rw a_rows a_goalTable g ≤ 6 := by
    intro g hg
    obtain ⟨t, x, y, ht, _, _, et, _, _⟩ := hGO g hg
    obtain ⟨r, hr, er, _⟩ := hRO t ht
    rw [fz_RwE ht hr et er]
    exact hr
  have key : ∀ (j : Nat) (x3 : Int32) (pk : Nat → Int32), j ≤ G → x3 = nI j + (-1) → (∀ g, j ≤ g → g < G → pk g = nI (p g)) → wY_setPicks_9 post f_variables f_cells f_goals f_equations f_disequalities f_solved f_found (j + 1) (nI (fz_yR (fz_Rw a_rows a_goalTable) p j)) x3 a_sign a_first a_second a_rows a_left a_right a_goalTable a_goalX a_goalY a_goalFrozen a_equalX a_equalY a_differX a_differY a_choiceOf pk a_bind a_text a_from a_stack := by
    intro j
    induction j with
    | zero =>
      intro x3 pk _ e3 hg
      subst e3
      exact br_t (by decide) (h pk (fun g hg' => hg g (Nat.zero_le _) hg'))
    | succ j ih =>
      intro x3 pk hj e3 hg
      rw [pk_m1] at e3
      subst e3
      obtain ⟨t, x, y, ht, _, _, et, _, _⟩ := hGO j (by omega)
      obtain ⟨r, hr, er, _⟩ := hRO t ht
      have hR := fz_RwE ht hr et er
      have hpj := hp j (by omega)
      have hlt := fz_yRlt (R := fz_Rw a_rows a_goalTable) (p := p) (j + 1) (fun g hg' => hp g (by omega))
      have hb := fz_prb (R := fz_Rw a_rows a_goalTable) (G := j + 1) (by omega) (fun g hg' => R6 g (by omega))
      have hs : fz_yR (fz_Rw a_rows a_goalTable) p (j + 1) = fz_Rw a_rows a_goalTable j * fz_yR (fz_Rw a_rows a_goalTable) p j + p j := rfl
      rw [hR] at hs hpj
      have cj : (nI j).toNatClampNeg = j := nI_clamp (by omega)
      have ij : vp_in (nI j) 4 := vp_in_nI (by omega) (by omega)
      have T : a_goalTable (nI j).toNatClampNeg = nI t := by rw [cj]; exact et
      have it : vp_in (a_goalTable (nI j).toNatClampNeg) 4 := by rw [T]; exact vp_in_nI ht (by omega)
      have RC : a_rows (a_goalTable (nI j).toNatClampNeg).toNatClampNeg = nI r := by rw [T, nI_clamp (by omega)]; exact er
      have r0 : 0 < r := by omega
      have nr : ¬ nI r = 0 := nI_ne0 r0 (by omega)
      have eM : nI (fz_yR (fz_Rw a_rows a_goalTable) p (j + 1)) - nI (fz_yR (fz_Rw a_rows a_goalTable) p (j + 1)) / nI r * nI r = nI (p j) := by
        rw [pk_rem (by omega) r0 (by omega), hs, Nat.mul_add_mod, Nat.mod_eq_of_lt hpj]
      have eD : nI (fz_yR (fz_Rw a_rows a_goalTable) p (j + 1)) / nI r = nI (fz_yR (fz_Rw a_rows a_goalTable) p j) := by
        rw [pk_div (by omega) r0 (by omega), hs, Nat.mul_add_div r0, Nat.div_eq_of_lt hpj, Nat.add_zero]
      refine br_f (nI_pos (by omega)) ⟨ij, it, nm_r RC (pk_le r 0 (fun h => absurd h (by omega)) (fun _ => ⟨nr, ij, nm_r (e' := upd pk j (nI (p j))) (by rw [eM, cj]) ⟨nr, nm_r eD (fun x3' e3' => ih x3' _ (by omega) e3' (fun g hg1 hg2 => ?_))⟩⟩))⟩
      by_cases e : g = j
      · rw [e]
        exact pk_us
      · rw [pk_un e]
        exact hg g (by omega) hg2
  exact nm_r (e' := nI G + (-1)) (by rw [eG, Int32.sub_eq_add_neg]) ⟨G + 1, key G _ a_pick (Nat.le_refl _) rfl (fun g h1 h2 => absurd h2 (by omega))⟩
theorem fz_stx {b : Nat → Option Nat} {x : Nat} (hv : ∀ v, 100 + v ∈ tm x → b v ≠ none) {s : Nat → List Nat} (hs : fz_ex tm b s) : fz_sb s (tm x) = fz_tx tm b x := by
  refine fz_sbe (fun v hm => ?_)
  unfold fz_pb
  cases e : b v with
  | none => exact absurd e (hv v hm)
  | some d => exact hs v d e
theorem fz_choices (hG : G ≤ 4) (hGO : fz_GO n a_goalTable a_goalX a_goalY G) (hRO : fz_RO tm n a_rows a_left a_right) (eG : f_goals = nI G) {post : Int32 → Prop} (h : post (nI (fz_pr (fz_Rw a_rows a_goalTable) G))) : wpY_choices post (f_variables, f_cells, f_goals, f_equations, f_disequalities, f_solved, f_found, a_sign, a_first, a_second, a_rows, a_left, a_right, a_goalTable, a_goalX, a_goalY, a_goalFrozen, a_equalX, a_equalY, a_differX, a_differY, a_choiceOf, a_pick, a_bind, a_text, a_from, a_stack) := by
  have key : ∀ (k g : Nat), g + k = G → wY_choices_4 post f_variables f_cells f_goals f_equations f_disequalities f_solved f_found a_sign a_first a_second a_rows a_left a_right a_goalTable a_goalX a_goalY a_goalFrozen a_equalX a_equalY a_differX a_differY a_choiceOf a_pick a_bind a_text a_from a_stack (k + 1) (nI (fz_pr (fz_Rw a_rows a_goalTable) g)) (nI g) := by
    intro k
    induction k with
    | zero =>
      intro g hg
      have e : g = G := by omega
      subst e
      exact pk_le g g (fun _ => h) (fun h => absurd h (by omega)) eG
    | succ k ih =>
      intro g hg
      obtain ⟨t, x, y, ht, _, _, et, _, _⟩ := hGO g (by omega)
      obtain ⟨r, hr, er, _⟩ := hRO t ht
      have hR := fz_RwE ht hr et er
      have cg : (nI g).toNatClampNeg = g := nI_clamp (by omega)
      have T : a_goalTable (nI g).toNatClampNeg = nI t := by rw [cg]; exact et
      have it : vp_in (a_goalTable (nI g).toNatClampNeg) 4 := by rw [T]; exact vp_in_nI ht (by omega)
      have RC : a_rows (a_goalTable (nI g).toNatClampNeg).toNatClampNeg = nI r := by rw [T, nI_clamp (by omega)]; exact er
      refine pk_le G g (fun h => absurd h (by omega)) (fun _ => ⟨vp_in_nI (by omega) (by omega), it, nm_r (e' := nI (fz_pr (fz_Rw a_rows a_goalTable) (g + 1))) ?_ (nm_r (nI_1 g) (ih (g + 1) (by omega)))⟩) eG
      rw [RC, pk_mul]
      show _ = nI (fz_pr (fz_Rw a_rows a_goalTable) g * fz_Rw a_rows a_goalTable g)
      rw [hR]
  exact ⟨G + 1, key G 0 (by omega)⟩
theorem fz_try (hV : V ≤ 6) (hn : n ≤ 48) (hC : fz_CY V tm n a_sign a_first a_second) (hG : G ≤ 4) (hGO : fz_GO n a_goalTable a_goalX a_goalY G) (hRO : fz_RO tm n a_rows a_left a_right) (eG : f_goals = nI G)
    (hE : E ≤ 4) (hQE : fz_QO n a_equalX a_equalY E) (eE : f_equations = nI E) (hD : D ≤ 6) (hQD : fz_QO n a_differX a_differY D) (eD : f_disequalities = nI D)
    (hvE : ∀ i, i < E → ∀ v, (100 + v ∈ tm (a_equalX i).toNatClampNeg ∨ 100 + v ∈ tm (a_equalY i).toNatClampNeg) → fz_Gv tm a_goalX a_goalY G v)
    (hvD : ∀ i, i < D → ∀ v, (100 + v ∈ tm (a_differX i).toNatClampNeg ∨ 100 + v ∈ tm (a_differY i).toNatClampNeg) → fz_Gv tm a_goalX a_goalY G v)
    {p : Nat → Nat} (hp : ∀ g, g < G → p g < fz_Rw a_rows a_goalTable g) {z : Int32} (ez : z = nI (fz_yR (fz_Rw a_rows a_goalTable) p G)) {post : Int32 → SY → Prop}
    (h1 : ∀ b bd pk tx fr sk, fz_Vb tm n bd b → (∀ v, fz_Gv tm a_goalX a_goalY G v → b v ≠ none) → fz_As (fz_tot tm b) → fz_Mt tm a_goalTable a_goalX a_goalY a_left a_right 0 G p (fz_tot tm b) → fz_Eq tm a_equalX a_equalY E (fz_tot tm b) → fz_Df tm a_differX a_differY D (fz_tot tm b) → post 1 (f_variables, f_cells, f_goals, f_equations, f_disequalities, f_solved, f_found, a_sign, a_first, a_second, a_rows, a_left, a_right, a_goalTable, a_goalX, a_goalY, a_goalFrozen, a_equalX, a_equalY, a_differX, a_differY, a_choiceOf, pk, bd, tx, fr, sk))
    (h0 : ¬ fz_Good tm a_goalTable a_goalX a_goalY a_left a_right a_equalX a_equalY a_differX a_differY G E D p → ∀ bd pk tx fr sk, post 0 (f_variables, f_cells, f_goals, f_equations, f_disequalities, f_solved, f_found, a_sign, a_first, a_second, a_rows, a_left, a_right, a_goalTable, a_goalX, a_goalY, a_goalFrozen, a_equalX, a_equalY, a_differX, a_differY, a_choiceOf, pk, bd, tx, fr, sk)) :
    wpY_tryChoice post (f_variables, f_cells, f_goals, f_equations, f_disequalities, f_solved, f_found, a_sign, a_first, a_second, a_rows, a_left, a_right, a_goalTable, a_goalX, a_goalY, a_goalFrozen, a_equalX, a_equalY, a_differX, a_differY, a_choiceOf, a_pick, a_bind, a_text, a_from, a_stack) z := by
  have goalAt : ∀ g, g < G → ∃ t x y c d, t < 4 ∧ x < n ∧ y < n ∧ c < n ∧ d < n ∧ a_goalTable g = nI t ∧ a_goalX g = nI x ∧ a_goalY g = nI y ∧ a_left (6 * t + p g) = nI c ∧ a_right (6 * t + p g) = nI d ∧ fz_Gr (tm c) ∧ fz_Gr (tm d) ∧ p g < 6 := by
    intro g hg
    obtain ⟨t, x, y, ht, hx, hy, et, ex, ey⟩ := hGO g hg
    obtain ⟨r, hr, er, hrow⟩ := hRO t ht
    have hpg := hp g hg
    rw [fz_RwE ht hr et er] at hpg
    obtain ⟨c, d, hc, hd, ec, ed, gc, gd⟩ := hrow (p g) hpg
    exact ⟨t, x, y, c, d, ht, hx, hy, hc, hd, et, ex, ey, ec, ed, gc, gd, by omega⟩
  refine fz_unb (fun bd0 hbd0 => fz_pick hG hGO hRO eG hp ez (fun pk hpk => ?_))
  have hb0 : fz_Vb tm n bd0 (fun _ => none) := ⟨fun _ _ => rfl, fun v hv => .inl ⟨rfl, hbd0 v hv⟩⟩
  -- disequalities
  have L194 : ∀ (b : Nat → Option Nat) (bd : Nat → Int32), fz_Vb tm n bd b → (∀ v, fz_Gv tm a_goalX a_goalY G v → b v ≠ none) → (∀ s, fz_As s → fz_Mt tm a_goalTable a_goalX a_goalY a_left a_right 0 G p s → fz_ex tm b s) → fz_As (fz_tot tm b) → fz_Mt tm a_goalTable a_goalX a_goalY a_left a_right 0 G p (fz_tot tm b) → fz_Eq tm a_equalX a_equalY E (fz_tot tm b) →
      ∀ (k i : Nat) (tx fr sk : Nat → Int32), i + k = D → fz_Df tm a_differX a_differY i (fz_tot tm b) → wY_tryChoice_194 post (k + 1) (nI i) f_variables f_cells f_goals f_equations f_disequalities f_solved f_found a_sign a_first a_second a_rows a_left a_right a_goalTable a_goalX a_goalY a_goalFrozen a_equalX a_equalY a_differX a_differY a_choiceOf pk bd tx fr sk := by
    intro b bd hb hgv hall hA hM hEq k
    induction k with
    | zero =>
      intro i tx fr sk hi hdf
      have e : i = D := by omega
      subst e
      exact pk_le i i (fun _ => h1 b bd pk tx fr sk hb hgv hA hM hEq hdf) (fun h => absurd h (by omega)) eD
    | succ k ih =>
      intro i tx fr sk hi hdf
      obtain ⟨x, y, hx, hy, ex, ey⟩ := hQD i (by omega)
      have hvi := hvD i (by omega)
      rw [ex, ey, nI_clamp (n := x) (by omega), nI_clamp (n := y) (by omega)] at hvi
      have vx : ∀ v, 100 + v ∈ tm x → b v ≠ none := fun v hv => hgv v (hvi v (.inl hv))
      have vy : ∀ v, 100 + v ∈ tm y → b v ≠ none := fun v hv => hgv v (hvi v (.inr hv))
      have ci : (nI i).toNatClampNeg = i := nI_clamp (by omega)
      have ii : vp_in (nI i) 6 := vp_in_nI (by omega) (by omega)
      refine pk_le D i (fun h => absurd h (by omega)) (fun _ => ⟨ii, ii, fz_same hV hn hC hb hx hy (by rw [ci]; exact ex) (by rw [ci]; exact ey) (fun e tx' fr' sk' => ?_) (fun e tx' fr' sk' => ?_)⟩) eD
      · refine br_f (by decide) (h0 ?_ bd pk tx' fr' sk')
        rintro ⟨s, hs, m, _, dd⟩
        have hx' := hall s hs m
        have := dd i (by omega)
        rw [ex, ey, nI_clamp (n := x) (by omega), nI_clamp (n := y) (by omega), fz_stx vx hx', fz_stx vy hx'] at this
        exact this e
      · refine br_t rfl (nm_r (nI_1 i) (ih (i + 1) tx' fr' sk' (by omega) (fun j hj => ?_)))
        rcases Nat.lt_or_ge j i with h2 | h2
        · exact hdf j h2
        · have : j = i := by omega
          subst this
          rw [ex, ey, nI_clamp (n := x) (by omega), nI_clamp (n := y) (by omega), fz_stx vx (fz_totE tm b), fz_stx vy (fz_totE tm b)]
          exact e
  -- equations
  have L157 : ∀ (b : Nat → Option Nat) (bd : Nat → Int32), fz_Vb tm n bd b → (∀ v, fz_Gv tm a_goalX a_goalY G v → b v ≠ none) → (∀ s, fz_As s → fz_Mt tm a_goalTable a_goalX a_goalY a_left a_right 0 G p s → fz_ex tm b s) → fz_As (fz_tot tm b) → fz_Mt tm a_goalTable a_goalX a_goalY a_left a_right 0 G p (fz_tot tm b) →
      ∀ (k i : Nat) (tx fr sk : Nat → Int32), i + k = E → fz_Eq tm a_equalX a_equalY i (fz_tot tm b) → wY_tryChoice_157 post (k + 1) (nI i) f_variables f_cells f_goals f_equations f_disequalities f_solved f_found a_sign a_first a_second a_rows a_left a_right a_goalTable a_goalX a_goalY a_goalFrozen a_equalX a_equalY a_differX a_differY a_choiceOf pk bd tx fr sk := by
    intro b bd hb hgv hall hA hM k
    induction k with
    | zero =>
      intro i tx fr sk hi heq
      have e : i = E := by omega
      subst e
      exact pk_le i i (fun _ => ⟨D + 1, L194 b bd hb hgv hall hA hM heq D 0 tx fr sk (by omega) (fun j hj => absurd hj (by omega))⟩) (fun h => absurd h (by omega)) eE
    | succ k ih =>
      intro i tx fr sk hi heq
      obtain ⟨x, y, hx, hy, ex, ey⟩ := hQE i (by omega)
      have hvi := hvE i (by omega)
      rw [ex, ey, nI_clamp (n := x) (by omega), nI_clamp (n := y) (by omega)] at hvi
      have vx : ∀ v, 100 + v ∈ tm x → b v ≠ none := fun v hv => hgv v (hvi v (.inl hv))
      have vy : ∀ v, 100 + v ∈ tm y → b v ≠ none := fun v hv => hgv v (hvi v (.inr hv))
      have ci : (nI i).toNatClampNeg = i := nI_clamp (by omega)
      have ii : vp_in (nI i) 4 := vp_in_nI (by omega) (by omega)
      refine pk_le E i (fun h => absurd h (by omega)) (fun _ => ⟨ii, ii, fz_same hV hn hC hb hx hy (by rw [ci]; exact ex) (by rw [ci]; exact ey) (fun e tx' fr' sk' => ?_) (fun e tx' fr' sk' => ?_)⟩) eE
      · refine br_f (by decide) (nm_r (nI_1 i) (ih (i + 1) tx' fr' sk' (by omega) (fun j hj => ?_)))
        rcases Nat.lt_or_ge j i with h2 | h2
        · exact heq j h2
        · have : j = i := by omega
          subst this
          rw [ex, ey, nI_clamp (n := x) (by omega), nI_clamp (n := y) (by omega), fz_stx vx (fz_totE tm b), fz_stx vy (fz_totE tm b)]
          exact e
      · refine br_t rfl (h0 ?_ bd pk tx' fr' sk')
        rintro ⟨s, hs, m, qq, _⟩
        have hx' := hall s hs m
        have := qq i (by omega)
        rw [ex, ey, nI_clamp (n := x) (by omega), nI_clamp (n := y) (by omega), fz_stx vx hx', fz_stx vy hx'] at this
        exact e this
  -- the goals once more, with the values
  have L84 : ∀ (b : Nat → Option Nat) (bd : Nat → Int32), fz_Vb tm n bd b → (∀ v, fz_Gv tm a_goalX a_goalY G v → b v ≠ none) → (∀ s, fz_As s → fz_Mt tm a_goalTable a_goalX a_goalY a_left a_right 0 G p s → fz_ex tm b s) → fz_As (fz_tot tm b) →
      ∀ (k g : Nat) (tx fr sk : Nat → Int32), g + k = G → (∀ j, j < g → fz_sb (fz_tot tm b) (tm (a_goalX j).toNatClampNeg) = tm (a_left (6 * (a_goalTable j).toNatClampNeg + p j)).toNatClampNeg ∧ fz_sb (fz_tot tm b) (tm (a_goalY j).toNatClampNeg) = tm (a_right (6 * (a_goalTable j).toNatClampNeg + p j)).toNatClampNeg) → wY_tryChoice_84 post (k + 1) (nI g) f_variables f_cells f_goals f_equations f_disequalities f_solved f_found a_sign a_first a_second a_rows a_left a_right a_goalTable a_goalX a_goalY a_goalFrozen a_equalX a_equalY a_differX a_differY a_choiceOf pk bd tx fr sk := by
    intro b bd hb hgv hall hA k
    induction k with
    | zero =>
      intro g tx fr sk hg hm
      have e : g = G := by omega
      subst e
      exact pk_le g g (fun _ => ⟨E + 1, L157 b bd hb hgv hall hA (fun j _ hj => hm j hj) E 0 tx fr sk (by omega) (fun j hj => absurd hj (by omega))⟩) (fun h => absurd h (by omega)) eG
    | succ k ih =>
      intro g tx fr sk hg hm
      obtain ⟨t, x, y, c, d, ht, hx, hy, hc, hd, et, ex, ey, ec, ed, gc, gd, hp6⟩ := goalAt g (by omega)
      have cg : (nI g).toNatClampNeg = g := nI_clamp (by omega)
      have ig : vp_in (nI g) 4 := vp_in_nI (by omega) (by omega)
      have IX : 6 * a_goalTable (nI g).toNatClampNeg + pk (nI g).toNatClampNeg = nI (6 * t + p g) := by
        rw [cg, et, hpk g (by omega)]
        show nI 6 * nI t + nI (p g) = _
        rw [pk_mul, nI_add]
      have iI : vp_in (nI (6 * t + p g)) 24 := vp_in_nI (by omega) (by omega)
      have GX : a_goalX (nI g).toNatClampNeg = nI x := by rw [cg]; exact ex
      have GY : a_goalY (nI g).toNatClampNeg = nI y := by rw [cg]; exact ey
      have LL : a_left (nI (6 * t + p g)).toNatClampNeg = nI c := by rw [nI_clamp (by omega)]; exact ec
      have RR : a_right (nI (6 * t + p g)).toNatClampNeg = nI d := by rw [nI_clamp (by omega)]; exact ed
      have vx : ∀ v, 100 + v ∈ tm x → b v ≠ none := fun v hv => hgv v ⟨g, by omega, .inl (by rw [ex, nI_clamp (by omega)]; exact hv)⟩
      have vy : ∀ v, 100 + v ∈ tm y → b v ≠ none := fun v hv => hgv v ⟨g, by omega, .inr (by rw [ey, nI_clamp (by omega)]; exact hv)⟩
      have step := fun s => fz_MtS (tm := tm) (gt := a_goalTable) (gx := a_goalX) (gy := a_goalY) (rl := a_left) (rr := a_right) (j := g) (G := G) (p := p) (s := s) (by omega) ht (by omega) (by omega) (by omega) (by omega) et ex ey ec ed
      refine pk_le G g (fun h => absurd h (by omega)) (fun _ => ⟨ig, ig, nm_r IX ⟨ig, iI, fz_same hV hn hC hb hx hc GX LL (fun e tx' fr' sk' => ?_) (fun e tx' fr' sk' => ?_)⟩⟩) eG
      · refine br_f (by decide) ⟨ig, iI, fz_same hV hn hC hb hy hd GY RR (fun e2 tx2 fr2 sk2 => ?_) (fun e2 tx2 fr2 sk2 => ?_)⟩
        · refine br_f (by decide) (nm_r (nI_1 g) (ih (g + 1) tx2 fr2 sk2 (by omega) (fun j hj => ?_)))
          rcases Nat.lt_or_ge j g with h2 | h2
          · exact hm j h2
          · have : j = g := by omega
            subst this
            rw [et, nI_clamp (n := t) (by omega), ex, ey, ec, ed, nI_clamp (n := x) (by omega), nI_clamp (n := y) (by omega), nI_clamp (n := c) (by omega), nI_clamp (n := d) (by omega), fz_stx vx (fz_totE tm b), fz_stx vy (fz_totE tm b), e, e2, fz_txG gc, fz_txG gd]
            exact ⟨rfl, rfl⟩
        · refine br_t rfl (h0 ?_ bd pk tx2 fr2 sk2)
          rintro ⟨s, hs, m, _, _⟩
          have hx' := hall s hs m
          have := ((step s).mp (fun j _ hj => m j (Nat.zero_le _) hj)).1.2
          rw [fz_stx vy hx', ← fz_txG (b := b) gd] at this
          exact e2 this
      · refine br_t rfl (h0 ?_ bd pk tx' fr' sk')
        rintro ⟨s, hs, m, _, _⟩
        have hx' := hall s hs m
        have := ((step s).mp (fun j _ hj => m j (Nat.zero_le _) hj)).1.1
        rw [fz_stx vx hx', ← fz_txG (b := b) gc] at this
        exact e this
  -- the goals read beside their rows
  have L11 : ∀ (k g : Nat) (b : Nat → Option Nat) (bd tx fr sk : Nat → Int32), g + k = G → fz_Vb tm n bd b → (∀ j, j < g → ∀ v, (100 + v ∈ tm (a_goalX j).toNatClampNeg ∨ 100 + v ∈ tm (a_goalY j).toNatClampNeg) → b v ≠ none) → (∀ s, fz_As s → fz_Mt tm a_goalTable a_goalX a_goalY a_left a_right 0 G p s → fz_ex tm b s) →
      wY_tryChoice_11 post (k + 1) (nI g) f_variables f_cells f_goals f_equations f_disequalities f_solved f_found a_sign a_first a_second a_rows a_left a_right a_goalTable a_goalX a_goalY a_goalFrozen a_equalX a_equalY a_differX a_differY a_choiceOf pk bd tx fr sk := by
    intro k
    induction k with
    | zero =>
      intro g b bd tx fr sk hg hb hv hall
      have e : g = G := by omega
      subst e
      have hA : fz_As (fz_tot tm b) := fz_totA (fun v c hvc => ⟨(hC c (fz_Vbn hb v c hvc).2.1).1, (fz_Vbn hb v c hvc).2.2.2⟩)
      refine pk_le g g (fun _ => ⟨g + 1, L84 b bd hb (fun v hgv => ?_) hall hA g 0 tx fr sk (by omega) (fun j hj => absurd hj (by omega))⟩) (fun h => absurd h (by omega)) eG
      obtain ⟨j, hj, hh⟩ := hgv
      exact hv j hj v hh
    | succ k ih =>
      intro g b bd tx fr sk hg hb hv hall
      obtain ⟨t, x, y, c, d, ht, hx, hy, hc, hd, et, ex, ey, ec, ed, gc, gd, hp6⟩ := goalAt g (by omega)
      have cg : (nI g).toNatClampNeg = g := nI_clamp (by omega)
      have ig : vp_in (nI g) 4 := vp_in_nI (by omega) (by omega)
      have IX : 6 * a_goalTable (nI g).toNatClampNeg + pk (nI g).toNatClampNeg = nI (6 * t + p g) := by
        rw [cg, et, hpk g (by omega)]
        show nI 6 * nI t + nI (p g) = _
        rw [pk_mul, nI_add]
      have iI : vp_in (nI (6 * t + p g)) 24 := vp_in_nI (by omega) (by omega)
      have GX : a_goalX (nI g).toNatClampNeg = nI x := by rw [cg]; exact ex
      have GY : a_goalY (nI g).toNatClampNeg = nI y := by rw [cg]; exact ey
      have LL : a_left (nI (6 * t + p g)).toNatClampNeg = nI c := by rw [nI_clamp (by omega)]; exact ec
      have RR : a_right (nI (6 * t + p g)).toNatClampNeg = nI d := by rw [nI_clamp (by omega)]; exact ed
      have step := fun s => fz_MtS (tm := tm) (gt := a_goalTable) (gx := a_goalX) (gy := a_goalY) (rl := a_left) (rr := a_right) (j := g) (G := G) (p := p) (s := s) (by omega) ht (by omega) (by omega) (by omega) (by omega) et ex ey ec ed
      refine pk_le G g (fun h => absurd h (by omega)) (fun _ => ⟨ig, ig, nm_r IX ⟨ig, iI, fz_read hV hn hC hb hx hc gc GX LL (fun b1 bd1 tx1 fr1 sk1 hb1 le1 v1 a1 => ?_) (fun e bd1 tx1 fr1 sk1 => ?_)⟩⟩) eG
      · refine br_f (by decide) ⟨ig, iI, fz_read hV hn hC hb1 hy hd gd GY RR (fun b2 bd2 tx2 fr2 sk2 hb2 le2 v2 a2 => ?_) (fun e bd2 tx2 fr2 sk2 => ?_)⟩
        · refine br_f (by decide) (nm_r (nI_1 g) (ih (g + 1) b2 bd2 tx2 fr2 sk2 (by omega) hb2 (fun j hj v hh => ?_) (fun s hs m => ?_)))
          · rcases Nat.lt_or_ge j g with h2 | h2
            · exact fz_lene le2 (fz_lene le1 (hv j h2 v hh))
            · have : j = g := by omega
              subst this
              rw [ex, ey, nI_clamp (n := x) (by omega), nI_clamp (n := y) (by omega)] at hh
              rcases hh with hh | hh
              · exact fz_lene le2 (v1 v hh)
              · exact v2 v hh
          · have q := ((step s).mp (fun j _ hj => m j (Nat.zero_le _) hj)).1
            exact a2 s hs (a1 s hs (hall s hs m) q.1) q.2
        · refine br_t rfl (h0 ?_ bd2 pk tx2 fr2 sk2)
          rintro ⟨s, hs, m, _, _⟩
          exact e s hs ((step s).mp (fun j _ hj => m j (Nat.zero_le _) hj)).1.2
      · refine br_t rfl (h0 ?_ bd1 pk tx1 fr1 sk1)
        rintro ⟨s, hs, m, _, _⟩
        exact e s hs ((step s).mp (fun j _ hj => m j (Nat.zero_le _) hj)).1.1
  exact ⟨G + 1, L11 G 0 (fun _ => none) bd0 a_text a_from a_stack (by omega) hb0 (fun j hj => absurd hj (by omega)) (fun s _ _ v c hvc => absurd hvc (by simp))⟩
theorem fz_num (hV : V ≤ 6) (hn : n ≤ 48) (hC : fz_CY V tm n a_sign a_first a_second) {c : Nat} (hc : c < n) {z : Int32} (ez : z = nI c) {post : Int64 → SY → Prop} (h : ∀ tx fr sk, post (lN (fz_vl (tm c))) (f_variables, f_cells, f_goals, f_equations, f_disequalities, f_solved, f_found, a_sign, a_first, a_second, a_rows, a_left, a_right, a_goalTable, a_goalX, a_goalY, a_goalFrozen, a_equalX, a_equalY, a_differX, a_differY, a_choiceOf, a_pick, a_bind, tx, fr, sk)) : wpY_number post (f_variables, f_cells, f_goals, f_equations, f_disequalities, f_solved, f_found, a_sign, a_first, a_second, a_rows, a_left, a_right, a_goalTable, a_goalX, a_goalY, a_goalFrozen, a_equalX, a_equalY, a_differX, a_differY, a_choiceOf, a_pick, a_bind, a_text, a_from, a_stack) z := by
  refine fz_write hV hn hC (b := fun _ => none) (.inl ⟨rfl, rfl⟩) (base := 0) (by omega) rfl hc ez (fun tx fr sk hsp _ _ => ?_)
  rw [fz_txN] at hsp ⊢
  have hl := (hC c hc).2.1
  have key : ∀ (r w : List Nat), tm c = w ++ r → wY_number_13 post (nI (tm c).length) f_variables f_cells f_goals f_equations f_disequalities f_solved f_found a_sign a_first a_second a_rows a_left a_right a_goalTable a_goalX a_goalY a_goalFrozen a_equalX a_equalY a_differX a_differY a_choiceOf a_pick a_bind tx fr sk (r.length + 1) (lN (fz_vl w)) (nI w.length) := by
    intro r
    induction r with
    | nil =>
      intro w e
      rw [List.append_nil] at e
      rw [← e]
      exact pk_le (tm c).length (tm c).length (fun _ => h tx fr sk) (fun h => absurd h (by omega))
    | cons a r ih =>
      intro w e
      have hlen : (tm c).length = w.length + (r.length + 1) := by rw [e, List.length_append, List.length_cons]
      have hm : a ∈ tm c := by rw [e]; exact List.mem_append_right _ List.mem_cons_self
      have ha := fz_symb hC hc hm
      have hg : (tm c)[w.length]? = some a := by
        rw [e, List.getElem?_append_right (Nat.le_refl _), Nat.sub_self]
        rfl
      have T : tx (nI w.length).toNatClampNeg = nI a := by rw [nI_clamp (by omega), ← hsp _ a hg, Nat.zero_add]
      have N : 18 * lN (fz_vl w) + (tx (nI w.length).toNatClampNeg).toInt64 = lN (fz_vl (w ++ [a])) := by
        rw [T, nI_l (by omega), fz_vS, ← lN_add, ← lN_mul]
        rfl
      have L1 : nI w.length + 1 = nI (w ++ [a]).length := by rw [nI_1, List.length_append]; rfl
      exact pk_le (tm c).length w.length (fun h => absurd h (by omega)) (fun _ => ⟨vp_in_nI (by omega) (by omega), nm_r N (nm_r L1 (ih (w ++ [a]) (by rw [e]; simp)))⟩)
  exact ⟨(tm c).length + 1, key (tm c) [] rfl⟩
end
