/-! ===== the cells, Y's side ===== -/
def fz_cy (V : Nat) (tm : Nat → List Nat) (sg fs sd : Nat → Int32) (c : Nat) : Prop :=
  fz_WT (tm c) ∧ (tm c).length ≤ 13 ∧
  ((∃ a, 1 ≤ a ∧ a ≤ 16 ∧ tm c = [a] ∧ sg c = nI a) ∨ (∃ v, v < V ∧ tm c = [100 + v] ∧ sg c = nI (100 + v)) ∨ (∃ a b, a < c ∧ b < c ∧ tm c = 17 :: (tm a ++ tm b) ∧ sg c = nI 17 ∧ fs c = nI a ∧ sd c = nI b))
def fz_CY (V : Nat) (tm : Nat → List Nat) (n : Nat) (sg fs sd : Nat → Int32) : Prop := ∀ c, c < n → fz_cy V tm sg fs sd c
/-- a cell's text as it is written -/
def fz_tx (tm : Nat → List Nat) (b : Nat → Option Nat) (c : Nat) : List Nat := fz_sb (fz_pb tm b) (tm c)
theorem fz_txN (tm : Nat → List Nat) (c : Nat) : fz_tx tm (fun _ => none) c = tm c := fz_sbi (tm c)
theorem fz_txG {tm : Nat → List Nat} {b : Nat → Option Nat} {c : Nat} (h : fz_Gr (tm c)) : fz_tx tm b c = tm c := fz_sbg h _
/-- what 'from' holds: at each place a cell whose text begins there -/
def fz_fr (tm : Nat → List Nat) (b : Nat → Option Nat) (n : Nat) (fr : Nat → Int32) (base m : Nat) (L : List Nat) : Prop :=
  ∀ i, i < m → ∃ d rest, d < n ∧ fr (base + i) = nI d ∧ L.drop i = fz_tx tm b d ++ rest
section
variable {f_variables f_cells f_goals f_equations f_disequalities f_solved f_found : Int32} {a_sign a_first a_second a_rows a_left a_right a_goalTable a_goalX a_goalY a_goalFrozen a_equalX a_equalY a_differX a_differY a_choiceOf a_pick a_bind a_text a_from a_stack : Nat → Int32}
variable {V n : Nat} {tm : Nat → List Nat}
theorem fz_yrep (hV : V ≤ 6) (hn : n ≤ 48) (hC : fz_CY V tm n a_sign a_first a_second) {fl : Int32} {b : Nat → Option Nat} (hf : (fl = 0 ∧ b = fun _ => none) ∨ (fl = 1 ∧ fz_Vb tm n a_bind b)) {c : Nat} (hc : c < n) :
    ∃ c', c' < n ∧ fz_tx tm b c' = fz_tx tm b c ∧ ((∃ h, h ≠ 17 ∧ h < 106 ∧ a_sign c' = nI h ∧ fz_tx tm b c' = [h]) ∨ (∃ a d, a < n ∧ d < n ∧ a_sign c' = nI 17 ∧ a_first c' = nI a ∧ a_second c' = nI d ∧ fz_tx tm b c' = 17 :: (fz_tx tm b a ++ fz_tx tm b d))) ∧
      (∀ W : Int32 → Prop, W (nI c') → ((fl = 0 → W (nI c)) ∧ (¬ fl = 0 → (vp_in (nI c) 48 ∧ ((a_sign (nI c).toNatClampNeg < 100 → W (nI c)) ∧ (¬ a_sign (nI c).toNatClampNeg < 100 → (vp_in (nI c) 48 ∧ (vp_in (a_sign (nI c).toNatClampNeg - 100) 6 ∧ ((a_bind (a_sign (nI c).toNatClampNeg - 100).toNatClampNeg < 0 → W (nI c)) ∧ (¬ a_bind (a_sign (nI c).toNatClampNeg - 100).toNatClampNeg < 0 → (vp_in (nI c) 48 ∧ (vp_in (a_sign (nI c).toNatClampNeg - 100) 6 ∧ (∀ y : Int32, y = a_bind (a_sign (nI c).toNatClampNeg - 100).toNatClampNeg → W y))))))))))))) := by
  have ec : (nI c).toNatClampNeg = c := nI_clamp (by omega)
  have ic : vp_in (nI c) 48 := vp_in_nI (by omega) (by omega)
  have leaf : ∀ c', c' < n → fz_Gr (tm c') → ((∃ h, h ≠ 17 ∧ h < 106 ∧ a_sign c' = nI h ∧ fz_tx tm b c' = [h]) ∨ (∃ a d, a < n ∧ d < n ∧ a_sign c' = nI 17 ∧ a_first c' = nI a ∧ a_second c' = nI d ∧ fz_tx tm b c' = 17 :: (fz_tx tm b a ++ fz_tx tm b d))) := by
    intro c' hc' g
    obtain ⟨_, _, h⟩ := hC c' hc'
    rcases h with ⟨a, l1, l2, e, es⟩ | ⟨v, hv, e, es⟩ | ⟨a, d, la, ld, e, es, ef, ed⟩
    · exact .inl ⟨a, by omega, by omega, es, by rw [fz_txG g, e]⟩
    · have := g (100 + v) (by rw [e]; exact List.mem_singleton.mpr rfl)
      omega
    · exact .inr ⟨a, d, by omega, by omega, es, ef, ed, by unfold fz_tx; rw [e, fz_sbP]⟩
  obtain ⟨hw, hl, h⟩ := hC c hc
  rcases h with ⟨a, l1, l2, e, es⟩ | ⟨v, hv, e, es⟩ | ⟨a, d, la, ld, e, es, ef, ed⟩
  · have S : a_sign (nI c).toNatClampNeg < 100 := by
      rw [ec, es]
      exact (nI_ltI (b := 100) (by omega) (by omega)).mpr (by omega)
    have g : fz_Gr (tm c) := by
      intro z hz
      rw [e, List.mem_singleton] at hz
      omega
    exact ⟨c, hc, rfl, leaf c hc g, fun W w => br_c (fun _ => w) (fun _ => ⟨ic, br_t S w⟩)⟩
  · have S : ¬ a_sign (nI c).toNatClampNeg < 100 := by
      rw [ec, es]
      exact fun z => absurd ((nI_ltI (b := 100) (by omega) (by omega)).mp z) (by omega)
    have S2 : a_sign (nI c).toNatClampNeg - 100 = nI v := by
      rw [ec, es]
      have := pk_sub (a := 100 + v) (b := 100) (by omega)
      rw [Nat.add_sub_cancel_left] at this
      exact this
    have i6 : vp_in (a_sign (nI c).toNatClampNeg - 100) 6 := by rw [S2]; exact vp_in_nI (by omega) (by omega)
    have B : a_bind (a_sign (nI c).toNatClampNeg - 100).toNatClampNeg = a_bind v := by rw [S2, nI_clamp (by omega)]
    have own : b v = none → fz_tx tm b c = [100 + v] := by
      intro hb
      unfold fz_tx
      rw [e, fz_sbV]
      unfold fz_pb
      rw [hb]
    rcases hf with ⟨f0, eb⟩ | ⟨f1, hb⟩
    · have ob := own (by rw [eb])
      exact ⟨c, hc, rfl, .inl ⟨100 + v, by omega, by omega, es, ob⟩, fun W w => br_t f0 w⟩
    · have nf : ¬ fl = 0 := by rw [f1]; decide
      rcases hb.2 v (by omega) with ⟨q1, q2⟩ | ⟨d, q1, q2, q3, q4⟩
      · have ob := own q1
        refine ⟨c, hc, rfl, .inl ⟨100 + v, by omega, by omega, es, ob⟩, fun W w => br_f nf ⟨ic, br_f S ⟨ic, i6, br_t ?_ w⟩⟩⟩
        rw [B, q2]
        decide
      · have ob : fz_tx tm b d = fz_tx tm b c := by
          rw [fz_txG q4]
          unfold fz_tx
          rw [e, fz_sbV]
          unfold fz_pb
          rw [q2]
        refine ⟨d, q1, ob, leaf d q1 q4, fun W w => br_f nf ⟨ic, br_f S ⟨ic, i6, br_f ?_ ⟨ic, i6, nm_r (B.trans q3) w⟩⟩⟩⟩
        rw [B, q3]
        exact nI_pos (by omega)
  · have S : a_sign (nI c).toNatClampNeg < 100 := by
      rw [ec, es]
      exact (nI_ltI (a := 17) (b := 100) (by omega) (by omega)).mpr (by omega)
    refine ⟨c, hc, rfl, .inr ⟨a, d, by omega, by omega, es, ef, ed, by unfold fz_tx; rw [e, fz_sbP]⟩, fun W w => br_c (fun _ => w) (fun _ => ⟨ic, br_t S w⟩)⟩
theorem fz_txl {b : Nat → Option Nat} (hC : fz_CY V tm n a_sign a_first a_second) (hb : ∀ v d, b v = some d → d < n) {c : Nat} (hc : c < n) : (fz_tx tm b c).length ≤ 97 := by
  have h := fz_sbl (s := fz_pb tm b) (fun v => ?_) (hC c hc).1
  · have := (hC c hc).2.1
    unfold fz_tx
    omega
  · unfold fz_pb
    cases e : b v with
    | none => simp
    | some d => exact (hC d (hb v d e)).2.1
theorem fz_tx1 (hV : V ≤ 6) (hn : n ≤ 48) (hC : fz_CY V tm n a_sign a_first a_second) {fl : Int32} {b : Nat → Option Nat} (hf : (fl = 0 ∧ b = fun _ => none) ∨ (fl = 1 ∧ fz_Vb tm n a_bind b)) {c : Nat} (hc : c < n) : 1 ≤ (fz_tx tm b c).length := by
  obtain ⟨_, _, ea, hh', _⟩ := fz_yrep hV hn hC hf hc
  rw [← ea]
  rcases hh' with ⟨_, _, _, _, e⟩ | ⟨_, _, _, _, _, _, _, e⟩
  · rw [e]
    simp
  · rw [e]
    simp
theorem fz_txm (hV : V ≤ 6) (hn : n ≤ 48) (hC : fz_CY V tm n a_sign a_first a_second) {fl : Int32} {b : Nat → Option Nat} (hf : (fl = 0 ∧ b = fun _ => none) ∨ (fl = 1 ∧ fz_Vb tm n a_bind b)) : ∀ (st : List Nat), (∀ c, c ∈ st → c < n) → st.length ≤ (st.flatMap (fz_tx tm b)).length := by
  intro st
  induction st with
  | nil => intro _; exact Nat.zero_le _
  | cons c t ih =>
    intro h
    have h1 := ih (fun z hz => h z (List.mem_cons_of_mem _ hz))
    have h2 : 1 ≤ (fz_tx tm b c).length := fz_tx1 hV hn hC hf (h c List.mem_cons_self)
    rw [List.flatMap_cons, List.length_append, List.length_cons]
    omega
theorem fz_wrL (hV : V ≤ 6) (hn : n ≤ 48) (hC : fz_CY V tm n a_sign a_first a_second) {fl : Int32} {b : Nat → Option Nat} (hf : (fl = 0 ∧ b = fun _ => none) ∨ (fl = 1 ∧ fz_Vb tm n a_bind b)) {base : Nat} (hbase : base ≤ 128) {L : List Nat} (hL : L.length ≤ 97) {post : Int32 → SY → Prop}
    (h : ∀ tx fr sk, fz_sp tx base L → fz_fr tm b n fr base L.length L → (∀ j, j < base → tx j = a_text j) → post (nI L.length) (f_variables, f_cells, f_goals, f_equations, f_disequalities, f_solved, f_found, a_sign, a_first, a_second, a_rows, a_left, a_right, a_goalTable, a_goalX, a_goalY, a_goalFrozen, a_equalX, a_equalY, a_differX, a_differY, a_choiceOf, a_pick, a_bind, tx, fr, sk)) :
    ∀ (m : Nat) (st w : List Nat) (tx fr sk : Nat → Int32), (st.flatMap (fz_tx tm b)).length < m → (∀ c, c ∈ st → c < n) → L = w ++ st.flatMap (fz_tx tm b) → st.length ≤ w.length + 1 → st.length ≤ (st.flatMap (fz_tx tm b)).length → fz_sk sk st → fz_sp tx base w → fz_fr tm b n fr base w.length L → (∀ j, j < base → tx j = a_text j) →
      wY_write_16 post fl (nI base) f_variables f_cells f_goals f_equations f_disequalities f_solved f_found m (nI w.length) (nI st.length) (nI w.length) a_sign a_first a_second a_rows a_left a_right a_goalTable a_goalX a_goalY a_goalFrozen a_equalX a_equalY a_differX a_differY a_choiceOf a_pick a_bind tx fr sk := by
  intro m
  induction m with
  | zero => intro st w tx fr sk hm; omega
  | succ m ih =>
    intro st w tx fr sk hm hst hLw hd1 hd2 hsk hsp hfr hkeep
    have hlen : L.length = w.length + (st.flatMap (fz_tx tm b)).length := by rw [hLw, List.length_append]
    cases st with
    | nil =>
      have e : L = w := by simpa using hLw
      refine pk_le 256 w.length (fun h => absurd h (by omega)) (fun _ => pk_le 0 0 (fun _ => ?_) (fun h => absurd h (by omega)))
      rw [← e] at hsp hfr ⊢
      exact h tx fr sk hsp hfr hkeep
    | cons c t =>
      have hcl : ((c :: t).flatMap (fz_tx tm b)) = fz_tx tm b c ++ t.flatMap (fz_tx tm b) := List.flatMap_cons
      have hll : (c :: t).length = t.length + 1 := rfl
      have hc := hst c List.mem_cons_self
      obtain ⟨c', hc', ec', hh, hW⟩ := fz_yrep hV hn hC hf hc
      rw [hcl] at hLw hm hlen hd2
      rw [← ec'] at hLw hm hlen hd2
      have ix : (nI t.length).toNatClampNeg = t.length := nI_clamp (by omega)
      have SK : sk (nI t.length).toNatClampNeg = nI c := by rw [ix]; exact hsk.1
      have i64 : vp_in (nI t.length) 64 := vp_in_nI (by omega) (by omega)
      have ic : vp_in (nI c') 48 := vp_in_nI (by omega) (by omega)
      have cc : (nI c').toNatClampNeg = c' := nI_clamp (by omega)
      refine pk_le 256 w.length (fun h => absurd h (by omega)) (fun _ => pk_le (t.length + 1) 0 (fun h => absurd h (by omega)) (fun _ => nm_r (pk_m1 t.length) ⟨i64, nm_r SK (hW (fun z => wY_write_92 post (wY_write_16 post fl (nI base) f_variables f_cells f_goals f_equations f_disequalities f_solved f_found m) fl (nI base) (nI w.length) (nI t.length) (nI w.length) z f_variables f_cells f_goals f_equations f_disequalities f_solved f_found a_sign a_first a_second a_rows a_left a_right a_goalTable a_goalX a_goalY a_goalFrozen a_equalX a_equalY a_differX a_differY a_choiceOf a_pick a_bind tx fr sk) ?_)⟩))
      have eb : nI base + nI w.length = nI (base + w.length) := nI_add _ _
      have cb : (nI base + nI w.length).toNatClampNeg = base + w.length := by rw [eb]; exact nI_clamp (by omega)
      have ib : vp_in (nI base + nI w.length) 256 := by rw [eb]; exact vp_in_nI (by omega) (by omega)
      have frN : fz_fr tm b n (upd fr (base + w.length) (nI c')) base (w.length + 1) L := by
        intro i hi
        by_cases e : i = w.length
        · subst e
          refine ⟨c', t.flatMap (fz_tx tm b), hc', pk_us, ?_⟩
          rw [hLw, List.drop_left]
        · rw [pk_un (by omega)]
          exact hfr i (by omega)
      have keepN : ∀ z : Int32, ∀ j, j < base → upd tx (base + w.length) z j = a_text j := by
        intro z j hj
        rw [pk_un (by omega)]
        exact hkeep j hj
      refine pk_le 128 w.length (fun h => absurd h (by omega)) (fun _ => ⟨ic, ib, nm_r (e' := upd tx (base + w.length) (a_sign c')) (by rw [cb, cc]) ⟨ib, nm_r (e' := upd fr (base + w.length) (nI c')) (by rw [cb]) (nm_r (nI_1 w.length) ?_)⟩⟩)
      rcases hh with ⟨h', h17, h106, es, et⟩ | ⟨a, d, ha, hd, es, ef, ed, et⟩
      · have S : ¬ a_sign (nI c').toNatClampNeg = 17 := by
          rw [cc, es]
          exact fun z => h17 ((nI_eq (b := 17) (by omega) (by omega)).mp z)
        refine ⟨ic, br_f S (nm_r (nI_1 w.length) ?_)⟩
        have hN : (w ++ [h']).length = w.length + 1 := by rw [List.length_append]; rfl
        have := ih t (w ++ [h']) (upd tx (base + w.length) (a_sign c')) (upd fr (base + w.length) (nI c')) sk (by rw [et] at hm; simp only [List.length_append, List.length_cons, List.length_nil] at hm; omega) (fun z hz => hst z (List.mem_cons_of_mem _ hz)) (by rw [hLw, et, List.append_assoc]) (by rw [hN]; omega)
          (by rw [et] at hd2; simp only [List.length_append, List.length_cons, List.length_nil] at hd2; omega) hsk.2 (by rw [es]; exact fz_spu hsp h') (by rw [hN]; exact frN) (keepN _)
        rw [hN] at this
        exact this
      · have S : a_sign (nI c').toNatClampNeg = 17 := by rw [cc]; exact es
        have hN : (w ++ [17]).length = w.length + 1 := by rw [List.length_append]; rfl
        have l1 : 1 ≤ (fz_tx tm b a).length := fz_tx1 hV hn hC hf ha
        have l2 : 1 ≤ (fz_tx tm b d).length := fz_tx1 hV hn hC hf hd
        have l3 : t.length ≤ (t.flatMap (fz_tx tm b)).length := fz_txm hV hn hC hf t (fun z hz => hst z (List.mem_cons_of_mem _ hz))
        have i65 : vp_in (nI t.length + 1) 64 := by rw [nI_1]; exact vp_in_nI (by omega) (by omega)
        have U1 : upd sk (nI t.length).toNatClampNeg (a_second (nI c').toNatClampNeg) = upd sk t.length (nI d) := by rw [ix, cc, ed]
        have U2 : upd (upd sk t.length (nI d)) (nI t.length + 1).toNatClampNeg (a_first (nI c').toNatClampNeg) = upd (upd sk t.length (nI d)) (t.length + 1) (nI a) := by rw [nI_1, nI_clamp (by omega), cc, ef]
        refine ⟨ic, br_t S (pk_le 62 t.length (fun h => absurd h (by omega)) (fun _ => ⟨ic, i64, nm_r U1 ⟨ic, i65, nm_r U2 (nm_r (nI_add t.length 2) (nm_r (nI_1 w.length) ?_))⟩⟩))⟩
        have e3 : (a :: d :: t).flatMap (fz_tx tm b) = fz_tx tm b a ++ (fz_tx tm b d ++ t.flatMap (fz_tx tm b)) := by rw [List.flatMap_cons, List.flatMap_cons]
        have := ih (a :: d :: t) (w ++ [17]) (upd tx (base + w.length) (a_sign c')) (upd fr (base + w.length) (nI c')) (upd (upd sk t.length (nI d)) (t.length + 1) (nI a))
          (by rw [e3]; rw [et] at hm; simp only [List.length_append, List.length_cons] at hm ⊢; omega) ?_ (by rw [e3, hLw, et]; simp) (by rw [hN]; simp only [List.length_cons]; omega)
          (by rw [e3]; rw [et] at hd2; simp only [List.length_append, List.length_cons] at hd2 ⊢; omega) (fz_sk2 hsk.2 a d) (by rw [es]; exact fz_spu hsp 17) (by rw [hN]; exact frN) (keepN _)
        · rw [hN] at this
          exact this
        · intro z hz
          rcases List.mem_cons.mp hz with e | hz
          · rw [e]
            exact ha
          · rcases List.mem_cons.mp hz with e | hz
            · rw [e]
              exact hd
            · exact hst z (List.mem_cons_of_mem _ hz)
theorem fz_write (hV : V ≤ 6) (hn : n ≤ 48) (hC : fz_CY V tm n a_sign a_first a_second) {fl : Int32} {b : Nat → Option Nat} (hf : (fl = 0 ∧ b = fun _ => none) ∨ (fl = 1 ∧ fz_Vb tm n a_bind b)) {base : Nat} (hbase : base ≤ 128) {zb : Int32} (ezb : zb = nI base) {c : Nat} (hc : c < n) {z : Int32} (ez : z = nI c) {post : Int32 → SY → Prop}
    (h : ∀ tx fr sk, fz_sp tx base (fz_tx tm b c) → fz_fr tm b n fr base (fz_tx tm b c).length (fz_tx tm b c) → (∀ j, j < base → tx j = a_text j) → post (nI (fz_tx tm b c).length) (f_variables, f_cells, f_goals, f_equations, f_disequalities, f_solved, f_found, a_sign, a_first, a_second, a_rows, a_left, a_right, a_goalTable, a_goalX, a_goalY, a_goalFrozen, a_equalX, a_equalY, a_differX, a_differY, a_choiceOf, a_pick, a_bind, tx, fr, sk)) :
    wpY_write post (f_variables, f_cells, f_goals, f_equations, f_disequalities, f_solved, f_found, a_sign, a_first, a_second, a_rows, a_left, a_right, a_goalTable, a_goalX, a_goalY, a_goalFrozen, a_equalX, a_equalY, a_differX, a_differY, a_choiceOf, a_pick, a_bind, a_text, a_from, a_stack) z fl zb := by
  subst ez ezb
  have hb' : ∀ v d, b v = some d → d < n := by
    intro v d hv
    rcases hf with ⟨_, eb⟩ | ⟨_, hb⟩
    · rw [eb] at hv
      exact absurd hv (by simp)
    · rcases Nat.lt_or_ge v 6 with h6 | h6
      · rcases hb.2 v h6 with ⟨q1, _⟩ | ⟨d', q1, q2, _, _⟩
        · rw [q1] at hv
          exact absurd hv (by simp)
        · rw [hv] at q2
          rw [Option.some.inj q2]
          exact q1
      · rw [hb.1 v h6] at hv
        exact absurd hv (by simp)
  have hl := fz_txl hC hb' hc
  have e1 : [c].flatMap (fz_tx tm b) = fz_tx tm b c := by simp
  have l1 := fz_tx1 hV hn hC hf hc
  refine nm_e ⟨98, fz_wrL hV hn hC hf hbase hl h 98 [c] [] a_text a_from _ (by rw [e1]; omega) (fun d hd => by rw [List.mem_singleton.mp hd]; exact hc) (by rw [e1]; rfl) (by simp) (by rw [e1]; exact l1) ⟨pk_us, trivial⟩ (fz_sp0 _ _) (fun i hi => absurd hi (by simp)) (fun j _ => rfl)⟩
end
