/-! ===== places of a list ===== -/
theorem fz_at {l : List Nat} {i : Nat} (h : i < l.length) : ∃ a, l[i]? = some a ∧ a ∈ l ∧ l.drop i = a :: l.drop (i + 1) :=
  ⟨l[i], List.getElem?_eq_getElem h, List.getElem_mem h, List.drop_eq_getElem_cons h⟩
theorem fz_nat {l : List Nat} {P : Nat → Prop} (h : ∀ i, i < l.length → ∀ a, l[i]? = some a → P a) : ∀ a, a ∈ l → P a := by
  intro a ha
  obtain ⟨i, hi⟩ := List.mem_iff_getElem?.mp ha
  have h1 : i < l.length := by
    rcases Nat.lt_or_ge i l.length with h1 | h1
    · exact h1
    · rw [List.getElem?_eq_none h1] at hi
      exact absurd hi (by simp)
  exact h i h1 a hi
theorem fz_lext {l m : List Nat} (hl : l.length = m.length) (h : ∀ i, i < l.length → l[i]? = m[i]?) : l = m := by
  apply List.ext_getElem? 
  intro i
  rcases Nat.lt_or_ge i l.length with h1 | h1
  · exact h i h1
  · rw [List.getElem?_eq_none h1, List.getElem?_eq_none (by omega)]
section
variable {f_variables f_cells f_goals f_equations f_disequalities f_solved f_found : Int32} {a_sign a_first a_second a_rows a_left a_right a_goalTable a_goalX a_goalY a_goalFrozen a_equalX a_equalY a_differX a_differY a_choiceOf a_pick a_bind a_text a_from a_stack : Nat → Int32}
variable {V n : Nat} {tm : Nat → List Nat}
theorem fz_symb (hC : fz_CY V tm n a_sign a_first a_second) {c : Nat} (hc : c < n) {a : Nat} (ha : a ∈ tm c) : a < 106 := by
  have := fz_WTsym (hC c hc).1 a ha
  unfold fz_lf at this
  omega
theorem fz_occ (hV : V ≤ 6) (hn : n ≤ 48) (hC : fz_CY V tm n a_sign a_first a_second) {c v : Nat} (hc : c < n) (hv : v < 6) {zv zc : Int32} (ev : zv = nI v) (ec : zc = nI c) {post : Int32 → SY → Prop}
    (h1 : 100 + v ∈ tm c → ∀ tx fr sk, post 1 (f_variables, f_cells, f_goals, f_equations, f_disequalities, f_solved, f_found, a_sign, a_first, a_second, a_rows, a_left, a_right, a_goalTable, a_goalX, a_goalY, a_goalFrozen, a_equalX, a_equalY, a_differX, a_differY, a_choiceOf, a_pick, a_bind, tx, fr, sk)) (h0 : ¬ 100 + v ∈ tm c → ∀ tx fr sk, post 0 (f_variables, f_cells, f_goals, f_equations, f_disequalities, f_solved, f_found, a_sign, a_first, a_second, a_rows, a_left, a_right, a_goalTable, a_goalX, a_goalY, a_goalFrozen, a_equalX, a_equalY, a_differX, a_differY, a_choiceOf, a_pick, a_bind, tx, fr, sk)) :
    wpY_occurs post (f_variables, f_cells, f_goals, f_equations, f_disequalities, f_solved, f_found, a_sign, a_first, a_second, a_rows, a_left, a_right, a_goalTable, a_goalX, a_goalY, a_goalFrozen, a_equalX, a_equalY, a_differX, a_differY, a_choiceOf, a_pick, a_bind, a_text, a_from, a_stack) zv zc := by
  subst ev
  refine fz_write hV hn hC (b := fun _ => none) (.inl ⟨rfl, rfl⟩) (base := 0) (by omega) rfl hc ec (fun tx fr sk hsp _ _ => ?_)
  rw [fz_txN] at hsp ⊢
  have hl := (hC c hc).2.1
  have key : ∀ (k i : Nat), i + k = (tm c).length → (∀ j, j < i → ∀ a, (tm c)[j]? = some a → a ≠ 100 + v) → wY_occurs_11 post (nI v) (nI (tm c).length) f_variables f_cells f_goals f_equations f_disequalities f_solved f_found a_sign a_first a_second a_rows a_left a_right a_goalTable a_goalX a_goalY a_goalFrozen a_equalX a_equalY a_differX a_differY a_choiceOf a_pick a_bind tx fr sk (k + 1) (nI i) := by
    intro k
    induction k with
    | zero =>
      intro i hi hno
      have e : i = (tm c).length := by omega
      refine pk_le (tm c).length i (fun _ => h0 ?_ tx fr sk) (fun h => absurd h (by omega))
      intro hm
      exact fz_nat (P := fun a => a ≠ 100 + v) (fun j hj a ha => hno j (by omega) a ha) _ hm rfl
    | succ k ih =>
      intro i hi hno
      obtain ⟨a, ha, hm, _⟩ := fz_at (l := tm c) (i := i) (by omega)
      have ha6 := fz_symb hC hc hm
      have ci : (nI i).toNatClampNeg = i := nI_clamp (by omega)
      have T : tx (nI i).toNatClampNeg = nI a := by
        rw [ci, ← hsp i a ha, Nat.zero_add]
      have e1 : (100 : Int32) + nI v = nI (100 + v) := nI_add 100 v
      refine pk_le (tm c).length i (fun h => absurd h (by omega)) (fun _ => ⟨vp_in_nI (by omega) (by omega), pk_eq a (100 + v) (fun e => ?_) (fun e => ?_) T e1⟩)
      · rw [e] at hm
        exact h1 hm tx fr sk
      · refine nm_r (nI_1 i) (ih (i + 1) (by omega) (fun j hj b hb => ?_))
        by_cases ej : j = i
        · rw [ej, ha] at hb
          rw [← Option.some.inj hb]
          exact e
        · exact hno j (by omega) b hb
  exact ⟨(tm c).length + 1, key (tm c).length 0 (by omega) (fun j hj => absurd hj (by omega))⟩
theorem fz_grd (hV : V ≤ 6) (hn : n ≤ 48) (hC : fz_CY V tm n a_sign a_first a_second) {c : Nat} (hc : c < n) {zc : Int32} (ec : zc = nI c) {post : Int32 → SY → Prop}
    (h1 : fz_Gr (tm c) → ∀ tx fr sk, post 1 (f_variables, f_cells, f_goals, f_equations, f_disequalities, f_solved, f_found, a_sign, a_first, a_second, a_rows, a_left, a_right, a_goalTable, a_goalX, a_goalY, a_goalFrozen, a_equalX, a_equalY, a_differX, a_differY, a_choiceOf, a_pick, a_bind, tx, fr, sk)) (h0 : ¬ fz_Gr (tm c) → ∀ tx fr sk, post 0 (f_variables, f_cells, f_goals, f_equations, f_disequalities, f_solved, f_found, a_sign, a_first, a_second, a_rows, a_left, a_right, a_goalTable, a_goalX, a_goalY, a_goalFrozen, a_equalX, a_equalY, a_differX, a_differY, a_choiceOf, a_pick, a_bind, tx, fr, sk)) :
    wpY_ground post (f_variables, f_cells, f_goals, f_equations, f_disequalities, f_solved, f_found, a_sign, a_first, a_second, a_rows, a_left, a_right, a_goalTable, a_goalX, a_goalY, a_goalFrozen, a_equalX, a_equalY, a_differX, a_differY, a_choiceOf, a_pick, a_bind, a_text, a_from, a_stack) zc := by
  refine fz_write hV hn hC (b := fun _ => none) (.inl ⟨rfl, rfl⟩) (base := 0) (by omega) rfl hc ec (fun tx fr sk hsp _ _ => ?_)
  rw [fz_txN] at hsp ⊢
  have hl := (hC c hc).2.1
  have key : ∀ (k i : Nat), i + k = (tm c).length → (∀ j, j < i → ∀ a, (tm c)[j]? = some a → a < 100) → wY_ground_10 post (nI (tm c).length) f_variables f_cells f_goals f_equations f_disequalities f_solved f_found a_sign a_first a_second a_rows a_left a_right a_goalTable a_goalX a_goalY a_goalFrozen a_equalX a_equalY a_differX a_differY a_choiceOf a_pick a_bind tx fr sk (k + 1) (nI i) := by
    intro k
    induction k with
    | zero =>
      intro i hi hno
      have e : i = (tm c).length := by omega
      refine pk_le (tm c).length i (fun _ => h1 ?_ tx fr sk) (fun h => absurd h (by omega))
      exact fz_nat (P := fun a => a < 100) (fun j hj a ha => hno j (by omega) a ha)
    | succ k ih =>
      intro i hi hno
      obtain ⟨a, ha, hm, _⟩ := fz_at (l := tm c) (i := i) (by omega)
      have ha6 := fz_symb hC hc hm
      have ci : (nI i).toNatClampNeg = i := nI_clamp (by omega)
      have T : tx (nI i).toNatClampNeg = nI a := by
        rw [ci, ← hsp i a ha, Nat.zero_add]
      refine pk_le (tm c).length i (fun h => absurd h (by omega)) (fun _ => ⟨vp_in_nI (by omega) (by omega), pk_lt a 100 (fun e => ?_) (fun e => ?_) T⟩)
      · refine nm_r (nI_1 i) (ih (i + 1) (by omega) (fun j hj b hb => ?_))
        by_cases ej : j = i
        · rw [ej, ha] at hb
          rw [← Option.some.inj hb]
          exact e
        · exact hno j (by omega) b hb
      · refine h0 (fun g => ?_) tx fr sk
        have := g a hm
        omega
  exact ⟨(tm c).length + 1, key (tm c).length 0 (by omega) (fun j hj => absurd hj (by omega))⟩
theorem fz_Vbn {val : Nat → Int32} {b : Nat → Option Nat} (hb : fz_Vb tm n val b) : ∀ v d, b v = some d → v < 6 ∧ d < n ∧ val v = nI d ∧ fz_Gr (tm d) := by
  intro v d hv
  rcases Nat.lt_or_ge v 6 with h6 | h6
  · rcases hb.2 v h6 with ⟨q1, _⟩ | ⟨d', q1, q2, q3, q4⟩
    · rw [q1] at hv
      exact absurd hv (by simp)
    · rw [hv] at q2
      rw [Option.some.inj q2]
      exact ⟨h6, q1, q3, q4⟩
  · rw [hb.1 v h6] at hv
    exact absurd hv (by simp)
theorem fz_txs (hC : fz_CY V tm n a_sign a_first a_second) {b : Nat → Option Nat} (hb : fz_Vb tm n a_bind b) {c : Nat} (hc : c < n) : ∀ a, a ∈ fz_tx tm b c → a < 106 := by
  intro a ha
  unfold fz_tx fz_sb at ha
  obtain ⟨x, hx, hxa⟩ := List.mem_flatMap.mp ha
  have h6 := fz_symb hC hc hx
  unfold fz_s1 at hxa
  split at hxa
  · unfold fz_pb at hxa
    cases e : b (x - 100) with
    | none =>
      rw [e] at hxa
      rw [List.mem_singleton] at hxa
      omega
    | some d =>
      rw [e] at hxa
      exact fz_symb hC (fz_Vbn hb _ _ e).2.1 hxa
  · rw [List.mem_singleton] at hxa
    omega
theorem fz_same (hV : V ≤ 6) (hn : n ≤ 48) (hC : fz_CY V tm n a_sign a_first a_second) {b : Nat → Option Nat} (hb : fz_Vb tm n a_bind b) {x y : Nat} (hx : x < n) (hy : y < n) {zx zy : Int32} (ex : zx = nI x) (ey : zy = nI y) {post : Int32 → SY → Prop}
    (h1 : fz_tx tm b x = fz_tx tm b y → ∀ tx fr sk, post 1 (f_variables, f_cells, f_goals, f_equations, f_disequalities, f_solved, f_found, a_sign, a_first, a_second, a_rows, a_left, a_right, a_goalTable, a_goalX, a_goalY, a_goalFrozen, a_equalX, a_equalY, a_differX, a_differY, a_choiceOf, a_pick, a_bind, tx, fr, sk)) (h0 : ¬ fz_tx tm b x = fz_tx tm b y → ∀ tx fr sk, post 0 (f_variables, f_cells, f_goals, f_equations, f_disequalities, f_solved, f_found, a_sign, a_first, a_second, a_rows, a_left, a_right, a_goalTable, a_goalX, a_goalY, a_goalFrozen, a_equalX, a_equalY, a_differX, a_differY, a_choiceOf, a_pick, a_bind, tx, fr, sk)) :
    wpY_same post (f_variables, f_cells, f_goals, f_equations, f_disequalities, f_solved, f_found, a_sign, a_first, a_second, a_rows, a_left, a_right, a_goalTable, a_goalX, a_goalY, a_goalFrozen, a_equalX, a_equalY, a_differX, a_differY, a_choiceOf, a_pick, a_bind, a_text, a_from, a_stack) zx zy := by
  have hb' : ∀ v d, b v = some d → d < n := fun v d hv => (fz_Vbn hb v d hv).2.1
  have lx := fz_txl hC hb' hx
  have ly := fz_txl hC hb' hy
  refine fz_write hV hn hC (.inr ⟨rfl, hb⟩) (base := 0) (by omega) rfl hx ex (fun tx fr sk hsp _ _ => ?_)
  refine fz_write hV hn hC (.inr ⟨rfl, hb⟩) (base := 128) (by omega) rfl hy ey (fun tx2 fr2 sk2 hsp2 _ hk2 => ?_)
  have hsp1 : fz_sp tx2 0 (fz_tx tm b x) := fz_spk hsp (fun i hi => hk2 _ (by omega))
  refine pk_eq (fz_tx tm b x).length (fz_tx tm b y).length (fun el => ?_) (fun el => h0 (fun e => el (by rw [e])) tx2 fr2 sk2)
  have key : ∀ (k i : Nat), i + k = (fz_tx tm b x).length → (∀ j, j < i → (fz_tx tm b x)[j]? = (fz_tx tm b y)[j]?) → wY_same_30 post (nI (fz_tx tm b x).length) f_variables f_cells f_goals f_equations f_disequalities f_solved f_found a_sign a_first a_second a_rows a_left a_right a_goalTable a_goalX a_goalY a_goalFrozen a_equalX a_equalY a_differX a_differY a_choiceOf a_pick a_bind tx2 fr2 sk2 (k + 1) (nI i) := by
    intro k
    induction k with
    | zero =>
      intro i hi hno
      refine pk_le (fz_tx tm b x).length i (fun _ => h1 (fz_lext el (fun j hj => hno j (by omega))) tx2 fr2 sk2) (fun h => absurd h (by omega))
    | succ k ih =>
      intro i hi hno
      obtain ⟨p, hp, hpm, _⟩ := fz_at (l := fz_tx tm b x) (i := i) (by omega)
      obtain ⟨q, hq, hqm, _⟩ := fz_at (l := fz_tx tm b y) (i := i) (by omega)
      have hp6 := fz_txs hC hb hx p hpm
      have hq6 := fz_txs hC hb hy q hqm
      have T1 : tx2 (nI i).toNatClampNeg = nI p := by
        rw [nI_clamp (by omega), ← hsp1 i p hp, Nat.zero_add]
      have e1 : (128 : Int32) + nI i = nI (128 + i) := nI_add 128 i
      have T2 : tx2 (128 + nI i).toNatClampNeg = nI q := by
        rw [e1, nI_clamp (by omega)]
        exact hsp2 i q hq
      have i2 : vp_in (128 + nI i) 256 := by rw [e1]; exact vp_in_nI (by omega) (by omega)
      refine pk_le (fz_tx tm b x).length i (fun h => absurd h (by omega)) (fun _ => ⟨vp_in_nI (by omega) (by omega), i2, pk_eq p q (fun e => ?_) (fun e => ?_) T1 T2⟩)
      · refine nm_r (nI_1 i) (ih (i + 1) (by omega) (fun j hj => ?_))
        by_cases ej : j = i
        · rw [ej, hp, hq, e]
        · exact hno j (by omega)
      · refine h0 (fun eq => e ?_) tx2 fr2 sk2
        rw [eq, hq] at hp
        exact (Option.some.inj hp).symm
  exact ⟨(fz_tx tm b x).length + 1, key (fz_tx tm b x).length 0 (by omega) (fun j hj => absurd hj (by omega))⟩
theorem fz_fml (f : Nat → List Nat) : ∀ (st : List Nat), (∀ c, c ∈ st → 1 ≤ (f c).length) → st.length ≤ (st.flatMap f).length := by
  intro st
  induction st with
  | nil => intro _; exact Nat.zero_le _
  | cons c t ih =>
    intro h
    have h1 := ih (fun z hz => h z (List.mem_cons_of_mem _ hz))
    have h2 := h c List.mem_cons_self
    rw [List.flatMap_cons, List.length_append, List.length_cons]
    omega
theorem fz_len (hV : V ≤ 6) (hn : n ≤ 48) (hC : fz_CY V tm n a_sign a_first a_second) {c : Nat} (hc : c < n) {z : Int32} (ez : z = nI c) {post : Int32 → SY → Prop} (h : ∀ sk, post (nI (tm c).length) (f_variables, f_cells, f_goals, f_equations, f_disequalities, f_solved, f_found, a_sign, a_first, a_second, a_rows, a_left, a_right, a_goalTable, a_goalX, a_goalY, a_goalFrozen, a_equalX, a_equalY, a_differX, a_differY, a_choiceOf, a_pick, a_bind, a_text, a_from, sk)) : wpY_lengthOf post (f_variables, f_cells, f_goals, f_equations, f_disequalities, f_solved, f_found, a_sign, a_first, a_second, a_rows, a_left, a_right, a_goalTable, a_goalX, a_goalY, a_goalFrozen, a_equalX, a_equalY, a_differX, a_differY, a_choiceOf, a_pick, a_bind, a_text, a_from, a_stack) z := by
  subst ez
  have hl := (hC c hc).2.1
  have key : ∀ (m : Nat) (st : List Nat) (k : Nat) (sk : Nat → Int32), (st.flatMap tm).length < m → (∀ d, d ∈ st → d < n) → k + (st.flatMap tm).length = (tm c).length → st.length ≤ (st.flatMap tm).length → fz_sk sk st → wY_lengthOf_14 post f_variables f_cells f_goals f_equations f_disequalities f_solved f_found m (nI k) (nI st.length) (nI k) a_sign a_first a_second a_rows a_left a_right a_goalTable a_goalX a_goalY a_goalFrozen a_equalX a_equalY a_differX a_differY a_choiceOf a_pick a_bind a_text a_from sk := by
    intro m
    induction m with
    | zero => intro st k sk hm; omega
    | succ m ih =>
      intro st k sk hm hst hk hd hsk
      cases st with
      | nil =>
        have e : k = (tm c).length := by simpa using hk
        rw [e]
        exact pk_le 64 (tm c).length (fun h => absurd h (by omega)) (fun _ => pk_le 0 0 (fun _ => h sk) (fun h => absurd h (by omega)))
      | cons d t =>
        have hcl : (d :: t).flatMap tm = tm d ++ t.flatMap tm := List.flatMap_cons
        have hll : (d :: t).length = t.length + 1 := rfl
        have hdn := hst d List.mem_cons_self
        rw [hcl, List.length_append] at hm hk hd
        have ix : (nI t.length).toNatClampNeg = t.length := nI_clamp (by omega)
        have SK : sk (nI t.length).toNatClampNeg = nI d := by rw [ix]; exact hsk.1
        have i64 : vp_in (nI t.length) 64 := vp_in_nI (by omega) (by omega)
        have i65 : vp_in (nI t.length + 1) 64 := by rw [nI_1]; exact vp_in_nI (by omega) (by omega)
        have id' : vp_in (nI d) 48 := vp_in_nI (by omega) (by omega)
        have cd : (nI d).toNatClampNeg = d := nI_clamp (by omega)
        refine pk_le 64 k (fun h => absurd h (by omega)) (fun _ => pk_le (t.length + 1) 0 (fun h => absurd h (by omega)) (fun _ => nm_r (pk_m1 t.length) ⟨i64, nm_r SK (nm_r (nI_1 k) ⟨id', ?_⟩)⟩))
        have h'' : (∃ a : Nat, a ≠ 17 ∧ a < 106 ∧ tm d = [a] ∧ a_sign d = nI a) ∨ (∃ a b, a < d ∧ b < d ∧ tm d = 17 :: (tm a ++ tm b) ∧ a_sign d = 17 ∧ a_first d = nI a ∧ a_second d = nI b) := by
          obtain ⟨hw, _, h'⟩ := hC d hdn
          rcases h' with ⟨a, l1, l2, e, es⟩ | ⟨v, hv, e, es⟩ | h3
          · exact .inl ⟨a, by omega, by omega, e, es⟩
          · exact .inl ⟨100 + v, by omega, by omega, e, es⟩
          · exact .inr h3
        have l3 : t.length ≤ (t.flatMap tm).length := fz_fml tm t (fun x hx => fz_WTlen (hC x (hst x (List.mem_cons_of_mem _ hx))).1)
        rcases h'' with ⟨a, h17, h106, e, es⟩ | ⟨a, b, la, lb, e, es, ef, ed⟩
        · refine br_f (by rw [cd, es]; exact fun z => h17 ((nI_eq (b := 17) (by omega) (by omega)).mp z)) (nm_r (nI_1 k) ?_)
          exact ih t (k + 1) sk (by rw [e] at hm; simp only [List.length_cons, List.length_nil] at hm; omega) (fun x hx => hst x (List.mem_cons_of_mem _ hx)) (by rw [e] at hk; simp only [List.length_cons, List.length_nil] at hk; omega) l3 hsk.2
        · have U1 : upd sk (nI t.length).toNatClampNeg (a_second (nI d).toNatClampNeg) = upd sk t.length (nI b) := by rw [ix, cd, ed]
          have U2 : upd (upd sk t.length (nI b)) (nI t.length + 1).toNatClampNeg (a_first (nI d).toNatClampNeg) = upd (upd sk t.length (nI b)) (t.length + 1) (nI a) := by rw [nI_1, nI_clamp (by omega), cd, ef]
          have w1 := fz_WTlen (hC a (by omega)).1
          have w2 := fz_WTlen (hC b (by omega)).1
          have e3 : ((a :: b :: t).flatMap tm).length = (tm a).length + ((tm b).length + (t.flatMap tm).length) := by rw [List.flatMap_cons, List.flatMap_cons, List.length_append, List.length_append]
          rw [e] at hm hk hd
          simp only [List.length_cons, List.length_append] at hm hk hd
          refine br_t (by rw [cd]; exact es) ⟨id', i64, nm_r U1 ⟨id', i65, nm_r U2 (nm_r (nI_add t.length 2) (nm_r (nI_1 k) (ih (a :: b :: t) (k + 1) _ (by omega) ?_ (by omega) (by simp only [List.length_cons]; omega) (fz_sk2 hsk.2 a b))))⟩⟩
          intro x hx
          rcases List.mem_cons.mp hx with e | hx
          · omega
          · rcases List.mem_cons.mp hx with e | hx
            · omega
            · exact hst x (List.mem_cons_of_mem _ hx)
  have e1 : ([c].flatMap tm).length = (tm c).length := by simp
  have w := fz_WTlen (hC c hc).1
  exact nm_e ⟨14, key 14 [c] 0 _ (by omega) (fun d hd => by rw [List.mem_singleton.mp hd]; exact hc) (by omega) (by rw [e1]; exact w) ⟨pk_us, trivial⟩⟩
end
