/-! ===== a solved query ===== -/
def fz_Sv (G E D : Nat) (tm : Nat → List Nat) (f_solutionCount f_found : Int32) (a_rowCount a_rowLeft a_rowRight a_goalTable a_goalX a_goalY a_equationX a_equationY a_disequalityX a_disequalityY a_solutionChoice : Nat → Int32) (a_solutionCode : Nat → Int64) (a_choiceOf : Nat → Int32) : Prop :=
  ∃ K, K ≤ 1296 ∧ f_solutionCount = nI K ∧ f_found = nI K ∧
    (∀ i, i < E → ∀ v, (100 + v ∈ tm (a_equationX i).toNatClampNeg ∨ 100 + v ∈ tm (a_equationY i).toNatClampNeg) → fz_Gv tm a_goalX a_goalY G v) ∧
    (∀ i, i < D → ∀ v, (100 + v ∈ tm (a_disequalityX i).toNatClampNeg ∨ 100 + v ∈ tm (a_disequalityY i).toNatClampNeg) → fz_Gv tm a_goalX a_goalY G v) ∧
    ∀ k, k < K → ∃ p, (∀ g, g < G → p g < fz_Rw a_rowCount a_goalTable g) ∧ fz_Good tm a_goalTable a_goalX a_goalY a_rowLeft a_rowRight a_equationX a_equationY a_disequalityX a_disequalityY G E D p ∧ a_solutionChoice k = nI (fz_x6 p G) ∧ a_choiceOf k = nI (fz_yR (fz_Rw a_rowCount a_goalTable) p G) ∧
      ∀ s, fz_As s → fz_Mt tm a_goalTable a_goalX a_goalY a_rowLeft a_rowRight 0 G p s → ∀ v, v < 6 → fz_Gv tm a_goalX a_goalY G v → a_solutionCode (k * 6 + v) = lN (fz_vl (s v))
def fz_Inv (V : Nat) (n : Nat) (G : Nat) (E : Nat) (D : Nat) (tm : Nat → List Nat) (f_frozenOn : Int32) (f_solved : Int32) (f_solutionCount : Int32) (f_found : Int32) (a_kind : Nat → Int32) (a_first : Nat → Int32) (a_second : Nat → Int32) (a_size : Nat → Int32) (a_variablesIn : Nat → Int32) (a_code : Nat → Int64) (a_rowCount : Nat → Int32) (a_rowLeft : Nat → Int32) (a_rowRight : Nat → Int32) (a_goalTable : Nat → Int32) (a_goalX : Nat → Int32) (a_goalY : Nat → Int32) (a_equationX : Nat → Int32) (a_equationY : Nat → Int32) (a_disequalityX : Nat → Int32) (a_disequalityY : Nat → Int32) (a_solutionChoice : Nat → Int32) (a_solutionCode : Nat → Int64) (a_sign : Nat → Int32) (b_first : Nat → Int32) (a_goalFrozen : Nat → Int32) (a_choiceOf : Nat → Int32) : Prop :=
  1 ≤ V ∧ V ≤ 6 ∧ n ≤ 48 ∧ G ≤ 4 ∧ E ≤ 4 ∧ D ≤ 6 ∧
  fz_CX V tm n a_kind a_first a_second a_size a_variablesIn a_code ∧ fz_CY V tm n a_sign b_first a_second ∧
  fz_RO tm n a_rowCount a_rowLeft a_rowRight ∧ fz_GO n a_goalTable a_goalX a_goalY G ∧ fz_QO n a_equationX a_equationY E ∧ fz_QO n a_disequalityX a_disequalityY D ∧
  (∀ i, i < 32 → (bt f_frozenOn i = true ↔ ∃ g, g < G ∧ a_goalFrozen g = nI i)) ∧ (∀ g, g < G → a_goalFrozen g = -1 ∨ ∃ v, v < V ∧ a_goalFrozen g = nI v) ∧
  (f_solved = 0 ∨ (f_solved = 1 ∧ fz_Sv G E D tm f_solutionCount f_found a_rowCount a_rowLeft a_rowRight a_goalTable a_goalX a_goalY a_equationX a_equationY a_disequalityX a_disequalityY a_solutionChoice a_solutionCode a_choiceOf))
/-- both objects hold the same cells, tables and query; solved alike -/
def i_Rel (_ : Nat) (u : SX) (v : SY) : Prop := ∃ (V : Nat) (n : Nat) (G : Nat) (E : Nat) (D : Nat) (tm : Nat → List Nat) (f_frozenOn : Int32) (f_solved : Int32) (f_solutionCount : Int32) (f_found : Int32) (a_kind : Nat → Int32) (a_first : Nat → Int32) (a_second : Nat → Int32) (a_size : Nat → Int32) (a_variablesIn : Nat → Int32) (a_code : Nat → Int64) (a_rowCount : Nat → Int32) (a_rowLeft : Nat → Int32) (a_rowRight : Nat → Int32) (a_goalTable : Nat → Int32) (a_goalX : Nat → Int32) (a_goalY : Nat → Int32) (a_equationX : Nat → Int32) (a_equationY : Nat → Int32) (a_disequalityX : Nat → Int32) (a_disequalityY : Nat → Int32) (a_solutionChoice : Nat → Int32) (a_solutionCode : Nat → Int64) (a_sign : Nat → Int32) (b_first : Nat → Int32) (a_goalFrozen : Nat → Int32) (a_choiceOf : Nat → Int32) (a_value : Nat → Int32) (a_walkX : Nat → Int32) (a_walkY : Nat → Int32) (a_pick : Nat → Int32) (a_bind : Nat → Int32) (a_text : Nat → Int32) (a_from : Nat → Int32) (a_stack : Nat → Int32), u = (nI V, nI n, nI G, f_frozenOn, nI E, nI D, f_solved, f_solutionCount, a_kind, a_first, a_second, a_size, a_variablesIn, a_code, a_rowCount, a_rowLeft, a_rowRight, a_goalTable, a_goalX, a_goalY, a_equationX, a_equationY, a_disequalityX, a_disequalityY, a_solutionChoice, a_solutionCode, a_value, a_walkX, a_walkY) ∧ v = (nI V, nI n, nI G, nI E, nI D, f_solved, f_found, a_sign, b_first, a_second, a_rowCount, a_rowLeft, a_rowRight, a_goalTable, a_goalX, a_goalY, a_goalFrozen, a_equationX, a_equationY, a_disequalityX, a_disequalityY, a_choiceOf, a_pick, a_bind, a_text, a_from, a_stack) ∧ fz_Inv V n G E D tm f_frozenOn f_solved f_solutionCount f_found a_kind a_first a_second a_size a_variablesIn a_code a_rowCount a_rowLeft a_rowRight a_goalTable a_goalX a_goalY a_equationX a_equationY a_disequalityX a_disequalityY a_solutionChoice a_solutionCode a_sign b_first a_goalFrozen a_choiceOf
theorem i_up {k : Nat} {u : SX} {v : SY} (h : i_Rel k u v) : i_Rel (k + 5) u v := h
section
variable {V : Nat} {n : Nat} {G : Nat} {E : Nat} {D : Nat} {tm : Nat → List Nat} {f_frozenOn : Int32} {f_solved : Int32} {f_solutionCount : Int32} {f_found : Int32} {a_kind : Nat → Int32} {a_first : Nat → Int32} {a_second : Nat → Int32} {a_size : Nat → Int32} {a_variablesIn : Nat → Int32} {a_code : Nat → Int64} {a_rowCount : Nat → Int32} {a_rowLeft : Nat → Int32} {a_rowRight : Nat → Int32} {a_goalTable : Nat → Int32} {a_goalX : Nat → Int32} {a_goalY : Nat → Int32} {a_equationX : Nat → Int32} {a_equationY : Nat → Int32} {a_disequalityX : Nat → Int32} {a_disequalityY : Nat → Int32} {a_solutionChoice : Nat → Int32} {a_solutionCode : Nat → Int64} {a_sign : Nat → Int32} {b_first : Nat → Int32} {a_goalFrozen : Nat → Int32} {a_choiceOf : Nat → Int32} {a_value : Nat → Int32} {a_walkX : Nat → Int32} {a_walkY : Nat → Int32} {a_pick : Nat → Int32} {a_bind : Nat → Int32} {a_text : Nat → Int32} {a_from : Nat → Int32} {a_stack : Nat → Int32}
theorem fz_mk {k : Nat} (h : fz_Inv V n G E D tm f_frozenOn f_solved f_solutionCount f_found a_kind a_first a_second a_size a_variablesIn a_code a_rowCount a_rowLeft a_rowRight a_goalTable a_goalX a_goalY a_equationX a_equationY a_disequalityX a_disequalityY a_solutionChoice a_solutionCode a_sign b_first a_goalFrozen a_choiceOf) : i_Rel k (nI V, nI n, nI G, f_frozenOn, nI E, nI D, f_solved, f_solutionCount, a_kind, a_first, a_second, a_size, a_variablesIn, a_code, a_rowCount, a_rowLeft, a_rowRight, a_goalTable, a_goalX, a_goalY, a_equationX, a_equationY, a_disequalityX, a_disequalityY, a_solutionChoice, a_solutionCode, a_value, a_walkX, a_walkY) (nI V, nI n, nI G, nI E, nI D, f_solved, f_found, a_sign, b_first, a_second, a_rowCount, a_rowLeft, a_rowRight, a_goalTable, a_goalX, a_goalY, a_goalFrozen, a_equationX, a_equationY, a_disequalityX, a_disequalityY, a_choiceOf, a_pick, a_bind, a_text, a_from, a_stack) := ⟨V, n, G, E, D, tm, f_frozenOn, f_solved, f_solutionCount, f_found, a_kind, a_first, a_second, a_size, a_variablesIn, a_code, a_rowCount, a_rowLeft, a_rowRight, a_goalTable, a_goalX, a_goalY, a_equationX, a_equationY, a_disequalityX, a_disequalityY, a_solutionChoice, a_solutionCode, a_sign, b_first, a_goalFrozen, a_choiceOf, a_value, a_walkX, a_walkY, a_pick, a_bind, a_text, a_from, a_stack, rfl, rfl, h⟩
/-! ===== one cell more ===== -/
def fz_tn (tm : Nat → List Nat) (n : Nat) (A : List Nat) : Nat → List Nat := fun c => if c = n then A else tm c
theorem fz_tnS (tm : Nat → List Nat) (n : Nat) (A : List Nat) : fz_tn tm n A n = A := if_pos rfl
theorem fz_tnN (tm : Nat → List Nat) (n : Nat) (A : List Nat) {c : Nat} (h : c < n) : fz_tn tm n A c = tm c := if_neg (by omega)
theorem fz_Gvc {tm' : Nat → List Nat} (ht : ∀ c, c < n → tm' c = tm c) (hn : n ≤ 48) (hGO : fz_GO n a_goalTable a_goalX a_goalY G) (v : Nat) : fz_Gv tm' a_goalX a_goalY G v ↔ fz_Gv tm a_goalX a_goalY G v := by
  have key : ∀ g, g < G → tm' (a_goalX g).toNatClampNeg = tm (a_goalX g).toNatClampNeg ∧ tm' (a_goalY g).toNatClampNeg = tm (a_goalY g).toNatClampNeg := by
    intro g hg
    obtain ⟨t, x, y, _, hx, hy, _, ex, ey⟩ := hGO g hg
    rw [ex, ey, nI_clamp (n := x) (by omega), nI_clamp (n := y) (by omega)]
    exact ⟨ht x hx, ht y hy⟩
  constructor
  · rintro ⟨g, hg, h⟩
    rw [(key g hg).1, (key g hg).2] at h
    exact ⟨g, hg, h⟩
  · rintro ⟨g, hg, h⟩
    rw [← (key g hg).1, ← (key g hg).2] at h
    exact ⟨g, hg, h⟩
theorem fz_Mtc {tm' : Nat → List Nat} (ht : ∀ c, c < n → tm' c = tm c) (hn : n ≤ 48) (hGO : fz_GO n a_goalTable a_goalX a_goalY G) (hRO : fz_RO tm n a_rowCount a_rowLeft a_rowRight) {p : Nat → Nat} (hp : ∀ g, g < G → p g < fz_Rw a_rowCount a_goalTable g) (s : Nat → List Nat) :
    fz_Mt tm' a_goalTable a_goalX a_goalY a_rowLeft a_rowRight 0 G p s ↔ fz_Mt tm a_goalTable a_goalX a_goalY a_rowLeft a_rowRight 0 G p s := by
  have key : ∀ g, g < G → tm' (a_goalX g).toNatClampNeg = tm (a_goalX g).toNatClampNeg ∧ tm' (a_goalY g).toNatClampNeg = tm (a_goalY g).toNatClampNeg ∧ tm' (a_rowLeft (6 * (a_goalTable g).toNatClampNeg + p g)).toNatClampNeg = tm (a_rowLeft (6 * (a_goalTable g).toNatClampNeg + p g)).toNatClampNeg ∧ tm' (a_rowRight (6 * (a_goalTable g).toNatClampNeg + p g)).toNatClampNeg = tm (a_rowRight (6 * (a_goalTable g).toNatClampNeg + p g)).toNatClampNeg := by
    intro g hg
    obtain ⟨t, x, y, h4, hx, hy, et, ex, ey⟩ := hGO g hg
    obtain ⟨r, hr, er, hrow⟩ := hRO t h4
    have hpg := hp g hg
    rw [fz_RwE h4 hr et er] at hpg
    obtain ⟨c, d, hc, hd, ec, ed, _, _⟩ := hrow (p g) hpg
    rw [et, nI_clamp (n := t) (by omega), ex, ey, ec, ed, nI_clamp (n := x) (by omega), nI_clamp (n := y) (by omega), nI_clamp (n := c) (by omega), nI_clamp (n := d) (by omega)]
    exact ⟨ht x hx, ht y hy, ht c hc, ht d hd⟩
  constructor
  · intro h g hl hg
    obtain ⟨k1, k2, k3, k4⟩ := key g hg
    have := h g hl hg
    rw [k1, k2, k3, k4] at this
    exact this
  · intro h g hl hg
    obtain ⟨k1, k2, k3, k4⟩ := key g hg
    rw [k1, k2, k3, k4]
    exact h g hl hg
theorem fz_Qc {tm' : Nat → List Nat} (ht : ∀ c, c < n → tm' c = tm c) (hn : n ≤ 48) {qx qy : Nat → Int32} {Q : Nat} (hQ : fz_QO n qx qy Q) : ∀ i, i < Q → tm' (qx i).toNatClampNeg = tm (qx i).toNatClampNeg ∧ tm' (qy i).toNatClampNeg = tm (qy i).toNatClampNeg := by
  intro i hi
  obtain ⟨x, y, hx, hy, ex, ey⟩ := hQ i hi
  rw [ex, ey, nI_clamp (n := x) (by omega), nI_clamp (n := y) (by omega)]
  exact ⟨ht x hx, ht y hy⟩
theorem fz_Goodc {tm' : Nat → List Nat} (ht : ∀ c, c < n → tm' c = tm c) (hn : n ≤ 48) (hGO : fz_GO n a_goalTable a_goalX a_goalY G) (hRO : fz_RO tm n a_rowCount a_rowLeft a_rowRight) (hQE : fz_QO n a_equationX a_equationY E) (hQD : fz_QO n a_disequalityX a_disequalityY D) {p : Nat → Nat} (hp : ∀ g, g < G → p g < fz_Rw a_rowCount a_goalTable g)
    (h : fz_Good tm a_goalTable a_goalX a_goalY a_rowLeft a_rowRight a_equationX a_equationY a_disequalityX a_disequalityY G E D p) : fz_Good tm' a_goalTable a_goalX a_goalY a_rowLeft a_rowRight a_equationX a_equationY a_disequalityX a_disequalityY G E D p := by
  obtain ⟨s, hs, hM, hE, hD⟩ := h
  refine ⟨s, hs, (fz_Mtc ht hn hGO hRO hp s).mpr hM, fun i hi => ?_, fun i hi => ?_⟩
  · rw [(fz_Qc ht hn hQE i hi).1, (fz_Qc ht hn hQE i hi).2]
    exact hE i hi
  · rw [(fz_Qc ht hn hQD i hi).1, (fz_Qc ht hn hQD i hi).2]
    exact hD i hi
theorem fz_Svc {tm' : Nat → List Nat} (ht : ∀ c, c < n → tm' c = tm c) (hn : n ≤ 48) (hGO : fz_GO n a_goalTable a_goalX a_goalY G) (hRO : fz_RO tm n a_rowCount a_rowLeft a_rowRight) (hQE : fz_QO n a_equationX a_equationY E) (hQD : fz_QO n a_disequalityX a_disequalityY D)
    (h : fz_Sv G E D tm f_solutionCount f_found a_rowCount a_rowLeft a_rowRight a_goalTable a_goalX a_goalY a_equationX a_equationY a_disequalityX a_disequalityY a_solutionChoice a_solutionCode a_choiceOf) :
    fz_Sv G E D tm' f_solutionCount f_found a_rowCount a_rowLeft a_rowRight a_goalTable a_goalX a_goalY a_equationX a_equationY a_disequalityX a_disequalityY a_solutionChoice a_solutionCode a_choiceOf := by
  obtain ⟨K, hK, e1, e2, hvE, hvD, hk⟩ := h
  refine ⟨K, hK, e1, e2, fun i hi v hv => ?_, fun i hi v hv => ?_, fun k hk' => ?_⟩
  · rw [(fz_Qc ht hn hQE i hi).1, (fz_Qc ht hn hQE i hi).2] at hv
    exact (fz_Gvc ht hn hGO v).mpr (hvE i hi v hv)
  · rw [(fz_Qc ht hn hQD i hi).1, (fz_Qc ht hn hQD i hi).2] at hv
    exact (fz_Gvc ht hn hGO v).mpr (hvD i hi v hv)
  · obtain ⟨p, hp, hg, c1, c2, c3⟩ := hk k hk'
    exact ⟨p, hp, fz_Goodc ht hn hGO hRO hQE hQD hp hg, c1, c2, fun s hs hM v hv hgv => c3 s hs ((fz_Mtc ht hn hGO hRO hp s).mp hM) v hv ((fz_Gvc ht hn hGO v).mp hgv)⟩
theorem fz_new (h : fz_Inv V n G E D tm f_frozenOn f_solved f_solutionCount f_found a_kind a_first a_second a_size a_variablesIn a_code a_rowCount a_rowLeft a_rowRight a_goalTable a_goalX a_goalY a_equationX a_equationY a_disequalityX a_disequalityY a_solutionChoice a_solutionCode a_sign b_first a_goalFrozen a_choiceOf) (h48 : n < 48) {A : List Nat} {kd fs sd sz vi sg fy : Int32} {cd : Int64} (hw : fz_WT A) (hl : A.length ≤ 13) (es : sz = nI A.length) (ev : ∀ i, i < 32 → bt vi i = decide (100 + i ∈ A)) (ec : fz_Gr A → cd = lN (fz_vl A))
    (hx : (∃ a, 1 ≤ a ∧ a ≤ 16 ∧ A = [a] ∧ kd = 0) ∨ (∃ v, v < V ∧ A = [100 + v] ∧ kd = 1 ∧ fs = nI v) ∨ (∃ a b, a < n ∧ b < n ∧ A = 17 :: (tm a ++ tm b) ∧ kd = 2 ∧ fs = nI a ∧ sd = nI b))
    (hy : (∃ a, 1 ≤ a ∧ a ≤ 16 ∧ A = [a] ∧ sg = nI a) ∨ (∃ v, v < V ∧ A = [100 + v] ∧ sg = nI (100 + v)) ∨ (∃ a b, a < n ∧ b < n ∧ A = 17 :: (tm a ++ tm b) ∧ sg = nI 17 ∧ fy = nI a ∧ sd = nI b)) :
    fz_Inv V (n + 1) G E D (fz_tn tm n A) f_frozenOn f_solved f_solutionCount f_found (upd a_kind n kd) (upd a_first n fs) (upd a_second n sd) (upd a_size n sz) (upd a_variablesIn n vi) (vp_updL a_code n cd) a_rowCount a_rowLeft a_rowRight a_goalTable a_goalX a_goalY a_equationX a_equationY a_disequalityX a_disequalityY a_solutionChoice a_solutionCode (upd a_sign n sg) (upd b_first n fy) a_goalFrozen a_choiceOf := by
  obtain ⟨hV1, hV, hn, hG, hE, hD, hCX, hCY, hRO, hGO, hQE, hQD, hF, hF2, hS⟩ := h
  have ht : ∀ c, c < n → fz_tn tm n A c = tm c := fun c hc => fz_tnN tm n A hc
  refine ⟨hV1, hV, by omega, hG, hE, hD, ?_, ?_, ?_, ?_, ?_, ?_, hF, hF2, ?_⟩
  · intro c hc
    rcases Nat.lt_or_ge c n with h1 | h1
    · obtain ⟨q1, q2, q3, q4, q5, q6⟩ := hCX c h1
      have ne : c ≠ n := by omega
      unfold fz_cx
      rw [ht c h1, pk_un ne, pk_un ne, pk_un ne, pk_un ne, pk_un ne, pk_uLn ne]
      refine ⟨q1, q2, q3, q4, q5, ?_⟩
      rcases q6 with q | q | ⟨a, b, la, lb, e, q⟩
      · exact .inl q
      · exact .inr (.inl q)
      · refine .inr (.inr ⟨a, b, la, lb, ?_, q⟩)
        rw [ht a (by omega), ht b (by omega)]
        exact e
    · have e : c = n := by omega
      subst e
      unfold fz_cx
      rw [fz_tnS, pk_us, pk_us, pk_us, pk_us, pk_us, pk_uLs]
      refine ⟨hw, hl, es, ev, ec, ?_⟩
      rcases hx with q | q | ⟨a, b, la, lb, e, q⟩
      · exact .inl q
      · exact .inr (.inl q)
      · refine .inr (.inr ⟨a, b, la, lb, ?_, q⟩)
        rw [ht a la, ht b lb]
        exact e
  · intro c hc
    rcases Nat.lt_or_ge c n with h1 | h1
    · obtain ⟨q1, q2, q6⟩ := hCY c h1
      have ne : c ≠ n := by omega
      unfold fz_cy
      rw [ht c h1, pk_un ne, pk_un ne, pk_un ne]
      refine ⟨q1, q2, ?_⟩
      rcases q6 with q | q | ⟨a, b, la, lb, e, q⟩
      · exact .inl q
      · exact .inr (.inl q)
      · refine .inr (.inr ⟨a, b, la, lb, ?_, q⟩)
        rw [ht a (by omega), ht b (by omega)]
        exact e
    · have e : c = n := by omega
      subst e
      unfold fz_cy
      rw [fz_tnS, pk_us, pk_us, pk_us]
      refine ⟨hw, hl, ?_⟩
      rcases hy with q | q | ⟨a, b, la, lb, e, q⟩
      · exact .inl q
      · exact .inr (.inl q)
      · refine .inr (.inr ⟨a, b, la, lb, ?_, q⟩)
        rw [ht a la, ht b lb]
        exact e
  · intro t h4
    obtain ⟨r, hr, er, hrow⟩ := hRO t h4
    refine ⟨r, hr, er, fun j hj => ?_⟩
    obtain ⟨c, d, hc, hd, ec, ed, gc, gd⟩ := hrow j hj
    exact ⟨c, d, by omega, by omega, ec, ed, by rw [ht c hc]; exact gc, by rw [ht d hd]; exact gd⟩
  · intro g hg
    obtain ⟨t, x, y, h4, hx, hy, q⟩ := hGO g hg
    exact ⟨t, x, y, h4, by omega, by omega, q⟩
  · intro i hi
    obtain ⟨x, y, hx, hy, q⟩ := hQE i hi
    exact ⟨x, y, by omega, by omega, q⟩
  · intro i hi
    obtain ⟨x, y, hx, hy, q⟩ := hQD i hi
    exact ⟨x, y, by omega, by omega, q⟩
  · rcases hS with q | ⟨q, hS⟩
    · exact .inl q
    · exact .inr ⟨q, fz_Svc ht hn hGO hRO hQE hQD hS⟩
end
/-! ===== small methods ===== -/
def fz_bad (n : Nat) (z : Int32) : Prop := z < 0 ∨ nI n ≤ z
theorem fz_ix (z : Int32) {n : Nat} (hn : n < 2 ^ 31) : fz_bad n z ∨ ∃ j, j < n ∧ z = nI j := by
  rcases pk_ix z hn with h | h | h
  · exact .inl (.inl h)
  · exact .inl (.inr h)
  · exact .inr h
section
variable {f_variableCount f_cellCount f_goalCount f_frozenOn f_equationCount f_disequalityCount f_solved f_solutionCount : Int32} {a_kind a_first a_second a_size a_variablesIn a_rowCount a_rowLeft a_rowRight a_goalTable a_goalX a_goalY a_equationX a_equationY a_disequalityX a_disequalityY a_solutionChoice a_value a_walkX a_walkY : Nat → Int32} {a_code a_solutionCode : Nat → Int64}
variable {n : Nat}
theorem fz_icX1 {post : Int32 → Prop} (hn : n ≤ 48) (e : f_cellCount = nI n) {c : Nat} (hc : c < n) (h : post 1) : wpX_isCell post (f_variableCount, f_cellCount, f_goalCount, f_frozenOn, f_equationCount, f_disequalityCount, f_solved, f_solutionCount, a_kind, a_first, a_second, a_size, a_variablesIn, a_code, a_rowCount, a_rowLeft, a_rowRight, a_goalTable, a_goalX, a_goalY, a_equationX, a_equationY, a_disequalityX, a_disequalityY, a_solutionChoice, a_solutionCode, a_value, a_walkX, a_walkY) (nI c) :=
  br_f (nI_pos (by omega)) (pk_le n c (fun q => absurd q (by omega)) (fun _ => h) e)
theorem fz_icX0 {post : Int32 → Prop} (e : f_cellCount = nI n) {z : Int32} (hz : fz_bad n z) (h : post 0) : wpX_isCell post (f_variableCount, f_cellCount, f_goalCount, f_frozenOn, f_equationCount, f_disequalityCount, f_solved, f_solutionCount, a_kind, a_first, a_second, a_size, a_variablesIn, a_code, a_rowCount, a_rowLeft, a_rowRight, a_goalTable, a_goalX, a_goalY, a_equationX, a_equationY, a_disequalityX, a_disequalityY, a_solutionChoice, a_solutionCode, a_value, a_walkX, a_walkY) z := by
  rcases hz with q | q
  · exact br_t q h
  · exact br_c (fun _ => h) (fun _ => br_t (by rw [e]; exact q) h)
theorem fz_ivX1 {post : Int32 → Prop} {V : Nat} (hV : V ≤ 6) (e : f_variableCount = nI V) {c : Nat} (hc : c < V) (h : post 1) : wpX_isVariable post (f_variableCount, f_cellCount, f_goalCount, f_frozenOn, f_equationCount, f_disequalityCount, f_solved, f_solutionCount, a_kind, a_first, a_second, a_size, a_variablesIn, a_code, a_rowCount, a_rowLeft, a_rowRight, a_goalTable, a_goalX, a_goalY, a_equationX, a_equationY, a_disequalityX, a_disequalityY, a_solutionChoice, a_solutionCode, a_value, a_walkX, a_walkY) (nI c) :=
  br_f (nI_pos (by omega)) (pk_le V c (fun q => absurd q (by omega)) (fun _ => h) e)
theorem fz_ivX0 {post : Int32 → Prop} {V : Nat} (e : f_variableCount = nI V) {z : Int32} (hz : fz_bad V z) (h : post 0) : wpX_isVariable post (f_variableCount, f_cellCount, f_goalCount, f_frozenOn, f_equationCount, f_disequalityCount, f_solved, f_solutionCount, a_kind, a_first, a_second, a_size, a_variablesIn, a_code, a_rowCount, a_rowLeft, a_rowRight, a_goalTable, a_goalX, a_goalY, a_equationX, a_equationY, a_disequalityX, a_disequalityY, a_solutionChoice, a_solutionCode, a_value, a_walkX, a_walkY) z := by
  rcases hz with q | q
  · exact br_t q h
  · exact br_c (fun _ => h) (fun _ => br_t (by rw [e]; exact q) h)
theorem fz_itX1 {post : Int32 → Prop} {c : Nat} (hc : c < 4) (h : post 1) : wpX_isTable post (f_variableCount, f_cellCount, f_goalCount, f_frozenOn, f_equationCount, f_disequalityCount, f_solved, f_solutionCount, a_kind, a_first, a_second, a_size, a_variablesIn, a_code, a_rowCount, a_rowLeft, a_rowRight, a_goalTable, a_goalX, a_goalY, a_equationX, a_equationY, a_disequalityX, a_disequalityY, a_solutionChoice, a_solutionCode, a_value, a_walkX, a_walkY) (nI c) :=
  br_f (nI_pos (by omega)) (pk_le 4 c (fun q => absurd q (by omega)) (fun _ => h))
theorem fz_itX0 {post : Int32 → Prop} {z : Int32} (hz : fz_bad 4 z) (h : post 0) : wpX_isTable post (f_variableCount, f_cellCount, f_goalCount, f_frozenOn, f_equationCount, f_disequalityCount, f_solved, f_solutionCount, a_kind, a_first, a_second, a_size, a_variablesIn, a_code, a_rowCount, a_rowLeft, a_rowRight, a_goalTable, a_goalX, a_goalY, a_equationX, a_equationY, a_disequalityX, a_disequalityY, a_solutionChoice, a_solutionCode, a_value, a_walkX, a_walkY) z := by
  rcases hz with q | q
  · exact br_t q h
  · exact br_c (fun _ => h) (fun _ => br_t q h)
theorem fz_isX1 {post : Int32 → Prop} {K : Nat} (hK : K ≤ 1296) (e : f_solutionCount = nI K) {c : Nat} (hc : c < K) (h : post 1) : wpX_isSolution post (f_variableCount, f_cellCount, f_goalCount, f_frozenOn, f_equationCount, f_disequalityCount, f_solved, f_solutionCount, a_kind, a_first, a_second, a_size, a_variablesIn, a_code, a_rowCount, a_rowLeft, a_rowRight, a_goalTable, a_goalX, a_goalY, a_equationX, a_equationY, a_disequalityX, a_disequalityY, a_solutionChoice, a_solutionCode, a_value, a_walkX, a_walkY) (nI c) :=
  br_f (nI_pos (by omega)) (pk_le K c (fun q => absurd q (by omega)) (fun _ => h) e)
theorem fz_isX0 {post : Int32 → Prop} {K : Nat} (e : f_solutionCount = nI K) {z : Int32} (hz : fz_bad K z) (h : post 0) : wpX_isSolution post (f_variableCount, f_cellCount, f_goalCount, f_frozenOn, f_equationCount, f_disequalityCount, f_solved, f_solutionCount, a_kind, a_first, a_second, a_size, a_variablesIn, a_code, a_rowCount, a_rowLeft, a_rowRight, a_goalTable, a_goalX, a_goalY, a_equationX, a_equationY, a_disequalityX, a_disequalityY, a_solutionChoice, a_solutionCode, a_value, a_walkX, a_walkY) z := by
  rcases hz with q | q
  · exact br_t q h
  · exact br_c (fun _ => h) (fun _ => br_t (by rw [e]; exact q) h)
theorem fz_coX {post : Int32 → Prop} {x : Int32} {v : Nat} (hv : v < 32) (h1 : bt x v = true → post 1) (h0 : ¬ bt x v = true → post 0) : wpX_contains post (f_variableCount, f_cellCount, f_goalCount, f_frozenOn, f_equationCount, f_disequalityCount, f_solved, f_solutionCount, a_kind, a_first, a_second, a_size, a_variablesIn, a_code, a_rowCount, a_rowLeft, a_rowRight, a_goalTable, a_goalX, a_goalY, a_equationX, a_equationY, a_disequalityX, a_disequalityY, a_solutionChoice, a_solutionCode, a_value, a_walkX, a_walkY) x (nI v) :=
  br_c (fun q => h1 ((fz_bit x hv).mp q)) (fun q => h0 (fun z => q ((fz_bit x hv).mpr z)))
theorem fz_addX {post : Int32 → SX → Prop} (h48 : n < 48) (e : f_cellCount = nI n) {p0 p1 p2 : Int32} (h : post (nI n) (f_variableCount, nI (n + 1), f_goalCount, f_frozenOn, f_equationCount, f_disequalityCount, f_solved, f_solutionCount, upd a_kind n p0, upd a_first n p1, upd a_second n p2, a_size, a_variablesIn, a_code, a_rowCount, a_rowLeft, a_rowRight, a_goalTable, a_goalX, a_goalY, a_equationX, a_equationY, a_disequalityX, a_disequalityY, a_solutionChoice, a_solutionCode, a_value, a_walkX, a_walkY)) : wpX_addCell post (f_variableCount, f_cellCount, f_goalCount, f_frozenOn, f_equationCount, f_disequalityCount, f_solved, f_solutionCount, a_kind, a_first, a_second, a_size, a_variablesIn, a_code, a_rowCount, a_rowLeft, a_rowRight, a_goalTable, a_goalX, a_goalY, a_equationX, a_equationY, a_disequalityX, a_disequalityY, a_solutionChoice, a_solutionCode, a_value, a_walkX, a_walkY) p0 p1 p2 := by
  subst e
  have i48 : vp_in (nI n) 48 := vp_in_nI h48 (by omega)
  have cn : (nI n).toNatClampNeg = n := nI_clamp (by omega)
  exact ⟨i48, nm_r (e' := upd a_kind n p0) (by rw [cn]) ⟨i48, nm_r (e' := upd a_first n p1) (by rw [cn]) ⟨i48, nm_r (e' := upd a_second n p2) (by rw [cn]) (nm_r (nI_1 n) h)⟩⟩⟩
end
section
variable {f_variables f_cells f_goals f_equations f_disequalities f_solved f_found : Int32} {a_sign a_first a_second a_rows a_left a_right a_goalTable a_goalX a_goalY a_goalFrozen a_equalX a_equalY a_differX a_differY a_choiceOf a_pick a_bind a_text a_from a_stack : Nat → Int32}
variable {n : Nat}
theorem fz_icY1 {post : Int32 → Prop} (hn : n ≤ 48) (e : f_cells = nI n) {c : Nat} (hc : c < n) (h : post 1) : wpY_isCell post (f_variables, f_cells, f_goals, f_equations, f_disequalities, f_solved, f_found, a_sign, a_first, a_second, a_rows, a_left, a_right, a_goalTable, a_goalX, a_goalY, a_goalFrozen, a_equalX, a_equalY, a_differX, a_differY, a_choiceOf, a_pick, a_bind, a_text, a_from, a_stack) (nI c) :=
  br_f (nI_pos (by omega)) (pk_le n c (fun q => absurd q (by omega)) (fun _ => h) e)
theorem fz_icY0 {post : Int32 → Prop} (e : f_cells = nI n) {z : Int32} (hz : fz_bad n z) (h : post 0) : wpY_isCell post (f_variables, f_cells, f_goals, f_equations, f_disequalities, f_solved, f_found, a_sign, a_first, a_second, a_rows, a_left, a_right, a_goalTable, a_goalX, a_goalY, a_goalFrozen, a_equalX, a_equalY, a_differX, a_differY, a_choiceOf, a_pick, a_bind, a_text, a_from, a_stack) z := by
  rcases hz with q | q
  · exact br_t q h
  · exact br_c (fun _ => h) (fun _ => br_t (by rw [e]; exact q) h)
theorem fz_mkY {post : Int32 → SY → Prop} (h48 : n < 48) (e : f_cells = nI n) {p0 p1 p2 : Int32} (h : post (nI n) (f_variables, nI (n + 1), f_goals, f_equations, f_disequalities, f_solved, f_found, upd a_sign n p0, upd a_first n p1, upd a_second n p2, a_rows, a_left, a_right, a_goalTable, a_goalX, a_goalY, a_goalFrozen, a_equalX, a_equalY, a_differX, a_differY, a_choiceOf, a_pick, a_bind, a_text, a_from, a_stack)) : wpY_make post (f_variables, f_cells, f_goals, f_equations, f_disequalities, f_solved, f_found, a_sign, a_first, a_second, a_rows, a_left, a_right, a_goalTable, a_goalX, a_goalY, a_goalFrozen, a_equalX, a_equalY, a_differX, a_differY, a_choiceOf, a_pick, a_bind, a_text, a_from, a_stack) p0 p1 p2 := by
  subst e
  have i48 : vp_in (nI n) 48 := vp_in_nI h48 (by omega)
  have cn : (nI n).toNatClampNeg = n := nI_clamp (by omega)
  refine ⟨i48, nm_r (e' := upd a_sign n p0) (by rw [cn]) ⟨i48, nm_r (e' := upd a_first n p1) (by rw [cn]) ⟨i48, nm_r (e' := upd a_second n p2) (by rw [cn]) (nm_r (nI_1 n) ?_)⟩⟩⟩
  rw [nI_pred]
  exact h
/-- Y tests a table by 0 and 3 -/
theorem fz_tabY {A B : Prop} {z : Int32} (hz : fz_bad 4 z) (a : A) : (z < 0 → A) ∧ (¬ z < 0 → ((3 < z → A) ∧ (¬ 3 < z → B))) := by
  by_cases q : z < 0
  · exact br_t q a
  · refine br_f q (br_t ?_ a)
    rcases hz with h | h
    · exact absurd h q
    · obtain ⟨j, hj, rfl⟩ := nI_of q
      have := (nI_leI (a := 4) (by omega) hj).mp h
      exact (nI_ltI (a := 3) (by omega) hj).mpr (by omega)
theorem fz_tabY1 {A B : Prop} {t : Nat} (ht : t < 4) (b : B) : (nI t < 0 → A) ∧ (¬ nI t < 0 → ((3 < nI t → A) ∧ (¬ 3 < nI t → B))) :=
  br_f (nI_pos (by omega)) (pk_lt 3 t (fun q => absurd q (by omega)) (fun _ => b))
end
