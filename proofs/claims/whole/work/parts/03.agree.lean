/-! ===== the cells, X's side ===== -/
def fz_cx (V : Nat) (tm : Nat → List Nat) (kd fs sd sz vi : Nat → Int32) (cd : Nat → Int64) (c : Nat) : Prop :=
  fz_WT (tm c) ∧ (tm c).length ≤ 13 ∧ sz c = nI (tm c).length ∧ (∀ i, i < 32 → bt (vi c) i = decide (100 + i ∈ tm c)) ∧ (fz_Gr (tm c) → cd c = lN (fz_vl (tm c))) ∧
  ((∃ a, 1 ≤ a ∧ a ≤ 16 ∧ tm c = [a] ∧ kd c = 0) ∨ (∃ v, v < V ∧ tm c = [100 + v] ∧ kd c = 1 ∧ fs c = nI v) ∨ (∃ a b, a < c ∧ b < c ∧ tm c = 17 :: (tm a ++ tm b) ∧ kd c = 2 ∧ fs c = nI a ∧ sd c = nI b))
def fz_CX (V : Nat) (tm : Nat → List Nat) (n : Nat) (kd fs sd sz vi : Nat → Int32) (cd : Nat → Int64) : Prop := ∀ c, c < n → fz_cx V tm kd fs sd sz vi cd c
theorem fz_vi0 {V : Nat} {tm : Nat → List Nat} {kd fs sd sz vi : Nat → Int32} {cd : Nat → Int64} {c : Nat} (h : fz_cx V tm kd fs sd sz vi cd c) : vi c = 0 ↔ fz_Gr (tm c) := by
  obtain ⟨hw, _, _, hv, _, _⟩ := h
  constructor
  · intro e a ha
    rcases Nat.lt_or_ge a 100 with h1 | h1
    · exact h1
    · have h2 := fz_WTsym hw a ha
      have h3 : a - 100 < 6 := by
        unfold fz_lf at h2
        omega
      have h4 := hv (a - 100) (by omega)
      rw [e, b_0, show 100 + (a - 100) = a by omega] at h4
      rw [decide_eq_true ha] at h4
      exact absurd h4 (by decide)
  · intro g
    refine b_ext (fun i hi => ?_)
    rw [hv i hi, b_0]
    refine decide_eq_false (fun hm => ?_)
    have := g _ hm
    omega
/-! ===== values of variables ===== -/
def fz_Vb (tm : Nat → List Nat) (n : Nat) (val : Nat → Int32) (b : Nat → Option Nat) : Prop :=
  (∀ v, 6 ≤ v → b v = none) ∧ ∀ v, v < 6 → (b v = none ∧ val v = -1) ∨ ∃ c, c < n ∧ b v = some c ∧ val v = nI c ∧ fz_Gr (tm c)
theorem fz_nm1 : ∀ c : Nat, c < 48 → ¬ nI c = -1 := by decide +kernel
def fz_set (b : Nat → Option Nat) (v c : Nat) : Nat → Option Nat := fun w => if w = v then some c else b w
theorem fz_setS (b : Nat → Option Nat) (v c : Nat) : fz_set b v c v = some c := if_pos rfl
theorem fz_setN {b : Nat → Option Nat} {v w c : Nat} (h : w ≠ v) : fz_set b v c w = b w := if_neg h
theorem fz_VbS {tm : Nat → List Nat} {n : Nat} {val : Nat → Int32} {b : Nat → Option Nat} (h : fz_Vb tm n val b) {v c : Nat} (hv : v < 6) (hc : c < n) (g : fz_Gr (tm c)) : fz_Vb tm n (upd val v (nI c)) (fz_set b v c) := by
  refine ⟨fun w hw => ?_, fun w hw => ?_⟩
  · rw [fz_setN (by omega)]
    exact h.1 w hw
  · by_cases e : w = v
    · subst e
      exact .inr ⟨c, hc, fz_setS .., pk_us, g⟩
    · rw [fz_setN e, pk_un e]
      exact h.2 w hw
theorem fz_exS {tm : Nat → List Nat} {b : Nat → Option Nat} {v c : Nat} (hb : b v = none) (s : Nat → List Nat) : fz_ex tm (fz_set b v c) s ↔ fz_ex tm b s ∧ s v = tm c := by
  constructor
  · intro h
    refine ⟨fun w d hw => ?_, h v c (fz_setS ..)⟩
    by_cases e : w = v
    · rw [e, hb] at hw
      exact absurd hw (by simp)
    · exact h w d (by rw [fz_setN e]; exact hw)
  · rintro ⟨h1, h2⟩ w d hw
    by_cases e : w = v
    · subst e
      rw [fz_setS] at hw
      rw [← Option.some.inj hw]
      exact h2
    · rw [fz_setN e] at hw
      exact h1 w d hw
/-! ===== what a walk may still cost ===== -/
def fz_f (A : List Nat) : Nat := if A.all (fun a => decide (a < 100)) = true then 0 else if A.length = 1 then 0 else 2 * A.length
theorem fz_all (A : List Nat) : A.all (fun a => decide (a < 100)) = true ↔ fz_Gr A := by
  rw [List.all_eq_true]
  unfold fz_Gr
  simp
theorem fz_fG {A : List Nat} (h : fz_Gr A) : fz_f A = 0 := if_pos ((fz_all A).mpr h)
theorem fz_fN {A : List Nat} (h : ¬ fz_Gr A) (hl : A.length ≠ 1) : fz_f A = 2 * A.length := by
  unfold fz_f
  rw [if_neg (fun z => h ((fz_all A).mp z)), if_neg hl]
theorem fz_fle (A : List Nat) : fz_f A ≤ 2 * A.length := by
  unfold fz_f
  split
  · omega
  · split <;> omega
theorem fz_GrP {A B : List Nat} : fz_Gr (17 :: (A ++ B)) ↔ fz_Gr A ∧ fz_Gr B := by
  unfold fz_Gr
  constructor
  · intro h
    exact ⟨fun a ha => h a (List.mem_cons_of_mem _ (List.mem_append_left _ ha)), fun a ha => h a (List.mem_cons_of_mem _ (List.mem_append_right _ ha))⟩
  · rintro ⟨h1, h2⟩ a ha
    rcases List.mem_cons.mp ha with e | ha
    · omega
    · rcases List.mem_append.mp ha with ha | ha
      · exact h1 a ha
      · exact h2 a ha
/-- a pair's parts cost no more than the pair, and two less if it has variables -/
theorem fz_fP (A B : List Nat) (hA : 1 ≤ A.length) (hB : 1 ≤ B.length) : fz_f A + fz_f B ≤ fz_f (17 :: (A ++ B)) ∧ (¬ fz_Gr (17 :: (A ++ B)) → fz_f A + fz_f B + 2 ≤ fz_f (17 :: (A ++ B))) := by
  by_cases g : fz_Gr (17 :: (A ++ B))
  · have h := fz_GrP.mp g
    rw [fz_fG h.1, fz_fG h.2]
    exact ⟨by omega, fun z => absurd g z⟩
  · have h1 := fz_fle A
    have h2 := fz_fle B
    have h3 := fz_fN g (by simp only [List.length_cons, List.length_append]; omega)
    simp only [List.length_cons, List.length_append] at h3
    exact ⟨by omega, fun _ => by omega⟩
def fz_cs (tm : Nat → List Nat) (q : Nat × Nat) : Nat := 1 + fz_f (tm q.1) + fz_f (tm q.2)
def fz_Ph (tm : Nat → List Nat) : List (Nat × Nat) → Nat
  | [] => 0
  | q :: t => fz_cs tm q + fz_Ph tm t
theorem fz_Phl (tm : Nat → List Nat) : ∀ l : List (Nat × Nat), l.length ≤ fz_Ph tm l := by
  intro l
  induction l with
  | nil => exact Nat.le_refl _
  | cons q t ih =>
    show t.length + 1 ≤ fz_cs tm q + fz_Ph tm t
    unfold fz_cs
    omega
/-- two stacks of one height -/
def fz_sq (wx wy : Nat → Int32) : List (Nat × Nat) → Prop
  | [] => True
  | q :: t => wx t.length = nI q.1 ∧ wy t.length = nI q.2 ∧ fz_sq wx wy t
theorem fz_sqk {wx wy wx' wy' : Nat → Int32} : ∀ {l : List (Nat × Nat)}, fz_sq wx wy l → (∀ i, i < l.length → wx' i = wx i ∧ wy' i = wy i) → fz_sq wx' wy' l := by
  intro l
  induction l with
  | nil => intro _ _; exact trivial
  | cons q t ih =>
    intro h e
    have e1 := e t.length (by rw [List.length_cons]; omega)
    refine ⟨e1.1.trans h.1, e1.2.trans h.2.1, ih h.2.2 (fun i hi => e i (by rw [List.length_cons]; omega))⟩
theorem fz_sq2 {wx wy : Nat → Int32} {t : List (Nat × Nat)} (h : fz_sq wx wy t) (a b c d : Nat) : fz_sq (upd (upd wx t.length (nI c)) (t.length + 1) (nI a)) (upd (upd wy t.length (nI d)) (t.length + 1) (nI b)) ((a, b) :: (c, d) :: t) := by
  refine ⟨pk_us, pk_us, ?_, ?_, ?_⟩
  · rw [pk_un (by omega)]
    exact pk_us
  · rw [pk_un (by omega)]
    exact pk_us
  · refine fz_sqk h (fun i hi => ?_)
    rw [pk_un (by omega), pk_un (by omega), pk_un (by omega), pk_un (by omega)]
    exact ⟨rfl, rfl⟩
/-! ===== the walk's invariant: J is what the walk decides, b0 the values at its start, e: every variable has a value ===== -/
def fz_AI (tm : Nat → List Nat) (n : Nat) (b0 : Nat → Option Nat) (e : Prop) (J : (Nat → List Nat) → Prop) (A0 : List Nat) (b : Nat → Option Nat) (st : List (Nat × Nat)) : Prop :=
  (∀ q, q ∈ st → q.1 < n ∧ q.2 < n) ∧
  (∀ s, fz_As s → fz_ex tm b0 s → (J s ↔ (fz_ex tm b s ∧ ∀ q, q ∈ st → fz_sb s (tm q.1) = fz_sb s (tm q.2)))) ∧
  (e → b = b0 ∧ ∀ q, q ∈ st → ∀ v, (100 + v ∈ tm q.1 ∨ 100 + v ∈ tm q.2) → b0 v ≠ none) ∧
  (¬ e → ∀ q, q ∈ st → fz_Gr (tm q.2)) ∧
  (∀ v, 100 + v ∈ A0 → b v ≠ none ∨ ∃ q, q ∈ st ∧ 100 + v ∈ tm q.1) ∧ fz_le b0 b
section
variable {tm : Nat → List Nat} {n : Nat} {b0 b : Nat → Option Nat} {e : Prop} {J : (Nat → List Nat) → Prop} {A0 : List Nat} {q : Nat × Nat} {t : List (Nat × Nat)}
theorem fz_AI0 (h : fz_AI tm n b0 e J A0 b (q :: t)) (hf : ∀ s, fz_As s → fz_ex tm b s → ¬ fz_sb s (tm q.1) = fz_sb s (tm q.2)) : ∀ s, fz_As s → fz_ex tm b0 s → ¬ J s := by
  intro s hs h0 hJ
  have h1 := (h.2.1 s hs h0).mp hJ
  exact hf s hs h1.1 (h1.2 q List.mem_cons_self)
theorem fz_AIn (h : fz_AI tm n b0 e J A0 b (q :: t)) {v : Nat} (hq : tm q.1 = [100 + v]) (hb : b v = none) : ¬ e := by
  intro he
  obtain ⟨e1, e2⟩ := h.2.2.1 he
  refine e2 q List.mem_cons_self v (.inl ?_) (e1 ▸ hb)
  rw [hq]
  exact List.mem_singleton.mpr rfl
theorem fz_AIb (h : fz_AI tm n b0 e J A0 b (q :: t)) {v c : Nat} (hq : tm q.1 = [100 + v]) (hb : b v = none) (hg : fz_Gr (tm c)) (hc : ∀ s, fz_ex tm b s → fz_sb s (tm c) = fz_sb s (tm q.2)) : fz_AI tm n b0 e J A0 (fz_set b v c) t := by
  have ne := fz_AIn h hq hb
  obtain ⟨h1, h2, h3, h4, h5, hle⟩ := h
  refine ⟨fun r hr => h1 r (List.mem_cons_of_mem _ hr), fun s hs h0 => ?_, fun he => absurd he ne, fun he r hr => h4 he r (List.mem_cons_of_mem _ hr), fun w hw => ?_, fun w d hw => ?_⟩
  · rw [h2 s hs h0, fz_exS hb s]
    constructor
    · rintro ⟨x, y⟩
      have z := y q List.mem_cons_self
      rw [hq, fz_sbV, ← hc s x, fz_sbg hg] at z
      exact ⟨⟨x, z⟩, fun r hr => y r (List.mem_cons_of_mem _ hr)⟩
    · rintro ⟨⟨x, z⟩, y⟩
      refine ⟨x, fun r hr => ?_⟩
      rcases List.mem_cons.mp hr with e1 | hr
      · rw [e1, hq, fz_sbV, ← hc s x, fz_sbg hg]
        exact z
      · exact y r hr
  · by_cases ew : w = v
    · left
      rw [ew, fz_setS]
      simp
    · rcases h5 w hw with h6 | ⟨r, hr, h6⟩
      · left
        rw [fz_setN ew]
        exact h6
      · rcases List.mem_cons.mp hr with e1 | hr
        · rw [e1, hq, List.mem_singleton] at h6
          omega
        · exact .inr ⟨r, hr, h6⟩
  · have h7 := hle w d hw
    by_cases ew : w = v
    · rw [ew, hb] at h7
      exact absurd h7 (by simp)
    · rw [fz_setN ew]
      exact h7
theorem fz_AIs (h : fz_AI tm n b0 e J A0 b (q :: t)) (hv : ∀ v, 100 + v ∈ tm q.1 → b v ≠ none) (hq : ∀ s, fz_As s → fz_ex tm b s → fz_sb s (tm q.1) = fz_sb s (tm q.2)) : fz_AI tm n b0 e J A0 b t := by
  obtain ⟨h1, h2, h3, h4, h5, hle⟩ := h
  refine ⟨fun r hr => h1 r (List.mem_cons_of_mem _ hr), fun s hs h0 => ?_, fun he => ⟨(h3 he).1, fun r hr => (h3 he).2 r (List.mem_cons_of_mem _ hr)⟩, fun he r hr => h4 he r (List.mem_cons_of_mem _ hr), fun w hw => ?_, hle⟩
  · rw [h2 s hs h0]
    constructor
    · rintro ⟨x, y⟩
      exact ⟨x, fun r hr => y r (List.mem_cons_of_mem _ hr)⟩
    · rintro ⟨x, y⟩
      refine ⟨x, fun r hr => ?_⟩
      rcases List.mem_cons.mp hr with e1 | hr
      · rw [e1]
        exact hq s hs x
      · exact y r hr
  · rcases h5 w hw with h6 | ⟨r, hr, h6⟩
    · exact .inl h6
    · rcases List.mem_cons.mp hr with e1 | hr
      · rw [e1] at h6
        exact .inl (hv w h6)
      · exact .inr ⟨r, hr, h6⟩
theorem fz_AIp (hw : ∀ c, c < n → fz_WT (tm c)) (h : fz_AI tm n b0 e J A0 b (q :: t)) {a c a1 a2 c1 c2 : Nat} (l1 : a1 < n) (l2 : a2 < n) (m1 : c1 < n) (m2 : c2 < n)
    (ea : tm a = 17 :: (tm a1 ++ tm a2)) (ec : tm c = 17 :: (tm c1 ++ tm c2)) (sa : ∀ s, fz_ex tm b s → fz_sb s (tm a) = fz_sb s (tm q.1)) (sc : ∀ s, fz_ex tm b s → fz_sb s (tm c) = fz_sb s (tm q.2))
    (oa : a = q.1 ∨ (fz_Gr (tm a) ∧ ∀ v, 100 + v ∈ tm q.1 → b v ≠ none)) (oc : c = q.2 ∨ fz_Gr (tm c)) : fz_AI tm n b0 e J A0 b ((a1, c1) :: (a2, c2) :: t) := by
  obtain ⟨h1, h2, h3, h4, h5, hle⟩ := h
  have ma : ∀ v, (100 + v ∈ tm a1 ∨ 100 + v ∈ tm a2) → 100 + v ∈ tm a := by
    intro v hv
    rw [ea]
    exact List.mem_cons_of_mem _ (List.mem_append.mpr hv)
  have mc : ∀ v, (100 + v ∈ tm c1 ∨ 100 + v ∈ tm c2) → 100 + v ∈ tm c := by
    intro v hv
    rw [ec]
    exact List.mem_cons_of_mem _ (List.mem_append.mpr hv)
  refine ⟨?_, fun s hs h0 => ?_, fun he => ⟨(h3 he).1, ?_⟩, fun he => ?_, fun w hw => ?_, hle⟩
  · intro r hr
    rcases List.mem_cons.mp hr with e1 | hr
    · rw [e1]
      exact ⟨l1, m1⟩
    · rcases List.mem_cons.mp hr with e1 | hr
      · rw [e1]
        exact ⟨l2, m2⟩
      · exact h1 r (List.mem_cons_of_mem _ hr)
  · rw [h2 s hs h0]
    have key : fz_ex tm b s → (fz_sb s (tm q.1) = fz_sb s (tm q.2) ↔ (fz_sb s (tm a1) = fz_sb s (tm c1) ∧ fz_sb s (tm a2) = fz_sb s (tm c2))) := by
      intro x
      rw [← sa s x, ← sc s x, ea, ec, fz_sbP, fz_sbP]
      constructor
      · intro z
        exact fz_cut (fz_sbTm (fz_AsT hs) (hw a1 l1)) (fz_sbTm (fz_AsT hs) (hw c1 m1)) (List.cons.inj z).2
      · rintro ⟨z1, z2⟩
        rw [z1, z2]
    constructor
    · rintro ⟨x, y⟩
      have k := (key x).mp (y q List.mem_cons_self)
      refine ⟨x, fun r hr => ?_⟩
      rcases List.mem_cons.mp hr with e1 | hr
      · rw [e1]
        exact k.1
      · rcases List.mem_cons.mp hr with e1 | hr
        · rw [e1]
          exact k.2
        · exact y r (List.mem_cons_of_mem _ hr)
    · rintro ⟨x, y⟩
      refine ⟨x, fun r hr => ?_⟩
      rcases List.mem_cons.mp hr with e1 | hr
      · rw [e1]
        exact (key x).mpr ⟨y (a1, c1) List.mem_cons_self, y (a2, c2) (List.mem_cons_of_mem _ List.mem_cons_self)⟩
      · exact y r (List.mem_cons_of_mem _ (List.mem_cons_of_mem _ hr))
  · obtain ⟨eb, h6⟩ := h3 he
    have k : ∀ v, (100 + v ∈ tm a ∨ 100 + v ∈ tm c) → b0 v ≠ none := by
      rintro v (hv | hv)
      · rcases oa with o | o
        · exact h6 q List.mem_cons_self v (.inl (o ▸ hv))
        · have := o.1 _ hv
          omega
      · rcases oc with o | o
        · exact h6 q List.mem_cons_self v (.inr (o ▸ hv))
        · have := o _ hv
          omega
    intro r hr v hv
    rcases List.mem_cons.mp hr with e1 | hr
    · rw [e1] at hv
      rcases hv with hv | hv
      · exact k v (.inl (ma v (.inl hv)))
      · exact k v (.inr (mc v (.inl hv)))
    · rcases List.mem_cons.mp hr with e1 | hr
      · rw [e1] at hv
        rcases hv with hv | hv
        · exact k v (.inl (ma v (.inr hv)))
        · exact k v (.inr (mc v (.inr hv)))
      · exact h6 r (List.mem_cons_of_mem _ hr) v hv
  · have g : fz_Gr (tm c) := by
      rcases oc with o | o
      · rw [o]
        exact h4 he q List.mem_cons_self
      · exact o
    rw [ec] at g
    have g2 := fz_GrP.mp g
    intro r hr
    rcases List.mem_cons.mp hr with e1 | hr
    · rw [e1]
      exact g2.1
    · rcases List.mem_cons.mp hr with e1 | hr
      · rw [e1]
        exact g2.2
      · exact h4 he r (List.mem_cons_of_mem _ hr)
  · rcases h5 w hw with h6 | ⟨r, hr, h6⟩
    · exact .inl h6
    · rcases List.mem_cons.mp hr with e1 | hr
      · rw [e1] at h6
        rcases oa with o | o
        · rw [← o, ea] at h6
          rcases List.mem_cons.mp h6 with e2 | h7
          · omega
          · rcases List.mem_append.mp h7 with h8 | h8
            · exact .inr ⟨(a1, c1), List.mem_cons_self, h8⟩
            · exact .inr ⟨(a2, c2), List.mem_cons_of_mem _ List.mem_cons_self, h8⟩
        · exact .inl (o.2 w h6)
      · exact .inr ⟨r, List.mem_cons_of_mem _ (List.mem_cons_of_mem _ hr), h6⟩
end
