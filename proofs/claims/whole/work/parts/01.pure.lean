/-! ===== texts of terms: 1 .. 16 an atom, 17 a pair, 100 + v a variable ===== -/
/-- what is left of a list behind k terms -/
def fz_pd : List Nat → Nat → Option (List Nat)
  | [], k => if k = 0 then some [] else none
  | a :: l, k => if k = 0 then some (a :: l) else if a = 17 then fz_pd l (k + 1) else fz_pd l (k - 1)
theorem fz_pd0 (l : List Nat) : fz_pd l 0 = some l := by cases l <;> simp [fz_pd]
theorem fz_pdP (l : List Nat) (k : Nat) : fz_pd (17 :: l) (k + 1) = fz_pd l (k + 2) := by simp [fz_pd]
theorem fz_pdL {a : Nat} (h : a ≠ 17) (l : List Nat) (k : Nat) : fz_pd (a :: l) (k + 1) = fz_pd l k := by simp [fz_pd, h]
/-- one term's text: whatever stands behind it, one term fewer is asked there -/
def fz_Tm (A : List Nat) : Prop := ∀ (B : List Nat) (k : Nat), fz_pd (A ++ B) (k + 1) = fz_pd B k
theorem fz_TmL {a : Nat} (h : a ≠ 17) : fz_Tm [a] := fun B k => fz_pdL h B k
theorem fz_TmP {A B : List Nat} (hA : fz_Tm A) (hB : fz_Tm B) : fz_Tm (17 :: (A ++ B)) := by
  intro C k
  have e : 17 :: (A ++ B) ++ C = 17 :: (A ++ (B ++ C)) := by simp
  rw [e, fz_pdP, hA, hB]
theorem fz_cut {A A' B B' : List Nat} (hA : fz_Tm A) (hA' : fz_Tm A') (h : A ++ B = A' ++ B') : A = A' ∧ B = B' := by
  have e1 := hA B 0
  have e2 := hA' B' 0
  rw [h, e2, fz_pd0, fz_pd0] at e1
  have e : B' = B := Option.some.inj e1
  rw [e] at h
  exact ⟨List.append_cancel_right h, e.symm⟩
def fz_lf (a : Nat) : Prop := (1 ≤ a ∧ a ≤ 16) ∨ (100 ≤ a ∧ a < 106)
/-- a list that is a term's text -/
def fz_WT (A : List Nat) : Prop := ∀ P : List Nat → Prop, (∀ a, fz_lf a → P [a]) → (∀ A B, P A → P B → P (17 :: (A ++ B))) → P A
theorem fz_WTL {a : Nat} (h : fz_lf a) : fz_WT [a] := fun _ hl _ => hl a h
theorem fz_WTP {A B : List Nat} (hA : fz_WT A) (hB : fz_WT B) : fz_WT (17 :: (A ++ B)) := fun P hl hp => hp A B (hA P hl hp) (hB P hl hp)
theorem fz_ind {P : List Nat → Prop} {A : List Nat} (h : fz_WT A) (hl : ∀ a, fz_lf a → P [a]) (hp : ∀ A B, fz_WT A → fz_WT B → P A → P B → P (17 :: (A ++ B))) : P A := by
  have := h (fun A => fz_WT A ∧ P A) (fun a ha => ⟨fz_WTL ha, hl a ha⟩) (fun A B hA hB => ⟨fz_WTP hA.1 hB.1, hp A B hA.1 hB.1 hA.2 hB.2⟩)
  exact this.2
theorem fz_lf17 {a : Nat} (h : fz_lf a) : a ≠ 17 := by unfold fz_lf at h; omega
theorem fz_WTm {A : List Nat} (h : fz_WT A) : fz_Tm A := fz_ind h (fun _ ha => fz_TmL (fz_lf17 ha)) (fun _ _ _ _ a b => fz_TmP a b)
theorem fz_WTcase {A : List Nat} (h : fz_WT A) : (∃ a, fz_lf a ∧ A = [a]) ∨ ∃ B C, fz_WT B ∧ fz_WT C ∧ A = 17 :: (B ++ C) :=
  fz_ind (P := fun A => (∃ a, fz_lf a ∧ A = [a]) ∨ ∃ B C, fz_WT B ∧ fz_WT C ∧ A = 17 :: (B ++ C)) h (fun a ha => .inl ⟨a, ha, rfl⟩) (fun A B hA hB _ _ => .inr ⟨A, B, hA, hB, rfl⟩)
theorem fz_WTsym {A : List Nat} (h : fz_WT A) : ∀ a, a ∈ A → fz_lf a ∨ a = 17 := by
  refine fz_ind (P := fun A => ∀ a, a ∈ A → fz_lf a ∨ a = 17) h ?_ ?_
  · intro a ha b hb
    rw [List.mem_singleton] at hb
    rw [hb]
    exact .inl ha
  · intro A B _ _ hA hB a ha
    rcases List.mem_cons.mp ha with e | ha
    · exact .inr e
    · rcases List.mem_append.mp ha with ha | ha
      · exact hA a ha
      · exact hB a ha
theorem fz_WTlen {A : List Nat} (h : fz_WT A) : 1 ≤ A.length := by
  rcases fz_WTcase h with ⟨a, _, rfl⟩ | ⟨B, C, _, _, rfl⟩
  · simp
  · simp
/-! ===== variables replaced ===== -/
def fz_s1 (s : Nat → List Nat) (a : Nat) : List Nat := if 100 ≤ a then s (a - 100) else [a]
def fz_sb (s : Nat → List Nat) (A : List Nat) : List Nat := A.flatMap (fz_s1 s)
theorem fz_sbN (s : Nat → List Nat) : fz_sb s [] = [] := rfl
theorem fz_sbC (s : Nat → List Nat) (a : Nat) (A : List Nat) : fz_sb s (a :: A) = fz_s1 s a ++ fz_sb s A := List.flatMap_cons
theorem fz_sbA (s : Nat → List Nat) (A B : List Nat) : fz_sb s (A ++ B) = fz_sb s A ++ fz_sb s B := List.flatMap_append
theorem fz_sb1 (s : Nat → List Nat) (a : Nat) : fz_sb s [a] = fz_s1 s a := by rw [fz_sbC, fz_sbN, List.append_nil]
theorem fz_s1L {a : Nat} (h : a < 100) (s : Nat → List Nat) : fz_s1 s a = [a] := if_neg (by omega)
theorem fz_s1V (v : Nat) (s : Nat → List Nat) : fz_s1 s (100 + v) = s v := by
  unfold fz_s1
  rw [if_pos (by omega), Nat.add_sub_cancel_left]
theorem fz_sbP (s : Nat → List Nat) (A B : List Nat) : fz_sb s (17 :: (A ++ B)) = 17 :: (fz_sb s A ++ fz_sb s B) := by
  rw [fz_sbC, fz_s1L (by omega), fz_sbA]
  rfl
theorem fz_sbV (s : Nat → List Nat) (v : Nat) : fz_sb s [100 + v] = s v := by rw [fz_sb1, fz_s1V]
theorem fz_sbg {A : List Nat} (h : ∀ a, a ∈ A → a < 100) (s : Nat → List Nat) : fz_sb s A = A := by
  induction A with
  | nil => rfl
  | cons a A ih =>
    rw [fz_sbC, fz_s1L (h a List.mem_cons_self), ih (fun b hb => h b (List.mem_cons_of_mem _ hb))]
    rfl
theorem fz_sbi (A : List Nat) : fz_sb (fun v => [100 + v]) A = A := by
  induction A with
  | nil => rfl
  | cons a A ih =>
    rw [fz_sbC, ih]
    rcases Nat.lt_or_ge a 100 with h | h
    · rw [fz_s1L h]
      rfl
    · obtain ⟨v, rfl⟩ : ∃ v, a = 100 + v := ⟨a - 100, by omega⟩
      rw [fz_s1V]
      rfl
theorem fz_sbe {s s' : Nat → List Nat} {A : List Nat} (h : ∀ v, 100 + v ∈ A → s v = s' v) : fz_sb s A = fz_sb s' A := by
  induction A with
  | nil => rfl
  | cons a A ih =>
    rw [fz_sbC, fz_sbC, ih (fun v hv => h v (List.mem_cons_of_mem _ hv))]
    rcases Nat.lt_or_ge a 100 with ha | ha
    · rw [fz_s1L ha, fz_s1L ha]
    · obtain ⟨v, rfl⟩ : ∃ v, a = 100 + v := ⟨a - 100, by omega⟩
      rw [fz_s1V, fz_s1V, h v List.mem_cons_self]
theorem fz_sbTm {s : Nat → List Nat} (hs : ∀ v, fz_Tm (s v)) {A : List Nat} (h : fz_WT A) : fz_Tm (fz_sb s A) := by
  refine fz_ind (P := fun A => fz_Tm (fz_sb s A)) h ?_ ?_
  · intro a ha
    show fz_Tm (fz_sb s [a])
    rcases Nat.lt_or_ge a 100 with h | h
    · rw [fz_sb1, fz_s1L h]
      exact fz_TmL (fz_lf17 ha)
    · obtain ⟨v, rfl⟩ : ∃ v, a = 100 + v := ⟨a - 100, by omega⟩
      rw [fz_sbV]
      exact hs v
  · intro A B _ _ hA hB
    show fz_Tm (fz_sb s _)
    rw [fz_sbP]
    exact fz_TmP hA hB
/-- what a term's text becomes settles what each of its variables becomes -/
theorem fz_uq {s s' : Nat → List Nat} (hs : ∀ v, fz_Tm (s v)) (hs' : ∀ v, fz_Tm (s' v)) {A : List Nat} (h : fz_WT A) : fz_sb s A = fz_sb s' A → ∀ v, 100 + v ∈ A → s v = s' v := by
  refine fz_ind (P := fun A => fz_sb s A = fz_sb s' A → ∀ v, 100 + v ∈ A → s v = s' v) h ?_ ?_
  · intro a _ e v hv
    rw [List.mem_singleton] at hv
    rw [← hv, fz_sbV, fz_sbV] at e
    exact e
  · intro A B wA wB hA hB e v hv
    rw [fz_sbP, fz_sbP] at e
    have e2 := fz_cut (fz_sbTm hs wA) (fz_sbTm hs' wA) (List.cons.inj e).2
    rcases List.mem_cons.mp hv with hv | hv
    · omega
    · rcases List.mem_append.mp hv with hv | hv
      · exact hA e2.1 v hv
      · exact hB e2.2 v hv
theorem fz_sbl {s : Nat → List Nat} (hs : ∀ v, (s v).length ≤ 13) {A : List Nat} (h : fz_WT A) : (fz_sb s A).length ≤ 7 * A.length + 6 := by
  refine fz_ind (P := fun A => (fz_sb s A).length ≤ 7 * A.length + 6) h ?_ ?_
  · intro a _
    show (fz_sb s [a]).length ≤ 7 * 1 + 6
    rw [fz_sb1]
    unfold fz_s1
    split
    · have := hs (a - 100)
      omega
    · simp
  · intro A B _ _ hA hB
    show (fz_sb s (17 :: (A ++ B))).length ≤ 7 * (17 :: (A ++ B)).length + 6
    rw [fz_sbP]
    simp only [List.length_cons, List.length_append] at *
    omega
/-! ===== a text as a number ===== -/
def fz_vl (A : List Nat) : Nat := A.foldl (fun n a => 18 * n + a) 0
theorem fz_vf (A : List Nat) : ∀ n : Nat, A.foldl (fun n a => 18 * n + a) n = n * 18 ^ A.length + fz_vl A := by
  induction A with
  | nil => intro n; simp [fz_vl]
  | cons a A ih =>
    intro n
    have e1 : fz_vl (a :: A) = a * 18 ^ A.length + fz_vl A := by
      show A.foldl _ (18 * 0 + a) = _
      rw [ih]
      simp
    show A.foldl _ (18 * n + a) = _
    rw [ih, e1, List.length_cons, Nat.pow_succ, Nat.add_mul, Nat.add_assoc]
    congr 1
    rw [Nat.mul_comm 18 n, Nat.mul_assoc, Nat.mul_comm 18]
theorem fz_vA (A B : List Nat) : fz_vl (A ++ B) = fz_vl A * 18 ^ B.length + fz_vl B := by
  show (A ++ B).foldl _ 0 = _
  rw [List.foldl_append, fz_vf B]
  rfl
theorem fz_vC (a : Nat) (A : List Nat) : fz_vl (a :: A) = a * 18 ^ A.length + fz_vl A := by
  show A.foldl _ (18 * 0 + a) = _
  rw [fz_vf]
  simp
theorem fz_vS (A : List Nat) (a : Nat) : fz_vl (A ++ [a]) = 18 * fz_vl A + a := by
  show (A ++ [a]).foldl _ 0 = _
  rw [List.foldl_append]
  rfl
theorem fz_vlt {A : List Nat} (h : ∀ a, a ∈ A → a < 18) : fz_vl A < 18 ^ A.length := by
  induction A with
  | nil => simp [fz_vl]
  | cons a A ih =>
    have h1 := ih (fun b hb => h b (List.mem_cons_of_mem _ hb))
    have h2 := h a List.mem_cons_self
    rw [fz_vC, List.length_cons, Nat.pow_succ]
    have h3 : a * 18 ^ A.length ≤ 17 * 18 ^ A.length := Nat.mul_le_mul_right _ (by omega)
    omega
theorem fz_vge {a : Nat} {A : List Nat} (h : 1 ≤ a) : 18 ^ A.length ≤ fz_vl (a :: A) := by
  rw [fz_vC]
  have h3 : 1 * 18 ^ A.length ≤ a * 18 ^ A.length := Nat.mul_le_mul_right _ h
  omega
theorem fz_vjE : ∀ {A B : List Nat}, A.length = B.length → (∀ a, a ∈ A → a < 18) → (∀ a, a ∈ B → a < 18) → fz_vl A = fz_vl B → A = B := by
  intro A
  induction A with
  | nil =>
    intro B hl _ _ _
    cases B with
    | nil => rfl
    | cons b B => simp at hl
  | cons a A ih =>
    intro B hl hA hB e
    cases B with
    | nil => simp at hl
    | cons b B =>
      have hl' : A.length = B.length := by simpa using hl
      have h1 := fz_vlt (fun c hc => hA c (List.mem_cons_of_mem a hc))
      have h2 := fz_vlt (fun c hc => hB c (List.mem_cons_of_mem b hc))
      rw [fz_vC, fz_vC] at e
      rw [← hl'] at e h2
      have hp : 0 < 18 ^ A.length := Nat.pow_pos (by omega)
      have e1 : a = b := by
        have q1 : (a * 18 ^ A.length + fz_vl A) / 18 ^ A.length = a := by
          rw [Nat.mul_comm, Nat.mul_add_div hp, Nat.div_eq_of_lt h1, Nat.add_zero]
        have q2 : (b * 18 ^ A.length + fz_vl B) / 18 ^ A.length = b := by
          rw [Nat.mul_comm, Nat.mul_add_div hp, Nat.div_eq_of_lt h2, Nat.add_zero]
        rw [← q1, e, q2]
      rw [e1] at e
      rw [e1, ih hl' (fun c hc => hA c (List.mem_cons_of_mem a hc)) (fun c hc => hB c (List.mem_cons_of_mem b hc)) (Nat.add_left_cancel e)]
theorem fz_vlL {A B : List Nat} (hA : ∀ a, a ∈ A → a < 18) (hB : ∀ a, a ∈ B → 1 ≤ a) (h : fz_vl B ≤ fz_vl A) : B.length ≤ A.length := by
  cases B with
  | nil => simp
  | cons b B =>
    have h1 := fz_vlt hA
    have h2 : 18 ^ B.length ≤ fz_vl (b :: B) := fz_vge (hB b List.mem_cons_self)
    have h3 : 18 ^ B.length < 18 ^ A.length := by omega
    have h4 : B.length < A.length := (Nat.pow_lt_pow_iff_right (by omega)).mp h3
    rw [List.length_cons]
    omega
theorem fz_vj {A B : List Nat} (hA : ∀ a, a ∈ A → 1 ≤ a ∧ a < 18) (hB : ∀ a, a ∈ B → 1 ≤ a ∧ a < 18) (e : fz_vl A = fz_vl B) : A = B :=
  fz_vjE (Nat.le_antisymm (fz_vlL (fun a ha => (hB a ha).2) (fun a ha => (hA a ha).1) (by omega)) (fz_vlL (fun a ha => (hA a ha).2) (fun a ha => (hB a ha).1) (by omega))) (fun a ha => (hA a ha).2) (fun a ha => (hB a ha).2) e
/-- a ground text -/
def fz_Gr (A : List Nat) : Prop := ∀ a, a ∈ A → a < 100
theorem fz_Gd {A : List Nat} (h : fz_WT A) (g : fz_Gr A) : ∀ a, a ∈ A → 1 ≤ a ∧ a < 18 := by
  intro a ha
  have h1 := fz_WTsym h a ha
  have h2 := g a ha
  unfold fz_lf at h1
  omega
theorem fz_vjW {A B : List Nat} (wA : fz_WT A) (gA : fz_Gr A) (wB : fz_WT B) (gB : fz_Gr B) : fz_vl A = fz_vl B ↔ A = B :=
  ⟨fz_vj (fz_Gd wA gA) (fz_Gd wB gB), fun e => by rw [e]⟩
theorem fz_vbig {A : List Nat} (w : fz_WT A) (g : fz_Gr A) (h : A.length ≤ 13) : fz_vl A < 2 ^ 63 := by
  have h1 := fz_vlt (fun a ha => (fz_Gd w g a ha).2)
  have h2 : 18 ^ A.length ≤ 18 ^ 13 := Nat.pow_le_pow_right (by omega) h
  have h3 : 18 ^ 13 < 2 ^ 63 := by decide
  omega
/-! ===== sorted lists ===== -/
theorem fz_so : ∀ {l m : List Nat}, l.Pairwise (· < ·) → m.Pairwise (· < ·) → (∀ a, a ∈ l ↔ a ∈ m) → l = m := by
  intro l
  induction l with
  | nil =>
    intro m _ _ h
    cases m with
    | nil => rfl
    | cons b m => exact absurd ((h b).mpr List.mem_cons_self) (by simp)
  | cons a l ih =>
    intro m hl hm h
    cases m with
    | nil => exact absurd ((h a).mp List.mem_cons_self) (by simp)
    | cons b m =>
      rw [List.pairwise_cons] at hl hm
      have e : a = b := by
        rcases List.mem_cons.mp ((h a).mp List.mem_cons_self) with e | h1
        · exact e
        · rcases List.mem_cons.mp ((h b).mpr List.mem_cons_self) with e | h2
          · exact e.symm
          · have q1 := hm.1 a h1
            have q2 := hl.1 b h2
            omega
      subst e
      rw [ih hl.2 hm.2 ?_]
      intro c
      constructor
      · intro hc
        rcases List.mem_cons.mp ((h c).mp (List.mem_cons_of_mem _ hc)) with e | h1
        · have := hl.1 c hc
          omega
        · exact h1
      · intro hc
        rcases List.mem_cons.mp ((h c).mpr (List.mem_cons_of_mem _ hc)) with e | h1
        · have := hm.1 c hc
          omega
        · exact h1
/-! ===== choices as numbers: base 6, and base by base ===== -/
def fz_x6 (p : Nat → Nat) : Nat → Nat
  | 0 => 0
  | g + 1 => 6 * fz_x6 p g + p g
def fz_yR (R p : Nat → Nat) : Nat → Nat
  | 0 => 0
  | g + 1 => R g * fz_yR R p g + p g
def fz_pr (R : Nat → Nat) : Nat → Nat
  | 0 => 1
  | g + 1 => fz_pr R g * R g
theorem fz_dlt {a a' q q' r : Nat} (h : q < r) (h' : q' < r) : r * a + q < r * a' + q' ↔ a < a' ∨ (a = a' ∧ q < q') := by
  constructor
  · intro hlt
    rcases Nat.lt_or_ge a a' with h1 | h1
    · exact .inl h1
    · rcases Nat.eq_or_lt_of_le h1 with h2 | h2
      · subst h2
        exact .inr ⟨rfl, by omega⟩
      · have h3 : r * (a' + 1) ≤ r * a := Nat.mul_le_mul_left r h2
        rw [Nat.mul_succ] at h3
        omega
  · intro hh
    rcases hh with h1 | ⟨rfl, h1⟩
    · have h3 : r * (a + 1) ≤ r * a' := Nat.mul_le_mul_left r h1
      rw [Nat.mul_succ] at h3
      omega
    · omega
theorem fz_deq {a a' q q' r : Nat} (h : q < r) (h' : q' < r) : r * a + q = r * a' + q' ↔ a = a' ∧ q = q' := by
  constructor
  · intro e
    have h1 := fz_dlt (a := a) (a' := a') h h'
    have h2 := fz_dlt (a := a') (a' := a) h' h
    have h3 : ¬ (a < a' ∨ (a = a' ∧ q < q')) := fun z => by have := h1.mpr z; omega
    have h4 : ¬ (a' < a ∨ (a' = a ∧ q' < q)) := fun z => by have := h2.mpr z; omega
    omega
  · rintro ⟨rfl, rfl⟩
    rfl
/-- both numberings order the choices alike -/
theorem fz_ord {R p q : Nat → Nat} : ∀ G, (∀ g, g < G → p g < R g ∧ q g < R g ∧ R g ≤ 6) → (fz_x6 p G < fz_x6 q G ↔ fz_yR R p G < fz_yR R q G) ∧ (fz_x6 p G = fz_x6 q G ↔ fz_yR R p G = fz_yR R q G) := by
  intro G
  induction G with
  | zero => intro _; exact ⟨Iff.rfl, Iff.rfl⟩
  | succ G ih =>
    intro h
    obtain ⟨h1, h2⟩ := ih (fun g hg => h g (by omega))
    obtain ⟨a, b, c⟩ := h G (by omega)
    show (6 * fz_x6 p G + p G < 6 * fz_x6 q G + q G ↔ R G * fz_yR R p G + p G < R G * fz_yR R q G + q G) ∧ (6 * fz_x6 p G + p G = 6 * fz_x6 q G + q G ↔ R G * fz_yR R p G + p G = R G * fz_yR R q G + q G)
    rw [fz_dlt (by omega) (by omega), fz_dlt a b, fz_deq (by omega) (by omega), fz_deq a b, h1, h2]
    exact ⟨Iff.rfl, Iff.rfl⟩
theorem fz_x6e {p q : Nat → Nat} : ∀ G, (∀ g, g < G → p g < 6 ∧ q g < 6) → fz_x6 p G = fz_x6 q G → ∀ g, g < G → p g = q g := by
  intro G
  induction G with
  | zero => intro _ _ g hg; omega
  | succ G ih =>
    intro h e g hg
    have h0 := h G (by omega)
    have e2 := (fz_deq h0.1 h0.2).mp e
    rcases Nat.lt_or_ge g G with h1 | h1
    · exact ih (fun g hg => h g (by omega)) e2.1 g h1
    · have : g = G := by omega
      rw [this]
      exact e2.2
theorem fz_yRe {R p q : Nat → Nat} : ∀ G, (∀ g, g < G → p g < R g ∧ q g < R g) → fz_yR R p G = fz_yR R q G → ∀ g, g < G → p g = q g := by
  intro G
  induction G with
  | zero => intro _ _ g hg; omega
  | succ G ih =>
    intro h e g hg
    have h0 := h G (by omega)
    have e2 := (fz_deq h0.1 h0.2).mp e
    rcases Nat.lt_or_ge g G with h1 | h1
    · exact ih (fun g hg => h g (by omega)) e2.1 g h1
    · have : g = G := by omega
      rw [this]
      exact e2.2
theorem fz_x6lt {p : Nat → Nat} : ∀ G, (∀ g, g < G → p g < 6) → fz_x6 p G < 6 ^ G := by
  intro G
  induction G with
  | zero => intro _; exact (by decide : 0 < 6 ^ 0)
  | succ G ih =>
    intro h
    have h1 := ih (fun g hg => h g (by omega))
    have h2 := h G (by omega)
    show 6 * fz_x6 p G + p G < 6 ^ (G + 1)
    rw [Nat.pow_succ]
    omega
theorem fz_yRlt {R p : Nat → Nat} : ∀ G, (∀ g, g < G → p g < R g) → fz_yR R p G < fz_pr R G := by
  intro G
  induction G with
  | zero => intro _; exact (by decide : 0 < 1)
  | succ G ih =>
    intro h
    have h1 := ih (fun g hg => h g (by omega))
    have h2 := h G (by omega)
    show R G * fz_yR R p G + p G < fz_pr R G * R G
    have h3 : R G * (fz_yR R p G + 1) ≤ R G * fz_pr R G := Nat.mul_le_mul_left _ h1
    rw [Nat.mul_succ] at h3
    rw [Nat.mul_comm (fz_pr R G)]
    omega
theorem fz_x6s : ∀ G n, n < 6 ^ G → ∃ p : Nat → Nat, (∀ g, p g < 6) ∧ fz_x6 p G = n := by
  intro G
  induction G with
  | zero =>
    intro n hn
    exact ⟨fun _ => 0, fun _ => (by decide : 0 < 6), by rw [Nat.pow_zero] at hn; show 0 = n; omega⟩
  | succ G ih =>
    intro n hn
    rw [Nat.pow_succ] at hn
    obtain ⟨p, h1, h2⟩ := ih (n / 6) (by omega)
    refine ⟨fun g => if g = G then n % 6 else p g, ?_, ?_⟩
    · intro g
      show (if g = G then n % 6 else p g) < 6
      split
      · omega
      · exact h1 g
    · have e : ∀ k, k ≤ G → fz_x6 (fun g => if g = G then n % 6 else p g) k = fz_x6 p k := by
        intro k
        induction k with
        | zero => intro _; rfl
        | succ k ik =>
          intro hk
          show 6 * fz_x6 (fun g => if g = G then n % 6 else p g) k + (if k = G then n % 6 else p k) = 6 * fz_x6 p k + p k
          rw [ik (by omega), if_neg (by omega)]
      show 6 * fz_x6 (fun g => if g = G then n % 6 else p g) G + (if G = G then n % 6 else p G) = n
      rw [e G (Nat.le_refl _), if_pos rfl, h2]
      omega
theorem fz_yRs {R : Nat → Nat} : ∀ G n, n < fz_pr R G → ∃ p : Nat → Nat, (∀ g, g < G → p g < R g) ∧ fz_yR R p G = n := by
  intro G
  induction G with
  | zero =>
    intro n hn
    exact ⟨fun _ => 0, fun g hg => by omega, by have : n < 1 := hn; show 0 = n; omega⟩
  | succ G ih =>
    intro n hn
    have hn' : n < fz_pr R G * R G := hn
    have hR : 0 < R G := by
      rcases Nat.eq_zero_or_pos (R G) with h | h
      · rw [h, Nat.mul_zero] at hn'
        omega
      · exact h
    obtain ⟨p, h1, h2⟩ := ih (n / R G) ((Nat.div_lt_iff_lt_mul hR).mpr hn')
    refine ⟨fun g => if g = G then n % R G else p g, ?_, ?_⟩
    · intro g hg
      show (if g = G then n % R G else p g) < R g
      split
      · rename_i e
        rw [e]
        exact Nat.mod_lt _ hR
      · exact h1 g (by omega)
    · have e : ∀ k, k ≤ G → fz_yR R (fun g => if g = G then n % R G else p g) k = fz_yR R p k := by
        intro k
        induction k with
        | zero => intro _; rfl
        | succ k ik =>
          intro hk
          show R k * fz_yR R (fun g => if g = G then n % R G else p g) k + (if k = G then n % R G else p k) = R k * fz_yR R p k + p k
          rw [ik (by omega), if_neg (by omega)]
      show R G * fz_yR R (fun g => if g = G then n % R G else p g) G + (if G = G then n % R G else p G) = n
      rw [e G (Nat.le_refl _), if_pos rfl, h2]
      exact Nat.div_add_mod n (R G)
/-! ===== the numbers below n with a property, in order ===== -/
noncomputable def fz_fl (P : Nat → Prop) (n : Nat) : List Nat := (List.range n).filter (fun i => @decide (P i) (Classical.propDecidable _))
theorem fz_flm {P : Nat → Prop} {n a : Nat} : a ∈ fz_fl P n ↔ a < n ∧ P a := by
  unfold fz_fl
  rw [List.mem_filter, List.mem_range]
  simp
theorem fz_fl0 (P : Nat → Prop) : fz_fl P 0 = [] := rfl
theorem fz_flT {P : Nat → Prop} {n : Nat} (h : P n) : fz_fl P (n + 1) = fz_fl P n ++ [n] := by
  unfold fz_fl
  rw [List.range_succ, List.filter_append]
  simp [h]
theorem fz_flF {P : Nat → Prop} {n : Nat} (h : ¬ P n) : fz_fl P (n + 1) = fz_fl P n := by
  unfold fz_fl
  rw [List.range_succ, List.filter_append]
  simp [h]
theorem fz_fll (P : Nat → Prop) (n : Nat) : (fz_fl P n).length ≤ n := by
  have h := List.length_filter_le (fun i => @decide (P i) (Classical.propDecidable _)) (List.range n)
  rw [List.length_range] at h
  exact h
theorem fz_flp (P : Nat → Prop) (n : Nat) : (fz_fl P n).Pairwise (· < ·) := List.Pairwise.filter _ List.pairwise_lt_range
noncomputable def fz_ph (R : Nat → Nat) (G n : Nat) : Nat → Nat := if h : n < fz_pr R G then Classical.choose (fz_yRs G n h) else fun _ => 0
theorem fz_phs {R : Nat → Nat} {G n : Nat} (h : n < fz_pr R G) : (∀ g, g < G → fz_ph R G n g < R g) ∧ fz_yR R (fz_ph R G n) G = n := by
  unfold fz_ph
  rw [dif_pos h]
  exact Classical.choose_spec (fz_yRs G n h)
/-- the k-th of the one numbering is the k-th of the other -/
theorem fz_two {R : Nat → Nat} {G : Nat} (hR : ∀ g, g < G → R g ≤ 6) {Q : (Nat → Nat) → Prop} (hQ : ∀ p q : Nat → Nat, (∀ g, g < G → p g = q g) → Q p → Q q) :
    fz_fl (fun c => ∃ p, (∀ g, g < G → p g < R g) ∧ Q p ∧ fz_x6 p G = c) (6 ^ G) = (fz_fl (fun c => ∃ p, (∀ g, g < G → p g < R g) ∧ Q p ∧ fz_yR R p G = c) (fz_pr R G)).map (fun n => fz_x6 (fz_ph R G n) G) := by
  refine fz_so (fz_flp _ _) ?_ ?_
  · rw [List.pairwise_map]
    refine List.Pairwise.imp_of_mem ?_ (fz_flp _ _)
    intro a b ha hb hab
    obtain ⟨a1, a2⟩ := fz_phs (fz_flm.mp ha).1
    obtain ⟨b1, b2⟩ := fz_phs (fz_flm.mp hb).1
    refine ((fz_ord G (fun g hg => ⟨a1 g hg, b1 g hg, hR g hg⟩)).1).mpr ?_
    rw [a2, b2]
    exact hab
  · intro c
    rw [List.mem_map]
    constructor
    · intro hc
      obtain ⟨h1, p, h2, h3, h4⟩ := fz_flm.mp hc
      have h5 := fz_yRlt G h2
      obtain ⟨q1, q2⟩ := fz_phs h5
      refine ⟨fz_yR R p G, fz_flm.mpr ⟨h5, p, h2, h3, rfl⟩, ?_⟩
      rw [← h4]
      exact ((fz_ord G (fun g hg => ⟨q1 g hg, h2 g hg, hR g hg⟩)).2).mpr q2
    · rintro ⟨n, hn, rfl⟩
      obtain ⟨h1, p, h2, h3, h4⟩ := fz_flm.mp hn
      obtain ⟨q1, q2⟩ := fz_phs h1
      have e := fz_yRe G (fun g hg => ⟨h2 g hg, q1 g hg⟩) (h4.trans q2.symm)
      refine fz_flm.mpr ⟨fz_x6lt G (fun g hg => ?_), fz_ph R G n, q1, hQ p _ e h3, rfl⟩
      have := q1 g hg
      have := hR g hg
      omega
/-! ===== an array that spells a list from b on ===== -/
def fz_sp (a : Nat → Int32) (b : Nat) (l : List Nat) : Prop := ∀ i x, l[i]? = some x → a (b + i) = nI x
theorem fz_sp0 (a : Nat → Int32) (b : Nat) : fz_sp a b [] := by intro i x h; simp at h
theorem fz_spk {a a' : Nat → Int32} {b : Nat} {l : List Nat} (h : fz_sp a b l) (e : ∀ i, i < l.length → a' (b + i) = a (b + i)) : fz_sp a' b l := by
  intro i x hx
  have hi : i < l.length := by
    rcases Nat.lt_or_ge i l.length with h1 | h1
    · exact h1
    · rw [List.getElem?_eq_none h1] at hx
      exact absurd hx (by simp)
  rw [e i hi]
  exact h i x hx
theorem fz_spu {a : Nat → Int32} {b : Nat} {l : List Nat} (h : fz_sp a b l) (x : Nat) : fz_sp (upd a (b + l.length) (nI x)) b (l ++ [x]) := by
  intro i y hy
  rcases Nat.lt_or_ge i l.length with h1 | h1
  · rw [List.getElem?_append_left h1] at hy
    have e : upd a (b + l.length) (nI x) (b + i) = a (b + i) := by
      unfold upd
      rw [if_neg (by omega)]
    rw [e]
    exact h i y hy
  · rw [List.getElem?_append_right h1] at hy
    have h2 : i - l.length = 0 := by
      rcases Nat.eq_zero_or_pos (i - l.length) with z | z
      · exact z
      · rw [List.getElem?_eq_none (by simp; omega)] at hy
        exact absurd hy (by simp)
    rw [h2] at hy
    have h3 : i = l.length := by omega
    have h4 : x = y := by simpa using hy
    rw [h3, h4]
    unfold upd
    rw [if_pos rfl]
/-- a stack: its top is the list's head -/
def fz_sk (a : Nat → Int32) : List Nat → Prop
  | [] => True
  | c :: t => a t.length = nI c ∧ fz_sk a t
theorem fz_skk {a a' : Nat → Int32} : ∀ {l : List Nat}, fz_sk a l → (∀ i, i < l.length → a' i = a i) → fz_sk a' l := by
  intro l
  induction l with
  | nil => intro _ _; exact trivial
  | cons c t ih =>
    intro h e
    refine ⟨?_, ih h.2 (fun i hi => e i (by rw [List.length_cons]; omega))⟩
    rw [e t.length (by rw [List.length_cons]; omega)]
    exact h.1
theorem fz_sk2 {a : Nat → Int32} {t : List Nat} (h : fz_sk a t) (f s : Nat) : fz_sk (upd (upd a t.length (nI s)) (t.length + 1) (nI f)) (f :: s :: t) := by
  refine ⟨?_, ?_, ?_⟩
  · show upd _ (s :: t).length (nI f) (s :: t).length = _
    unfold upd
    rw [if_pos rfl]
  · unfold upd
    rw [if_neg (by omega), if_pos rfl]
  · refine fz_skk h (fun i hi => ?_)
    unfold upd
    rw [if_neg (by omega), if_neg (by omega)]
