section
theorem pk_us {f : Nat → Int32} {k : Nat} {x : Int32} : upd f k x k = x := if_pos rfl
theorem pk_un {f : Nat → Int32} {k j : Nat} {x : Int32} (h : j ≠ k) : upd f k x j = f j := if_neg h
theorem pk_uLs {f : Nat → Int64} {k : Nat} {x : Int64} : vp_updL f k x k = x := if_pos rfl
theorem pk_uLn {f : Nat → Int64} {k j : Nat} {x : Int64} (h : j ≠ k) : vp_updL f k x j = f j := if_neg h
theorem pk_sub {a b : Nat} (h : b ≤ a) : nI a - nI b = nI (a - b) := by
  obtain ⟨c, rfl⟩ : ∃ c, a = c + b := ⟨a - b, by omega⟩
  rw [← nI_add, Int32.add_sub_cancel, Nat.add_sub_cancel]
theorem pk_m1 (n : Nat) : nI (n + 1) + (-1) = nI n := by
  rw [← nI_1, Int32.add_assoc, show (1 : Int32) + (-1) = 0 from rfl, Int32.add_zero]
theorem pk_mul (a b : Nat) : nI a * nI b = nI (a * b) := (Int32.ofNat_mul a b).symm
theorem pk_div {a d : Nat} (ha : a < 2 ^ 31) (h0 : 0 < d) (hd : d < 2 ^ 31) : nI a / nI d = nI (a / d) := by
  apply Int32.toInt_inj.mp
  rw [lg_idiv_nonneg (by rw [nI_toInt ha]; omega) (by rw [nI_toInt hd]; omega), nI_toInt ha, nI_toInt hd, nI_toInt (Nat.lt_of_le_of_lt (Nat.div_le_self a d) ha)]
  first | rfl | exact (Int.natCast_ediv _ _).symm
theorem pk_rem {a d : Nat} (ha : a < 2 ^ 31) (h0 : 0 < d) (hd : d < 2 ^ 31) : nI a - nI a / nI d * nI d = nI (a % d) := by
  rw [pk_div ha h0 hd, pk_mul, pk_sub (Nat.div_mul_le_self a d)]
  exact congrArg nI (by have := Nat.div_add_mod' a d; omega)
theorem pk_ix (x : Int32) {n : Nat} (hn : n < 2 ^ 31) : x < 0 ∨ nI n ≤ x ∨ ∃ j : Nat, j < n ∧ x = nI j := by
  by_cases h : x < 0
  · exact Or.inl h
  · obtain ⟨j, hj, rfl⟩ := nI_of h
    by_cases h2 : j < n
    · exact Or.inr (Or.inr ⟨j, h2, rfl⟩)
    · exact Or.inr (Or.inl (nI_le (by omega) hj))
theorem pk_le {x y : Int32} {A B : Prop} (a b : Nat) (f : a ≤ b → A) (g : b < a → B) (hx : x = nI a := by rfl) (hy : y = nI b := by rfl) (ha : a < 2 ^ 31 := by omega) (hb : b < 2 ^ 31 := by omega) : (x ≤ y → A) ∧ (¬ x ≤ y → B) := by
  subst hx hy
  rw [nI_leI ha hb]
  exact ⟨f, fun z => g (by omega)⟩
theorem pk_lt {x y : Int32} {A B : Prop} (a b : Nat) (f : a < b → A) (g : b ≤ a → B) (hx : x = nI a := by rfl) (hy : y = nI b := by rfl) (ha : a < 2 ^ 31 := by omega) (hb : b < 2 ^ 31 := by omega) : (x < y → A) ∧ (¬ x < y → B) := by
  subst hx hy
  rw [nI_ltI ha hb]
  exact ⟨f, fun z => g (by omega)⟩
theorem pk_eq {x y : Int32} {A B : Prop} (a b : Nat) (f : a = b → A) (g : a ≠ b → B) (hx : x = nI a := by rfl) (hy : y = nI b := by rfl) (ha : a < 2 ^ 31 := by omega) (hb : b < 2 ^ 31 := by omega) : (x = y → A) ∧ (¬ x = y → B) := by
  subst hx hy
  rw [nI_eq ha hb]
  exact ⟨f, g⟩
theorem pk_lT {n : Nat} (h : n < 2 ^ 63) : (lN n).toInt = (n : Int) := lg_ofNat_toInt h
theorem pk_lEQ {a b : Nat} (ha : a < 2 ^ 63) (hb : b < 2 ^ 63) : lN a = lN b ↔ a = b := by
  rw [← Int64.toInt_inj, pk_lT ha, pk_lT hb]; omega
def bt (x : Int32) (i : Nat) : Bool := x.toBitVec.getLsbD i
theorem b_ext {x y : Int32} (h : ∀ i, i < 32 → bt x i = bt y i) : x = y := Int32.toBitVec_inj.mp (BitVec.eq_of_getLsbD_eq (fun i hi => h i hi))
theorem b_or (x y : Int32) (i : Nat) : bt (x ||| y) i = (bt x i || bt y i) := by unfold bt; rw [Int32.toBitVec_or, BitVec.getLsbD_or]
theorem b_and (x y : Int32) (i : Nat) : bt (x &&& y) i = (bt x i && bt y i) := by unfold bt; rw [Int32.toBitVec_and, BitVec.getLsbD_and]
theorem b_xor (x y : Int32) (i : Nat) : bt (x ^^^ y) i = (bt x i ^^ bt y i) := by unfold bt; rw [Int32.toBitVec_xor, BitVec.getLsbD_xor]
theorem b_big {x : Int32} {i : Nat} (h : 32 ≤ i) : bt x i = false := BitVec.getLsbD_of_ge _ _ h
theorem b_m1 : ∀ i, i < 32 → bt (-1) i = true := by decide +kernel
theorem b_0 (i : Nat) : bt 0 i = false := BitVec.getLsbD_zero
theorem s_l : ∀ n, n < 32 → ((nI n &&& 31).toBitVec.smod 32).toNat = n := by decide +kernel
theorem b_shl (n : Nat) (hn : n < 32) (x : Int32) {i : Nat} (hi : i < 32) : bt (x <<< (nI n &&& 31)) i = (decide (n ≤ i) && bt x (i - n)) := by
  unfold bt
  rw [Int32.toBitVec_shiftLeft]
  show (x.toBitVec <<< ((nI n &&& 31).toBitVec.smod 32).toNat).getLsbD i = _
  rw [s_l n hn, BitVec.getLsbD_shiftLeft]
  rcases Nat.lt_or_ge i n with h | h
  · simp [h, Nat.not_le.mpr h]
  · simp [hi, h, Nat.not_lt.mpr h]
theorem b_sshr (n : Nat) (hn : n < 32) (x : Int32) {i : Nat} (hi : i < 32) : bt (x >>> (nI n &&& 31)) i = if n + i < 32 then bt x (n + i) else bt x 31 := by
  unfold bt
  rw [Int32.toBitVec_shiftRight]
  show (x.toBitVec.sshiftRight ((nI n &&& 31).toBitVec.smod 32).toNat).getLsbD i = _
  rw [s_l n hn, BitVec.getLsbD_sshiftRight, BitVec.msb_eq_getLsbD_last]
  simp [hi]
end
section
/-! ===== texts of terms: 1 .. 16 an atom, 17 a pair, 100 + v a variable ===== -/
/-- what is left of a list behind k terms -/
def fz_pd : List Nat → Nat → Option (List Nat)
  | [], k => if k = 0 then some [] else none
  | a :: l, k => if k = 0 then some (a :: l) else if a = 17 then fz_pd l (k + 1) else fz_pd l (k - 1)
theorem fz_pd0 (l : List Nat) : fz_pd l 0 = some l := by cases l <;> simp [fz_pd]
theorem fz_pdP (l : List Nat) (k : Nat) : fz_pd (17 :: l) (k + 1) = fz_pd l (k + 2) := by simp [fz_pd]
theorem fz_pdL {a : Nat} (h : a ≠ 17) (l : List Nat) (k : Nat) : fz_pd (a :: l) (k + 1) = fz_pd l k := by simp [fz_pd, h]
/-- one term's text: whatever stands behind it, one term fewer is asked there -/
def fz_Tm (A : List Nat) : Prop := ∀ (B : List Nat) (k : Nat), fz_pd (A ++ B) (k + 1) = fz_pd B k
theorem fz_TmL {a : Nat} (h : a ≠ 17) : fz_Tm [a] := fun B k => fz_pdL h B k
theorem fz_TmP {A B : List Nat} (hA : fz_Tm A) (hB : fz_Tm B) : fz_Tm (17 :: (A ++ B)) := by
  intro C k
  have e : 17 :: (A ++ B) ++ C = 17 :: (A ++ (B ++ C)) := by simp
  rw [e, fz_pdP, hA, hB]
theorem fz_cut {A A' B B' : List Nat} (hA : fz_Tm A) (hA' : fz_Tm A') (h : A ++ B = A' ++ B') : A = A' ∧ B = B' := by
  have e1 := hA B 0
  have e2 := hA' B' 0
  rw [h, e2, fz_pd0, fz_pd0] at e1
  have e : B' = B := Option.some.inj e1
  rw [e] at h
  exact ⟨List.append_cancel_right h, e.symm⟩
def fz_lf (a : Nat) : Prop := (1 ≤ a ∧ a ≤ 16) ∨ (100 ≤ a ∧ a < 106)
/-- a list that is a term's text -/
def fz_WT (A : List Nat) : Prop := ∀ P : List Nat → Prop, (∀ a, fz_lf a → P [a]) → (∀ A B, P A → P B → P (17 :: (A ++ B))) → P A
theorem fz_WTL {a : Nat} (h : fz_lf a) : fz_WT [a] := fun _ hl _ => hl a h
theorem fz_WTP {A B : List Nat} (hA : fz_WT A) (hB : fz_WT B) : fz_WT (17 :: (A ++ B)) := fun P hl hp => hp A B (hA P hl hp) (hB P hl hp)
theorem fz_ind {P : List Nat → Prop} {A : List Nat} (h : fz_WT A) (hl : ∀ a, fz_lf a → P [a]) (hp : ∀ A B, fz_WT A → fz_WT B → P A → P B → P (17 :: (A ++ B))) : P A := by
  have := h (fun A => fz_WT A ∧ P A) (fun a ha => ⟨fz_WTL ha, hl a ha⟩) (fun A B hA hB => ⟨fz_WTP hA.1 hB.1, hp A B hA.1 hB.1 hA.2 hB.2⟩)
  exact this.2
theorem fz_lf17 {a : Nat} (h : fz_lf a) : a ≠ 17 := by unfold fz_lf at h; omega
theorem fz_WTm {A : List Nat} (h : fz_WT A) : fz_Tm A := fz_ind h (fun _ ha => fz_TmL (fz_lf17 ha)) (fun _ _ _ _ a b => fz_TmP a b)
theorem fz_WTcase {A : List Nat} (h : fz_WT A) : (∃ a, fz_lf a ∧ A = [a]) ∨ ∃ B C, fz_WT B ∧ fz_WT C ∧ A = 17 :: (B ++ C) :=
  fz_ind (P := fun A => (∃ a, fz_lf a ∧ A = [a]) ∨ ∃ B C, fz_WT B ∧ fz_WT C ∧ A = 17 :: (B ++ C)) h (fun a ha => .inl ⟨a, ha, rfl⟩) (fun A B hA hB _ _ => .inr ⟨A, B, hA, hB, rfl⟩)
theorem fz_WTsym {A : List Nat} (h : fz_WT A) : ∀ a, a ∈ A → fz_lf a ∨ a = 17 := by
  refine fz_ind (P := fun A => ∀ a, a ∈ A → fz_lf a ∨ a = 17) h ?_ ?_
  · intro a ha b hb
    rw [List.mem_singleton] at hb
    rw [hb]
    exact .inl ha
  · intro A B _ _ hA hB a ha
    rcases List.mem_cons.mp ha with e | ha
    · exact .inr e
    · rcases List.mem_append.mp ha with ha | ha
      · exact hA a ha
      · exact hB a ha
theorem fz_WTlen {A : List Nat} (h : fz_WT A) : 1 ≤ A.length := by
  rcases fz_WTcase h with ⟨a, _, rfl⟩ | ⟨B, C, _, _, rfl⟩
  · simp
  · simp
/-! ===== variables replaced ===== -/
def fz_s1 (s : Nat → List Nat) (a : Nat) : List Nat := if 100 ≤ a then s (a - 100) else [a]
def fz_sb (s : Nat → List Nat) (A : List Nat) : List Nat := A.flatMap (fz_s1 s)
theorem fz_sbN (s : Nat → List Nat) : fz_sb s [] = [] := rfl
theorem fz_sbC (s : Nat → List Nat) (a : Nat) (A : List Nat) : fz_sb s (a :: A) = fz_s1 s a ++ fz_sb s A := List.flatMap_cons
theorem fz_sbA (s : Nat → List Nat) (A B : List Nat) : fz_sb s (A ++ B) = fz_sb s A ++ fz_sb s B := List.flatMap_append
theorem fz_sb1 (s : Nat → List Nat) (a : Nat) : fz_sb s [a] = fz_s1 s a := by rw [fz_sbC, fz_sbN, List.append_nil]
theorem fz_s1L {a : Nat} (h : a < 100) (s : Nat → List Nat) : fz_s1 s a = [a] := if_neg (by omega)
theorem fz_s1V (v : Nat) (s : Nat → List Nat) : fz_s1 s (100 + v) = s v := by
  unfold fz_s1
  rw [if_pos (by omega), Nat.add_sub_cancel_left]
theorem fz_sbP (s : Nat → List Nat) (A B : List Nat) : fz_sb s (17 :: (A ++ B)) = 17 :: (fz_sb s A ++ fz_sb s B) := by
  rw [fz_sbC, fz_s1L (by omega), fz_sbA]
  rfl
theorem fz_sbV (s : Nat → List Nat) (v : Nat) : fz_sb s [100 + v] = s v := by rw [fz_sb1, fz_s1V]
theorem fz_sbg {A : List Nat} (h : ∀ a, a ∈ A → a < 100) (s : Nat → List Nat) : fz_sb s A = A := by
  induction A with
  | nil => rfl
  | cons a A ih =>
    rw [fz_sbC, fz_s1L (h a List.mem_cons_self), ih (fun b hb => h b (List.mem_cons_of_mem _ hb))]
    rfl
theorem fz_sbi (A : List Nat) : fz_sb (fun v => [100 + v]) A = A := by
  induction A with
  | nil => rfl
  | cons a A ih =>
    rw [fz_sbC, ih]
    rcases Nat.lt_or_ge a 100 with h | h
    · rw [fz_s1L h]
      rfl
    · obtain ⟨v, rfl⟩ : ∃ v, a = 100 + v := ⟨a - 100, by omega⟩
      rw [fz_s1V]
      rfl
theorem fz_sbe {s s' : Nat → List Nat} {A : List Nat} (h : ∀ v, 100 + v ∈ A → s v = s' v) : fz_sb s A = fz_sb s' A := by
  induction A with
  | nil => rfl
  | cons a A ih =>
    rw [fz_sbC, fz_sbC, ih (fun v hv => h v (List.mem_cons_of_mem _ hv))]
    rcases Nat.lt_or_ge a 100 with ha | ha
    · rw [fz_s1L ha, fz_s1L ha]
    · obtain ⟨v, rfl⟩ : ∃ v, a = 100 + v := ⟨a - 100, by omega⟩
      rw [fz_s1V, fz_s1V, h v List.mem_cons_self]
theorem fz_sbTm {s : Nat → List Nat} (hs : ∀ v, fz_Tm (s v)) {A : List Nat} (h : fz_WT A) : fz_Tm (fz_sb s A) := by
  refine fz_ind (P := fun A => fz_Tm (fz_sb s A)) h ?_ ?_
  · intro a ha
    show fz_Tm (fz_sb s [a])
    rcases Nat.lt_or_ge a 100 with h | h
    · rw [fz_sb1, fz_s1L h]
      exact fz_TmL (fz_lf17 ha)
    · obtain ⟨v, rfl⟩ : ∃ v, a = 100 + v := ⟨a - 100, by omega⟩
      rw [fz_sbV]
      exact hs v
  · intro A B _ _ hA hB
    show fz_Tm (fz_sb s _)
    rw [fz_sbP]
    exact fz_TmP hA hB
/-- what a term's text becomes settles what each of its variables becomes -/
theorem fz_uq {s s' : Nat → List Nat} (hs : ∀ v, fz_Tm (s v)) (hs' : ∀ v, fz_Tm (s' v)) {A : List Nat} (h : fz_WT A) : fz_sb s A = fz_sb s' A → ∀ v, 100 + v ∈ A → s v = s' v := by
  refine fz_ind (P := fun A => fz_sb s A = fz_sb s' A → ∀ v, 100 + v ∈ A → s v = s' v) h ?_ ?_
  · intro a _ e v hv
    rw [List.mem_singleton] at hv
    rw [← hv, fz_sbV, fz_sbV] at e
    exact e
  · intro A B wA wB hA hB e v hv
    rw [fz_sbP, fz_sbP] at e
    have e2 := fz_cut (fz_sbTm hs wA) (fz_sbTm hs' wA) (List.cons.inj e).2
    rcases List.mem_cons.mp hv with hv | hv
    · omega
    · rcases List.mem_append.mp hv with hv | hv
      · exact hA e2.1 v hv
      · exact hB e2.2 v hv
theorem fz_sbl {s : Nat → List Nat} (hs : ∀ v, (s v).length ≤ 13) {A : List Nat} (h : fz_WT A) : (fz_sb s A).length ≤ 7 * A.length + 6 := by
  refine fz_ind (P := fun A => (fz_sb s A).length ≤ 7 * A.length + 6) h ?_ ?_
  · intro a _
    show (fz_sb s [a]).length ≤ 7 * 1 + 6
    rw [fz_sb1]
    unfold fz_s1
    split
    · have := hs (a - 100)
      omega
    · simp
  · intro A B _ _ hA hB
    show (fz_sb s (17 :: (A ++ B))).length ≤ 7 * (17 :: (A ++ B)).length + 6
    rw [fz_sbP]
    simp only [List.length_cons, List.length_append] at *
    omega
/-! ===== a text as a number ===== -/
def fz_vl (A : List Nat) : Nat := A.foldl (fun n a => 18 * n + a) 0
theorem fz_vf (A : List Nat) : ∀ n : Nat, A.foldl (fun n a => 18 * n + a) n = n * 18 ^ A.length + fz_vl A := by
  induction A with
  | nil => intro n; simp [fz_vl]
  | cons a A ih =>
    intro n
    have e1 : fz_vl (a :: A) = a * 18 ^ A.length + fz_vl A := by
      show A.foldl _ (18 * 0 + a) = _
      rw [ih]
      simp
    show A.foldl _ (18 * n + a) = _
    rw [ih, e1, List.length_cons, Nat.pow_succ, Nat.add_mul, Nat.add_assoc]
    congr 1
    rw [Nat.mul_comm 18 n, Nat.mul_assoc, Nat.mul_comm 18]
theorem fz_vA (A B : List Nat) : fz_vl (A ++ B) = fz_vl A * 18 ^ B.length + fz_vl B := by
  show (A ++ B).foldl _ 0 = _
  rw [List.foldl_append, fz_vf B]
  rfl
theorem fz_vC (a : Nat) (A : List Nat) : fz_vl (a :: A) = a * 18 ^ A.length + fz_vl A := by
  show A.foldl _ (18 * 0 + a) = _
  rw [fz_vf]
  simp
theorem fz_vS (A : List Nat) (a : Nat) : fz_vl (A ++ [a]) = 18 * fz_vl A + a := by
  show (A ++ [a]).foldl _ 0 = _
  rw [List.foldl_append]
  rfl
theorem fz_vlt {A : List Nat} (h : ∀ a, a ∈ A → a < 18) : fz_vl A < 18 ^ A.length := by
  induction A with
  | nil => simp [fz_vl]
  | cons a A ih =>
    have h1 := ih (fun b hb => h b (List.mem_cons_of_mem _ hb))
    have h2 := h a List.mem_cons_self
    rw [fz_vC, List.length_cons, Nat.pow_succ]
    have h3 : a * 18 ^ A.length ≤ 17 * 18 ^ A.length := Nat.mul_le_mul_right _ (by omega)
    omega
theorem fz_vge {a : Nat} {A : List Nat} (h : 1 ≤ a) : 18 ^ A.length ≤ fz_vl (a :: A) := by
  rw [fz_vC]
  have h3 : 1 * 18 ^ A.length ≤ a * 18 ^ A.length := Nat.mul_le_mul_right _ h
  omega
theorem fz_vjE : ∀ {A B : List Nat}, A.length = B.length → (∀ a, a ∈ A → a < 18) → (∀ a, a ∈ B → a < 18) → fz_vl A = fz_vl B → A = B := by
  intro A
  induction A with
  | nil =>
    intro B hl _ _ _
    cases B with
    | nil => rfl
    | cons b B => simp at hl
  | cons a A ih =>
    intro B hl hA hB e
    cases B with
    | nil => simp at hl
    | cons b B =>
      have hl' : A.length = B.length := by simpa using hl
      have h1 := fz_vlt (fun c hc => hA c (List.mem_cons_of_mem a hc))
      have h2 := fz_vlt (fun c hc => hB c (List.mem_cons_of_mem b hc))
      rw [fz_vC, fz_vC] at e
      rw [← hl'] at e h2
      have hp : 0 < 18 ^ A.length := Nat.pow_pos (by omega)
      have e1 : a = b := by
        have q1 : (a * 18 ^ A.length + fz_vl A) / 18 ^ A.length = a := by
          rw [Nat.mul_comm, Nat.mul_add_div hp, Nat.div_eq_of_lt h1, Nat.add_zero]
        have q2 : (b * 18 ^ A.length + fz_vl B) / 18 ^ A.length = b := by
          rw [Nat.mul_comm, Nat.mul_add_div hp, Nat.div_eq_of_lt h2, Nat.add_zero]
        rw [← q1, e, q2]
      rw [e1] at e
      rw [e1, ih hl' (fun c hc => hA c (List.mem_cons_of_mem a hc)) (fun c hc => hB c (List.mem_cons_of_mem b hc)) (Nat.add_left_cancel e)]
theorem fz_vlL {A B : List Nat} (hA : ∀ a, a ∈ A → a < 18) (hB : ∀ a, a ∈ B → 1 ≤ a) (h : fz_vl B ≤ fz_vl A) : B.length ≤ A.length := by
  cases B with
  | nil => simp
  | cons b B =>
    have h1 := fz_vlt hA
    have h2 : 18 ^ B.length ≤ fz_vl (b :: B) := fz_vge (hB b List.mem_cons_self)
    have h3 : 18 ^ B.length < 18 ^ A.length := by omega
    have h4 : B.length < A.length := (Nat.pow_lt_pow_iff_right (by omega)).mp h3
    rw [List.length_cons]
    omega
theorem fz_vj {A B : List Nat} (hA : ∀ a, a ∈ A → 1 ≤ a ∧ a < 18) (hB : ∀ a, a ∈ B → 1 ≤ a ∧ a < 18) (e : fz_vl A = fz_vl B) : A = B :=
  fz_vjE (Nat.le_antisymm (fz_vlL (fun a ha => (hB a ha).2) (fun a ha => (hA a ha).1) (by omega)) (fz_vlL (fun a ha => (hA a ha).2) (fun a ha => (hB a ha).1) (by omega))) (fun a ha => (hA a ha).2) (fun a ha => (hB a ha).2) e
/-- a ground text -/
def fz_Gr (A : List Nat) : Prop := ∀ a, a ∈ A → a < 100
theorem fz_Gd {A : List Nat} (h : fz_WT A) (g : fz_Gr A) : ∀ a, a ∈ A → 1 ≤ a ∧ a < 18 := by
  intro a ha
  have h1 := fz_WTsym h a ha
  have h2 := g a ha
  unfold fz_lf at h1
  omega
theorem fz_vjW {A B : List Nat} (wA : fz_WT A) (gA : fz_Gr A) (wB : fz_WT B) (gB : fz_Gr B) : fz_vl A = fz_vl B ↔ A = B :=
  ⟨fz_vj (fz_Gd wA gA) (fz_Gd wB gB), fun e => by rw [e]⟩
theorem fz_vbig {A : List Nat} (w : fz_WT A) (g : fz_Gr A) (h : A.length ≤ 13) : fz_vl A < 2 ^ 63 := by
  have h1 := fz_vlt (fun a ha => (fz_Gd w g a ha).2)
  have h2 : 18 ^ A.length ≤ 18 ^ 13 := Nat.pow_le_pow_right (by omega) h
  have h3 : 18 ^ 13 < 2 ^ 63 := by decide
  omega
/-! ===== sorted lists ===== -/
theorem fz_so : ∀ {l m : List Nat}, l.Pairwise (· < ·) → m.Pairwise (· < ·) → (∀ a, a ∈ l ↔ a ∈ m) → l = m := by
  intro l
  induction l with
  | nil =>
    intro m _ _ h
    cases m with
    | nil => rfl
    | cons b m => exact absurd ((h b).mpr List.mem_cons_self) (by simp)
  | cons a l ih =>
    intro m hl hm h
    cases m with
    | nil => exact absurd ((h a).mp List.mem_cons_self) (by simp)
    | cons b m =>
      rw [List.pairwise_cons] at hl hm
      have e : a = b := by
        rcases List.mem_cons.mp ((h a).mp List.mem_cons_self) with e | h1
        · exact e
        · rcases List.mem_cons.mp ((h b).mpr List.mem_cons_self) with e | h2
          · exact e.symm
          · have q1 := hm.1 a h1
            have q2 := hl.1 b h2
            omega
      subst e
      rw [ih hl.2 hm.2 ?_]
      intro c
      constructor
      · intro hc
        rcases List.mem_cons.mp ((h c).mp (List.mem_cons_of_mem _ hc)) with e | h1
        · have := hl.1 c hc
          omega
        · exact h1
      · intro hc
        rcases List.mem_cons.mp ((h c).mpr (List.mem_cons_of_mem _ hc)) with e | h1
        · have := hm.1 c hc
          omega
        · exact h1
/-! ===== choices as numbers: base 6, and base by base ===== -/
def fz_x6 (p : Nat → Nat) : Nat → Nat
  | 0 => 0
  | g + 1 => 6 * fz_x6 p g + p g
def fz_yR (R p : Nat → Nat) : Nat → Nat
  | 0 => 0
  | g + 1 => R g * fz_yR R p g + p g
def fz_pr (R : Nat → Nat) : Nat → Nat
  | 0 => 1
  | g + 1 => fz_pr R g * R g
theorem fz_dlt {a a' q q' r : Nat} (h : q < r) (h' : q' < r) : r * a + q < r * a' + q' ↔ a < a' ∨ (a = a' ∧ q < q') := by
  constructor
  · intro hlt
    rcases Nat.lt_or_ge a a' with h1 | h1
    · exact .inl h1
    · rcases Nat.eq_or_lt_of_le h1 with h2 | h2
      · subst h2
        exact .inr ⟨rfl, by omega⟩
      · have h3 : r * (a' + 1) ≤ r * a := Nat.mul_le_mul_left r h2
        rw [Nat.mul_succ] at h3
        omega
  · intro hh
    rcases hh with h1 | ⟨rfl, h1⟩
    · have h3 : r * (a + 1) ≤ r * a' := Nat.mul_le_mul_left r h1
      rw [Nat.mul_succ] at h3
      omega
    · omega
theorem fz_deq {a a' q q' r : Nat} (h : q < r) (h' : q' < r) : r * a + q = r * a' + q' ↔ a = a' ∧ q = q' := by
  constructor
  · intro e
    have h1 := fz_dlt (a := a) (a' := a') h h'
    have h2 := fz_dlt (a := a') (a' := a) h' h
    have h3 : ¬ (a < a' ∨ (a = a' ∧ q < q')) := fun z => by have := h1.mpr z; omega
    have h4 : ¬ (a' < a ∨ (a' = a ∧ q' < q)) := fun z => by have := h2.mpr z; omega
    omega
  · rintro ⟨rfl, rfl⟩
    rfl
/-- both numberings order the choices alike -/
theorem fz_ord {R p q : Nat → Nat} : ∀ G, (∀ g, g < G → p g < R g ∧ q g < R g ∧ R g ≤ 6) → (fz_x6 p G < fz_x6 q G ↔ fz_yR R p G < fz_yR R q G) ∧ (fz_x6 p G = fz_x6 q G ↔ fz_yR R p G = fz_yR R q G) := by
  intro G
  induction G with
  | zero => intro _; exact ⟨Iff.rfl, Iff.rfl⟩
  | succ G ih =>
    intro h
    obtain ⟨h1, h2⟩ := ih (fun g hg => h g (by omega))
    obtain ⟨a, b, c⟩ := h G (by omega)
    show (6 * fz_x6 p G + p G < 6 * fz_x6 q G + q G ↔ R G * fz_yR R p G + p G < R G * fz_yR R q G + q G) ∧ (6 * fz_x6 p G + p G = 6 * fz_x6 q G + q G ↔ R G * fz_yR R p G + p G = R G * fz_yR R q G + q G)
    rw [fz_dlt (by omega) (by omega), fz_dlt a b, fz_deq (by omega) (by omega), fz_deq a b, h1, h2]
    exact ⟨Iff.rfl, Iff.rfl⟩
theorem fz_x6e {p q : Nat → Nat} : ∀ G, (∀ g, g < G → p g < 6 ∧ q g < 6) → fz_x6 p G = fz_x6 q G → ∀ g, g < G → p g = q g := by
  intro G
  induction G with
  | zero => intro _ _ g hg; omega
  | succ G ih =>
    intro h e g hg
    have h0 := h G (by omega)
    have e2 := (fz_deq h0.1 h0.2).mp e
    rcases Nat.lt_or_ge g G with h1 | h1
    · exact ih (fun g hg => h g (by omega)) e2.1 g h1
    · have : g = G := by omega
      rw [this]
      exact e2.2
theorem fz_yRe {R p q : Nat → Nat} : ∀ G, (∀ g, g < G → p g < R g ∧ q g < R g) → fz_yR R p G = fz_yR R q G → ∀ g, g < G → p g = q g := by
  intro G
  induction G with
  | zero => intro _ _ g hg; omega
  | succ G ih =>
    intro h e g hg
    have h0 := h G (by omega)
    have e2 := (fz_deq h0.1 h0.2).mp e
    rcases Nat.lt_or_ge g G with h1 | h1
    · exact ih (fun g hg => h g (by omega)) e2.1 g h1
    · have : g = G := by omega
      rw [this]
      exact e2.2
theorem fz_x6lt {p : Nat → Nat} : ∀ G, (∀ g, g < G → p g < 6) → fz_x6 p G < 6 ^ G := by
  intro G
  induction G with
  | zero => intro _; exact (by decide : 0 < 6 ^ 0)
  | succ G ih =>
    intro h
    have h1 := ih (fun g hg => h g (by omega))
    have h2 := h G (by omega)
    show 6 * fz_x6 p G + p G < 6 ^ (G + 1)
    rw [Nat.pow_succ]
    omega
theorem fz_yRlt {R p : Nat → Nat} : ∀ G, (∀ g, g < G → p g < R g) → fz_yR R p G < fz_pr R G := by
  intro G
  induction G with
  | zero => intro _; exact (by decide : 0 < 1)
  | succ G ih =>
    intro h
    have h1 := ih (fun g hg => h g (by omega))
    have h2 := h G (by omega)
    show R G * fz_yR R p G + p G < fz_pr R G * R G
    have h3 : R G * (fz_yR R p G + 1) ≤ R G * fz_pr R G := Nat.mul_le_mul_left _ h1
    rw [Nat.mul_succ] at h3
    rw [Nat.mul_comm (fz_pr R G)]
    omega
theorem fz_x6s : ∀ G n, n < 6 ^ G → ∃ p : Nat → Nat, (∀ g, p g < 6) ∧ fz_x6 p G = n := by
  intro G
  induction G with
  | zero =>
    intro n hn
    exact ⟨fun _ => 0, fun _ => (by decide : 0 < 6), by rw [Nat.pow_zero] at hn; show 0 = n; omega⟩
  | succ G ih =>
    intro n hn
    rw [Nat.pow_succ] at hn
    obtain ⟨p, h1, h2⟩ := ih (n / 6) (by omega)
    refine ⟨fun g => if g = G then n % 6 else p g, ?_, ?_⟩
    · intro g
      show (if g = G then n % 6 else p g) < 6
      split
      · omega
      · exact h1 g
    · have e : ∀ k, k ≤ G → fz_x6 (fun g => if g = G then n % 6 else p g) k = fz_x6 p k := by
        intro k
        induction k with
        | zero => intro _; rfl
        | succ k ik =>
          intro hk
          show 6 * fz_x6 (fun g => if g = G then n % 6 else p g) k + (if k = G then n % 6 else p k) = 6 * fz_x6 p k + p k
          rw [ik (by omega), if_neg (by omega)]
      show 6 * fz_x6 (fun g => if g = G then n % 6 else p g) G + (if G = G then n % 6 else p G) = n
      rw [e G (Nat.le_refl _), if_pos rfl, h2]
      omega
theorem fz_yRs {R : Nat → Nat} : ∀ G n, n < fz_pr R G → ∃ p : Nat → Nat, (∀ g, g < G → p g < R g) ∧ fz_yR R p G = n := by
  intro G
  induction G with
  | zero =>
    intro n hn
    exact ⟨fun _ => 0, fun g hg => by omega, by have : n < 1 := hn; show 0 = n; omega⟩
  | succ G ih =>
    intro n hn
    have hn' : n < fz_pr R G * R G := hn
    have hR : 0 < R G := by
      rcases Nat.eq_zero_or_pos (R G) with h | h
      · rw [h, Nat.mul_zero] at hn'
        omega
      · exact h
    obtain ⟨p, h1, h2⟩ := ih (n / R G) ((Nat.div_lt_iff_lt_mul hR).mpr hn')
    refine ⟨fun g => if g = G then n % R G else p g, ?_, ?_⟩
    · intro g hg
      show (if g = G then n % R G else p g) < R g
      split
      · rename_i e
        rw [e]
        exact Nat.mod_lt _ hR
      · exact h1 g (by omega)
    · have e : ∀ k, k ≤ G → fz_yR R (fun g => if g = G then n % R G else p g) k = fz_yR R p k := by
        intro k
        induction k with
        | zero => intro _; rfl
        | succ k ik =>
          intro hk
          show R k * fz_yR R (fun g => if g = G then n % R G else p g) k + (if k = G then n % R G else p k) = R k * fz_yR R p k + p k
          rw [ik (by omega), if_neg (by omega)]
      show R G * fz_yR R (fun g => if g = G then n % R G else p g) G + (if G = G then n % R G else p G) = n
      rw [e G (Nat.le_refl _), if_pos rfl, h2]
      exact Nat.div_add_mod n (R G)
/-! ===== the numbers below n with a property, in order ===== -/
noncomputable def fz_fl (P : Nat → Prop) (n : Nat) : List Nat := (List.range n).filter (fun i => @decide (P i) (Classical.propDecidable _))
theorem fz_flm {P : Nat → Prop} {n a : Nat} : a ∈ fz_fl P n ↔ a < n ∧ P a := by
  unfold fz_fl
  rw [List.mem_filter, List.mem_range]
  simp
theorem fz_fl0 (P : Nat → Prop) : fz_fl P 0 = [] := rfl
theorem fz_flT {P : Nat → Prop} {n : Nat} (h : P n) : fz_fl P (n + 1) = fz_fl P n ++ [n] := by
  unfold fz_fl
  rw [List.range_succ, List.filter_append]
  simp [h]
theorem fz_flF {P : Nat → Prop} {n : Nat} (h : ¬ P n) : fz_fl P (n + 1) = fz_fl P n := by
  unfold fz_fl
  rw [List.range_succ, List.filter_append]
  simp [h]
theorem fz_fll (P : Nat → Prop) (n : Nat) : (fz_fl P n).length ≤ n := by
  have h := List.length_filter_le (fun i => @decide (P i) (Classical.propDecidable _)) (List.range n)
  rw [List.length_range] at h
  exact h
theorem fz_flp (P : Nat → Prop) (n : Nat) : (fz_fl P n).Pairwise (· < ·) := List.Pairwise.filter _ List.pairwise_lt_range
noncomputable def fz_ph (R : Nat → Nat) (G n : Nat) : Nat → Nat := if h : n < fz_pr R G then Classical.choose (fz_yRs G n h) else fun _ => 0
theorem fz_phs {R : Nat → Nat} {G n : Nat} (h : n < fz_pr R G) : (∀ g, g < G → fz_ph R G n g < R g) ∧ fz_yR R (fz_ph R G n) G = n := by
  unfold fz_ph
  rw [dif_pos h]
  exact Classical.choose_spec (fz_yRs G n h)
/-- the k-th of the one numbering is the k-th of the other -/
theorem fz_two {R : Nat → Nat} {G : Nat} (hR : ∀ g, g < G → R g ≤ 6) {Q : (Nat → Nat) → Prop} (hQ : ∀ p q : Nat → Nat, (∀ g, g < G → p g = q g) → Q p → Q q) :
    fz_fl (fun c => ∃ p, (∀ g, g < G → p g < R g) ∧ Q p ∧ fz_x6 p G = c) (6 ^ G) = (fz_fl (fun c => ∃ p, (∀ g, g < G → p g < R g) ∧ Q p ∧ fz_yR R p G = c) (fz_pr R G)).map (fun n => fz_x6 (fz_ph R G n) G) := by
  refine fz_so (fz_flp _ _) ?_ ?_
  · rw [List.pairwise_map]
    refine List.Pairwise.imp_of_mem ?_ (fz_flp _ _)
    intro a b ha hb hab
    obtain ⟨a1, a2⟩ := fz_phs (fz_flm.mp ha).1
    obtain ⟨b1, b2⟩ := fz_phs (fz_flm.mp hb).1
    refine ((fz_ord G (fun g hg => ⟨a1 g hg, b1 g hg, hR g hg⟩)).1).mpr ?_
    rw [a2, b2]
    exact hab
  · intro c
    rw [List.mem_map]
    constructor
    · intro hc
      obtain ⟨h1, p, h2, h3, h4⟩ := fz_flm.mp hc
      have h5 := fz_yRlt G h2
      obtain ⟨q1, q2⟩ := fz_phs h5
      refine ⟨fz_yR R p G, fz_flm.mpr ⟨h5, p, h2, h3, rfl⟩, ?_⟩
      rw [← h4]
      exact ((fz_ord G (fun g hg => ⟨q1 g hg, h2 g hg, hR g hg⟩)).2).mpr q2
    · rintro ⟨n, hn, rfl⟩
      obtain ⟨h1, p, h2, h3, h4⟩ := fz_flm.mp hn
      obtain ⟨q1, q2⟩ := fz_phs h1
      have e := fz_yRe G (fun g hg => ⟨h2 g hg, q1 g hg⟩) (h4.trans q2.symm)
      refine fz_flm.mpr ⟨fz_x6lt G (fun g hg => ?_), fz_ph R G n, q1, hQ p _ e h3, rfl⟩
      have := q1 g hg
      have := hR g hg
      omega
/-! ===== an array that spells a list from b on ===== -/
def fz_sp (a : Nat → Int32) (b : Nat) (l : List Nat) : Prop := ∀ i x, l[i]? = some x → a (b + i) = nI x
theorem fz_sp0 (a : Nat → Int32) (b : Nat) : fz_sp a b [] := by intro i x h; simp at h
theorem fz_spk {a a' : Nat → Int32} {b : Nat} {l : List Nat} (h : fz_sp a b l) (e : ∀ i, i < l.length → a' (b + i) = a (b + i)) : fz_sp a' b l := by
  intro i x hx
  have hi : i < l.length := by
    rcases Nat.lt_or_ge i l.length with h1 | h1
    · exact h1
    · rw [List.getElem?_eq_none h1] at hx
      exact absurd hx (by simp)
  rw [e i hi]
  exact h i x hx
theorem fz_spu {a : Nat → Int32} {b : Nat} {l : List Nat} (h : fz_sp a b l) (x : Nat) : fz_sp (upd a (b + l.length) (nI x)) b (l ++ [x]) := by
  intro i y hy
  rcases Nat.lt_or_ge i l.length with h1 | h1
  · rw [List.getElem?_append_left h1] at hy
    have e : upd a (b + l.length) (nI x) (b + i) = a (b + i) := by
      unfold upd
      rw [if_neg (by omega)]
    rw [e]
    exact h i y hy
  · rw [List.getElem?_append_right h1] at hy
    have h2 : i - l.length = 0 := by
      rcases Nat.eq_zero_or_pos (i - l.length) with z | z
      · exact z
      · rw [List.getElem?_eq_none (by simp; omega)] at hy
        exact absurd hy (by simp)
    rw [h2] at hy
    have h3 : i = l.length := by omega
    have h4 : x = y := by simpa using hy
    rw [h3, h4]
    unfold upd
    rw [if_pos rfl]
/-- a stack: its top is the list's head -/
def fz_sk (a : Nat → Int32) : List Nat → Prop
  | [] => True
  | c :: t => a t.length = nI c ∧ fz_sk a t
theorem fz_skk {a a' : Nat → Int32} : ∀ {l : List Nat}, fz_sk a l → (∀ i, i < l.length → a' i = a i) → fz_sk a' l := by
  intro l
  induction l with
  | nil => intro _ _; exact trivial
  | cons c t ih =>
    intro h e
    refine ⟨?_, ih h.2 (fun i hi => e i (by rw [List.length_cons]; omega))⟩
    rw [e t.length (by rw [List.length_cons]; omega)]
    exact h.1
theorem fz_sk2 {a : Nat → Int32} {t : List Nat} (h : fz_sk a t) (f s : Nat) : fz_sk (upd (upd a t.length (nI s)) (t.length + 1) (nI f)) (f :: s :: t) := by
  refine ⟨?_, ?_, ?_⟩
  · show upd _ (s :: t).length (nI f) (s :: t).length = _
    unfold upd
    rw [if_pos rfl]
  · unfold upd
    rw [if_neg (by omega), if_pos rfl]
  · refine fz_skk h (fun i hi => ?_)
    unfold upd
    rw [if_neg (by omega), if_neg (by omega)]
end
section
/-! ===== k terms one behind another ===== -/
def fz_Ct : Nat → List Nat → Prop
  | 0, l => l = []
  | k + 1, l => ∃ A B, fz_WT A ∧ l = A ++ B ∧ fz_Ct k B
theorem fz_Ct1 {A : List Nat} (h : fz_WT A) : fz_Ct 1 A := ⟨A, [], h, by simp, rfl⟩
theorem fz_CtL {k a : Nat} {l : List Nat} (h : fz_Ct (k + 1) (a :: l)) (ha : a ≠ 17) : fz_lf a ∧ fz_Ct k l := by
  obtain ⟨A, B, hA, e, hB⟩ := h
  rcases fz_WTcase hA with ⟨b, hb, rfl⟩ | ⟨C, D, _, _, rfl⟩
  · have e2 : a = b ∧ l = B := by simpa using e
    rw [e2.1, e2.2]
    exact ⟨hb, hB⟩
  · have e2 : a = 17 ∧ _ := List.cons.inj e
    exact absurd e2.1 ha
theorem fz_CtP {k : Nat} {l : List Nat} (h : fz_Ct (k + 1) (17 :: l)) : fz_Ct (k + 2) l := by
  obtain ⟨A, B, hA, e, hB⟩ := h
  rcases fz_WTcase hA with ⟨b, hb, rfl⟩ | ⟨C, D, hC, hD, rfl⟩
  · have e2 : 17 = b ∧ l = B := by simpa using e
    exact absurd e2.1.symm (fz_lf17 hb)
  · have e2 : l = C ++ (D ++ B) := by simpa using e
    exact ⟨C, D ++ B, hC, e2, D, B, hD, rfl, hB⟩
theorem fz_CtN {k : Nat} (h : fz_Ct k []) : k = 0 := by
  cases k with
  | zero => rfl
  | succ k =>
    obtain ⟨A, B, hA, e, _⟩ := h
    have h1 := fz_WTlen hA
    have h2 : A = [] := (List.append_eq_nil_iff.mp e.symm).1
    rw [h2] at h1
    simp at h1
theorem fz_CtK {k : Nat} {A l : List Nat} (hA : fz_WT A) (h : fz_Ct (k + 1) (A ++ l)) : fz_Ct k l := by
  obtain ⟨A', B, hA', e, hB⟩ := h
  rw [(fz_cut (fz_WTm hA) (fz_WTm hA') e).2]
  exact hB
/-! ===== assignments, and what has a value already ===== -/
/-- every variable is given a ground term -/
def fz_As (s : Nat → List Nat) : Prop := ∀ v, fz_WT (s v) ∧ fz_Gr (s v)
theorem fz_AsT {s : Nat → List Nat} (h : fz_As s) (v : Nat) : fz_Tm (s v) := fz_WTm (h v).1
/-- s gives each variable that has a value in b that cell's text -/
def fz_ex (tm : Nat → List Nat) (b : Nat → Option Nat) (s : Nat → List Nat) : Prop := ∀ v c, b v = some c → s v = tm c
/-- the texts under b; a variable without a value stays -/
def fz_pb (tm : Nat → List Nat) (b : Nat → Option Nat) (v : Nat) : List Nat := match b v with
  | some c => tm c
  | none => [100 + v]
theorem fz_pbn (tm : Nat → List Nat) (A : List Nat) : fz_sb (fz_pb tm (fun _ => none)) A = A := fz_sbi A
def fz_le (b b' : Nat → Option Nat) : Prop := ∀ v c, b v = some c → b' v = some c
/-- some assignment that extends b -/
def fz_tot (tm : Nat → List Nat) (b : Nat → Option Nat) (v : Nat) : List Nat := match b v with
  | some c => tm c
  | none => [1]
theorem fz_totE (tm : Nat → List Nat) (b : Nat → Option Nat) : fz_ex tm b (fz_tot tm b) := by
  intro v c h
  unfold fz_tot
  rw [h]
theorem fz_totA {tm : Nat → List Nat} {b : Nat → Option Nat} (h : ∀ v c, b v = some c → fz_WT (tm c) ∧ fz_Gr (tm c)) : fz_As (fz_tot tm b) := by
  intro v
  unfold fz_tot
  cases e : b v with
  | some c => exact h v c e
  | none => exact ⟨fz_WTL (.inl ⟨by omega, by omega⟩), fun a ha => by rw [List.mem_singleton] at ha; omega⟩
/-! ===== the query ===== -/
/-- the goals from lo on fit the chosen rows -/
def fz_Mt (tm : Nat → List Nat) (gt gx gy rl rr : Nat → Int32) (lo G : Nat) (p : Nat → Nat) (s : Nat → List Nat) : Prop :=
  ∀ g, lo ≤ g → g < G → fz_sb s (tm (gx g).toNatClampNeg) = tm (rl (6 * (gt g).toNatClampNeg + p g)).toNatClampNeg ∧ fz_sb s (tm (gy g).toNatClampNeg) = tm (rr (6 * (gt g).toNatClampNeg + p g)).toNatClampNeg
def fz_Eq (tm : Nat → List Nat) (ex ey : Nat → Int32) (E : Nat) (s : Nat → List Nat) : Prop :=
  ∀ e, e < E → fz_sb s (tm (ex e).toNatClampNeg) = fz_sb s (tm (ey e).toNatClampNeg)
def fz_Df (tm : Nat → List Nat) (dx dy : Nat → Int32) (D : Nat) (s : Nat → List Nat) : Prop :=
  ∀ e, e < D → ¬ fz_sb s (tm (dx e).toNatClampNeg) = fz_sb s (tm (dy e).toNatClampNeg)
def fz_Good (tm : Nat → List Nat) (gt gx gy rl rr ex ey dx dy : Nat → Int32) (G E D : Nat) (p : Nat → Nat) : Prop :=
  ∃ s, fz_As s ∧ fz_Mt tm gt gx gy rl rr 0 G p s ∧ fz_Eq tm ex ey E s ∧ fz_Df tm dx dy D s
/-- the variable occurs in a goal's terms -/
def fz_Gv (tm : Nat → List Nat) (gx gy : Nat → Int32) (G v : Nat) : Prop := ∃ g, g < G ∧ (100 + v ∈ tm (gx g).toNatClampNeg ∨ 100 + v ∈ tm (gy g).toNatClampNeg)
theorem fz_Mtu {tm : Nat → List Nat} {gt gx gy rl rr : Nat → Int32} {G : Nat} {p : Nat → Nat} {s s' : Nat → List Nat} (hs : fz_As s) (hs' : fz_As s') (hw : ∀ g, g < G → fz_WT (tm (gx g).toNatClampNeg) ∧ fz_WT (tm (gy g).toNatClampNeg)) (m : fz_Mt tm gt gx gy rl rr 0 G p s) (m' : fz_Mt tm gt gx gy rl rr 0 G p s') {v : Nat} (hv : fz_Gv tm gx gy G v) : s v = s' v := by
  obtain ⟨g, hg, h⟩ := hv
  have a := m g (Nat.zero_le _) hg
  have b := m' g (Nat.zero_le _) hg
  rcases h with h | h
  · exact fz_uq (fz_AsT hs) (fz_AsT hs') (hw g hg).1 (a.1.trans b.1.symm) v h
  · exact fz_uq (fz_AsT hs) (fz_AsT hs') (hw g hg).2 (a.2.trans b.2.symm) v h
theorem fz_Mtp {tm : Nat → List Nat} {gt gx gy rl rr : Nat → Int32} {lo G : Nat} {p q : Nat → Nat} {s : Nat → List Nat} (h : ∀ g, g < G → p g = q g) (m : fz_Mt tm gt gx gy rl rr lo G p s) : fz_Mt tm gt gx gy rl rr lo G q s := by
  intro g hl hg
  rw [← h g hg]
  exact m g hl hg
theorem fz_Goodp {tm : Nat → List Nat} {gt gx gy rl rr ex ey dx dy : Nat → Int32} {G E D : Nat} (p q : Nat → Nat) (h : ∀ g, g < G → p g = q g) (m : fz_Good tm gt gx gy rl rr ex ey dx dy G E D p) : fz_Good tm gt gx gy rl rr ex ey dx dy G E D q := by
  obtain ⟨s, a, b, c, d⟩ := m
  exact ⟨s, a, fz_Mtp h b, c, d⟩
/-! ===== what the arrays hold ===== -/
def fz_GO (n : Nat) (gt gx gy : Nat → Int32) (G : Nat) : Prop := ∀ g, g < G → ∃ t x y, t < 4 ∧ x < n ∧ y < n ∧ gt g = nI t ∧ gx g = nI x ∧ gy g = nI y
def fz_RO (tm : Nat → List Nat) (n : Nat) (rc rl rr : Nat → Int32) : Prop := ∀ t, t < 4 → ∃ r, r ≤ 6 ∧ rc t = nI r ∧ ∀ j, j < r → ∃ c d, c < n ∧ d < n ∧ rl (6 * t + j) = nI c ∧ rr (6 * t + j) = nI d ∧ fz_Gr (tm c) ∧ fz_Gr (tm d)
def fz_QO (n : Nat) (ex ey : Nat → Int32) (E : Nat) : Prop := ∀ e, e < E → ∃ x y, x < n ∧ y < n ∧ ex e = nI x ∧ ey e = nI y
/-- the number of rows of a goal's table -/
def fz_Rw (rc gt : Nat → Int32) (g : Nat) : Nat := (rc (gt g).toNatClampNeg).toNatClampNeg
theorem fz_RwE {rc gt : Nat → Int32} {g t r : Nat} (ht : t < 4) (hr : r ≤ 6) (et : gt g = nI t) (er : rc t = nI r) : fz_Rw rc gt g = r := by
  unfold fz_Rw
  rw [et, nI_clamp (by omega), er, nI_clamp (by omega)]
theorem fz_MtS {tm : Nat → List Nat} {gt gx gy rl rr : Nat → Int32} {j G : Nat} {p : Nat → Nat} {s : Nat → List Nat} {t x y c d : Nat} (hj : j < G) (ht : t < 4) (hx : x < 48) (hy : y < 48) (hc : c < 48) (hd : d < 48) (et : gt j = nI t) (ex : gx j = nI x) (ey : gy j = nI y) (ec : rl (6 * t + p j) = nI c) (ed : rr (6 * t + p j) = nI d) :
    fz_Mt tm gt gx gy rl rr j G p s ↔ (fz_sb s (tm x) = tm c ∧ fz_sb s (tm y) = tm d) ∧ fz_Mt tm gt gx gy rl rr (j + 1) G p s := by
  have k : (fz_sb s (tm (gx j).toNatClampNeg) = tm (rl (6 * (gt j).toNatClampNeg + p j)).toNatClampNeg ∧ fz_sb s (tm (gy j).toNatClampNeg) = tm (rr (6 * (gt j).toNatClampNeg + p j)).toNatClampNeg) ↔ (fz_sb s (tm x) = tm c ∧ fz_sb s (tm y) = tm d) := by
    rw [et, nI_clamp (n := t) (by omega), ex, ey, ec, ed, nI_clamp (n := x) (by omega), nI_clamp (n := y) (by omega), nI_clamp (n := c) (by omega), nI_clamp (n := d) (by omega)]
  constructor
  · intro h
    exact ⟨k.mp (h j (Nat.le_refl _) hj), fun g h1 h2 => h g (by omega) h2⟩
  · rintro ⟨h1, h2⟩ g h3 h4
    rcases Nat.eq_or_lt_of_le h3 with e | e
    · rw [← e]
      exact k.mpr h1
    · exact h2 g e h4
theorem fz_exle {tm : Nat → List Nat} {b b' : Nat → Option Nat} {s : Nat → List Nat} (h : fz_le b b') (hs : fz_ex tm b' s) : fz_ex tm b s := fun v c hv => hs v c (h v c hv)
theorem fz_lene {b b' : Nat → Option Nat} (h : fz_le b b') {v : Nat} (hv : b v ≠ none) : b' v ≠ none := by
  cases e : b v with
  | none => exact absurd e hv
  | some c =>
    rw [h v c e]
    simp
theorem fz_x6b {p : Nat → Nat} {j : Nat} (hp : ∀ g, g < j → p g < 6) (hj : j ≤ 4) : fz_x6 p j < 1296 := by
  have h1 := fz_x6lt (p := p) j hp
  have h2 : 6 ^ j ≤ 6 ^ 4 := Nat.pow_le_pow_right (by omega) hj
  have h3 : 6 ^ 4 = 1296 := by decide
  omega
end
section
/-! ===== the cells, X's side ===== -/
def fz_cx (V : Nat) (tm : Nat → List Nat) (kd fs sd sz vi : Nat → Int32) (cd : Nat → Int64) (c : Nat) : Prop :=
  fz_WT (tm c) ∧ (tm c).length ≤ 13 ∧ sz c = nI (tm c).length ∧ (∀ i, i < 32 → bt (vi c) i = decide (100 + i ∈ tm c)) ∧ (fz_Gr (tm c) → cd c = lN (fz_vl (tm c))) ∧
  ((∃ a, 1 ≤ a ∧ a ≤ 16 ∧ tm c = [a] ∧ kd c = 0) ∨ (∃ v, v < V ∧ tm c = [100 + v] ∧ kd c = 1 ∧ fs c = nI v) ∨ (∃ a b, a < c ∧ b < c ∧ tm c = 17 :: (tm a ++ tm b) ∧ kd c = 2 ∧ fs c = nI a ∧ sd c = nI b))
def fz_CX (V : Nat) (tm : Nat → List Nat) (n : Nat) (kd fs sd sz vi : Nat → Int32) (cd : Nat → Int64) : Prop := ∀ c, c < n → fz_cx V tm kd fs sd sz vi cd c
theorem fz_vi0 {V : Nat} {tm : Nat → List Nat} {kd fs sd sz vi : Nat → Int32} {cd : Nat → Int64} {c : Nat} (h : fz_cx V tm kd fs sd sz vi cd c) : vi c = 0 ↔ fz_Gr (tm c) := by
  obtain ⟨hw, _, _, hv, _, _⟩ := h
  constructor
  · intro e a ha
    rcases Nat.lt_or_ge a 100 with h1 | h1
    · exact h1
    · have h2 := fz_WTsym hw a ha
      have h3 : a - 100 < 6 := by
        unfold fz_lf at h2
        omega
      have h4 := hv (a - 100) (by omega)
      rw [e, b_0, show 100 + (a - 100) = a by omega] at h4
      rw [decide_eq_true ha] at h4
      exact absurd h4 (by decide)
  · intro g
    refine b_ext (fun i hi => ?_)
    rw [hv i hi, b_0]
    refine decide_eq_false (fun hm => ?_)
    have := g _ hm
    omega
/-! ===== values of variables ===== -/
def fz_Vb (tm : Nat → List Nat) (n : Nat) (val : Nat → Int32) (b : Nat → Option Nat) : Prop :=
  (∀ v, 6 ≤ v → b v = none) ∧ ∀ v, v < 6 → (b v = none ∧ val v = -1) ∨ ∃ c, c < n ∧ b v = some c ∧ val v = nI c ∧ fz_Gr (tm c)
theorem fz_nm1 : ∀ c : Nat, c < 48 → ¬ nI c = -1 := by decide +kernel
def fz_set (b : Nat → Option Nat) (v c : Nat) : Nat → Option Nat := fun w => if w = v then some c else b w
theorem fz_setS (b : Nat → Option Nat) (v c : Nat) : fz_set b v c v = some c := if_pos rfl
theorem fz_setN {b : Nat → Option Nat} {v w c : Nat} (h : w ≠ v) : fz_set b v c w = b w := if_neg h
theorem fz_VbS {tm : Nat → List Nat} {n : Nat} {val : Nat → Int32} {b : Nat → Option Nat} (h : fz_Vb tm n val b) {v c : Nat} (hv : v < 6) (hc : c < n) (g : fz_Gr (tm c)) : fz_Vb tm n (upd val v (nI c)) (fz_set b v c) := by
  refine ⟨fun w hw => ?_, fun w hw => ?_⟩
  · rw [fz_setN (by omega)]
    exact h.1 w hw
  · by_cases e : w = v
    · subst e
      exact .inr ⟨c, hc, fz_setS .., pk_us, g⟩
    · rw [fz_setN e, pk_un e]
      exact h.2 w hw
theorem fz_exS {tm : Nat → List Nat} {b : Nat → Option Nat} {v c : Nat} (hb : b v = none) (s : Nat → List Nat) : fz_ex tm (fz_set b v c) s ↔ fz_ex tm b s ∧ s v = tm c := by
  constructor
  · intro h
    refine ⟨fun w d hw => ?_, h v c (fz_setS ..)⟩
    by_cases e : w = v
    · rw [e, hb] at hw
      exact absurd hw (by simp)
    · exact h w d (by rw [fz_setN e]; exact hw)
  · rintro ⟨h1, h2⟩ w d hw
    by_cases e : w = v
    · subst e
      rw [fz_setS] at hw
      rw [← Option.some.inj hw]
      exact h2
    · rw [fz_setN e] at hw
      exact h1 w d hw
/-! ===== what a walk may still cost ===== -/
def fz_f (A : List Nat) : Nat := if A.all (fun a => decide (a < 100)) = true then 0 else if A.length = 1 then 0 else 2 * A.length
theorem fz_all (A : List Nat) : A.all (fun a => decide (a < 100)) = true ↔ fz_Gr A := by
  rw [List.all_eq_true]
  unfold fz_Gr
  simp
theorem fz_fG {A : List Nat} (h : fz_Gr A) : fz_f A = 0 := if_pos ((fz_all A).mpr h)
theorem fz_fN {A : List Nat} (h : ¬ fz_Gr A) (hl : A.length ≠ 1) : fz_f A = 2 * A.length := by
  unfold fz_f
  rw [if_neg (fun z => h ((fz_all A).mp z)), if_neg hl]
theorem fz_fle (A : List Nat) : fz_f A ≤ 2 * A.length := by
  unfold fz_f
  split
  · omega
  · split <;> omega
theorem fz_GrP {A B : List Nat} : fz_Gr (17 :: (A ++ B)) ↔ fz_Gr A ∧ fz_Gr B := by
  unfold fz_Gr
  constructor
  · intro h
    exact ⟨fun a ha => h a (List.mem_cons_of_mem _ (List.mem_append_left _ ha)), fun a ha => h a (List.mem_cons_of_mem _ (List.mem_append_right _ ha))⟩
  · rintro ⟨h1, h2⟩ a ha
    rcases List.mem_cons.mp ha with e | ha
    · omega
    · rcases List.mem_append.mp ha with ha | ha
      · exact h1 a ha
      · exact h2 a ha
/-- a pair's parts cost no more than the pair, and two less if it has variables -/
theorem fz_fP (A B : List Nat) (hA : 1 ≤ A.length) (hB : 1 ≤ B.length) : fz_f A + fz_f B ≤ fz_f (17 :: (A ++ B)) ∧ (¬ fz_Gr (17 :: (A ++ B)) → fz_f A + fz_f B + 2 ≤ fz_f (17 :: (A ++ B))) := by
  by_cases g : fz_Gr (17 :: (A ++ B))
  · have h := fz_GrP.mp g
    rw [fz_fG h.1, fz_fG h.2]
    exact ⟨by omega, fun z => absurd g z⟩
  · have h1 := fz_fle A
    have h2 := fz_fle B
    have h3 := fz_fN g (by simp only [List.length_cons, List.length_append]; omega)
    simp only [List.length_cons, List.length_append] at h3
    exact ⟨by omega, fun _ => by omega⟩
def fz_cs (tm : Nat → List Nat) (q : Nat × Nat) : Nat := 1 + fz_f (tm q.1) + fz_f (tm q.2)
def fz_Ph (tm : Nat → List Nat) : List (Nat × Nat) → Nat
  | [] => 0
  | q :: t => fz_cs tm q + fz_Ph tm t
theorem fz_Phl (tm : Nat → List Nat) : ∀ l : List (Nat × Nat), l.length ≤ fz_Ph tm l := by
  intro l
  induction l with
  | nil => exact Nat.le_refl _
  | cons q t ih =>
    show t.length + 1 ≤ fz_cs tm q + fz_Ph tm t
    unfold fz_cs
    omega
/-- two stacks of one height -/
def fz_sq (wx wy : Nat → Int32) : List (Nat × Nat) → Prop
  | [] => True
  | q :: t => wx t.length = nI q.1 ∧ wy t.length = nI q.2 ∧ fz_sq wx wy t
theorem fz_sqk {wx wy wx' wy' : Nat → Int32} : ∀ {l : List (Nat × Nat)}, fz_sq wx wy l → (∀ i, i < l.length → wx' i = wx i ∧ wy' i = wy i) → fz_sq wx' wy' l := by
  intro l
  induction l with
  | nil => intro _ _; exact trivial
  | cons q t ih =>
    intro h e
    have e1 := e t.length (by rw [List.length_cons]; omega)
    refine ⟨e1.1.trans h.1, e1.2.trans h.2.1, ih h.2.2 (fun i hi => e i (by rw [List.length_cons]; omega))⟩
theorem fz_sq2 {wx wy : Nat → Int32} {t : List (Nat × Nat)} (h : fz_sq wx wy t) (a b c d : Nat) : fz_sq (upd (upd wx t.length (nI c)) (t.length + 1) (nI a)) (upd (upd wy t.length (nI d)) (t.length + 1) (nI b)) ((a, b) :: (c, d) :: t) := by
  refine ⟨pk_us, pk_us, ?_, ?_, ?_⟩
  · rw [pk_un (by omega)]
    exact pk_us
  · rw [pk_un (by omega)]
    exact pk_us
  · refine fz_sqk h (fun i hi => ?_)
    rw [pk_un (by omega), pk_un (by omega), pk_un (by omega), pk_un (by omega)]
    exact ⟨rfl, rfl⟩
/-! ===== the walk's invariant: J is what the walk decides, b0 the values at its start, e: every variable has a value ===== -/
def fz_AI (tm : Nat → List Nat) (n : Nat) (b0 : Nat → Option Nat) (e : Prop) (J : (Nat → List Nat) → Prop) (A0 : List Nat) (b : Nat → Option Nat) (st : List (Nat × Nat)) : Prop :=
  (∀ q, q ∈ st → q.1 < n ∧ q.2 < n) ∧
  (∀ s, fz_As s → fz_ex tm b0 s → (J s ↔ (fz_ex tm b s ∧ ∀ q, q ∈ st → fz_sb s (tm q.1) = fz_sb s (tm q.2)))) ∧
  (e → b = b0 ∧ ∀ q, q ∈ st → ∀ v, (100 + v ∈ tm q.1 ∨ 100 + v ∈ tm q.2) → b0 v ≠ none) ∧
  (¬ e → ∀ q, q ∈ st → fz_Gr (tm q.2)) ∧
  (∀ v, 100 + v ∈ A0 → b v ≠ none ∨ ∃ q, q ∈ st ∧ 100 + v ∈ tm q.1) ∧ fz_le b0 b
section
variable {tm : Nat → List Nat} {n : Nat} {b0 b : Nat → Option Nat} {e : Prop} {J : (Nat → List Nat) → Prop} {A0 : List Nat} {q : Nat × Nat} {t : List (Nat × Nat)}
theorem fz_AI0 (h : fz_AI tm n b0 e J A0 b (q :: t)) (hf : ∀ s, fz_As s → fz_ex tm b s → ¬ fz_sb s (tm q.1) = fz_sb s (tm q.2)) : ∀ s, fz_As s → fz_ex tm b0 s → ¬ J s := by
  intro s hs h0 hJ
  have h1 := (h.2.1 s hs h0).mp hJ
  exact hf s hs h1.1 (h1.2 q List.mem_cons_self)
theorem fz_AIn (h : fz_AI tm n b0 e J A0 b (q :: t)) {v : Nat} (hq : tm q.1 = [100 + v]) (hb : b v = none) : ¬ e := by
  intro he
  obtain ⟨e1, e2⟩ := h.2.2.1 he
  refine e2 q List.mem_cons_self v (.inl ?_) (e1 ▸ hb)
  rw [hq]
  exact List.mem_singleton.mpr rfl
theorem fz_AIb (h : fz_AI tm n b0 e J A0 b (q :: t)) {v c : Nat} (hq : tm q.1 = [100 + v]) (hb : b v = none) (hg : fz_Gr (tm c)) (hc : ∀ s, fz_ex tm b s → fz_sb s (tm c) = fz_sb s (tm q.2)) : fz_AI tm n b0 e J A0 (fz_set b v c) t := by
  have ne := fz_AIn h hq hb
  obtain ⟨h1, h2, h3, h4, h5, hle⟩ := h
  refine ⟨fun r hr => h1 r (List.mem_cons_of_mem _ hr), fun s hs h0 => ?_, fun he => absurd he ne, fun he r hr => h4 he r (List.mem_cons_of_mem _ hr), fun w hw => ?_, fun w d hw => ?_⟩
  · rw [h2 s hs h0, fz_exS hb s]
    constructor
    · rintro ⟨x, y⟩
      have z := y q List.mem_cons_self
      rw [hq, fz_sbV, ← hc s x, fz_sbg hg] at z
      exact ⟨⟨x, z⟩, fun r hr => y r (List.mem_cons_of_mem _ hr)⟩
    · rintro ⟨⟨x, z⟩, y⟩
      refine ⟨x, fun r hr => ?_⟩
      rcases List.mem_cons.mp hr with e1 | hr
      · rw [e1, hq, fz_sbV, ← hc s x, fz_sbg hg]
        exact z
      · exact y r hr
  · by_cases ew : w = v
    · left
      rw [ew, fz_setS]
      simp
    · rcases h5 w hw with h6 | ⟨r, hr, h6⟩
      · left
        rw [fz_setN ew]
        exact h6
      · rcases List.mem_cons.mp hr with e1 | hr
        · rw [e1, hq, List.mem_singleton] at h6
          omega
        · exact .inr ⟨r, hr, h6⟩
  · have h7 := hle w d hw
    by_cases ew : w = v
    · rw [ew, hb] at h7
      exact absurd h7 (by simp)
    · rw [fz_setN ew]
      exact h7
theorem fz_AIs (h : fz_AI tm n b0 e J A0 b (q :: t)) (hv : ∀ v, 100 + v ∈ tm q.1 → b v ≠ none) (hq : ∀ s, fz_As s → fz_ex tm b s → fz_sb s (tm q.1) = fz_sb s (tm q.2)) : fz_AI tm n b0 e J A0 b t := by
  obtain ⟨h1, h2, h3, h4, h5, hle⟩ := h
  refine ⟨fun r hr => h1 r (List.mem_cons_of_mem _ hr), fun s hs h0 => ?_, fun he => ⟨(h3 he).1, fun r hr => (h3 he).2 r (List.mem_cons_of_mem _ hr)⟩, fun he r hr => h4 he r (List.mem_cons_of_mem _ hr), fun w hw => ?_, hle⟩
  · rw [h2 s hs h0]
    constructor
    · rintro ⟨x, y⟩
      exact ⟨x, fun r hr => y r (List.mem_cons_of_mem _ hr)⟩
    · rintro ⟨x, y⟩
      refine ⟨x, fun r hr => ?_⟩
      rcases List.mem_cons.mp hr with e1 | hr
      · rw [e1]
        exact hq s hs x
      · exact y r hr
  · rcases h5 w hw with h6 | ⟨r, hr, h6⟩
    · exact .inl h6
    · rcases List.mem_cons.mp hr with e1 | hr
      · rw [e1] at h6
        exact .inl (hv w h6)
      · exact .inr ⟨r, hr, h6⟩
theorem fz_AIp (hw : ∀ c, c < n → fz_WT (tm c)) (h : fz_AI tm n b0 e J A0 b (q :: t)) {a c a1 a2 c1 c2 : Nat} (l1 : a1 < n) (l2 : a2 < n) (m1 : c1 < n) (m2 : c2 < n)
    (ea : tm a = 17 :: (tm a1 ++ tm a2)) (ec : tm c = 17 :: (tm c1 ++ tm c2)) (sa : ∀ s, fz_ex tm b s → fz_sb s (tm a) = fz_sb s (tm q.1)) (sc : ∀ s, fz_ex tm b s → fz_sb s (tm c) = fz_sb s (tm q.2))
    (oa : a = q.1 ∨ (fz_Gr (tm a) ∧ ∀ v, 100 + v ∈ tm q.1 → b v ≠ none)) (oc : c = q.2 ∨ fz_Gr (tm c)) : fz_AI tm n b0 e J A0 b ((a1, c1) :: (a2, c2) :: t) := by
  obtain ⟨h1, h2, h3, h4, h5, hle⟩ := h
  have ma : ∀ v, (100 + v ∈ tm a1 ∨ 100 + v ∈ tm a2) → 100 + v ∈ tm a := by
    intro v hv
    rw [ea]
    exact List.mem_cons_of_mem _ (List.mem_append.mpr hv)
  have mc : ∀ v, (100 + v ∈ tm c1 ∨ 100 + v ∈ tm c2) → 100 + v ∈ tm c := by
    intro v hv
    rw [ec]
    exact List.mem_cons_of_mem _ (List.mem_append.mpr hv)
  refine ⟨?_, fun s hs h0 => ?_, fun he => ⟨(h3 he).1, ?_⟩, fun he => ?_, fun w hw => ?_, hle⟩
  · intro r hr
    rcases List.mem_cons.mp hr with e1 | hr
    · rw [e1]
      exact ⟨l1, m1⟩
    · rcases List.mem_cons.mp hr with e1 | hr
      · rw [e1]
        exact ⟨l2, m2⟩
      · exact h1 r (List.mem_cons_of_mem _ hr)
  · rw [h2 s hs h0]
    have key : fz_ex tm b s → (fz_sb s (tm q.1) = fz_sb s (tm q.2) ↔ (fz_sb s (tm a1) = fz_sb s (tm c1) ∧ fz_sb s (tm a2) = fz_sb s (tm c2))) := by
      intro x
      rw [← sa s x, ← sc s x, ea, ec, fz_sbP, fz_sbP]
      constructor
      · intro z
        exact fz_cut (fz_sbTm (fz_AsT hs) (hw a1 l1)) (fz_sbTm (fz_AsT hs) (hw c1 m1)) (List.cons.inj z).2
      · rintro ⟨z1, z2⟩
        rw [z1, z2]
    constructor
    · rintro ⟨x, y⟩
      have k := (key x).mp (y q List.mem_cons_self)
      refine ⟨x, fun r hr => ?_⟩
      rcases List.mem_cons.mp hr with e1 | hr
      · rw [e1]
        exact k.1
      · rcases List.mem_cons.mp hr with e1 | hr
        · rw [e1]
          exact k.2
        · exact y r (List.mem_cons_of_mem _ hr)
    · rintro ⟨x, y⟩
      refine ⟨x, fun r hr => ?_⟩
      rcases List.mem_cons.mp hr with e1 | hr
      · rw [e1]
        exact (key x).mpr ⟨y (a1, c1) List.mem_cons_self, y (a2, c2) (List.mem_cons_of_mem _ List.mem_cons_self)⟩
      · exact y r (List.mem_cons_of_mem _ (List.mem_cons_of_mem _ hr))
  · obtain ⟨eb, h6⟩ := h3 he
    have k : ∀ v, (100 + v ∈ tm a ∨ 100 + v ∈ tm c) → b0 v ≠ none := by
      rintro v (hv | hv)
      · rcases oa with o | o
        · exact h6 q List.mem_cons_self v (.inl (o ▸ hv))
        · have := o.1 _ hv
          omega
      · rcases oc with o | o
        · exact h6 q List.mem_cons_self v (.inr (o ▸ hv))
        · have := o _ hv
          omega
    intro r hr v hv
    rcases List.mem_cons.mp hr with e1 | hr
    · rw [e1] at hv
      rcases hv with hv | hv
      · exact k v (.inl (ma v (.inl hv)))
      · exact k v (.inr (mc v (.inl hv)))
    · rcases List.mem_cons.mp hr with e1 | hr
      · rw [e1] at hv
        rcases hv with hv | hv
        · exact k v (.inl (ma v (.inr hv)))
        · exact k v (.inr (mc v (.inr hv)))
      · exact h6 r (List.mem_cons_of_mem _ hr) v hv
  · have g : fz_Gr (tm c) := by
      rcases oc with o | o
      · rw [o]
        exact h4 he q List.mem_cons_self
      · exact o
    rw [ec] at g
    have g2 := fz_GrP.mp g
    intro r hr
    rcases List.mem_cons.mp hr with e1 | hr
    · rw [e1]
      exact g2.1
    · rcases List.mem_cons.mp hr with e1 | hr
      · rw [e1]
        exact g2.2
      · exact h4 he r (List.mem_cons_of_mem _ hr)
  · rcases h5 w hw with h6 | ⟨r, hr, h6⟩
    · exact .inl h6
    · rcases List.mem_cons.mp hr with e1 | hr
      · rw [e1] at h6
        rcases oa with o | o
        · rw [← o, ea] at h6
          rcases List.mem_cons.mp h6 with e2 | h7
          · omega
          · rcases List.mem_append.mp h7 with h8 | h8
            · exact .inr ⟨(a1, c1), List.mem_cons_self, h8⟩
            · exact .inr ⟨(a2, c2), List.mem_cons_of_mem _ List.mem_cons_self, h8⟩
        · exact .inl (o.2 w h6)
      · exact .inr ⟨r, List.mem_cons_of_mem _ (List.mem_cons_of_mem _ hr), h6⟩
end
end
section
section
variable {f_variableCount f_cellCount f_goalCount f_frozenOn f_equationCount f_disequalityCount f_solved f_solutionCount : Int32} {a_kind a_first a_second a_size a_variablesIn a_rowCount a_rowLeft a_rowRight a_goalTable a_goalX a_goalY a_equationX a_equationY a_disequalityX a_disequalityY a_solutionChoice a_value a_walkX a_walkY : Nat → Int32} {a_code a_solutionCode : Nat → Int64}
variable {V n : Nat} {tm : Nat → List Nat}
/-! ===== X: replaced, agree ===== -/
theorem fz_rep (hV : V ≤ 6) (hn : n ≤ 48) (hC : fz_CX V tm n a_kind a_first a_second a_size a_variablesIn a_code) {b : Nat → Option Nat} (hb : fz_Vb tm n a_value b) {x : Nat} (hx : x < n) :
    ∃ x', x' < n ∧ (∀ (z : Int32) (post : Int32 → Prop), z = nI x → post (nI x') → wpX_replaced post (f_variableCount, f_cellCount, f_goalCount, f_frozenOn, f_equationCount, f_disequalityCount, f_solved, f_solutionCount, a_kind, a_first, a_second, a_size, a_variablesIn, a_code, a_rowCount, a_rowLeft, a_rowRight, a_goalTable, a_goalX, a_goalY, a_equationX, a_equationY, a_disequalityX, a_disequalityY, a_solutionChoice, a_solutionCode, a_value, a_walkX, a_walkY) z) ∧ (∀ s, fz_ex tm b s → fz_sb s (tm x') = fz_sb s (tm x)) ∧
      (x' = x ∨ (fz_Gr (tm x') ∧ ∀ v, 100 + v ∈ tm x → b v ≠ none)) ∧ (a_kind x' = 1 → x' = x ∧ ∃ v, v < 6 ∧ tm x = [100 + v] ∧ b v = none ∧ a_first x = nI v) := by
  have hx8 : x < 48 := by omega
  have ex : (nI x).toNatClampNeg = x := nI_clamp (by omega)
  have hi : vp_in (nI x) 48 := vp_in_nI hx8 (by omega)
  obtain ⟨hw, hl, _, _, _, h⟩ := hC x hx
  by_cases hk : a_kind x = 1
  · rcases h with ⟨a, _, _, _, k⟩ | ⟨v, hv, e, k, f⟩ | ⟨a, c, _, _, _, k, _⟩
    · rw [hk] at k
      exact absurd k (by decide)
    · have ev : (nI v).toNatClampNeg = v := nI_clamp (by omega)
      have hvi : vp_in (nI v) 6 := vp_in_nI (by omega) (by omega)
      have F : a_first (nI x).toNatClampNeg = nI v := by rw [ex]; exact f
      have K : a_kind (nI x).toNatClampNeg = 1 := by rw [ex]; exact hk
      have VL : a_value (a_first (nI x).toNatClampNeg).toNatClampNeg = a_value v := by rw [F, ev]
      have F6 : vp_in (a_first (nI x).toNatClampNeg) 6 := by rw [F]; exact hvi
      rcases hb.2 v (by omega) with ⟨h1, h2⟩ | ⟨c, h1, h2, h3, h4⟩
      · refine ⟨x, hx, fun z post hz hp => ?_, fun s _ => rfl, .inl rfl, fun _ => ⟨rfl, v, by omega, e, h1, f⟩⟩
        subst hz
        exact ⟨hi, br_t K ⟨hi, F6, br_t (VL.trans h2) hp⟩⟩
      · refine ⟨c, h1, fun z post hz hp => ?_, fun s hs => ?_, .inr ⟨h4, fun w hw => ?_⟩, fun hk' => ?_⟩
        · subst hz
          refine ⟨hi, br_t K ⟨hi, F6, br_f (fun q => fz_nm1 c (by omega) ((VL.trans h3).symm.trans q)) ⟨hi, F6, ?_⟩⟩⟩
          rw [VL, h3]
          exact hp
        · rw [e, fz_sbV, hs v c h2, fz_sbg h4]
        · rw [e, List.mem_singleton] at hw
          have : w = v := by omega
          rw [this, h2]
          simp
        · obtain ⟨_, _, _, _, _, h'⟩ := hC c h1
          rcases h' with ⟨a, _, _, _, k'⟩ | ⟨w, _, e', _, _⟩ | ⟨a, d, _, _, _, k', _⟩
          · rw [hk'] at k'
            exact absurd k' (by decide)
          · have := h4 (100 + w) (by rw [e']; exact List.mem_singleton.mpr rfl)
            omega
          · rw [hk'] at k'
            exact absurd k' (by decide)
    · rw [hk] at k
      exact absurd k (by decide)
  · refine ⟨x, hx, fun z post hz hp => ?_, fun s _ => rfl, .inl rfl, fun q => absurd q hk⟩
    subst hz
    exact ⟨hi, br_f (fun q => hk (by rw [ex] at q; exact q)) hp⟩
theorem fz_agL (hV : V ≤ 6) (hn : n ≤ 48) (hC : fz_CX V tm n a_kind a_first a_second a_size a_variablesIn a_code) {b0 : Nat → Option Nat} {e : Prop} {J : (Nat → List Nat) → Prop} {A0 : List Nat} {post : Int32 → SX → Prop}
    (h1 : ∀ b val wx wy, fz_Vb tm n val b → fz_AI tm n b0 e J A0 b [] → post 1 (f_variableCount, f_cellCount, f_goalCount, f_frozenOn, f_equationCount, f_disequalityCount, f_solved, f_solutionCount, a_kind, a_first, a_second, a_size, a_variablesIn, a_code, a_rowCount, a_rowLeft, a_rowRight, a_goalTable, a_goalX, a_goalY, a_equationX, a_equationY, a_disequalityX, a_disequalityY, a_solutionChoice, a_solutionCode, val, wx, wy))
    (h0 : ∀ b val wx wy, fz_Vb tm n val b → (e → b = b0) → (∀ s, fz_As s → fz_ex tm b0 s → ¬ J s) → post 0 (f_variableCount, f_cellCount, f_goalCount, f_frozenOn, f_equationCount, f_disequalityCount, f_solved, f_solutionCount, a_kind, a_first, a_second, a_size, a_variablesIn, a_code, a_rowCount, a_rowLeft, a_rowRight, a_goalTable, a_goalX, a_goalY, a_equationX, a_equationY, a_disequalityX, a_disequalityY, a_solutionChoice, a_solutionCode, val, wx, wy)) :
    ∀ (m : Nat) (st : List (Nat × Nat)) (k : Nat) (b : Nat → Option Nat) (val wx wy : Nat → Int32), fz_Ph tm st < m → k + fz_Ph tm st ≤ 53 → fz_Vb tm n val b → fz_sq wx wy st → fz_AI tm n b0 e J A0 b st →
      wX_agree_19 post f_variableCount f_cellCount f_goalCount f_frozenOn f_equationCount f_disequalityCount f_solved f_solutionCount m (nI st.length) (nI k) a_kind a_first a_second a_size a_variablesIn a_code a_rowCount a_rowLeft a_rowRight a_goalTable a_goalX a_goalY a_equationX a_equationY a_disequalityX a_disequalityY a_solutionChoice a_solutionCode val wx wy := by
  have hw : ∀ c, c < n → fz_WT (tm c) := fun c hc => (hC c hc).1
  intro m
  induction m with
  | zero => intro st k b val wx wy hm; omega
  | succ m ih =>
    intro st k b val wx wy hm hk hb hs hI
    have hl := fz_Phl tm st
    cases st with
    | nil => exact pk_le 64 k (fun h => absurd h (by omega)) (fun _ => pk_le 0 0 (fun _ => pk_eq 0 0 (fun _ => h1 b val wx wy hb hI) (fun h => absurd rfl h)) (fun h => absurd h (by omega)))
    | cons q t =>
      have hP : fz_Ph tm (q :: t) = fz_cs tm q + fz_Ph tm t := rfl
      have hc1 : 1 ≤ fz_cs tm q := by unfold fz_cs; omega
      have hl' : t.length + 1 ≤ fz_Ph tm (q :: t) := hl
      have ix : (nI t.length).toNatClampNeg = t.length := nI_clamp (by omega)
      have ix1 : (nI t.length + 1).toNatClampNeg = t.length + 1 := by rw [nI_1]; exact nI_clamp (by omega)
      have w1 : wx (nI t.length).toNatClampNeg = nI q.1 := by rw [ix]; exact hs.1
      have w2 : wy (nI t.length).toNatClampNeg = nI q.2 := by rw [ix]; exact hs.2.1
      have i66 : vp_in (nI t.length) 66 := vp_in_nI (by omega) (by omega)
      have i67 : vp_in (nI t.length + 1) 66 := by rw [nI_1]; exact vp_in_nI (by omega) (by omega)
      obtain ⟨hq1, hq2⟩ := hI.1 q List.mem_cons_self
      obtain ⟨a, ha, ra, sa, oa, ka⟩ := fz_rep (f_variableCount := f_variableCount) (f_cellCount := f_cellCount) (f_goalCount := f_goalCount) (f_frozenOn := f_frozenOn) (f_equationCount := f_equationCount) (f_disequalityCount := f_disequalityCount) (f_solved := f_solved) (f_solutionCount := f_solutionCount) (a_kind := a_kind) (a_first := a_first) (a_second := a_second) (a_size := a_size) (a_variablesIn := a_variablesIn) (a_code := a_code) (a_rowCount := a_rowCount) (a_rowLeft := a_rowLeft) (a_rowRight := a_rowRight) (a_goalTable := a_goalTable) (a_goalX := a_goalX) (a_goalY := a_goalY) (a_equationX := a_equationX) (a_equationY := a_equationY) (a_disequalityX := a_disequalityX) (a_disequalityY := a_disequalityY) (a_solutionChoice := a_solutionChoice) (a_solutionCode := a_solutionCode) (a_value := val) (a_walkX := wx) (a_walkY := wy) hV hn hC hb hq1
      obtain ⟨c, hc, rc, sc, oc, kc⟩ := fz_rep (f_variableCount := f_variableCount) (f_cellCount := f_cellCount) (f_goalCount := f_goalCount) (f_frozenOn := f_frozenOn) (f_equationCount := f_equationCount) (f_disequalityCount := f_disequalityCount) (f_solved := f_solved) (f_solutionCount := f_solutionCount) (a_kind := a_kind) (a_first := a_first) (a_second := a_second) (a_size := a_size) (a_variablesIn := a_variablesIn) (a_code := a_code) (a_rowCount := a_rowCount) (a_rowLeft := a_rowLeft) (a_rowRight := a_rowRight) (a_goalTable := a_goalTable) (a_goalX := a_goalX) (a_goalY := a_goalY) (a_equationX := a_equationX) (a_equationY := a_equationY) (a_disequalityX := a_disequalityX) (a_disequalityY := a_disequalityY) (a_solutionChoice := a_solutionChoice) (a_solutionCode := a_solutionCode) (a_value := val) (a_walkX := wx) (a_walkY := wy) hV hn hC hb hq2
      have ia : vp_in (nI a) 48 := vp_in_nI (by omega) (by omega)
      have ic : vp_in (nI c) 48 := vp_in_nI (by omega) (by omega)
      have ea : (nI a).toNatClampNeg = a := nI_clamp (by omega)
      have ec : (nI c).toNatClampNeg = c := nI_clamp (by omega)
      have hca := hC a ha
      have hcc := hC c hc
      have eb : e → b = b0 := fun he => (hI.2.2.1 he).1
      refine pk_le 64 k (fun h => absurd h (by omega)) (fun _ => pk_le (t.length + 1) 0 (fun h => absurd h (by omega)) (fun _ => nm_r (pk_m1 t.length) ⟨i66, ra _ _ w1 ⟨i66, rc _ _ w2 ?_⟩⟩))
      by_cases ka1 : a_kind a = 1
      · obtain ⟨e1, v, hv, tv, bv, fv⟩ := ka ka1
        have ne := fz_AIn hI tv bv
        have gc : fz_Gr (tm c) := by
          rcases oc with o | o
          · rw [o]
            exact hI.2.2.2.1 ne q List.mem_cons_self
          · exact o.1
        have K : a_kind (nI a).toNatClampNeg = 1 := by rw [ea]; exact ka1
        have F : a_first (nI a).toNatClampNeg = nI v := by rw [ea, e1]; exact fv
        have F6 : vp_in (a_first (nI a).toNatClampNeg) 6 := by rw [F]; exact vp_in_nI hv (by omega)
        have U : upd val (a_first (nI a).toNatClampNeg).toNatClampNeg (nI c) = upd val v (nI c) := by rw [F, nI_clamp (by omega)]
        exact ⟨ia, br_t K ⟨ia, F6, nm_r U (nm_r (nI_1 k) (ih t (k + 1) (fz_set b v c) (upd val v (nI c)) wx wy (by omega) (by omega) (fz_VbS hb hv hc gc) hs.2.2 (fz_AIb hI tv bv gc sc)))⟩⟩
      · have K : ¬ a_kind (nI a).toNatClampNeg = 1 := by rw [ea]; exact ka1
        have AG : ¬ (fz_Gr (tm a) ∧ fz_Gr (tm c)) → wX_agree_125 post (wX_agree_19 post f_variableCount f_cellCount f_goalCount f_frozenOn f_equationCount f_disequalityCount f_solved f_solutionCount m) (nI t.length) (nI k) (nI a) (nI c) f_variableCount f_cellCount f_goalCount f_frozenOn f_equationCount f_disequalityCount f_solved f_solutionCount a_kind a_first a_second a_size a_variablesIn a_code a_rowCount a_rowLeft a_rowRight a_goalTable a_goalX a_goalY a_equationX a_equationY a_disequalityX a_disequalityY a_solutionChoice a_solutionCode val wx wy := by
          intro ng
          have kc1 : ¬ a_kind c = 1 := by
            intro h
            obtain ⟨e1, v, hv, tv, bv, _⟩ := kc h
            have hm : 100 + v ∈ tm q.2 := by rw [tv]; exact List.mem_singleton.mpr rfl
            by_cases he : e
            · obtain ⟨eb', hh⟩ := hI.2.2.1 he
              exact hh q List.mem_cons_self v (.inr hm) (eb' ▸ bv)
            · have := hI.2.2.2.1 he q List.mem_cons_self _ hm
              omega
          by_cases ka2 : a_kind a = 2
          · have K2 : a_kind (nI a).toNatClampNeg = 2 := by rw [ea]; exact ka2
            obtain ⟨a1, a2, la1, la2, ta, fa, da⟩ : ∃ a1 a2, a1 < a ∧ a2 < a ∧ tm a = 17 :: (tm a1 ++ tm a2) ∧ a_first a = nI a1 ∧ a_second a = nI a2 := by
              rcases hca.2.2.2.2.2 with ⟨_, _, _, _, k'⟩ | ⟨_, _, _, k', _⟩ | ⟨a1, a2, la1, la2, ta, _, fa, da⟩
              · rw [ka2] at k'
                exact absurd k' (by decide)
              · exact absurd k' ka1
              · exact ⟨a1, a2, la1, la2, ta, fa, da⟩
            by_cases kc2 : a_kind c = 2
            · have C2 : a_kind (nI c).toNatClampNeg = 2 := by rw [ec]; exact kc2
              obtain ⟨c1, c2, lc1, lc2, tc, fc, dc⟩ : ∃ c1 c2, c1 < c ∧ c2 < c ∧ tm c = 17 :: (tm c1 ++ tm c2) ∧ a_first c = nI c1 ∧ a_second c = nI c2 := by
                rcases hcc.2.2.2.2.2 with ⟨_, _, _, _, k'⟩ | ⟨_, _, _, k', _⟩ | ⟨c1, c2, lc1, lc2, tc, _, fc, dc⟩
                · rw [kc2] at k'
                  exact absurd k' (by decide)
                · exact absurd k' kc1
                · exact ⟨c1, c2, lc1, lc2, tc, fc, dc⟩
              have A2 : a_second (nI a).toNatClampNeg = nI a2 := by rw [ea]; exact da
              have A1 : a_first (nI a).toNatClampNeg = nI a1 := by rw [ea]; exact fa
              have D2 : a_second (nI c).toNatClampNeg = nI c2 := by rw [ec]; exact dc
              have D1 : a_first (nI c).toNatClampNeg = nI c1 := by rw [ec]; exact fc
              have U1 : upd wx (nI t.length).toNatClampNeg (a_second (nI a).toNatClampNeg) = upd wx t.length (nI a2) := by rw [ix, A2]
              have U2 : upd wy (nI t.length).toNatClampNeg (a_second (nI c).toNatClampNeg) = upd wy t.length (nI c2) := by rw [ix, D2]
              have U3 : upd (upd wx t.length (nI a2)) (nI t.length + 1).toNatClampNeg (a_first (nI a).toNatClampNeg) = upd (upd wx t.length (nI a2)) (t.length + 1) (nI a1) := by rw [ix1, A1]
              have U4 : upd (upd wy t.length (nI c2)) (nI t.length + 1).toNatClampNeg (a_first (nI c).toNatClampNeg) = upd (upd wy t.length (nI c2)) (t.length + 1) (nI c1) := by rw [ix1, D1]
              have e2 : nI t.length + 2 = nI (t.length + 2) := nI_add t.length 2
              have pa := fz_fP (tm a1) (tm a2) (fz_WTlen (hw a1 (by omega))) (fz_WTlen (hw a2 (by omega)))
              have pc := fz_fP (tm c1) (tm c2) (fz_WTlen (hw c1 (by omega))) (fz_WTlen (hw c2 (by omega)))
              rw [← ta] at pa
              rw [← tc] at pc
              have qa : fz_f (tm a) ≤ fz_f (tm q.1) := by
                rcases oa with o | o
                · rw [o]
                  exact Nat.le_refl _
                · rw [fz_fG o.1]
                  omega
              have qc : fz_f (tm c) ≤ fz_f (tm q.2) := by
                rcases oc with o | o
                · rw [o]
                  exact Nat.le_refl _
                · rw [fz_fG o.1]
                  omega
              have hcost : fz_Ph tm ((a1, c1) :: (a2, c2) :: t) + 1 ≤ fz_Ph tm (q :: t) := by
                show (1 + fz_f (tm a1) + fz_f (tm c1)) + ((1 + fz_f (tm a2) + fz_f (tm c2)) + fz_Ph tm t) + 1 ≤ (1 + fz_f (tm q.1) + fz_f (tm q.2)) + fz_Ph tm t
                by_cases ga : fz_Gr (tm a)
                · have := pc.2 (fun gc => ng ⟨ga, gc⟩)
                  have := pa.1
                  omega
                · have := pa.2 ga
                  have := pc.1
                  omega
              exact ⟨ia, br_t K2 ⟨ic, br_t C2 ⟨ia, i66, nm_r U1 ⟨ic, i66, nm_r U2 ⟨ia, i67, nm_r U3 ⟨ic, i67, nm_r U4 (nm_r e2 (nm_r (nI_1 k) (ih ((a1, c1) :: (a2, c2) :: t) (k + 1) b val _ _ (by omega) (by omega) hb (fz_sq2 hs.2.2 a1 c1 a2 c2) (fz_AIp hw hI (by omega) (by omega) (by omega) (by omega) ta tc sa sc oa (oc.imp id (fun o => o.1))))))⟩⟩⟩⟩⟩⟩
            · have C2 : ¬ a_kind (nI c).toNatClampNeg = 2 := by rw [ec]; exact kc2
              refine ⟨ia, br_t K2 ⟨ic, br_f C2 (h0 b val wx wy hb eb (fz_AI0 hI ?_))⟩⟩
              intro s hs' hx hh
              rcases hcc.2.2.2.2.2 with ⟨k', l1, l2, tc, _⟩ | ⟨_, _, _, k', _⟩ | ⟨_, _, _, _, _, k', _⟩
              · rw [← sa s hx, ← sc s hx, ta, tc, fz_sbP, fz_sb1, fz_s1L (by omega)] at hh
                have := (List.cons.inj hh).1
                omega
              · exact kc1 k'
              · exact kc2 k'
          · have K2 : ¬ a_kind (nI a).toNatClampNeg = 2 := by rw [ea]; exact ka2
            refine ⟨ia, br_f K2 (h0 b val wx wy hb eb (fz_AI0 hI ?_))⟩
            intro s hs' hx hh
            rcases hca.2.2.2.2.2 with ⟨k', l1, l2, ta, _⟩ | ⟨_, _, _, k', _⟩ | ⟨_, _, _, _, _, k', _⟩
            · have ga : fz_Gr (tm a) := by
                intro z hz
                rw [ta, List.mem_singleton] at hz
                omega
              rcases hcc.2.2.2.2.2 with ⟨k'', m1, m2, tc, _⟩ | ⟨_, _, _, k'', _⟩ | ⟨c1, c2, _, _, tc, _, _⟩
              · refine ng ⟨ga, ?_⟩
                intro z hz
                rw [tc, List.mem_singleton] at hz
                omega
              · exact kc1 k''
              · rw [← sa s hx, ← sc s hx, ta, tc, fz_sbP, fz_sb1, fz_s1L (by omega)] at hh
                have := (List.cons.inj hh).1
                omega
            · exact ka1 k'
            · exact ka2 k'
        by_cases ga : fz_Gr (tm a)
        · have Va : a_variablesIn (nI a).toNatClampNeg = 0 := by rw [ea]; exact (fz_vi0 hca).mpr ga
          by_cases gc : fz_Gr (tm c)
          · have Vc : a_variablesIn (nI c).toNatClampNeg = 0 := by rw [ec]; exact (fz_vi0 hcc).mpr gc
            have Ca : a_code (nI a).toNatClampNeg = lN (fz_vl (tm a)) := by rw [ea]; exact hca.2.2.2.2.1 ga
            have Cc : a_code (nI c).toNatClampNeg = lN (fz_vl (tm c)) := by rw [ec]; exact hcc.2.2.2.2.1 gc
            by_cases et : tm a = tm c
            · refine ⟨ia, br_f K ⟨ia, br_t Va ⟨ic, br_t Vc ⟨ia, ic, br_t (by rw [Ca, Cc, et]) (nm_r (nI_1 k) (ih t (k + 1) b val wx wy (by omega) (by omega) hb hs.2.2 (fz_AIs hI ?_ ?_)))⟩⟩⟩⟩
              · intro v hv
                rcases oa with o | o
                · rw [← o] at hv
                  have := ga _ hv
                  omega
                · exact o.2 v hv
              · intro s _ hx
                rw [← sa s hx, ← sc s hx, et]
            · refine ⟨ia, br_f K ⟨ia, br_t Va ⟨ic, br_t Vc ⟨ia, ic, br_f ?_ (h0 b val wx wy hb eb (fz_AI0 hI ?_))⟩⟩⟩⟩
              · rw [Ca, Cc, pk_lEQ (fz_vbig hca.1 ga hca.2.1) (fz_vbig hcc.1 gc hcc.2.1), fz_vjW hca.1 ga hcc.1 gc]
                exact et
              · intro s _ hx hh
                rw [← sa s hx, ← sc s hx, fz_sbg ga, fz_sbg gc] at hh
                exact et hh
          · have Vc : ¬ a_variablesIn (nI c).toNatClampNeg = 0 := by rw [ec]; exact fun z => gc ((fz_vi0 hcc).mp z)
            exact ⟨ia, br_f K ⟨ia, br_t Va ⟨ic, br_f Vc (AG (fun z => gc z.2))⟩⟩⟩
        · have Va : ¬ a_variablesIn (nI a).toNatClampNeg = 0 := by rw [ea]; exact fun z => ga ((fz_vi0 hca).mp z)
          exact ⟨ia, br_f K ⟨ia, br_f Va (AG (fun z => ga z.1))⟩⟩
theorem fz_agree (hV : V ≤ 6) (hn : n ≤ 48) (hC : fz_CX V tm n a_kind a_first a_second a_size a_variablesIn a_code) {b0 : Nat → Option Nat} (hb : fz_Vb tm n a_value b0) {x y : Nat} (hx : x < n) (hy : y < n) (e : Prop)
    (he : e → ∀ v, (100 + v ∈ tm x ∨ 100 + v ∈ tm y) → b0 v ≠ none) (hg : ¬ e → fz_Gr (tm y)) {zx zy : Int32} (ex : zx = nI x) (ey : zy = nI y) {post : Int32 → SX → Prop}
    (h1 : ∀ b val wx wy, fz_Vb tm n val b → (e → b = b0) → fz_le b0 b → (∀ v, 100 + v ∈ tm x → b v ≠ none) → (∀ s, fz_As s → fz_ex tm b0 s → (fz_sb s (tm x) = fz_sb s (tm y) ↔ fz_ex tm b s)) → post 1 (f_variableCount, f_cellCount, f_goalCount, f_frozenOn, f_equationCount, f_disequalityCount, f_solved, f_solutionCount, a_kind, a_first, a_second, a_size, a_variablesIn, a_code, a_rowCount, a_rowLeft, a_rowRight, a_goalTable, a_goalX, a_goalY, a_equationX, a_equationY, a_disequalityX, a_disequalityY, a_solutionChoice, a_solutionCode, val, wx, wy))
    (h0 : ∀ b val wx wy, fz_Vb tm n val b → (e → b = b0) → (∀ s, fz_As s → fz_ex tm b0 s → ¬ fz_sb s (tm x) = fz_sb s (tm y)) → post 0 (f_variableCount, f_cellCount, f_goalCount, f_frozenOn, f_equationCount, f_disequalityCount, f_solved, f_solutionCount, a_kind, a_first, a_second, a_size, a_variablesIn, a_code, a_rowCount, a_rowLeft, a_rowRight, a_goalTable, a_goalX, a_goalY, a_equationX, a_equationY, a_disequalityX, a_disequalityY, a_solutionChoice, a_solutionCode, val, wx, wy)) :
    wpX_agree post (f_variableCount, f_cellCount, f_goalCount, f_frozenOn, f_equationCount, f_disequalityCount, f_solved, f_solutionCount, a_kind, a_first, a_second, a_size, a_variablesIn, a_code, a_rowCount, a_rowLeft, a_rowRight, a_goalTable, a_goalX, a_goalY, a_equationX, a_equationY, a_disequalityX, a_disequalityY, a_solutionChoice, a_solutionCode, a_value, a_walkX, a_walkY) zx zy := by
  subst ex ey
  have hP : fz_Ph tm [(x, y)] ≤ 53 := by
    show 1 + fz_f (tm x) + fz_f (tm y) + 0 ≤ 53
    have := fz_fle (tm x)
    have := fz_fle (tm y)
    have := (hC x hx).2.1
    have := (hC y hy).2.1
    omega
  refine nm_e (nm_e ⟨54, fz_agL hV hn hC (b0 := b0) (e := e) (J := fun s => fz_sb s (tm x) = fz_sb s (tm y)) (A0 := tm x) ?_ h0 54 [(x, y)] 0 b0 a_value _ _ (by omega) (by omega) hb ⟨pk_us, pk_us, trivial⟩ ?_⟩)
  · intro b val wx wy hv hI
    refine h1 b val wx wy hv (fun z => (hI.2.2.1 z).1) hI.2.2.2.2.2 (fun v hv => ?_) (fun s hs h0' => ?_)
    · rcases hI.2.2.2.2.1 v hv with h | ⟨q, hq, _⟩
      · exact h
      · exact absurd hq (by simp)
    · exact Iff.trans (hI.2.1 s hs h0') ⟨fun z => z.1, fun z => ⟨z, fun q hq => absurd hq (by simp)⟩⟩
  · refine ⟨fun q hq => ?_, fun s hs h0' => ?_, fun z => ⟨rfl, fun q hq => ?_⟩, fun z q hq => ?_, fun v hv => .inr ⟨(x, y), List.mem_singleton.mpr rfl, hv⟩, fun v c hv => hv⟩
    · rw [List.mem_singleton.mp hq]
      exact ⟨hx, hy⟩
    · exact ⟨fun z => ⟨h0', fun q hq => by rw [List.mem_singleton.mp hq]; exact z⟩, fun z => z.2 (x, y) (List.mem_singleton.mpr rfl)⟩
    · rw [List.mem_singleton.mp hq]
      exact he z
    · rw [List.mem_singleton.mp hq]
      exact hg z
end
end
section
section
variable {f_variableCount f_cellCount f_goalCount f_frozenOn f_equationCount f_disequalityCount f_solved f_solutionCount : Int32} {a_kind a_first a_second a_size a_variablesIn a_rowCount a_rowLeft a_rowRight a_goalTable a_goalX a_goalY a_equationX a_equationY a_disequalityX a_disequalityY a_solutionChoice a_value a_walkX a_walkY : Nat → Int32} {a_code a_solutionCode : Nat → Int64}
variable {V n G E D : Nat} {tm : Nat → List Nat}
/-! ===== X: goalsHold ===== -/
theorem fz_ghL (hV : V ≤ 6) (hn : n ≤ 48) (hC : fz_CX V tm n a_kind a_first a_second a_size a_variablesIn a_code) (hG : G ≤ 4) (hGO : fz_GO n a_goalTable a_goalX a_goalY G) (hRO : fz_RO tm n a_rowCount a_rowLeft a_rowRight) {p : Nat → Nat} (hp : ∀ g, p g < 6) {post : Int32 → SX → Prop}
    (h1 : ∀ b val wx wy, fz_Vb tm n val b → (∀ g, g < G → p g < fz_Rw a_rowCount a_goalTable g) → (∀ v, fz_Gv tm a_goalX a_goalY G v → b v ≠ none) → (∀ s, fz_As s → (fz_Mt tm a_goalTable a_goalX a_goalY a_rowLeft a_rowRight 0 G p s ↔ fz_ex tm b s)) → post 1 (f_variableCount, f_cellCount, f_goalCount, f_frozenOn, f_equationCount, f_disequalityCount, f_solved, f_solutionCount, a_kind, a_first, a_second, a_size, a_variablesIn, a_code, a_rowCount, a_rowLeft, a_rowRight, a_goalTable, a_goalX, a_goalY, a_equationX, a_equationY, a_disequalityX, a_disequalityY, a_solutionChoice, a_solutionCode, val, wx, wy))
    (h0 : ∀ val wx wy, (¬ ∃ s, fz_As s ∧ (∀ g, g < G → p g < fz_Rw a_rowCount a_goalTable g) ∧ fz_Mt tm a_goalTable a_goalX a_goalY a_rowLeft a_rowRight 0 G p s) → post 0 (f_variableCount, f_cellCount, f_goalCount, f_frozenOn, f_equationCount, f_disequalityCount, f_solved, f_solutionCount, a_kind, a_first, a_second, a_size, a_variablesIn, a_code, a_rowCount, a_rowLeft, a_rowRight, a_goalTable, a_goalX, a_goalY, a_equationX, a_equationY, a_disequalityX, a_disequalityY, a_solutionChoice, a_solutionCode, val, wx, wy)) :
    ∀ (j : Nat) (x3 : Int32) (b : Nat → Option Nat) (val wx wy : Nat → Int32), j ≤ G → x3 = nI j + (-1) → fz_Vb tm n val b → (∀ g, j ≤ g → g < G → p g < fz_Rw a_rowCount a_goalTable g ∧ ∀ v, (100 + v ∈ tm (a_goalX g).toNatClampNeg ∨ 100 + v ∈ tm (a_goalY g).toNatClampNeg) → b v ≠ none) →
      (∀ s, fz_As s → (fz_Mt tm a_goalTable a_goalX a_goalY a_rowLeft a_rowRight j G p s ↔ fz_ex tm b s)) → ∀ m, j < m → wX_goalsHold_30 post m (nI (fz_x6 p j)) x3 f_variableCount f_cellCount f_goalCount f_frozenOn f_equationCount f_disequalityCount f_solved f_solutionCount a_kind a_first a_second a_size a_variablesIn a_code a_rowCount a_rowLeft a_rowRight a_goalTable a_goalX a_goalY a_equationX a_equationY a_disequalityX a_disequalityY a_solutionChoice a_solutionCode val wx wy := by
  intro j
  induction j with
  | zero =>
    intro x3 b val wx wy _ e3 hb hg hM m hm
    obtain ⟨m, rfl⟩ : ∃ k, m = k + 1 := ⟨m - 1, by omega⟩
    subst e3
    refine br_t (by decide) (h1 b val wx wy hb (fun g hg' => (hg g (Nat.zero_le _) hg').1) (fun v hv => ?_) hM)
    obtain ⟨g, hg', h⟩ := hv
    exact (hg g (Nat.zero_le _) hg').2 v h
  | succ j ih =>
    intro x3 b val wx wy hj e3 hb hg hM m hm
    obtain ⟨m, rfl⟩ : ∃ k, m = k + 1 := ⟨m - 1, by omega⟩
    rw [pk_m1] at e3
    subst e3
    obtain ⟨t, x, y, ht, hx, hy, et, ex, ey⟩ := hGO j (by omega)
    obtain ⟨r, hr, er, hrow⟩ := hRO t ht
    have hR := fz_RwE ht hr et er
    have hb6 := fz_x6b (p := p) (j := j + 1) (fun g _ => hp g) (by omega)
    have hs6 : fz_x6 p (j + 1) = 6 * fz_x6 p j + p j := rfl
    have hpj := hp j
    have eM : nI (fz_x6 p (j + 1)) - nI (fz_x6 p (j + 1)) / 6 * 6 = nI (p j) := by
      have h := pk_rem (a := fz_x6 p (j + 1)) (d := 6) (by omega) (by omega) (by omega)
      rw [show fz_x6 p (j + 1) % 6 = p j by omega] at h
      exact h
    have eD : nI (fz_x6 p (j + 1)) / 6 = nI (fz_x6 p j) := by
      have h := pk_div (a := fz_x6 p (j + 1)) (d := 6) (by omega) (by omega) (by omega)
      rw [show fz_x6 p (j + 1) / 6 = fz_x6 p j by omega] at h
      exact h
    have ij : vp_in (nI j) 4 := vp_in_nI (by omega) (by omega)
    have cj : (nI j).toNatClampNeg = j := nI_clamp (by omega)
    have T : a_goalTable (nI j).toNatClampNeg = nI t := by rw [cj]; exact et
    have it : vp_in (a_goalTable (nI j).toNatClampNeg) 4 := by rw [T]; exact vp_in_nI ht (by omega)
    have RC : a_rowCount (a_goalTable (nI j).toNatClampNeg).toNatClampNeg = nI r := by rw [T, nI_clamp (by omega)]; exact er
    have A5 : a_goalTable (nI j).toNatClampNeg * 6 + nI (p j) = nI (t * 6 + p j) := by
      rw [T]
      show nI t * nI 6 + nI (p j) = _
      rw [pk_mul, nI_add]
    have GX : a_goalX (nI j).toNatClampNeg = nI x := by rw [cj]; exact ex
    have GY : a_goalY (nI j).toNatClampNeg = nI y := by rw [cj]; exact ey
    refine br_f (nI_pos (by omega)) ⟨by decide, nm_r eM ⟨by decide, nm_r eD ⟨ij, it, pk_lt (p j) r (fun hpr => ?_) (fun hpr => ?_) rfl RC⟩⟩⟩
    · obtain ⟨c, d, hc, hd, ec, ed, gc, gd⟩ := hrow (p j) hpr
      have i5 : vp_in (nI (t * 6 + p j)) 24 := vp_in_nI (by omega) (by omega)
      have L : a_rowLeft (nI (t * 6 + p j)).toNatClampNeg = nI c := by rw [nI_clamp (by omega), Nat.mul_comm]; exact ec
      have Rr : a_rowRight (nI (t * 6 + p j)).toNatClampNeg = nI d := by rw [nI_clamp (by omega), Nat.mul_comm]; exact ed
      have step : ∀ s, fz_Mt tm a_goalTable a_goalX a_goalY a_rowLeft a_rowRight j G p s ↔ (fz_sb s (tm x) = tm c ∧ fz_sb s (tm y) = tm d) ∧ fz_Mt tm a_goalTable a_goalX a_goalY a_rowLeft a_rowRight (j + 1) G p s := fun s => fz_MtS (by omega) ht (by omega) (by omega) (by omega) (by omega) et ex ey ec ed
      have up : ∀ s, fz_Mt tm a_goalTable a_goalX a_goalY a_rowLeft a_rowRight 0 G p s → fz_Mt tm a_goalTable a_goalX a_goalY a_rowLeft a_rowRight j G p s := fun s h g _ hg' => h g (Nat.zero_le _) hg'
      refine ⟨ij, nm_r A5 ⟨ij, i5, fz_agree hV hn hC hb hx hc False (fun z => z.elim) (fun _ => gc) GX L ?_ ?_⟩⟩
      · intro b1 val1 wx1 wy1 hb1 _ le1 vr1 if1
        refine br_f (by decide) ⟨ij, i5, fz_agree hV hn hC hb1 hy hd False (fun z => z.elim) (fun _ => gd) GY Rr ?_ ?_⟩
        · intro b2 val2 wx2 wy2 hb2 _ le2 vr2 if2
          refine br_f (by decide) (fun x3' e3' => ih x3' b2 val2 wx2 wy2 (by omega) e3' hb2 (fun g hg1 hg2 => ?_) (fun s hs => ?_) m (by omega))
          · rcases Nat.eq_or_lt_of_le hg1 with e | e
            · subst e
              refine ⟨by rw [hR]; exact hpr, fun v hv => ?_⟩
              rw [ex, ey, nI_clamp (n := x) (by omega), nI_clamp (n := y) (by omega)] at hv
              rcases hv with hv | hv
              · exact fz_lene le2 (vr1 v hv)
              · exact vr2 v hv
            · refine ⟨(hg g e hg2).1, fun v hv => fz_lene le2 (fz_lene le1 ((hg g e hg2).2 v hv))⟩
          · rw [step s]
            constructor
            · rintro ⟨⟨k1, k2⟩, k3⟩
              have q0 := (hM s hs).mp k3
              have q1 := (if1 s hs q0).mp (by rw [fz_sbg gc]; exact k1)
              exact (if2 s hs q1).mp (by rw [fz_sbg gd]; exact k2)
            · intro q2
              have q1 := fz_exle le2 q2
              have q0 := fz_exle le1 q1
              have k1 := (if1 s hs q0).mpr q1
              have k2 := (if2 s hs q1).mpr q2
              rw [fz_sbg gc] at k1
              rw [fz_sbg gd] at k2
              exact ⟨⟨k1, k2⟩, (hM s hs).mpr q0⟩
        · intro b2 val2 wx2 wy2 hb2 _ no2
          refine br_t rfl (h0 val2 wx2 wy2 ?_)
          rintro ⟨s, hs, _, k⟩
          obtain ⟨⟨k1, k2⟩, k3⟩ := (step s).mp (up s k)
          have q0 := (hM s hs).mp k3
          have q1 := (if1 s hs q0).mp (by rw [fz_sbg gc]; exact k1)
          exact no2 s hs q1 (by rw [fz_sbg gd]; exact k2)
      · intro b1 val1 wx1 wy1 hb1 _ no1
        refine br_t rfl (h0 val1 wx1 wy1 ?_)
        rintro ⟨s, hs, _, k⟩
        obtain ⟨⟨k1, k2⟩, k3⟩ := (step s).mp (up s k)
        exact no1 s hs ((hM s hs).mp k3) (by rw [fz_sbg gc]; exact k1)
    · refine h0 val wx wy ?_
      rintro ⟨s, hs, k, _⟩
      have := k j (by omega)
      rw [hR] at this
      omega
theorem fz_goalsHold (hV : V ≤ 6) (hn : n ≤ 48) (hC : fz_CX V tm n a_kind a_first a_second a_size a_variablesIn a_code) (hG : G ≤ 4) (hGO : fz_GO n a_goalTable a_goalX a_goalY G) (hRO : fz_RO tm n a_rowCount a_rowLeft a_rowRight) (eG : f_goalCount = nI G) {p : Nat → Nat} (hp : ∀ g, p g < 6) {post : Int32 → SX → Prop} {z : Int32} (ez : z = nI (fz_x6 p G))
    (h1 : ∀ b val wx wy, fz_Vb tm n val b → (∀ g, g < G → p g < fz_Rw a_rowCount a_goalTable g) → (∀ v, fz_Gv tm a_goalX a_goalY G v → b v ≠ none) → (∀ s, fz_As s → (fz_Mt tm a_goalTable a_goalX a_goalY a_rowLeft a_rowRight 0 G p s ↔ fz_ex tm b s)) → post 1 (f_variableCount, f_cellCount, f_goalCount, f_frozenOn, f_equationCount, f_disequalityCount, f_solved, f_solutionCount, a_kind, a_first, a_second, a_size, a_variablesIn, a_code, a_rowCount, a_rowLeft, a_rowRight, a_goalTable, a_goalX, a_goalY, a_equationX, a_equationY, a_disequalityX, a_disequalityY, a_solutionChoice, a_solutionCode, val, wx, wy))
    (h0 : ∀ val wx wy, (¬ ∃ s, fz_As s ∧ (∀ g, g < G → p g < fz_Rw a_rowCount a_goalTable g) ∧ fz_Mt tm a_goalTable a_goalX a_goalY a_rowLeft a_rowRight 0 G p s) → post 0 (f_variableCount, f_cellCount, f_goalCount, f_frozenOn, f_equationCount, f_disequalityCount, f_solved, f_solutionCount, a_kind, a_first, a_second, a_size, a_variablesIn, a_code, a_rowCount, a_rowLeft, a_rowRight, a_goalTable, a_goalX, a_goalY, a_equationX, a_equationY, a_disequalityX, a_disequalityY, a_solutionChoice, a_solutionCode, val, wx, wy)) :
    wpX_goalsHold post (f_variableCount, f_cellCount, f_goalCount, f_frozenOn, f_equationCount, f_disequalityCount, f_solved, f_solutionCount, a_kind, a_first, a_second, a_size, a_variablesIn, a_code, a_rowCount, a_rowLeft, a_rowRight, a_goalTable, a_goalX, a_goalY, a_equationX, a_equationY, a_disequalityX, a_disequalityY, a_solutionChoice, a_solutionCode, a_value, a_walkX, a_walkY) z := by
  subst ez
  have key : ∀ (k i : Nat) (val : Nat → Int32), i + k = 6 → (∀ v, v < i → val v = -1) → wX_goalsHold_2 post (nI (fz_x6 p G)) f_variableCount f_cellCount f_goalCount f_frozenOn f_equationCount f_disequalityCount f_solved f_solutionCount (k + 1) (nI i) a_kind a_first a_second a_size a_variablesIn a_code a_rowCount a_rowLeft a_rowRight a_goalTable a_goalX a_goalY a_equationX a_equationY a_disequalityX a_disequalityY a_solutionChoice a_solutionCode val a_walkX a_walkY := by
    intro k
    induction k with
    | zero =>
      intro i val hi hv
      have e6 : i = 6 := by omega
      subst e6
      refine pk_le 6 6 (fun _ => nm_r (e' := nI G + (-1)) (by rw [eG, Int32.sub_eq_add_neg]) ⟨G + 1, ?_⟩) (fun h => absurd h (by omega))
      refine fz_ghL hV hn hC hG hGO hRO hp h1 h0 G _ (fun _ => none) val a_walkX a_walkY (Nat.le_refl _) rfl ⟨fun _ _ => rfl, fun v hv' => .inl ⟨rfl, hv v hv'⟩⟩ (fun g h1' h2' => absurd h2' (by omega)) (fun s _ => ?_) (G + 1) (by omega)
      exact ⟨fun _ v c hvc => absurd hvc (by simp), fun _ g h1' h2' => absurd h2' (by omega)⟩
    | succ k ih =>
      intro i val hi hv
      refine pk_le 6 i (fun h => absurd h (by omega)) (fun _ => ⟨vp_in_nI (by omega) (by omega), nm_r (e' := upd val i (-1)) (by rw [nI_clamp (by omega)]) (nm_r (nI_1 i) (ih (i + 1) _ (by omega) (fun v hv' => ?_)))⟩)
      by_cases e : v = i
      · rw [e]
        exact pk_us
      · rw [pk_un e]
        exact hv v (by omega)
  exact ⟨7, key 6 0 a_value rfl (fun v hv => absurd hv (by omega))⟩
/-! ===== X: equationsHold, disequalitiesHold ===== -/
theorem fz_eqH (hV : V ≤ 6) (hn : n ≤ 48) (hC : fz_CX V tm n a_kind a_first a_second a_size a_variablesIn a_code) (hE : E ≤ 4) (hQ : fz_QO n a_equationX a_equationY E) (eE : f_equationCount = nI E) {b : Nat → Option Nat} (hb : fz_Vb tm n a_value b)
    (hv : ∀ i, i < E → ∀ v, (100 + v ∈ tm (a_equationX i).toNatClampNeg ∨ 100 + v ∈ tm (a_equationY i).toNatClampNeg) → b v ≠ none) {post : Int32 → SX → Prop}
    (h1 : ∀ val wx wy, fz_Vb tm n val b → (∀ s, fz_As s → fz_ex tm b s → fz_Eq tm a_equationX a_equationY E s) → post 1 (f_variableCount, f_cellCount, f_goalCount, f_frozenOn, f_equationCount, f_disequalityCount, f_solved, f_solutionCount, a_kind, a_first, a_second, a_size, a_variablesIn, a_code, a_rowCount, a_rowLeft, a_rowRight, a_goalTable, a_goalX, a_goalY, a_equationX, a_equationY, a_disequalityX, a_disequalityY, a_solutionChoice, a_solutionCode, val, wx, wy))
    (h0 : ∀ val wx wy, fz_Vb tm n val b → (∀ s, fz_As s → fz_ex tm b s → ¬ fz_Eq tm a_equationX a_equationY E s) → post 0 (f_variableCount, f_cellCount, f_goalCount, f_frozenOn, f_equationCount, f_disequalityCount, f_solved, f_solutionCount, a_kind, a_first, a_second, a_size, a_variablesIn, a_code, a_rowCount, a_rowLeft, a_rowRight, a_goalTable, a_goalX, a_goalY, a_equationX, a_equationY, a_disequalityX, a_disequalityY, a_solutionChoice, a_solutionCode, val, wx, wy)) :
    wpX_equationsHold post (f_variableCount, f_cellCount, f_goalCount, f_frozenOn, f_equationCount, f_disequalityCount, f_solved, f_solutionCount, a_kind, a_first, a_second, a_size, a_variablesIn, a_code, a_rowCount, a_rowLeft, a_rowRight, a_goalTable, a_goalX, a_goalY, a_equationX, a_equationY, a_disequalityX, a_disequalityY, a_solutionChoice, a_solutionCode, a_value, a_walkX, a_walkY) := by
  have key : ∀ (k i : Nat) (val wx wy : Nat → Int32), i + k = E → fz_Vb tm n val b → (∀ s, fz_As s → fz_ex tm b s → fz_Eq tm a_equationX a_equationY i s) → wX_equationsHold_2 post (k + 1) (nI i) f_variableCount f_cellCount f_goalCount f_frozenOn f_equationCount f_disequalityCount f_solved f_solutionCount a_kind a_first a_second a_size a_variablesIn a_code a_rowCount a_rowLeft a_rowRight a_goalTable a_goalX a_goalY a_equationX a_equationY a_disequalityX a_disequalityY a_solutionChoice a_solutionCode val wx wy := by
    intro k
    induction k with
    | zero =>
      intro i val wx wy hi hb' h
      have e : i = E := by omega
      subst e
      exact pk_le i i (fun _ => h1 val wx wy hb' h) (fun h => absurd h (by omega)) eE
    | succ k ih =>
      intro i val wx wy hi hb' h
      obtain ⟨x, y, hx, hy, ex, ey⟩ := hQ i (by omega)
      have ci : (nI i).toNatClampNeg = i := nI_clamp (by omega)
      have ii : vp_in (nI i) 4 := vp_in_nI (by omega) (by omega)
      have QX : a_equationX (nI i).toNatClampNeg = nI x := by rw [ci]; exact ex
      have QY : a_equationY (nI i).toNatClampNeg = nI y := by rw [ci]; exact ey
      have hvi := hv i (by omega)
      rw [ex, ey, nI_clamp (n := x) (by omega), nI_clamp (n := y) (by omega)] at hvi
      refine pk_le E i (fun h => absurd h (by omega)) (fun _ => ⟨ii, ii, fz_agree hV hn hC hb' hx hy True (fun _ => hvi) (fun z => absurd trivial z) QX QY ?_ ?_⟩) eE
      · intro b1 val1 wx1 wy1 hb1 e1 _ _ if1
        have e1' := e1 trivial
        subst e1'
        refine br_f (by decide) (nm_r (nI_1 i) (ih (i + 1) val1 wx1 wy1 (by omega) hb1 (fun s hs hx' => ?_)))
        intro j hj
        rcases Nat.lt_or_ge j i with h2 | h2
        · exact h s hs hx' j h2
        · have : j = i := by omega
          subst this
          rw [ex, ey, nI_clamp (n := x) (by omega), nI_clamp (n := y) (by omega)]
          exact (if1 s hs hx').mpr hx'
      · intro b1 val1 wx1 wy1 hb1 e1 no
        have e1' := e1 trivial
        subst e1'
        refine br_t rfl (h0 val1 wx1 wy1 hb1 (fun s hs hx' q => no s hs hx' ?_))
        have := q i (by omega)
        rw [ex, ey, nI_clamp (n := x) (by omega), nI_clamp (n := y) (by omega)] at this
        exact this
  exact ⟨E + 1, key E 0 a_value a_walkX a_walkY (by omega) hb (fun s _ _ j hj => absurd hj (by omega))⟩
theorem fz_dfH (hV : V ≤ 6) (hn : n ≤ 48) (hC : fz_CX V tm n a_kind a_first a_second a_size a_variablesIn a_code) (hD : D ≤ 6) (hQ : fz_QO n a_disequalityX a_disequalityY D) (eD : f_disequalityCount = nI D) {b : Nat → Option Nat} (hb : fz_Vb tm n a_value b)
    (hv : ∀ i, i < D → ∀ v, (100 + v ∈ tm (a_disequalityX i).toNatClampNeg ∨ 100 + v ∈ tm (a_disequalityY i).toNatClampNeg) → b v ≠ none) {post : Int32 → SX → Prop}
    (h1 : ∀ val wx wy, fz_Vb tm n val b → (∀ s, fz_As s → fz_ex tm b s → fz_Df tm a_disequalityX a_disequalityY D s) → post 1 (f_variableCount, f_cellCount, f_goalCount, f_frozenOn, f_equationCount, f_disequalityCount, f_solved, f_solutionCount, a_kind, a_first, a_second, a_size, a_variablesIn, a_code, a_rowCount, a_rowLeft, a_rowRight, a_goalTable, a_goalX, a_goalY, a_equationX, a_equationY, a_disequalityX, a_disequalityY, a_solutionChoice, a_solutionCode, val, wx, wy))
    (h0 : ∀ val wx wy, fz_Vb tm n val b → (∀ s, fz_As s → fz_ex tm b s → ¬ fz_Df tm a_disequalityX a_disequalityY D s) → post 0 (f_variableCount, f_cellCount, f_goalCount, f_frozenOn, f_equationCount, f_disequalityCount, f_solved, f_solutionCount, a_kind, a_first, a_second, a_size, a_variablesIn, a_code, a_rowCount, a_rowLeft, a_rowRight, a_goalTable, a_goalX, a_goalY, a_equationX, a_equationY, a_disequalityX, a_disequalityY, a_solutionChoice, a_solutionCode, val, wx, wy)) :
    wpX_disequalitiesHold post (f_variableCount, f_cellCount, f_goalCount, f_frozenOn, f_equationCount, f_disequalityCount, f_solved, f_solutionCount, a_kind, a_first, a_second, a_size, a_variablesIn, a_code, a_rowCount, a_rowLeft, a_rowRight, a_goalTable, a_goalX, a_goalY, a_equationX, a_equationY, a_disequalityX, a_disequalityY, a_solutionChoice, a_solutionCode, a_value, a_walkX, a_walkY) := by
  have key : ∀ (k i : Nat) (val wx wy : Nat → Int32), i + k = D → fz_Vb tm n val b → (∀ s, fz_As s → fz_ex tm b s → fz_Df tm a_disequalityX a_disequalityY i s) → wX_disequalitiesHold_2 post (k + 1) (nI i) f_variableCount f_cellCount f_goalCount f_frozenOn f_equationCount f_disequalityCount f_solved f_solutionCount a_kind a_first a_second a_size a_variablesIn a_code a_rowCount a_rowLeft a_rowRight a_goalTable a_goalX a_goalY a_equationX a_equationY a_disequalityX a_disequalityY a_solutionChoice a_solutionCode val wx wy := by
    intro k
    induction k with
    | zero =>
      intro i val wx wy hi hb' h
      have e : i = D := by omega
      subst e
      exact pk_le i i (fun _ => h1 val wx wy hb' h) (fun h => absurd h (by omega)) eD
    | succ k ih =>
      intro i val wx wy hi hb' h
      obtain ⟨x, y, hx, hy, ex, ey⟩ := hQ i (by omega)
      have ci : (nI i).toNatClampNeg = i := nI_clamp (by omega)
      have ii : vp_in (nI i) 6 := vp_in_nI (by omega) (by omega)
      have QX : a_disequalityX (nI i).toNatClampNeg = nI x := by rw [ci]; exact ex
      have QY : a_disequalityY (nI i).toNatClampNeg = nI y := by rw [ci]; exact ey
      have hvi := hv i (by omega)
      rw [ex, ey, nI_clamp (n := x) (by omega), nI_clamp (n := y) (by omega)] at hvi
      refine pk_le D i (fun h => absurd h (by omega)) (fun _ => ⟨ii, ii, fz_agree hV hn hC hb' hx hy True (fun _ => hvi) (fun z => absurd trivial z) QX QY ?_ ?_⟩) eD
      · intro b1 val1 wx1 wy1 hb1 e1 _ _ if1
        have e1' := e1 trivial
        subst e1'
        refine br_f (by decide) (h0 val1 wx1 wy1 hb1 (fun s hs hx' q => ?_))
        have := q i (by omega)
        rw [ex, ey, nI_clamp (n := x) (by omega), nI_clamp (n := y) (by omega)] at this
        exact this ((if1 s hs hx').mpr hx')
      · intro b1 val1 wx1 wy1 hb1 e1 no
        have e1' := e1 trivial
        subst e1'
        refine br_t rfl (nm_r (nI_1 i) (ih (i + 1) val1 wx1 wy1 (by omega) hb1 (fun s hs hx' => ?_)))
        intro j hj
        rcases Nat.lt_or_ge j i with h2 | h2
        · exact h s hs hx' j h2
        · have : j = i := by omega
          subst this
          rw [ex, ey, nI_clamp (n := x) (by omega), nI_clamp (n := y) (by omega)]
          exact no s hs hx'
  exact ⟨D + 1, key D 0 a_value a_walkX a_walkY (by omega) hb (fun s _ _ j hj => absurd hj (by omega))⟩
/-! ===== X: keepSolution, findSolutions ===== -/
/-- the code of a variable's value -/
def fz_cv (cd : Nat → Int64) (b : Nat → Option Nat) (v : Nat) : Int64 := match b v with
  | some c => cd c
  | none => 0
theorem fz_keep (hn : n ≤ 48) {b : Nat → Option Nat} (hb : fz_Vb tm n a_value b) {k : Nat} (hk : k < 1296) (ek : f_solutionCount = nI k) {z : Int32} {post : SX → Prop}
    (h : ∀ sC : Nat → Int64, (∀ v, v < 6 → sC (k * 6 + v) = fz_cv a_code b v) → (∀ j, j < k * 6 → sC j = a_solutionCode j) → post (f_variableCount, f_cellCount, f_goalCount, f_frozenOn, f_equationCount, f_disequalityCount, f_solved, nI (k + 1), a_kind, a_first, a_second, a_size, a_variablesIn, a_code, a_rowCount, a_rowLeft, a_rowRight, a_goalTable, a_goalX, a_goalY, a_equationX, a_equationY, a_disequalityX, a_disequalityY, upd a_solutionChoice k z, sC, a_value, a_walkX, a_walkY)) :
    wpX_keepSolution post (f_variableCount, f_cellCount, f_goalCount, f_frozenOn, f_equationCount, f_disequalityCount, f_solved, f_solutionCount, a_kind, a_first, a_second, a_size, a_variablesIn, a_code, a_rowCount, a_rowLeft, a_rowRight, a_goalTable, a_goalX, a_goalY, a_equationX, a_equationY, a_disequalityX, a_disequalityY, a_solutionChoice, a_solutionCode, a_value, a_walkX, a_walkY) z := by
  have key : ∀ (m i : Nat) (sC : Nat → Int64), i + m = 6 → (∀ v, v < i → sC (k * 6 + v) = fz_cv a_code b v) → (∀ j, j < k * 6 → sC j = a_solutionCode j) → wX_keepSolution_12 post f_variableCount f_cellCount f_goalCount f_frozenOn f_equationCount f_disequalityCount f_solved f_solutionCount (m + 1) (nI i) a_kind a_first a_second a_size a_variablesIn a_code a_rowCount a_rowLeft a_rowRight a_goalTable a_goalX a_goalY a_equationX a_equationY a_disequalityX a_disequalityY (upd a_solutionChoice k z) sC a_value a_walkX a_walkY := by
    intro m
    induction m with
    | zero =>
      intro i sC hi h1 h2
      have e : i = 6 := by omega
      subst e
      exact pk_le 6 6 (fun _ => nm_r (e' := nI (k + 1)) (by rw [ek, nI_1]) (h sC h1 h2)) (fun h => absurd h (by omega))
    | succ m ih =>
      intro i sC hi h1 h2
      have ci : (nI i).toNatClampNeg = i := nI_clamp (by omega)
      have ii : vp_in (nI i) 6 := vp_in_nI (by omega) (by omega)
      have ix : f_solutionCount * 6 + nI i = nI (k * 6 + i) := by
        rw [ek]
        show nI k * nI 6 + nI i = _
        rw [pk_mul, nI_add]
      have iv : vp_in (f_solutionCount * 6 + nI i) 7776 := by rw [ix]; exact vp_in_nI (by omega) (by omega)
      have put : ∀ z0 : Int64, z0 = fz_cv a_code b i → wX_keepSolution_43 post (wX_keepSolution_12 post f_variableCount f_cellCount f_goalCount f_frozenOn f_equationCount f_disequalityCount f_solved f_solutionCount (m + 1)) (nI i) z0 f_variableCount f_cellCount f_goalCount f_frozenOn f_equationCount f_disequalityCount f_solved f_solutionCount a_kind a_first a_second a_size a_variablesIn a_code a_rowCount a_rowLeft a_rowRight a_goalTable a_goalX a_goalY a_equationX a_equationY a_disequalityX a_disequalityY (upd a_solutionChoice k z) sC a_value a_walkX a_walkY := by
        intro z0 e0
        refine ⟨iv, nm_r (e' := vp_updL sC (k * 6 + i) z0) (by rw [ix, nI_clamp (by omega)]) (nm_r (nI_1 i) (ih (i + 1) _ (by omega) (fun v hv => ?_) (fun j hj => ?_)))⟩
        · by_cases e : v = i
          · rw [e, pk_uLs]
            exact e0
          · rw [pk_uLn (by omega)]
            exact h1 v (by omega)
        · rw [pk_uLn (by omega)]
          exact h2 j hj
      have VV : a_value (nI i).toNatClampNeg = a_value i := by rw [ci]
      rcases hb.2 i (by omega) with ⟨q1, q2⟩ | ⟨c, q1, q2, q3, q4⟩
      · exact pk_le 6 i (fun h => absurd h (by omega)) (fun _ => ⟨ii, br_t (VV.trans q2) (put 0 (by unfold fz_cv; rw [q1]))⟩)
      · refine pk_le 6 i (fun h => absurd h (by omega)) (fun _ => ⟨ii, br_f (fun z => fz_nm1 c (by omega) ((VV.trans q3).symm.trans z)) ⟨ii, ?_, put _ ?_⟩⟩)
        · rw [VV, q3]
          exact vp_in_nI (by omega) (by omega)
        · unfold fz_cv
          rw [VV, q3, nI_clamp (by omega), q2]
  refine ⟨by rw [ek]; exact vp_in_nI (by omega) (by omega), nm_r (e' := upd a_solutionChoice k z) (by rw [ek, nI_clamp (by omega)]) ⟨7, key 6 0 a_solutionCode rfl (fun v hv => absurd hv (by omega)) (fun j _ => rfl)⟩⟩
/-- X's solutions: the numbers of a list, and the codes that every fitting assignment gives -/
def fz_SX (tm : Nat → List Nat) (gt gx gy rl rr : Nat → Int32) (G : Nat) (L : List Nat) (sc : Nat → Int32) (sC : Nat → Int64) : Prop :=
  fz_sp sc 0 L ∧ ∀ k c, L[k]? = some c → ∀ p, (∀ g, g < G → p g < 6) → fz_x6 p G = c → ∀ s, fz_As s → fz_Mt tm gt gx gy rl rr 0 G p s → ∀ v, v < 6 → fz_Gv tm gx gy G v → sC (k * 6 + v) = lN (fz_vl (s v))
def fz_PX (tm : Nat → List Nat) (rc gt gx gy rl rr ex ey dx dy : Nat → Int32) (G E D : Nat) (c : Nat) : Prop :=
  ∃ p, (∀ g, g < G → p g < fz_Rw rc gt g) ∧ fz_Good tm gt gx gy rl rr ex ey dx dy G E D p ∧ fz_x6 p G = c
def fz_PY (tm : Nat → List Nat) (rc gt gx gy rl rr ex ey dx dy : Nat → Int32) (G E D : Nat) (c : Nat) : Prop :=
  ∃ p, (∀ g, g < G → p g < fz_Rw rc gt g) ∧ fz_Good tm gt gx gy rl rr ex ey dx dy G E D p ∧ fz_yR (fz_Rw rc gt) p G = c
theorem fz_Rw6 (hGO : fz_GO n a_goalTable a_goalX a_goalY G) (hRO : fz_RO tm n a_rowCount a_rowLeft a_rowRight) : ∀ g, g < G → fz_Rw a_rowCount a_goalTable g ≤ 6 := by
  intro g hg
  obtain ⟨t, x, y, ht, _, _, et, _, _⟩ := hGO g hg
  obtain ⟨r, hr, er, _⟩ := hRO t ht
  rw [fz_RwE ht hr et er]
  exact hr
theorem fz_find (hV : V ≤ 6) (hn : n ≤ 48) (hC : fz_CX V tm n a_kind a_first a_second a_size a_variablesIn a_code) (hG : G ≤ 4) (hGO : fz_GO n a_goalTable a_goalX a_goalY G) (hRO : fz_RO tm n a_rowCount a_rowLeft a_rowRight) (eG : f_goalCount = nI G)
    (hE : E ≤ 4) (hQE : fz_QO n a_equationX a_equationY E) (eE : f_equationCount = nI E) (hD : D ≤ 6) (hQD : fz_QO n a_disequalityX a_disequalityY D) (eD : f_disequalityCount = nI D)
    (hvE : ∀ i, i < E → ∀ v, (100 + v ∈ tm (a_equationX i).toNatClampNeg ∨ 100 + v ∈ tm (a_equationY i).toNatClampNeg) → fz_Gv tm a_goalX a_goalY G v)
    (hvD : ∀ i, i < D → ∀ v, (100 + v ∈ tm (a_disequalityX i).toNatClampNeg ∨ 100 + v ∈ tm (a_disequalityY i).toNatClampNeg) → fz_Gv tm a_goalX a_goalY G v) {post : SX → Prop}
    (h : ∀ sc sC val wx wy, fz_SX tm a_goalTable a_goalX a_goalY a_rowLeft a_rowRight G (fz_fl (fz_PX tm a_rowCount a_goalTable a_goalX a_goalY a_rowLeft a_rowRight a_equationX a_equationY a_disequalityX a_disequalityY G E D) (6 ^ G)) sc sC →
      post (f_variableCount, f_cellCount, f_goalCount, f_frozenOn, f_equationCount, f_disequalityCount, f_solved, nI (fz_fl (fz_PX tm a_rowCount a_goalTable a_goalX a_goalY a_rowLeft a_rowRight a_equationX a_equationY a_disequalityX a_disequalityY G E D) (6 ^ G)).length, a_kind, a_first, a_second, a_size, a_variablesIn, a_code, a_rowCount, a_rowLeft, a_rowRight, a_goalTable, a_goalX, a_goalY, a_equationX, a_equationY, a_disequalityX, a_disequalityY, sc, sC, val, wx, wy)) :
    wpX_findSolutions post (f_variableCount, f_cellCount, f_goalCount, f_frozenOn, f_equationCount, f_disequalityCount, f_solved, f_solutionCount, a_kind, a_first, a_second, a_size, a_variablesIn, a_code, a_rowCount, a_rowLeft, a_rowRight, a_goalTable, a_goalX, a_goalY, a_equationX, a_equationY, a_disequalityX, a_disequalityY, a_solutionChoice, a_solutionCode, a_value, a_walkX, a_walkY) := by
  have h64 : 6 ^ G ≤ 1296 := by
    have h2 : 6 ^ G ≤ 6 ^ 4 := Nat.pow_le_pow_right (by omega) hG
    have h3 : 6 ^ 4 = 1296 := by decide
    omega
  have hR6 := fz_Rw6 hGO hRO
  have key : ∀ (m i : Nat) (sc : Nat → Int32) (sC : Nat → Int64) (val wx wy : Nat → Int32), i + m = 6 ^ G → fz_SX tm a_goalTable a_goalX a_goalY a_rowLeft a_rowRight G (fz_fl (fz_PX tm a_rowCount a_goalTable a_goalX a_goalY a_rowLeft a_rowRight a_equationX a_equationY a_disequalityX a_disequalityY G E D) i) sc sC →
      wX_findSolutions_30 post (nI (6 ^ G)) (m + 1) (nI i) f_variableCount f_cellCount f_goalCount f_frozenOn f_equationCount f_disequalityCount f_solved (nI (fz_fl (fz_PX tm a_rowCount a_goalTable a_goalX a_goalY a_rowLeft a_rowRight a_equationX a_equationY a_disequalityX a_disequalityY G E D) i).length) a_kind a_first a_second a_size a_variablesIn a_code a_rowCount a_rowLeft a_rowRight a_goalTable a_goalX a_goalY a_equationX a_equationY a_disequalityX a_disequalityY sc sC val wx wy := by
    intro m
    induction m with
    | zero =>
      intro i sc sC val wx wy hi hS
      have e : i = 6 ^ G := by omega
      rw [e] at hS ⊢
      exact pk_le (6 ^ G) (6 ^ G) (fun _ => h sc sC val wx wy hS) (fun h => absurd h (by omega))
    | succ m ih =>
      intro i sc sC val wx wy hi hS
      obtain ⟨p, hp, ep⟩ := fz_x6s G i (by omega)
      have same : ∀ q, (∀ g, g < G → q g < 6) → fz_x6 q G = i → ∀ g, g < G → q g = p g := fun q hq eq => fz_x6e G (fun g hg => ⟨hq g hg, hp g⟩) (eq.trans ep.symm)
      have no : ∀ sc sC val wx wy, fz_SX tm a_goalTable a_goalX a_goalY a_rowLeft a_rowRight G (fz_fl (fz_PX tm a_rowCount a_goalTable a_goalX a_goalY a_rowLeft a_rowRight a_equationX a_equationY a_disequalityX a_disequalityY G E D) i) sc sC → ¬ fz_PX tm a_rowCount a_goalTable a_goalX a_goalY a_rowLeft a_rowRight a_equationX a_equationY a_disequalityX a_disequalityY G E D i →
          wX_findSolutions_30 post (nI (6 ^ G)) (m + 1) (nI (i + 1)) f_variableCount f_cellCount f_goalCount f_frozenOn f_equationCount f_disequalityCount f_solved (nI (fz_fl (fz_PX tm a_rowCount a_goalTable a_goalX a_goalY a_rowLeft a_rowRight a_equationX a_equationY a_disequalityX a_disequalityY G E D) i).length) a_kind a_first a_second a_size a_variablesIn a_code a_rowCount a_rowLeft a_rowRight a_goalTable a_goalX a_goalY a_equationX a_equationY a_disequalityX a_disequalityY sc sC val wx wy := by
        intro sc sC val wx wy hS hn'
        have := ih (i + 1) sc sC val wx wy (by omega)
        rw [fz_flF hn'] at this
        exact this hS
      have hlen := fz_fll (fz_PX tm a_rowCount a_goalTable a_goalX a_goalY a_rowLeft a_rowRight a_equationX a_equationY a_disequalityX a_disequalityY G E D) i
      refine pk_le (6 ^ G) i (fun h => absurd h (by omega)) (fun _ => fz_goalsHold hV hn hC hG hGO hRO eG hp (congrArg nI ep.symm) ?_ ?_)
      · intro b val1 wx1 wy1 hb hval hgv hif
        refine br_f (by decide) (fz_eqH hV hn hC hE hQE eE hb (fun j hj v hv => hgv v (hvE j hj v hv)) ?_ ?_)
        · intro val2 wx2 wy2 hb2 hEq
          refine br_f (by decide) (fz_dfH hV hn hC hD hQD eD hb2 (fun j hj v hv => hgv v (hvD j hj v hv)) ?_ ?_)
          · intro val3 wx3 wy3 hb3 hDf
            have yes : fz_PX tm a_rowCount a_goalTable a_goalX a_goalY a_rowLeft a_rowRight a_equationX a_equationY a_disequalityX a_disequalityY G E D i := by
              have hA : fz_As (fz_tot tm b) := by
                refine fz_totA (fun v c hv => ?_)
                rcases Nat.lt_or_ge v 6 with h6 | h6
                · rcases hb.2 v h6 with ⟨q1, _⟩ | ⟨d, q1, q2, _, q4⟩
                  · rw [q1] at hv
                    exact absurd hv (by simp)
                  · rw [hv] at q2
                    rw [Option.some.inj q2]
                    exact ⟨(hC d q1).1, q4⟩
                · rw [hb.1 v h6] at hv
                  exact absurd hv (by simp)
              have hX := fz_totE tm b
              exact ⟨p, hval, ⟨fz_tot tm b, hA, (hif _ hA).mpr hX, hEq _ hA hX, hDf _ hA hX⟩, ep⟩
            refine br_f (by decide) (fz_keep hn hb3 (k := (fz_fl (fz_PX tm a_rowCount a_goalTable a_goalX a_goalY a_rowLeft a_rowRight a_equationX a_equationY a_disequalityX a_disequalityY G E D) i).length) (by omega) rfl (fun sC' c1 c2 => nm_r (nI_1 i) ?_))
            have := ih (i + 1) (upd sc (fz_fl (fz_PX tm a_rowCount a_goalTable a_goalX a_goalY a_rowLeft a_rowRight a_equationX a_equationY a_disequalityX a_disequalityY G E D) i).length (nI i)) sC' val3 wx3 wy3 (by omega)
            rw [fz_flT yes, List.length_append] at this
            refine this ⟨?_, ?_⟩
            · have := fz_spu hS.1 i
              rw [Nat.zero_add] at this
              exact this
            · intro k c hkc q hq eq s hs hM v hv6 hgv'
              rcases Nat.lt_or_ge k (fz_fl (fz_PX tm a_rowCount a_goalTable a_goalX a_goalY a_rowLeft a_rowRight a_equationX a_equationY a_disequalityX a_disequalityY G E D) i).length with hk | hk
              · rw [List.getElem?_append_left hk] at hkc
                rw [c2 _ (by omega)]
                exact hS.2 k c hkc q hq eq s hs hM v hv6 hgv'
              · rw [List.getElem?_append_right hk] at hkc
                have h0 : k - (fz_fl (fz_PX tm a_rowCount a_goalTable a_goalX a_goalY a_rowLeft a_rowRight a_equationX a_equationY a_disequalityX a_disequalityY G E D) i).length = 0 := by
                  rcases Nat.eq_zero_or_pos (k - (fz_fl (fz_PX tm a_rowCount a_goalTable a_goalX a_goalY a_rowLeft a_rowRight a_equationX a_equationY a_disequalityX a_disequalityY G E D) i).length) with z | z
                  · exact z
                  · rw [List.getElem?_eq_none (by rw [List.length_singleton]; omega)] at hkc
                    exact absurd hkc (by simp)
                rw [h0] at hkc
                have hc : i = c := by simpa using hkc
                have hke : k = (fz_fl (fz_PX tm a_rowCount a_goalTable a_goalX a_goalY a_rowLeft a_rowRight a_equationX a_equationY a_disequalityX a_disequalityY G E D) i).length := by omega
                rw [hke, c1 v hv6]
                have hx := (hif s hs).mp (fz_Mtp (same q hq (eq.trans hc.symm)) hM)
                have hbv := hgv v hgv'
                rcases hb.2 v hv6 with ⟨q1, _⟩ | ⟨d, q1, q2, _, q4⟩
                · exact absurd q1 hbv
                · unfold fz_cv
                  rw [q2, hx v d q2]
                  exact (hC d q1).2.2.2.2.1 q4
          · intro val3 wx3 wy3 hb3 hDf
            refine br_t rfl (nm_r (nI_1 i) (no sc sC val3 wx3 wy3 hS ?_))
            rintro ⟨q, hq, ⟨s, hs, hM, _, hD'⟩, eq⟩
            have hx := (hif s hs).mp (fz_Mtp (same q (fun g hg => by have := hq g hg; have := hR6 g hg; omega) eq) hM)
            exact hDf s hs hx hD'
        · intro val2 wx2 wy2 hb2 hEq
          refine br_t rfl (nm_r (nI_1 i) (no sc sC val2 wx2 wy2 hS ?_))
          rintro ⟨q, hq, ⟨s, hs, hM, hE', _⟩, eq⟩
          have hx := (hif s hs).mp (fz_Mtp (same q (fun g hg => by have := hq g hg; have := hR6 g hg; omega) eq) hM)
          exact hEq s hs hx hE'
      · intro val1 wx1 wy1 hno
        refine br_t rfl (nm_r (nI_1 i) (no sc sC val1 wx1 wy1 hS ?_))
        rintro ⟨q, hq, ⟨s, hs, hM, _, _⟩, eq⟩
        have hqp := same q (fun g hg => by have := hq g hg; have := hR6 g hg; omega) eq
        exact hno ⟨s, hs, fun g hg => by rw [← hqp g hg]; exact hq g hg, fz_Mtp hqp hM⟩
  have start : ∀ (m g : Nat), g + m = G → wX_findSolutions_4 post f_variableCount f_cellCount f_goalCount f_frozenOn f_equationCount f_disequalityCount f_solved f_solutionCount a_kind a_first a_second a_size a_variablesIn a_code a_rowCount a_rowLeft a_rowRight a_goalTable a_goalX a_goalY a_equationX a_equationY a_disequalityX a_disequalityY a_solutionChoice a_solutionCode a_value a_walkX a_walkY (m + 1) (nI (6 ^ g)) (nI g) := by
    intro m
    induction m with
    | zero =>
      intro g hg
      have e : g = G := by omega
      subst e
      refine pk_le g g (fun _ => ⟨6 ^ g + 1, ?_⟩) (fun h => absurd h (by omega)) eG
      exact key (6 ^ g) 0 a_solutionChoice a_solutionCode a_value a_walkX a_walkY (by omega) ⟨fz_sp0 _ _, fun k c hkc => absurd hkc (by rw [fz_fl0]; simp)⟩
    | succ m ih =>
      intro g hg
      have e6 : nI (6 ^ g) * 6 = nI (6 ^ (g + 1)) := by
        rw [Nat.pow_succ]
        exact pk_mul (6 ^ g) 6
      exact pk_le G g (fun h => absurd h (by omega)) (fun _ => nm_r e6 (nm_r (nI_1 g) (ih (g + 1) (by omega)))) eG
  exact ⟨G + 1, start G 0 (by omega)⟩
end
end
section
/-! ===== the cells, Y's side ===== -/
def fz_cy (V : Nat) (tm : Nat → List Nat) (sg fs sd : Nat → Int32) (c : Nat) : Prop :=
  fz_WT (tm c) ∧ (tm c).length ≤ 13 ∧
  ((∃ a, 1 ≤ a ∧ a ≤ 16 ∧ tm c = [a] ∧ sg c = nI a) ∨ (∃ v, v < V ∧ tm c = [100 + v] ∧ sg c = nI (100 + v)) ∨ (∃ a b, a < c ∧ b < c ∧ tm c = 17 :: (tm a ++ tm b) ∧ sg c = nI 17 ∧ fs c = nI a ∧ sd c = nI b))
def fz_CY (V : Nat) (tm : Nat → List Nat) (n : Nat) (sg fs sd : Nat → Int32) : Prop := ∀ c, c < n → fz_cy V tm sg fs sd c
/-- a cell's text as it is written -/
def fz_tx (tm : Nat → List Nat) (b : Nat → Option Nat) (c : Nat) : List Nat := fz_sb (fz_pb tm b) (tm c)
theorem fz_txN (tm : Nat → List Nat) (c : Nat) : fz_tx tm (fun _ => none) c = tm c := fz_sbi (tm c)
theorem fz_txG {tm : Nat → List Nat} {b : Nat → Option Nat} {c : Nat} (h : fz_Gr (tm c)) : fz_tx tm b c = tm c := fz_sbg h _
/-- what 'from' holds: at each place a cell whose text begins there -/
def fz_fr (tm : Nat → List Nat) (b : Nat → Option Nat) (n : Nat) (fr : Nat → Int32) (base m : Nat) (L : List Nat) : Prop :=
  ∀ i, i < m → ∃ d rest, d < n ∧ fr (base + i) = nI d ∧ L.drop i = fz_tx tm b d ++ rest
section
variable {f_variables f_cells f_goals f_equations f_disequalities f_solved f_found : Int32} {a_sign a_first a_second a_rows a_left a_right a_goalTable a_goalX a_goalY a_goalFrozen a_equalX a_equalY a_differX a_differY a_choiceOf a_pick a_bind a_text a_from a_stack : Nat → Int32}
variable {V n : Nat} {tm : Nat → List Nat}
theorem fz_yrep (hV : V ≤ 6) (hn : n ≤ 48) (hC : fz_CY V tm n a_sign a_first a_second) {fl : Int32} {b : Nat → Option Nat} (hf : (fl = 0 ∧ b = fun _ => none) ∨ (fl = 1 ∧ fz_Vb tm n a_bind b)) {c : Nat} (hc : c < n) :
    ∃ c', c' < n ∧ fz_tx tm b c' = fz_tx tm b c ∧ ((∃ h, h ≠ 17 ∧ h < 106 ∧ a_sign c' = nI h ∧ fz_tx tm b c' = [h]) ∨ (∃ a d, a < n ∧ d < n ∧ a_sign c' = nI 17 ∧ a_first c' = nI a ∧ a_second c' = nI d ∧ fz_tx tm b c' = 17 :: (fz_tx tm b a ++ fz_tx tm b d))) ∧
      (∀ W : Int32 → Prop, W (nI c') → ((fl = 0 → W (nI c)) ∧ (¬ fl = 0 → (vp_in (nI c) 48 ∧ ((a_sign (nI c).toNatClampNeg < 100 → W (nI c)) ∧ (¬ a_sign (nI c).toNatClampNeg < 100 → (vp_in (nI c) 48 ∧ (vp_in (a_sign (nI c).toNatClampNeg - 100) 6 ∧ ((a_bind (a_sign (nI c).toNatClampNeg - 100).toNatClampNeg < 0 → W (nI c)) ∧ (¬ a_bind (a_sign (nI c).toNatClampNeg - 100).toNatClampNeg < 0 → (vp_in (nI c) 48 ∧ (vp_in (a_sign (nI c).toNatClampNeg - 100) 6 ∧ (∀ y : Int32, y = a_bind (a_sign (nI c).toNatClampNeg - 100).toNatClampNeg → W y))))))))))))) := by
  have ec : (nI c).toNatClampNeg = c := nI_clamp (by omega)
  have ic : vp_in (nI c) 48 := vp_in_nI (by omega) (by omega)
  have leaf : ∀ c', c' < n → fz_Gr (tm c') → ((∃ h, h ≠ 17 ∧ h < 106 ∧ a_sign c' = nI h ∧ fz_tx tm b c' = [h]) ∨ (∃ a d, a < n ∧ d < n ∧ a_sign c' = nI 17 ∧ a_first c' = nI a ∧ a_second c' = nI d ∧ fz_tx tm b c' = 17 :: (fz_tx tm b a ++ fz_tx tm b d))) := by
    intro c' hc' g
    obtain ⟨_, _, h⟩ := hC c' hc'
    rcases h with ⟨a, l1, l2, e, es⟩ | ⟨v, hv, e, es⟩ | ⟨a, d, la, ld, e, es, ef, ed⟩
    · exact .inl ⟨a, by omega, by omega, es, by rw [fz_txG g, e]⟩
    · have := g (100 + v) (by rw [e]; exact List.mem_singleton.mpr rfl)
      omega
    · exact .inr ⟨a, d, by omega, by omega, es, ef, ed, by unfold fz_tx; rw [e, fz_sbP]⟩
  obtain ⟨hw, hl, h⟩ := hC c hc
  rcases h with ⟨a, l1, l2, e, es⟩ | ⟨v, hv, e, es⟩ | ⟨a, d, la, ld, e, es, ef, ed⟩
  · have S : a_sign (nI c).toNatClampNeg < 100 := by
      rw [ec, es]
      exact (nI_ltI (b := 100) (by omega) (by omega)).mpr (by omega)
    have g : fz_Gr (tm c) := by
      intro z hz
      rw [e, List.mem_singleton] at hz
      omega
    exact ⟨c, hc, rfl, leaf c hc g, fun W w => br_c (fun _ => w) (fun _ => ⟨ic, br_t S w⟩)⟩
  · have S : ¬ a_sign (nI c).toNatClampNeg < 100 := by
      rw [ec, es]
      exact fun z => absurd ((nI_ltI (b := 100) (by omega) (by omega)).mp z) (by omega)
    have S2 : a_sign (nI c).toNatClampNeg - 100 = nI v := by
      rw [ec, es]
      have := pk_sub (a := 100 + v) (b := 100) (by omega)
      rw [Nat.add_sub_cancel_left] at this
      exact this
    have i6 : vp_in (a_sign (nI c).toNatClampNeg - 100) 6 := by rw [S2]; exact vp_in_nI (by omega) (by omega)
    have B : a_bind (a_sign (nI c).toNatClampNeg - 100).toNatClampNeg = a_bind v := by rw [S2, nI_clamp (by omega)]
    have own : b v = none → fz_tx tm b c = [100 + v] := by
      intro hb
      unfold fz_tx
      rw [e, fz_sbV]
      unfold fz_pb
      rw [hb]
    rcases hf with ⟨f0, eb⟩ | ⟨f1, hb⟩
    · have ob := own (by rw [eb])
      exact ⟨c, hc, rfl, .inl ⟨100 + v, by omega, by omega, es, ob⟩, fun W w => br_t f0 w⟩
    · have nf : ¬ fl = 0 := by rw [f1]; decide
      rcases hb.2 v (by omega) with ⟨q1, q2⟩ | ⟨d, q1, q2, q3, q4⟩
      · have ob := own q1
        refine ⟨c, hc, rfl, .inl ⟨100 + v, by omega, by omega, es, ob⟩, fun W w => br_f nf ⟨ic, br_f S ⟨ic, i6, br_t ?_ w⟩⟩⟩
        rw [B, q2]
        decide
      · have ob : fz_tx tm b d = fz_tx tm b c := by
          rw [fz_txG q4]
          unfold fz_tx
          rw [e, fz_sbV]
          unfold fz_pb
          rw [q2]
        refine ⟨d, q1, ob, leaf d q1 q4, fun W w => br_f nf ⟨ic, br_f S ⟨ic, i6, br_f ?_ ⟨ic, i6, nm_r (B.trans q3) w⟩⟩⟩⟩
        rw [B, q3]
        exact nI_pos (by omega)
  · have S : a_sign (nI c).toNatClampNeg < 100 := by
      rw [ec, es]
      exact (nI_ltI (a := 17) (b := 100) (by omega) (by omega)).mpr (by omega)
    refine ⟨c, hc, rfl, .inr ⟨a, d, by omega, by omega, es, ef, ed, by unfold fz_tx; rw [e, fz_sbP]⟩, fun W w => br_c (fun _ => w) (fun _ => ⟨ic, br_t S w⟩)⟩
theorem fz_txl {b : Nat → Option Nat} (hC : fz_CY V tm n a_sign a_first a_second) (hb : ∀ v d, b v = some d → d < n) {c : Nat} (hc : c < n) : (fz_tx tm b c).length ≤ 97 := by
  have h := fz_sbl (s := fz_pb tm b) (fun v => ?_) (hC c hc).1
  · have := (hC c hc).2.1
    unfold fz_tx
    omega
  · unfold fz_pb
    cases e : b v with
    | none => simp
    | some d => exact (hC d (hb v d e)).2.1
theorem fz_tx1 (hV : V ≤ 6) (hn : n ≤ 48) (hC : fz_CY V tm n a_sign a_first a_second) {fl : Int32} {b : Nat → Option Nat} (hf : (fl = 0 ∧ b = fun _ => none) ∨ (fl = 1 ∧ fz_Vb tm n a_bind b)) {c : Nat} (hc : c < n) : 1 ≤ (fz_tx tm b c).length := by
  obtain ⟨_, _, ea, hh', _⟩ := fz_yrep hV hn hC hf hc
  rw [← ea]
  rcases hh' with ⟨_, _, _, _, e⟩ | ⟨_, _, _, _, _, _, _, e⟩
  · rw [e]
    simp
  · rw [e]
    simp
theorem fz_txm (hV : V ≤ 6) (hn : n ≤ 48) (hC : fz_CY V tm n a_sign a_first a_second) {fl : Int32} {b : Nat → Option Nat} (hf : (fl = 0 ∧ b = fun _ => none) ∨ (fl = 1 ∧ fz_Vb tm n a_bind b)) : ∀ (st : List Nat), (∀ c, c ∈ st → c < n) → st.length ≤ (st.flatMap (fz_tx tm b)).length := by
  intro st
  induction st with
  | nil => intro _; exact Nat.zero_le _
  | cons c t ih =>
    intro h
    have h1 := ih (fun z hz => h z (List.mem_cons_of_mem _ hz))
    have h2 : 1 ≤ (fz_tx tm b c).length := fz_tx1 hV hn hC hf (h c List.mem_cons_self)
    rw [List.flatMap_cons, List.length_append, List.length_cons]
    omega
theorem fz_wrL (hV : V ≤ 6) (hn : n ≤ 48) (hC : fz_CY V tm n a_sign a_first a_second) {fl : Int32} {b : Nat → Option Nat} (hf : (fl = 0 ∧ b = fun _ => none) ∨ (fl = 1 ∧ fz_Vb tm n a_bind b)) {base : Nat} (hbase : base ≤ 128) {L : List Nat} (hL : L.length ≤ 97) {post : Int32 → SY → Prop}
    (h : ∀ tx fr sk, fz_sp tx base L → fz_fr tm b n fr base L.length L → (∀ j, j < base → tx j = a_text j) → post (nI L.length) (f_variables, f_cells, f_goals, f_equations, f_disequalities, f_solved, f_found, a_sign, a_first, a_second, a_rows, a_left, a_right, a_goalTable, a_goalX, a_goalY, a_goalFrozen, a_equalX, a_equalY, a_differX, a_differY, a_choiceOf, a_pick, a_bind, tx, fr, sk)) :
    ∀ (m : Nat) (st w : List Nat) (tx fr sk : Nat → Int32), (st.flatMap (fz_tx tm b)).length < m → (∀ c, c ∈ st → c < n) → L = w ++ st.flatMap (fz_tx tm b) → st.length ≤ w.length + 1 → st.length ≤ (st.flatMap (fz_tx tm b)).length → fz_sk sk st → fz_sp tx base w → fz_fr tm b n fr base w.length L → (∀ j, j < base → tx j = a_text j) →
      wY_write_16 post fl (nI base) f_variables f_cells f_goals f_equations f_disequalities f_solved f_found m (nI w.length) (nI st.length) (nI w.length) a_sign a_first a_second a_rows a_left a_right a_goalTable a_goalX a_goalY a_goalFrozen a_equalX a_equalY a_differX a_differY a_choiceOf a_pick a_bind tx fr sk := by
  intro m
  induction m with
  | zero => intro st w tx fr sk hm; omega
  | succ m ih =>
    intro st w tx fr sk hm hst hLw hd1 hd2 hsk hsp hfr hkeep
    have hlen : L.length = w.length + (st.flatMap (fz_tx tm b)).length := by rw [hLw, List.length_append]
    cases st with
    | nil =>
      have e : L = w := by simpa using hLw
      refine pk_le 256 w.length (fun h => absurd h (by omega)) (fun _ => pk_le 0 0 (fun _ => ?_) (fun h => absurd h (by omega)))
      rw [← e] at hsp hfr ⊢
      exact h tx fr sk hsp hfr hkeep
    | cons c t =>
      have hcl : ((c :: t).flatMap (fz_tx tm b)) = fz_tx tm b c ++ t.flatMap (fz_tx tm b) := List.flatMap_cons
      have hll : (c :: t).length = t.length + 1 := rfl
      have hc := hst c List.mem_cons_self
      obtain ⟨c', hc', ec', hh, hW⟩ := fz_yrep hV hn hC hf hc
      rw [hcl] at hLw hm hlen hd2
      rw [← ec'] at hLw hm hlen hd2
      have ix : (nI t.length).toNatClampNeg = t.length := nI_clamp (by omega)
      have SK : sk (nI t.length).toNatClampNeg = nI c := by rw [ix]; exact hsk.1
      have i64 : vp_in (nI t.length) 64 := vp_in_nI (by omega) (by omega)
      have ic : vp_in (nI c') 48 := vp_in_nI (by omega) (by omega)
      have cc : (nI c').toNatClampNeg = c' := nI_clamp (by omega)
      refine pk_le 256 w.length (fun h => absurd h (by omega)) (fun _ => pk_le (t.length + 1) 0 (fun h => absurd h (by omega)) (fun _ => nm_r (pk_m1 t.length) ⟨i64, nm_r SK (hW (fun z => wY_write_92 post (wY_write_16 post fl (nI base) f_variables f_cells f_goals f_equations f_disequalities f_solved f_found m) fl (nI base) (nI w.length) (nI t.length) (nI w.length) z f_variables f_cells f_goals f_equations f_disequalities f_solved f_found a_sign a_first a_second a_rows a_left a_right a_goalTable a_goalX a_goalY a_goalFrozen a_equalX a_equalY a_differX a_differY a_choiceOf a_pick a_bind tx fr sk) ?_)⟩))
      have eb : nI base + nI w.length = nI (base + w.length) := nI_add _ _
      have cb : (nI base + nI w.length).toNatClampNeg = base + w.length := by rw [eb]; exact nI_clamp (by omega)
      have ib : vp_in (nI base + nI w.length) 256 := by rw [eb]; exact vp_in_nI (by omega) (by omega)
      have frN : fz_fr tm b n (upd fr (base + w.length) (nI c')) base (w.length + 1) L := by
        intro i hi
        by_cases e : i = w.length
        · subst e
          refine ⟨c', t.flatMap (fz_tx tm b), hc', pk_us, ?_⟩
          rw [hLw, List.drop_left]
        · rw [pk_un (by omega)]
          exact hfr i (by omega)
      have keepN : ∀ z : Int32, ∀ j, j < base → upd tx (base + w.length) z j = a_text j := by
        intro z j hj
        rw [pk_un (by omega)]
        exact hkeep j hj
      refine pk_le 128 w.length (fun h => absurd h (by omega)) (fun _ => ⟨ic, ib, nm_r (e' := upd tx (base + w.length) (a_sign c')) (by rw [cb, cc]) ⟨ib, nm_r (e' := upd fr (base + w.length) (nI c')) (by rw [cb]) (nm_r (nI_1 w.length) ?_)⟩⟩)
      rcases hh with ⟨h', h17, h106, es, et⟩ | ⟨a, d, ha, hd, es, ef, ed, et⟩
      · have S : ¬ a_sign (nI c').toNatClampNeg = 17 := by
          rw [cc, es]
          exact fun z => h17 ((nI_eq (b := 17) (by omega) (by omega)).mp z)
        refine ⟨ic, br_f S (nm_r (nI_1 w.length) ?_)⟩
        have hN : (w ++ [h']).length = w.length + 1 := by rw [List.length_append]; rfl
        have := ih t (w ++ [h']) (upd tx (base + w.length) (a_sign c')) (upd fr (base + w.length) (nI c')) sk (by rw [et] at hm; simp only [List.length_append, List.length_cons, List.length_nil] at hm; omega) (fun z hz => hst z (List.mem_cons_of_mem _ hz)) (by rw [hLw, et, List.append_assoc]) (by rw [hN]; omega)
          (by rw [et] at hd2; simp only [List.length_append, List.length_cons, List.length_nil] at hd2; omega) hsk.2 (by rw [es]; exact fz_spu hsp h') (by rw [hN]; exact frN) (keepN _)
        rw [hN] at this
        exact this
      · have S : a_sign (nI c').toNatClampNeg = 17 := by rw [cc]; exact es
        have hN : (w ++ [17]).length = w.length + 1 := by rw [List.length_append]; rfl
        have l1 : 1 ≤ (fz_tx tm b a).length := fz_tx1 hV hn hC hf ha
        have l2 : 1 ≤ (fz_tx tm b d).length := fz_tx1 hV hn hC hf hd
        have l3 : t.length ≤ (t.flatMap (fz_tx tm b)).length := fz_txm hV hn hC hf t (fun z hz => hst z (List.mem_cons_of_mem _ hz))
        have i65 : vp_in (nI t.length + 1) 64 := by rw [nI_1]; exact vp_in_nI (by omega) (by omega)
        have U1 : upd sk (nI t.length).toNatClampNeg (a_second (nI c').toNatClampNeg) = upd sk t.length (nI d) := by rw [ix, cc, ed]
        have U2 : upd (upd sk t.length (nI d)) (nI t.length + 1).toNatClampNeg (a_first (nI c').toNatClampNeg) = upd (upd sk t.length (nI d)) (t.length + 1) (nI a) := by rw [nI_1, nI_clamp (by omega), cc, ef]
        refine ⟨ic, br_t S (pk_le 62 t.length (fun h => absurd h (by omega)) (fun _ => ⟨ic, i64, nm_r U1 ⟨ic, i65, nm_r U2 (nm_r (nI_add t.length 2) (nm_r (nI_1 w.length) ?_))⟩⟩))⟩
        have e3 : (a :: d :: t).flatMap (fz_tx tm b) = fz_tx tm b a ++ (fz_tx tm b d ++ t.flatMap (fz_tx tm b)) := by rw [List.flatMap_cons, List.flatMap_cons]
        have := ih (a :: d :: t) (w ++ [17]) (upd tx (base + w.length) (a_sign c')) (upd fr (base + w.length) (nI c')) (upd (upd sk t.length (nI d)) (t.length + 1) (nI a))
          (by rw [e3]; rw [et] at hm; simp only [List.length_append, List.length_cons] at hm ⊢; omega) ?_ (by rw [e3, hLw, et]; simp) (by rw [hN]; simp only [List.length_cons]; omega)
          (by rw [e3]; rw [et] at hd2; simp only [List.length_append, List.length_cons] at hd2 ⊢; omega) (fz_sk2 hsk.2 a d) (by rw [es]; exact fz_spu hsp 17) (by rw [hN]; exact frN) (keepN _)
        · rw [hN] at this
          exact this
        · intro z hz
          rcases List.mem_cons.mp hz with e | hz
          · rw [e]
            exact ha
          · rcases List.mem_cons.mp hz with e | hz
            · rw [e]
              exact hd
            · exact hst z (List.mem_cons_of_mem _ hz)
theorem fz_write (hV : V ≤ 6) (hn : n ≤ 48) (hC : fz_CY V tm n a_sign a_first a_second) {fl : Int32} {b : Nat → Option Nat} (hf : (fl = 0 ∧ b = fun _ => none) ∨ (fl = 1 ∧ fz_Vb tm n a_bind b)) {base : Nat} (hbase : base ≤ 128) {zb : Int32} (ezb : zb = nI base) {c : Nat} (hc : c < n) {z : Int32} (ez : z = nI c) {post : Int32 → SY → Prop}
    (h : ∀ tx fr sk, fz_sp tx base (fz_tx tm b c) → fz_fr tm b n fr base (fz_tx tm b c).length (fz_tx tm b c) → (∀ j, j < base → tx j = a_text j) → post (nI (fz_tx tm b c).length) (f_variables, f_cells, f_goals, f_equations, f_disequalities, f_solved, f_found, a_sign, a_first, a_second, a_rows, a_left, a_right, a_goalTable, a_goalX, a_goalY, a_goalFrozen, a_equalX, a_equalY, a_differX, a_differY, a_choiceOf, a_pick, a_bind, tx, fr, sk)) :
    wpY_write post (f_variables, f_cells, f_goals, f_equations, f_disequalities, f_solved, f_found, a_sign, a_first, a_second, a_rows, a_left, a_right, a_goalTable, a_goalX, a_goalY, a_goalFrozen, a_equalX, a_equalY, a_differX, a_differY, a_choiceOf, a_pick, a_bind, a_text, a_from, a_stack) z fl zb := by
  subst ez ezb
  have hb' : ∀ v d, b v = some d → d < n := by
    intro v d hv
    rcases hf with ⟨_, eb⟩ | ⟨_, hb⟩
    · rw [eb] at hv
      exact absurd hv (by simp)
    · rcases Nat.lt_or_ge v 6 with h6 | h6
      · rcases hb.2 v h6 with ⟨q1, _⟩ | ⟨d', q1, q2, _, _⟩
        · rw [q1] at hv
          exact absurd hv (by simp)
        · rw [hv] at q2
          rw [Option.some.inj q2]
          exact q1
      · rw [hb.1 v h6] at hv
        exact absurd hv (by simp)
  have hl := fz_txl hC hb' hc
  have e1 : [c].flatMap (fz_tx tm b) = fz_tx tm b c := by simp
  have l1 := fz_tx1 hV hn hC hf hc
  refine nm_e ⟨98, fz_wrL hV hn hC hf hbase hl h 98 [c] [] a_text a_from _ (by rw [e1]; omega) (fun d hd => by rw [List.mem_singleton.mp hd]; exact hc) (by rw [e1]; rfl) (by simp) (by rw [e1]; exact l1) ⟨pk_us, trivial⟩ (fz_sp0 _ _) (fun i hi => absurd hi (by simp)) (fun j _ => rfl)⟩
end
end
section
/-! ===== places of a list ===== -/
theorem fz_at {l : List Nat} {i : Nat} (h : i < l.length) : ∃ a, l[i]? = some a ∧ a ∈ l ∧ l.drop i = a :: l.drop (i + 1) :=
  ⟨l[i], List.getElem?_eq_getElem h, List.getElem_mem h, List.drop_eq_getElem_cons h⟩
theorem fz_nat {l : List Nat} {P : Nat → Prop} (h : ∀ i, i < l.length → ∀ a, l[i]? = some a → P a) : ∀ a, a ∈ l → P a := by
  intro a ha
  obtain ⟨i, hi⟩ := List.mem_iff_getElem?.mp ha
  have h1 : i < l.length := by
    rcases Nat.lt_or_ge i l.length with h1 | h1
    · exact h1
    · rw [List.getElem?_eq_none h1] at hi
      exact absurd hi (by simp)
  exact h i h1 a hi
theorem fz_lext {l m : List Nat} (hl : l.length = m.length) (h : ∀ i, i < l.length → l[i]? = m[i]?) : l = m := by
  apply List.ext_getElem? 
  intro i
  rcases Nat.lt_or_ge i l.length with h1 | h1
  · exact h i h1
  · rw [List.getElem?_eq_none h1, List.getElem?_eq_none (by omega)]
section
variable {f_variables f_cells f_goals f_equations f_disequalities f_solved f_found : Int32} {a_sign a_first a_second a_rows a_left a_right a_goalTable a_goalX a_goalY a_goalFrozen a_equalX a_equalY a_differX a_differY a_choiceOf a_pick a_bind a_text a_from a_stack : Nat → Int32}
variable {V n : Nat} {tm : Nat → List Nat}
theorem fz_symb (hC : fz_CY V tm n a_sign a_first a_second) {c : Nat} (hc : c < n) {a : Nat} (ha : a ∈ tm c) : a < 106 := by
  have := fz_WTsym (hC c hc).1 a ha
  unfold fz_lf at this
  omega
theorem fz_occ (hV : V ≤ 6) (hn : n ≤ 48) (hC : fz_CY V tm n a_sign a_first a_second) {c v : Nat} (hc : c < n) (hv : v < 6) {zv zc : Int32} (ev : zv = nI v) (ec : zc = nI c) {post : Int32 → SY → Prop}
    (h1 : 100 + v ∈ tm c → ∀ tx fr sk, post 1 (f_variables, f_cells, f_goals, f_equations, f_disequalities, f_solved, f_found, a_sign, a_first, a_second, a_rows, a_left, a_right, a_goalTable, a_goalX, a_goalY, a_goalFrozen, a_equalX, a_equalY, a_differX, a_differY, a_choiceOf, a_pick, a_bind, tx, fr, sk)) (h0 : ¬ 100 + v ∈ tm c → ∀ tx fr sk, post 0 (f_variables, f_cells, f_goals, f_equations, f_disequalities, f_solved, f_found, a_sign, a_first, a_second, a_rows, a_left, a_right, a_goalTable, a_goalX, a_goalY, a_goalFrozen, a_equalX, a_equalY, a_differX, a_differY, a_choiceOf, a_pick, a_bind, tx, fr, sk)) :
    wpY_occurs post (f_variables, f_cells, f_goals, f_equations, f_disequalities, f_solved, f_found, a_sign, a_first, a_second, a_rows, a_left, a_right, a_goalTable, a_goalX, a_goalY, a_goalFrozen, a_equalX, a_equalY, a_differX, a_differY, a_choiceOf, a_pick, a_bind, a_text, a_from, a_stack) zv zc := by
  subst ev
  refine fz_write hV hn hC (b := fun _ => none) (.inl ⟨rfl, rfl⟩) (base := 0) (by omega) rfl hc ec (fun tx fr sk hsp _ _ => ?_)
  rw [fz_txN] at hsp ⊢
  have hl := (hC c hc).2.1
  have key : ∀ (k i : Nat), i + k = (tm c).length → (∀ j, j < i → ∀ a, (tm c)[j]? = some a → a ≠ 100 + v) → wY_occurs_11 post (nI v) (nI (tm c).length) f_variables f_cells f_goals f_equations f_disequalities f_solved f_found a_sign a_first a_second a_rows a_left a_right a_goalTable a_goalX a_goalY a_goalFrozen a_equalX a_equalY a_differX a_differY a_choiceOf a_pick a_bind tx fr sk (k + 1) (nI i) := by
    intro k
    induction k with
    | zero =>
      intro i hi hno
      have e : i = (tm c).length := by omega
      refine pk_le (tm c).length i (fun _ => h0 ?_ tx fr sk) (fun h => absurd h (by omega))
      intro hm
      exact fz_nat (P := fun a => a ≠ 100 + v) (fun j hj a ha => hno j (by omega) a ha) _ hm rfl
    | succ k ih =>
      intro i hi hno
      obtain ⟨a, ha, hm, _⟩ := fz_at (l := tm c) (i := i) (by omega)
      have ha6 := fz_symb hC hc hm
      have ci : (nI i).toNatClampNeg = i := nI_clamp (by omega)
      have T : tx (nI i).toNatClampNeg = nI a := by
        rw [ci, ← hsp i a ha, Nat.zero_add]
      have e1 : (100 : Int32) + nI v = nI (100 + v) := nI_add 100 v
      refine pk_le (tm c).length i (fun h => absurd h (by omega)) (fun _ => ⟨vp_in_nI (by omega) (by omega), pk_eq a (100 + v) (fun e => ?_) (fun e => ?_) T e1⟩)
      · rw [e] at hm
        exact h1 hm tx fr sk
      · refine nm_r (nI_1 i) (ih (i + 1) (by omega) (fun j hj b hb => ?_))
        by_cases ej : j = i
        · rw [ej, ha] at hb
          rw [← Option.some.inj hb]
          exact e
        · exact hno j (by omega) b hb
  exact ⟨(tm c).length + 1, key (tm c).length 0 (by omega) (fun j hj => absurd hj (by omega))⟩
theorem fz_grd (hV : V ≤ 6) (hn : n ≤ 48) (hC : fz_CY V tm n a_sign a_first a_second) {c : Nat} (hc : c < n) {zc : Int32} (ec : zc = nI c) {post : Int32 → SY → Prop}
    (h1 : fz_Gr (tm c) → ∀ tx fr sk, post 1 (f_variables, f_cells, f_goals, f_equations, f_disequalities, f_solved, f_found, a_sign, a_first, a_second, a_rows, a_left, a_right, a_goalTable, a_goalX, a_goalY, a_goalFrozen, a_equalX, a_equalY, a_differX, a_differY, a_choiceOf, a_pick, a_bind, tx, fr, sk)) (h0 : ¬ fz_Gr (tm c) → ∀ tx fr sk, post 0 (f_variables, f_cells, f_goals, f_equations, f_disequalities, f_solved, f_found, a_sign, a_first, a_second, a_rows, a_left, a_right, a_goalTable, a_goalX, a_goalY, a_goalFrozen, a_equalX, a_equalY, a_differX, a_differY, a_choiceOf, a_pick, a_bind, tx, fr, sk)) :
    wpY_ground post (f_variables, f_cells, f_goals, f_equations, f_disequalities, f_solved, f_found, a_sign, a_first, a_second, a_rows, a_left, a_right, a_goalTable, a_goalX, a_goalY, a_goalFrozen, a_equalX, a_equalY, a_differX, a_differY, a_choiceOf, a_pick, a_bind, a_text, a_from, a_stack) zc := by
  refine fz_write hV hn hC (b := fun _ => none) (.inl ⟨rfl, rfl⟩) (base := 0) (by omega) rfl hc ec (fun tx fr sk hsp _ _ => ?_)
  rw [fz_txN] at hsp ⊢
  have hl := (hC c hc).2.1
  have key : ∀ (k i : Nat), i + k = (tm c).length → (∀ j, j < i → ∀ a, (tm c)[j]? = some a → a < 100) → wY_ground_10 post (nI (tm c).length) f_variables f_cells f_goals f_equations f_disequalities f_solved f_found a_sign a_first a_second a_rows a_left a_right a_goalTable a_goalX a_goalY a_goalFrozen a_equalX a_equalY a_differX a_differY a_choiceOf a_pick a_bind tx fr sk (k + 1) (nI i) := by
    intro k
    induction k with
    | zero =>
      intro i hi hno
      have e : i = (tm c).length := by omega
      refine pk_le (tm c).length i (fun _ => h1 ?_ tx fr sk) (fun h => absurd h (by omega))
      exact fz_nat (P := fun a => a < 100) (fun j hj a ha => hno j (by omega) a ha)
    | succ k ih =>
      intro i hi hno
      obtain ⟨a, ha, hm, _⟩ := fz_at (l := tm c) (i := i) (by omega)
      have ha6 := fz_symb hC hc hm
      have ci : (nI i).toNatClampNeg = i := nI_clamp (by omega)
      have T : tx (nI i).toNatClampNeg = nI a := by
        rw [ci, ← hsp i a ha, Nat.zero_add]
      refine pk_le (tm c).length i (fun h => absurd h (by omega)) (fun _ => ⟨vp_in_nI (by omega) (by omega), pk_lt a 100 (fun e => ?_) (fun e => ?_) T⟩)
      · refine nm_r (nI_1 i) (ih (i + 1) (by omega) (fun j hj b hb => ?_))
        by_cases ej : j = i
        · rw [ej, ha] at hb
          rw [← Option.some.inj hb]
          exact e
        · exact hno j (by omega) b hb
      · refine h0 (fun g => ?_) tx fr sk
        have := g a hm
        omega
  exact ⟨(tm c).length + 1, key (tm c).length 0 (by omega) (fun j hj => absurd hj (by omega))⟩
theorem fz_Vbn {val : Nat → Int32} {b : Nat → Option Nat} (hb : fz_Vb tm n val b) : ∀ v d, b v = some d → v < 6 ∧ d < n ∧ val v = nI d ∧ fz_Gr (tm d) := by
  intro v d hv
  rcases Nat.lt_or_ge v 6 with h6 | h6
  · rcases hb.2 v h6 with ⟨q1, _⟩ | ⟨d', q1, q2, q3, q4⟩
    · rw [q1] at hv
      exact absurd hv (by simp)
    · rw [hv] at q2
      rw [Option.some.inj q2]
      exact ⟨h6, q1, q3, q4⟩
  · rw [hb.1 v h6] at hv
    exact absurd hv (by simp)
theorem fz_txs (hC : fz_CY V tm n a_sign a_first a_second) {b : Nat → Option Nat} (hb : fz_Vb tm n a_bind b) {c : Nat} (hc : c < n) : ∀ a, a ∈ fz_tx tm b c → a < 106 := by
  intro a ha
  unfold fz_tx fz_sb at ha
  obtain ⟨x, hx, hxa⟩ := List.mem_flatMap.mp ha
  have h6 := fz_symb hC hc hx
  unfold fz_s1 at hxa
  split at hxa
  · unfold fz_pb at hxa
    cases e : b (x - 100) with
    | none =>
      rw [e] at hxa
      rw [List.mem_singleton] at hxa
      omega
    | some d =>
      rw [e] at hxa
      exact fz_symb hC (fz_Vbn hb _ _ e).2.1 hxa
  · rw [List.mem_singleton] at hxa
    omega
theorem fz_same (hV : V ≤ 6) (hn : n ≤ 48) (hC : fz_CY V tm n a_sign a_first a_second) {b : Nat → Option Nat} (hb : fz_Vb tm n a_bind b) {x y : Nat} (hx : x < n) (hy : y < n) {zx zy : Int32} (ex : zx = nI x) (ey : zy = nI y) {post : Int32 → SY → Prop}
    (h1 : fz_tx tm b x = fz_tx tm b y → ∀ tx fr sk, post 1 (f_variables, f_cells, f_goals, f_equations, f_disequalities, f_solved, f_found, a_sign, a_first, a_second, a_rows, a_left, a_right, a_goalTable, a_goalX, a_goalY, a_goalFrozen, a_equalX, a_equalY, a_differX, a_differY, a_choiceOf, a_pick, a_bind, tx, fr, sk)) (h0 : ¬ fz_tx tm b x = fz_tx tm b y → ∀ tx fr sk, post 0 (f_variables, f_cells, f_goals, f_equations, f_disequalities, f_solved, f_found, a_sign, a_first, a_second, a_rows, a_left, a_right, a_goalTable, a_goalX, a_goalY, a_goalFrozen, a_equalX, a_equalY, a_differX, a_differY, a_choiceOf, a_pick, a_bind, tx, fr, sk)) :
    wpY_same post (f_variables, f_cells, f_goals, f_equations, f_disequalities, f_solved, f_found, a_sign, a_first, a_second, a_rows, a_left, a_right, a_goalTable, a_goalX, a_goalY, a_goalFrozen, a_equalX, a_equalY, a_differX, a_differY, a_choiceOf, a_pick, a_bind, a_text, a_from, a_stack) zx zy := by
  have hb' : ∀ v d, b v = some d → d < n := fun v d hv => (fz_Vbn hb v d hv).2.1
  have lx := fz_txl hC hb' hx
  have ly := fz_txl hC hb' hy
  refine fz_write hV hn hC (.inr ⟨rfl, hb⟩) (base := 0) (by omega) rfl hx ex (fun tx fr sk hsp _ _ => ?_)
  refine fz_write hV hn hC (.inr ⟨rfl, hb⟩) (base := 128) (by omega) rfl hy ey (fun tx2 fr2 sk2 hsp2 _ hk2 => ?_)
  have hsp1 : fz_sp tx2 0 (fz_tx tm b x) := fz_spk hsp (fun i hi => hk2 _ (by omega))
  refine pk_eq (fz_tx tm b x).length (fz_tx tm b y).length (fun el => ?_) (fun el => h0 (fun e => el (by rw [e])) tx2 fr2 sk2)
  have key : ∀ (k i : Nat), i + k = (fz_tx tm b x).length → (∀ j, j < i → (fz_tx tm b x)[j]? = (fz_tx tm b y)[j]?) → wY_same_30 post (nI (fz_tx tm b x).length) f_variables f_cells f_goals f_equations f_disequalities f_solved f_found a_sign a_first a_second a_rows a_left a_right a_goalTable a_goalX a_goalY a_goalFrozen a_equalX a_equalY a_differX a_differY a_choiceOf a_pick a_bind tx2 fr2 sk2 (k + 1) (nI i) := by
    intro k
    induction k with
    | zero =>
      intro i hi hno
      refine pk_le (fz_tx tm b x).length i (fun _ => h1 (fz_lext el (fun j hj => hno j (by omega))) tx2 fr2 sk2) (fun h => absurd h (by omega))
    | succ k ih =>
      intro i hi hno
      obtain ⟨p, hp, hpm, _⟩ := fz_at (l := fz_tx tm b x) (i := i) (by omega)
      obtain ⟨q, hq, hqm, _⟩ := fz_at (l := fz_tx tm b y) (i := i) (by omega)
      have hp6 := fz_txs hC hb hx p hpm
      have hq6 := fz_txs hC hb hy q hqm
      have T1 : tx2 (nI i).toNatClampNeg = nI p := by
        rw [nI_clamp (by omega), ← hsp1 i p hp, Nat.zero_add]
      have e1 : (128 : Int32) + nI i = nI (128 + i) := nI_add 128 i
      have T2 : tx2 (128 + nI i).toNatClampNeg = nI q := by
        rw [e1, nI_clamp (by omega)]
        exact hsp2 i q hq
      have i2 : vp_in (128 + nI i) 256 := by rw [e1]; exact vp_in_nI (by omega) (by omega)
      refine pk_le (fz_tx tm b x).length i (fun h => absurd h (by omega)) (fun _ => ⟨vp_in_nI (by omega) (by omega), i2, pk_eq p q (fun e => ?_) (fun e => ?_) T1 T2⟩)
      · refine nm_r (nI_1 i) (ih (i + 1) (by omega) (fun j hj => ?_))
        by_cases ej : j = i
        · rw [ej, hp, hq, e]
        · exact hno j (by omega)
      · refine h0 (fun eq => e ?_) tx2 fr2 sk2
        rw [eq, hq] at hp
        exact (Option.some.inj hp).symm
  exact ⟨(fz_tx tm b x).length + 1, key (fz_tx tm b x).length 0 (by omega) (fun j hj => absurd hj (by omega))⟩
theorem fz_fml (f : Nat → List Nat) : ∀ (st : List Nat), (∀ c, c ∈ st → 1 ≤ (f c).length) → st.length ≤ (st.flatMap f).length := by
  intro st
  induction st with
  | nil => intro _; exact Nat.zero_le _
  | cons c t ih =>
    intro h
    have h1 := ih (fun z hz => h z (List.mem_cons_of_mem _ hz))
    have h2 := h c List.mem_cons_self
    rw [List.flatMap_cons, List.length_append, List.length_cons]
    omega
theorem fz_len (hV : V ≤ 6) (hn : n ≤ 48) (hC : fz_CY V tm n a_sign a_first a_second) {c : Nat} (hc : c < n) {z : Int32} (ez : z = nI c) {post : Int32 → SY → Prop} (h : ∀ sk, post (nI (tm c).length) (f_variables, f_cells, f_goals, f_equations, f_disequalities, f_solved, f_found, a_sign, a_first, a_second, a_rows, a_left, a_right, a_goalTable, a_goalX, a_goalY, a_goalFrozen, a_equalX, a_equalY, a_differX, a_differY, a_choiceOf, a_pick, a_bind, a_text, a_from, sk)) : wpY_lengthOf post (f_variables, f_cells, f_goals, f_equations, f_disequalities, f_solved, f_found, a_sign, a_first, a_second, a_rows, a_left, a_right, a_goalTable, a_goalX, a_goalY, a_goalFrozen, a_equalX, a_equalY, a_differX, a_differY, a_choiceOf, a_pick, a_bind, a_text, a_from, a_stack) z := by
  subst ez
  have hl := (hC c hc).2.1
  have key : ∀ (m : Nat) (st : List Nat) (k : Nat) (sk : Nat → Int32), (st.flatMap tm).length < m → (∀ d, d ∈ st → d < n) → k + (st.flatMap tm).length = (tm c).length → st.length ≤ (st.flatMap tm).length → fz_sk sk st → wY_lengthOf_14 post f_variables f_cells f_goals f_equations f_disequalities f_solved f_found m (nI k) (nI st.length) (nI k) a_sign a_first a_second a_rows a_left a_right a_goalTable a_goalX a_goalY a_goalFrozen a_equalX a_equalY a_differX a_differY a_choiceOf a_pick a_bind a_text a_from sk := by
    intro m
    induction m with
    | zero => intro st k sk hm; omega
    | succ m ih =>
      intro st k sk hm hst hk hd hsk
      cases st with
      | nil =>
        have e : k = (tm c).length := by simpa using hk
        rw [e]
        exact pk_le 64 (tm c).length (fun h => absurd h (by omega)) (fun _ => pk_le 0 0 (fun _ => h sk) (fun h => absurd h (by omega)))
      | cons d t =>
        have hcl : (d :: t).flatMap tm = tm d ++ t.flatMap tm := List.flatMap_cons
        have hll : (d :: t).length = t.length + 1 := rfl
        have hdn := hst d List.mem_cons_self
        rw [hcl, List.length_append] at hm hk hd
        have ix : (nI t.length).toNatClampNeg = t.length := nI_clamp (by omega)
        have SK : sk (nI t.length).toNatClampNeg = nI d := by rw [ix]; exact hsk.1
        have i64 : vp_in (nI t.length) 64 := vp_in_nI (by omega) (by omega)
        have i65 : vp_in (nI t.length + 1) 64 := by rw [nI_1]; exact vp_in_nI (by omega) (by omega)
        have id' : vp_in (nI d) 48 := vp_in_nI (by omega) (by omega)
        have cd : (nI d).toNatClampNeg = d := nI_clamp (by omega)
        refine pk_le 64 k (fun h => absurd h (by omega)) (fun _ => pk_le (t.length + 1) 0 (fun h => absurd h (by omega)) (fun _ => nm_r (pk_m1 t.length) ⟨i64, nm_r SK (nm_r (nI_1 k) ⟨id', ?_⟩)⟩))
        have h'' : (∃ a : Nat, a ≠ 17 ∧ a < 106 ∧ tm d = [a] ∧ a_sign d = nI a) ∨ (∃ a b, a < d ∧ b < d ∧ tm d = 17 :: (tm a ++ tm b) ∧ a_sign d = 17 ∧ a_first d = nI a ∧ a_second d = nI b) := by
          obtain ⟨hw, _, h'⟩ := hC d hdn
          rcases h' with ⟨a, l1, l2, e, es⟩ | ⟨v, hv, e, es⟩ | h3
          · exact .inl ⟨a, by omega, by omega, e, es⟩
          · exact .inl ⟨100 + v, by omega, by omega, e, es⟩
          · exact .inr h3
        have l3 : t.length ≤ (t.flatMap tm).length := fz_fml tm t (fun x hx => fz_WTlen (hC x (hst x (List.mem_cons_of_mem _ hx))).1)
        rcases h'' with ⟨a, h17, h106, e, es⟩ | ⟨a, b, la, lb, e, es, ef, ed⟩
        · refine br_f (by rw [cd, es]; exact fun z => h17 ((nI_eq (b := 17) (by omega) (by omega)).mp z)) (nm_r (nI_1 k) ?_)
          exact ih t (k + 1) sk (by rw [e] at hm; simp only [List.length_cons, List.length_nil] at hm; omega) (fun x hx => hst x (List.mem_cons_of_mem _ hx)) (by rw [e] at hk; simp only [List.length_cons, List.length_nil] at hk; omega) l3 hsk.2
        · have U1 : upd sk (nI t.length).toNatClampNeg (a_second (nI d).toNatClampNeg) = upd sk t.length (nI b) := by rw [ix, cd, ed]
          have U2 : upd (upd sk t.length (nI b)) (nI t.length + 1).toNatClampNeg (a_first (nI d).toNatClampNeg) = upd (upd sk t.length (nI b)) (t.length + 1) (nI a) := by rw [nI_1, nI_clamp (by omega), cd, ef]
          have w1 := fz_WTlen (hC a (by omega)).1
          have w2 := fz_WTlen (hC b (by omega)).1
          have e3 : ((a :: b :: t).flatMap tm).length = (tm a).length + ((tm b).length + (t.flatMap tm).length) := by rw [List.flatMap_cons, List.flatMap_cons, List.length_append, List.length_append]
          rw [e] at hm hk hd
          simp only [List.length_cons, List.length_append] at hm hk hd
          refine br_t (by rw [cd]; exact es) ⟨id', i64, nm_r U1 ⟨id', i65, nm_r U2 (nm_r (nI_add t.length 2) (nm_r (nI_1 k) (ih (a :: b :: t) (k + 1) _ (by omega) ?_ (by omega) (by simp only [List.length_cons]; omega) (fz_sk2 hsk.2 a b))))⟩⟩
          intro x hx
          rcases List.mem_cons.mp hx with e | hx
          · omega
          · rcases List.mem_cons.mp hx with e | hx
            · omega
            · exact hst x (List.mem_cons_of_mem _ hx)
  have e1 : ([c].flatMap tm).length = (tm c).length := by simp
  have w := fz_WTlen (hC c hc).1
  exact nm_e ⟨14, key 14 [c] 0 _ (by omega) (fun d hd => by rw [List.mem_singleton.mp hd]; exact hc) (by omega) (by rw [e1]; exact w) ⟨pk_us, trivial⟩⟩
end
end
section
theorem fz_CtNe {k : Nat} {l : List Nat} (h : fz_Ct (k + 1) l) : l ≠ [] := by
  intro e
  rw [e] at h
  have := fz_CtN h
  omega
theorem fz_pr6 {R : Nat → Nat} : ∀ G, (∀ g, g < G → R g ≤ 6) → fz_pr R G ≤ 6 ^ G := by
  intro G
  induction G with
  | zero => intro _; exact Nat.le_refl _
  | succ G ih =>
    intro h
    show fz_pr R G * R G ≤ 6 ^ (G + 1)
    rw [Nat.pow_succ]
    exact Nat.mul_le_mul (ih (fun g hg => h g (by omega))) (h G (by omega))
theorem fz_prb {R : Nat → Nat} {G : Nat} (hG : G ≤ 4) (h : ∀ g, g < G → R g ≤ 6) : fz_pr R G ≤ 1296 := by
  have h1 := fz_pr6 G h
  have h2 : 6 ^ G ≤ 6 ^ 4 := Nat.pow_le_pow_right (by omega) hG
  have h3 : 6 ^ 4 = 1296 := by decide
  omega
section
variable {f_variables f_cells f_goals f_equations f_disequalities f_solved f_found : Int32} {a_sign a_first a_second a_rows a_left a_right a_goalTable a_goalX a_goalY a_goalFrozen a_equalX a_equalY a_differX a_differY a_choiceOf a_pick a_bind a_text a_from a_stack : Nat → Int32}
variable {V n G E D : Nat} {tm : Nat → List Nat}
theorem fz_read (hV : V ≤ 6) (hn : n ≤ 48) (hC : fz_CY V tm n a_sign a_first a_second) {b : Nat → Option Nat} (hb : fz_Vb tm n a_bind b) {x y : Nat} (hx : x < n) (hy : y < n) (gy : fz_Gr (tm y)) {zx zy : Int32} (ex : zx = nI x) (ey : zy = nI y) {post : Int32 → SY → Prop}
    (h1 : ∀ b' bd tx fr sk, fz_Vb tm n bd b' → fz_le b b' → (∀ v, 100 + v ∈ tm x → b' v ≠ none) → (∀ s, fz_As s → fz_ex tm b s → fz_sb s (tm x) = tm y → fz_ex tm b' s) → post 1 (f_variables, f_cells, f_goals, f_equations, f_disequalities, f_solved, f_found, a_sign, a_first, a_second, a_rows, a_left, a_right, a_goalTable, a_goalX, a_goalY, a_goalFrozen, a_equalX, a_equalY, a_differX, a_differY, a_choiceOf, a_pick, bd, tx, fr, sk))
    (h0 : (∀ s, fz_As s → ¬ fz_sb s (tm x) = tm y) → ∀ bd tx fr sk, post 0 (f_variables, f_cells, f_goals, f_equations, f_disequalities, f_solved, f_found, a_sign, a_first, a_second, a_rows, a_left, a_right, a_goalTable, a_goalX, a_goalY, a_goalFrozen, a_equalX, a_equalY, a_differX, a_differY, a_choiceOf, a_pick, bd, tx, fr, sk)) :
    wpY_readBeside post (f_variables, f_cells, f_goals, f_equations, f_disequalities, f_solved, f_found, a_sign, a_first, a_second, a_rows, a_left, a_right, a_goalTable, a_goalX, a_goalY, a_goalFrozen, a_equalX, a_equalY, a_differX, a_differY, a_choiceOf, a_pick, a_bind, a_text, a_from, a_stack) zx zy := by
  have lx := (hC x hx).2.1
  have ly := (hC y hy).2.1
  refine fz_write hV hn hC (b := fun _ => none) (.inl ⟨rfl, rfl⟩) (base := 0) (by omega) rfl hx ex (fun tx fr sk hsp _ _ => ?_)
  refine fz_write hV hn hC (b := fun _ => none) (.inl ⟨rfl, rfl⟩) (base := 128) (by omega) rfl hy ey (fun tx2 fr2 sk2 hsp2 hfr hk2 => ?_)
  rw [fz_txN] at hsp hsp2 hfr
  rw [fz_txN]
  have hsp1 : fz_sp tx2 0 (tm x) := fz_spk hsp (fun i hi => hk2 _ (by omega))
  have key : ∀ (k i w : Nat) (b' : Nat → Option Nat) (bd sk : Nat → Int32), i + k = (tm x).length → (∃ q, fz_Ct q ((tm x).drop i) ∧ fz_Ct q ((tm y).drop w)) → fz_Vb tm n bd b' → fz_le b b' → (∀ j, j < i → ∀ a, (tm x)[j]? = some a → ∀ v, a = 100 + v → b' v ≠ none) →
      (∀ s, fz_As s → fz_sb s (tm x) = tm y → fz_sb s ((tm x).drop i) = (tm y).drop w ∧ (fz_ex tm b s → fz_ex tm b' s)) → wY_readBeside_24 post (nI (tm x).length) (k + 1) (nI w) (nI i) f_variables f_cells f_goals f_equations f_disequalities f_solved f_found a_sign a_first a_second a_rows a_left a_right a_goalTable a_goalX a_goalY a_goalFrozen a_equalX a_equalY a_differX a_differY a_choiceOf a_pick bd tx2 fr2 sk := by
    intro k
    induction k with
    | zero =>
      intro i w b' bd sk hi _ hb' hle hv hs
      refine pk_le (tm x).length i (fun _ => h1 b' bd tx2 fr2 sk hb' hle (fun v hm => ?_) (fun s hA h0' he => (hs s hA he).2 h0')) (fun h => absurd h (by omega))
      exact fz_nat (P := fun a => ∀ v, a = 100 + v → b' v ≠ none) (fun j hj a ha => hv j (by omega) a ha) _ hm v rfl
    | succ k ih =>
      intro i w b' bd sk hi hq hb' hle hv hs
      obtain ⟨a, ha, hm, hdr⟩ := fz_at (l := tm x) (i := i) (by omega)
      obtain ⟨q, c1, c2⟩ := hq
      obtain ⟨q, rfl⟩ : ∃ r, q = r + 1 := by
        cases q with
        | zero =>
          have e : (tm x).drop i = [] := c1
          rw [hdr] at e
          exact absurd e (by simp)
        | succ r => exact ⟨r, rfl⟩
      have hwl : w < (tm y).length := by
        rcases Nat.lt_or_ge w (tm y).length with h | h
        · exact h
        · exact absurd (List.drop_eq_nil_of_le h) (fz_CtNe c2)
      obtain ⟨a2, ha2, hm2, hdr2⟩ := fz_at (l := tm y) (i := w) hwl
      have ha6 := fz_symb hC hx hm
      have hb6 := fz_symb hC hy hm2
      have T1 : tx2 (nI i).toNatClampNeg = nI a := by rw [nI_clamp (by omega), ← hsp1 i a ha, Nat.zero_add]
      have e1 : (128 : Int32) + nI w = nI (128 + w) := nI_add 128 w
      have c128 : (128 + nI w).toNatClampNeg = 128 + w := by rw [e1]; exact nI_clamp (by omega)
      have T2 : tx2 (128 + nI w).toNatClampNeg = nI a2 := by rw [c128]; exact hsp2 w a2 ha2
      have i1 : vp_in (nI i) 256 := vp_in_nI (by omega) (by omega)
      have i2 : vp_in (128 + nI w) 256 := by rw [e1]; exact vp_in_nI (by omega) (by omega)
      refine pk_le (tm x).length i (fun h => absurd h (by omega)) (fun _ => pk_lt w 128 (fun _ => ⟨i1, pk_lt a 100 (fun hlt => ⟨i1, i2, pk_eq a a2 (fun e => ?_) (fun e => ?_) T1 T2⟩) (fun hge => ?_) T1⟩) (fun h => absurd h (by omega)))
      · subst e
        refine nm_r (nI_1 w) (nm_r (nI_1 i) (ih (i + 1) (w + 1) b' bd sk (by omega) ?_ hb' hle (fun j hj z hz v ez => ?_) (fun s hA he => ?_)))
        · rw [hdr] at c1
          rw [hdr2] at c2
          by_cases e17 : a = 17
          · subst e17
            exact ⟨q + 2, fz_CtP c1, fz_CtP c2⟩
          · exact ⟨q, (fz_CtL c1 e17).2, (fz_CtL c2 e17).2⟩
        · by_cases ej : j = i
          · rw [ej, ha] at hz
            have := Option.some.inj hz
            omega
          · exact hv j (by omega) z hz v ez
        · have hh := hs s hA he
          rw [hdr, hdr2, fz_sbC, fz_s1L hlt] at hh
          exact ⟨(List.cons.inj hh.1).2, hh.2⟩
      · refine h0 (fun s hA he => ?_) bd tx2 fr2 sk
        have hh := (hs s hA he).1
        rw [hdr, hdr2, fz_sbC, fz_s1L hlt] at hh
        exact e (List.cons.inj hh).1
      · obtain ⟨v, rfl⟩ : ∃ v, a = 100 + v := ⟨a - 100, by omega⟩
        obtain ⟨d, rest, hd, efr, hdd⟩ := hfr w hwl
        rw [fz_txN] at hdd
        have wd := (hC d hd).1
        have ld := (hC d hd).2.1
        have gd : fz_Gr (tm d) := by
          intro z hz
          exact gy z (List.mem_of_mem_drop (i := w) (by rw [hdd]; exact List.mem_append_left _ hz))
        have X6 : tx2 (nI i).toNatClampNeg - 100 = nI v := by
          rw [T1]
          have := pk_sub (a := 100 + v) (b := 100) (by omega)
          rw [Nat.add_sub_cancel_left] at this
          exact this
        have X7 : fr2 (128 + nI w).toNatClampNeg = nI d := by rw [c128]; exact efr
        have cv : (nI v).toNatClampNeg = v := nI_clamp (by omega)
        have iv : vp_in (nI v) 6 := vp_in_nI (by omega) (by omega)
        have hrest : rest = (tm y).drop (w + (tm d).length) := by
          rw [← List.drop_drop, hdd, List.drop_left]
        have sub : ∀ s, fz_As s → fz_sb s (tm x) = tm y → s v = tm d ∧ fz_sb s ((tm x).drop (i + 1)) = (tm y).drop (w + (tm d).length) := by
          intro s hA he
          have hh := (hs s hA he).1
          rw [hdr, hdd, fz_sbC, fz_s1V] at hh
          have := fz_cut (fz_AsT hA v) (fz_WTm wd) hh
          rw [← hrest]
          exact this
        have ct : ∃ q, fz_Ct q ((tm x).drop (i + 1)) ∧ fz_Ct q ((tm y).drop (w + (tm d).length)) := by
          rw [hdr] at c1
          rw [hdd] at c2
          rw [← hrest]
          exact ⟨q, (fz_CtL c1 (by omega)).2, fz_CtK wd c2⟩
        rcases hb'.2 v (by omega) with ⟨q1, q2⟩ | ⟨d', q1, q2, q3, q4⟩
        · refine ⟨i1, nm_r X6 ⟨i2, nm_r X7 ⟨iv, br_f ?_ ⟨iv, nm_r (e' := upd bd v (nI d)) (by rw [cv]) ?_⟩⟩⟩⟩
          · rw [cv, q2]
            decide
          · refine fz_len hV hn hC hd rfl (fun sk' => nm_r (nI_add w (tm d).length) (nm_r (nI_1 i) (ih (i + 1) (w + (tm d).length) (fz_set b' v d) (upd bd v (nI d)) sk' (by omega) ct (fz_VbS hb' (by omega) hd gd) (fun u c hu => ?_) (fun j hj z hz u eu => ?_) (fun s hA he => ?_))))
            · have := hle u c hu
              by_cases euv : u = v
              · rw [euv, q1] at this
                exact absurd this (by simp)
              · rw [fz_setN euv]
                exact this
            · by_cases euv : u = v
              · rw [euv, fz_setS]
                simp
              · rw [fz_setN euv]
                by_cases ej : j = i
                · rw [ej, ha] at hz
                  have := Option.some.inj hz
                  omega
                · exact hv j (by omega) z hz u eu
            · obtain ⟨k1, k2⟩ := sub s hA he
              exact ⟨k2, fun h0' => (fz_exS q1 s).mpr ⟨(hs s hA he).2 h0', k1⟩⟩
        · refine ⟨i1, nm_r X6 ⟨i2, nm_r X7 ⟨iv, br_t ?_ ?_⟩⟩⟩
          · rw [cv, q3]
            exact nI_pos' (by omega)
          · refine fz_len hV hn hC hd rfl (fun sk' => nm_r (nI_add w (tm d).length) (nm_r (nI_1 i) (ih (i + 1) (w + (tm d).length) b' bd sk' (by omega) ct hb' hle (fun j hj z hz u eu => ?_) (fun s hA he => ?_))))
            · by_cases ej : j = i
              · rw [ej, ha] at hz
                have := Option.some.inj hz
                have : u = v := by omega
                rw [this, q2]
                simp
              · exact hv j (by omega) z hz u eu
            · exact ⟨(sub s hA he).2, (hs s hA he).2⟩
  exact ⟨(tm x).length + 1, key (tm x).length 0 0 b a_bind sk2 (by omega) ⟨1, fz_Ct1 (hC x hx).1, fz_Ct1 (hC y hy).1⟩ hb (fun v c h => h) (fun j hj => absurd hj (by omega)) (fun s _ he => ⟨he, fun h => h⟩)⟩
theorem fz_unb {post : SY → Prop} (h : ∀ bd : Nat → Int32, (∀ v, v < 6 → bd v = -1) → post (f_variables, f_cells, f_goals, f_equations, f_disequalities, f_solved, f_found, a_sign, a_first, a_second, a_rows, a_left, a_right, a_goalTable, a_goalX, a_goalY, a_goalFrozen, a_equalX, a_equalY, a_differX, a_differY, a_choiceOf, a_pick, bd, a_text, a_from, a_stack)) : wpY_unbind post (f_variables, f_cells, f_goals, f_equations, f_disequalities, f_solved, f_found, a_sign, a_first, a_second, a_rows, a_left, a_right, a_goalTable, a_goalX, a_goalY, a_goalFrozen, a_equalX, a_equalY, a_differX, a_differY, a_choiceOf, a_pick, a_bind, a_text, a_from, a_stack) := by
  have key : ∀ (k i : Nat) (bd : Nat → Int32), i + k = 6 → (∀ v, v < i → bd v = -1) → wY_unbind_2 post f_variables f_cells f_goals f_equations f_disequalities f_solved f_found (k + 1) (nI i) a_sign a_first a_second a_rows a_left a_right a_goalTable a_goalX a_goalY a_goalFrozen a_equalX a_equalY a_differX a_differY a_choiceOf a_pick bd a_text a_from a_stack := by
    intro k
    induction k with
    | zero =>
      intro i bd hi hv
      exact pk_le 6 i (fun _ => h bd (fun v hv' => hv v (by omega))) (fun h => absurd h (by omega))
    | succ k ih =>
      intro i bd hi hv
      refine pk_le 6 i (fun h => absurd h (by omega)) (fun _ => ⟨vp_in_nI (by omega) (by omega), nm_r (e' := upd bd i (-1)) (by rw [nI_clamp (by omega)]) (nm_r (nI_1 i) (ih (i + 1) _ (by omega) (fun v hv' => ?_)))⟩)
      by_cases e : v = i
      · rw [e]
        exact pk_us
      · rw [pk_un e]
        exact hv v (by omega)
  exact ⟨7, key 6 0 a_bind rfl (fun v hv => absurd hv (by omega))⟩
theorem fz_pick (hG : G ≤ 4) (hGO : fz_GO n a_goalTable a_goalX a_goalY G) (hRO : fz_RO tm n a_rows a_left a_right) (eG : f_goals = nI G) {p : Nat → Nat} (hp : ∀ g, g < G → p g < fz_Rw a_rows a_goalTable g) {z : Int32} (ez : z = nI (fz_yR (fz_Rw a_rows a_goalTable) p G)) {post : SY → Prop}
    (h : ∀ pk : Nat → Int32, (∀ g, g < G → pk g = nI (p g)) → post (f_variables, f_cells, f_goals, f_equations, f_disequalities, f_solved, f_found, a_sign, a_first, a_second, a_rows, a_left, a_right, a_goalTable, a_goalX, a_goalY, a_goalFrozen, a_equalX, a_equalY, a_differX, a_differY, a_choiceOf, pk, a_bind, a_text, a_from, a_stack)) : wpY_setPicks post (f_variables, f_cells, f_goals, f_equations, f_disequalities, f_solved, f_found, a_sign, a_first, a_second, a_rows, a_left, a_right, a_goalTable, a_goalX, a_goalY, a_goalFrozen, a_equalX, a_equalY, a_differX, a_differY, a_choiceOf, a_pick, a_bind, a_text, a_from, a_stack) z := by
  subst ez
  have R6 : ∀ g, g < G → fz_Rw a_rows a_goalTable g ≤ 6 := by
    intro g hg
    obtain ⟨t, x, y, ht, _, _, et, _, _⟩ := hGO g hg
    obtain ⟨r, hr, er, _⟩ := hRO t ht
    rw [fz_RwE ht hr et er]
    exact hr
  have key : ∀ (j : Nat) (x3 : Int32) (pk : Nat → Int32), j ≤ G → x3 = nI j + (-1) → (∀ g, j ≤ g → g < G → pk g = nI (p g)) → wY_setPicks_9 post f_variables f_cells f_goals f_equations f_disequalities f_solved f_found (j + 1) (nI (fz_yR (fz_Rw a_rows a_goalTable) p j)) x3 a_sign a_first a_second a_rows a_left a_right a_goalTable a_goalX a_goalY a_goalFrozen a_equalX a_equalY a_differX a_differY a_choiceOf pk a_bind a_text a_from a_stack := by
    intro j
    induction j with
    | zero =>
      intro x3 pk _ e3 hg
      subst e3
      exact br_t (by decide) (h pk (fun g hg' => hg g (Nat.zero_le _) hg'))
    | succ j ih =>
      intro x3 pk hj e3 hg
      rw [pk_m1] at e3
      subst e3
      obtain ⟨t, x, y, ht, _, _, et, _, _⟩ := hGO j (by omega)
      obtain ⟨r, hr, er, _⟩ := hRO t ht
      have hR := fz_RwE ht hr et er
      have hpj := hp j (by omega)
      have hlt := fz_yRlt (R := fz_Rw a_rows a_goalTable) (p := p) (j + 1) (fun g hg' => hp g (by omega))
      have hb := fz_prb (R := fz_Rw a_rows a_goalTable) (G := j + 1) (by omega) (fun g hg' => R6 g (by omega))
      have hs : fz_yR (fz_Rw a_rows a_goalTable) p (j + 1) = fz_Rw a_rows a_goalTable j * fz_yR (fz_Rw a_rows a_goalTable) p j + p j := rfl
      rw [hR] at hs hpj
      have cj : (nI j).toNatClampNeg = j := nI_clamp (by omega)
      have ij : vp_in (nI j) 4 := vp_in_nI (by omega) (by omega)
      have T : a_goalTable (nI j).toNatClampNeg = nI t := by rw [cj]; exact et
      have it : vp_in (a_goalTable (nI j).toNatClampNeg) 4 := by rw [T]; exact vp_in_nI ht (by omega)
      have RC : a_rows (a_goalTable (nI j).toNatClampNeg).toNatClampNeg = nI r := by rw [T, nI_clamp (by omega)]; exact er
      have r0 : 0 < r := by omega
      have nr : ¬ nI r = 0 := nI_ne0 r0 (by omega)
      have eM : nI (fz_yR (fz_Rw a_rows a_goalTable) p (j + 1)) - nI (fz_yR (fz_Rw a_rows a_goalTable) p (j + 1)) / nI r * nI r = nI (p j) := by
        rw [pk_rem (by omega) r0 (by omega), hs, Nat.mul_add_mod, Nat.mod_eq_of_lt hpj]
      have eD : nI (fz_yR (fz_Rw a_rows a_goalTable) p (j + 1)) / nI r = nI (fz_yR (fz_Rw a_rows a_goalTable) p j) := by
        rw [pk_div (by omega) r0 (by omega), hs, Nat.mul_add_div r0, Nat.div_eq_of_lt hpj, Nat.add_zero]
      refine br_f (nI_pos (by omega)) ⟨ij, it, nm_r RC (pk_le r 0 (fun h => absurd h (by omega)) (fun _ => ⟨nr, ij, nm_r (e' := upd pk j (nI (p j))) (by rw [eM, cj]) ⟨nr, nm_r eD (fun x3' e3' => ih x3' _ (by omega) e3' (fun g hg1 hg2 => ?_))⟩⟩))⟩
      by_cases e : g = j
      · rw [e]
        exact pk_us
      · rw [pk_un e]
        exact hg g (by omega) hg2
  exact nm_r (e' := nI G + (-1)) (by rw [eG, Int32.sub_eq_add_neg]) ⟨G + 1, key G _ a_pick (Nat.le_refl _) rfl (fun g h1 h2 => absurd h2 (by omega))⟩
theorem fz_stx {b : Nat → Option Nat} {x : Nat} (hv : ∀ v, 100 + v ∈ tm x → b v ≠ none) {s : Nat → List Nat} (hs : fz_ex tm b s) : fz_sb s (tm x) = fz_tx tm b x := by
  refine fz_sbe (fun v hm => ?_)
  unfold fz_pb
  cases e : b v with
  | none => exact absurd e (hv v hm)
  | some d => exact hs v d e
theorem fz_choices (hG : G ≤ 4) (hGO : fz_GO n a_goalTable a_goalX a_goalY G) (hRO : fz_RO tm n a_rows a_left a_right) (eG : f_goals = nI G) {post : Int32 → Prop} (h : post (nI (fz_pr (fz_Rw a_rows a_goalTable) G))) : wpY_choices post (f_variables, f_cells, f_goals, f_equations, f_disequalities, f_solved, f_found, a_sign, a_first, a_second, a_rows, a_left, a_right, a_goalTable, a_goalX, a_goalY, a_goalFrozen, a_equalX, a_equalY, a_differX, a_differY, a_choiceOf, a_pick, a_bind, a_text, a_from, a_stack) := by
  have key : ∀ (k g : Nat), g + k = G → wY_choices_4 post f_variables f_cells f_goals f_equations f_disequalities f_solved f_found a_sign a_first a_second a_rows a_left a_right a_goalTable a_goalX a_goalY a_goalFrozen a_equalX a_equalY a_differX a_differY a_choiceOf a_pick a_bind a_text a_from a_stack (k + 1) (nI (fz_pr (fz_Rw a_rows a_goalTable) g)) (nI g) := by
    intro k
    induction k with
    | zero =>
      intro g hg
      have e : g = G := by omega
      subst e
      exact pk_le g g (fun _ => h) (fun h => absurd h (by omega)) eG
    | succ k ih =>
      intro g hg
      obtain ⟨t, x, y, ht, _, _, et, _, _⟩ := hGO g (by omega)
      obtain ⟨r, hr, er, _⟩ := hRO t ht
      have hR := fz_RwE ht hr et er
      have cg : (nI g).toNatClampNeg = g := nI_clamp (by omega)
      have T : a_goalTable (nI g).toNatClampNeg = nI t := by rw [cg]; exact et
      have it : vp_in (a_goalTable (nI g).toNatClampNeg) 4 := by rw [T]; exact vp_in_nI ht (by omega)
      have RC : a_rows (a_goalTable (nI g).toNatClampNeg).toNatClampNeg = nI r := by rw [T, nI_clamp (by omega)]; exact er
      refine pk_le G g (fun h => absurd h (by omega)) (fun _ => ⟨vp_in_nI (by omega) (by omega), it, nm_r (e' := nI (fz_pr (fz_Rw a_rows a_goalTable) (g + 1))) ?_ (nm_r (nI_1 g) (ih (g + 1) (by omega)))⟩) eG
      rw [RC, pk_mul]
      show _ = nI (fz_pr (fz_Rw a_rows a_goalTable) g * fz_Rw a_rows a_goalTable g)
      rw [hR]
  exact ⟨G + 1, key G 0 (by omega)⟩
theorem fz_try (hV : V ≤ 6) (hn : n ≤ 48) (hC : fz_CY V tm n a_sign a_first a_second) (hG : G ≤ 4) (hGO : fz_GO n a_goalTable a_goalX a_goalY G) (hRO : fz_RO tm n a_rows a_left a_right) (eG : f_goals = nI G)
    (hE : E ≤ 4) (hQE : fz_QO n a_equalX a_equalY E) (eE : f_equations = nI E) (hD : D ≤ 6) (hQD : fz_QO n a_differX a_differY D) (eD : f_disequalities = nI D)
    (hvE : ∀ i, i < E → ∀ v, (100 + v ∈ tm (a_equalX i).toNatClampNeg ∨ 100 + v ∈ tm (a_equalY i).toNatClampNeg) → fz_Gv tm a_goalX a_goalY G v)
    (hvD : ∀ i, i < D → ∀ v, (100 + v ∈ tm (a_differX i).toNatClampNeg ∨ 100 + v ∈ tm (a_differY i).toNatClampNeg) → fz_Gv tm a_goalX a_goalY G v)
    {p : Nat → Nat} (hp : ∀ g, g < G → p g < fz_Rw a_rows a_goalTable g) {z : Int32} (ez : z = nI (fz_yR (fz_Rw a_rows a_goalTable) p G)) {post : Int32 → SY → Prop}
    (h1 : ∀ b bd pk tx fr sk, fz_Vb tm n bd b → (∀ v, fz_Gv tm a_goalX a_goalY G v → b v ≠ none) → fz_As (fz_tot tm b) → fz_Mt tm a_goalTable a_goalX a_goalY a_left a_right 0 G p (fz_tot tm b) → fz_Eq tm a_equalX a_equalY E (fz_tot tm b) → fz_Df tm a_differX a_differY D (fz_tot tm b) → post 1 (f_variables, f_cells, f_goals, f_equations, f_disequalities, f_solved, f_found, a_sign, a_first, a_second, a_rows, a_left, a_right, a_goalTable, a_goalX, a_goalY, a_goalFrozen, a_equalX, a_equalY, a_differX, a_differY, a_choiceOf, pk, bd, tx, fr, sk))
    (h0 : ¬ fz_Good tm a_goalTable a_goalX a_goalY a_left a_right a_equalX a_equalY a_differX a_differY G E D p → ∀ bd pk tx fr sk, post 0 (f_variables, f_cells, f_goals, f_equations, f_disequalities, f_solved, f_found, a_sign, a_first, a_second, a_rows, a_left, a_right, a_goalTable, a_goalX, a_goalY, a_goalFrozen, a_equalX, a_equalY, a_differX, a_differY, a_choiceOf, pk, bd, tx, fr, sk)) :
    wpY_tryChoice post (f_variables, f_cells, f_goals, f_equations, f_disequalities, f_solved, f_found, a_sign, a_first, a_second, a_rows, a_left, a_right, a_goalTable, a_goalX, a_goalY, a_goalFrozen, a_equalX, a_equalY, a_differX, a_differY, a_choiceOf, a_pick, a_bind, a_text, a_from, a_stack) z := by
  have goalAt : ∀ g, g < G → ∃ t x y c d, t < 4 ∧ x < n ∧ y < n ∧ c < n ∧ d < n ∧ a_goalTable g = nI t ∧ a_goalX g = nI x ∧ a_goalY g = nI y ∧ a_left (6 * t + p g) = nI c ∧ a_right (6 * t + p g) = nI d ∧ fz_Gr (tm c) ∧ fz_Gr (tm d) ∧ p g < 6 := by
    intro g hg
    obtain ⟨t, x, y, ht, hx, hy, et, ex, ey⟩ := hGO g hg
    obtain ⟨r, hr, er, hrow⟩ := hRO t ht
    have hpg := hp g hg
    rw [fz_RwE ht hr et er] at hpg
    obtain ⟨c, d, hc, hd, ec, ed, gc, gd⟩ := hrow (p g) hpg
    exact ⟨t, x, y, c, d, ht, hx, hy, hc, hd, et, ex, ey, ec, ed, gc, gd, by omega⟩
  refine fz_unb (fun bd0 hbd0 => fz_pick hG hGO hRO eG hp ez (fun pk hpk => ?_))
  have hb0 : fz_Vb tm n bd0 (fun _ => none) := ⟨fun _ _ => rfl, fun v hv => .inl ⟨rfl, hbd0 v hv⟩⟩
  -- disequalities
  have L194 : ∀ (b : Nat → Option Nat) (bd : Nat → Int32), fz_Vb tm n bd b → (∀ v, fz_Gv tm a_goalX a_goalY G v → b v ≠ none) → (∀ s, fz_As s → fz_Mt tm a_goalTable a_goalX a_goalY a_left a_right 0 G p s → fz_ex tm b s) → fz_As (fz_tot tm b) → fz_Mt tm a_goalTable a_goalX a_goalY a_left a_right 0 G p (fz_tot tm b) → fz_Eq tm a_equalX a_equalY E (fz_tot tm b) →
      ∀ (k i : Nat) (tx fr sk : Nat → Int32), i + k = D → fz_Df tm a_differX a_differY i (fz_tot tm b) → wY_tryChoice_194 post (k + 1) (nI i) f_variables f_cells f_goals f_equations f_disequalities f_solved f_found a_sign a_first a_second a_rows a_left a_right a_goalTable a_goalX a_goalY a_goalFrozen a_equalX a_equalY a_differX a_differY a_choiceOf pk bd tx fr sk := by
    intro b bd hb hgv hall hA hM hEq k
    induction k with
    | zero =>
      intro i tx fr sk hi hdf
      have e : i = D := by omega
      subst e
      exact pk_le i i (fun _ => h1 b bd pk tx fr sk hb hgv hA hM hEq hdf) (fun h => absurd h (by omega)) eD
    | succ k ih =>
      intro i tx fr sk hi hdf
      obtain ⟨x, y, hx, hy, ex, ey⟩ := hQD i (by omega)
      have hvi := hvD i (by omega)
      rw [ex, ey, nI_clamp (n := x) (by omega), nI_clamp (n := y) (by omega)] at hvi
      have vx : ∀ v, 100 + v ∈ tm x → b v ≠ none := fun v hv => hgv v (hvi v (.inl hv))
      have vy : ∀ v, 100 + v ∈ tm y → b v ≠ none := fun v hv => hgv v (hvi v (.inr hv))
      have ci : (nI i).toNatClampNeg = i := nI_clamp (by omega)
      have ii : vp_in (nI i) 6 := vp_in_nI (by omega) (by omega)
      refine pk_le D i (fun h => absurd h (by omega)) (fun _ => ⟨ii, ii, fz_same hV hn hC hb hx hy (by rw [ci]; exact ex) (by rw [ci]; exact ey) (fun e tx' fr' sk' => ?_) (fun e tx' fr' sk' => ?_)⟩) eD
      · refine br_f (by decide) (h0 ?_ bd pk tx' fr' sk')
        rintro ⟨s, hs, m, _, dd⟩
        have hx' := hall s hs m
        have := dd i (by omega)
        rw [ex, ey, nI_clamp (n := x) (by omega), nI_clamp (n := y) (by omega), fz_stx vx hx', fz_stx vy hx'] at this
        exact this e
      · refine br_t rfl (nm_r (nI_1 i) (ih (i + 1) tx' fr' sk' (by omega) (fun j hj => ?_)))
        rcases Nat.lt_or_ge j i with h2 | h2
        · exact hdf j h2
        · have : j = i := by omega
          subst this
          rw [ex, ey, nI_clamp (n := x) (by omega), nI_clamp (n := y) (by omega), fz_stx vx (fz_totE tm b), fz_stx vy (fz_totE tm b)]
          exact e
  -- equations
  have L157 : ∀ (b : Nat → Option Nat) (bd : Nat → Int32), fz_Vb tm n bd b → (∀ v, fz_Gv tm a_goalX a_goalY G v → b v ≠ none) → (∀ s, fz_As s → fz_Mt tm a_goalTable a_goalX a_goalY a_left a_right 0 G p s → fz_ex tm b s) → fz_As (fz_tot tm b) → fz_Mt tm a_goalTable a_goalX a_goalY a_left a_right 0 G p (fz_tot tm b) →
      ∀ (k i : Nat) (tx fr sk : Nat → Int32), i + k = E → fz_Eq tm a_equalX a_equalY i (fz_tot tm b) → wY_tryChoice_157 post (k + 1) (nI i) f_variables f_cells f_goals f_equations f_disequalities f_solved f_found a_sign a_first a_second a_rows a_left a_right a_goalTable a_goalX a_goalY a_goalFrozen a_equalX a_equalY a_differX a_differY a_choiceOf pk bd tx fr sk := by
    intro b bd hb hgv hall hA hM k
    induction k with
    | zero =>
      intro i tx fr sk hi heq
      have e : i = E := by omega
      subst e
      exact pk_le i i (fun _ => ⟨D + 1, L194 b bd hb hgv hall hA hM heq D 0 tx fr sk (by omega) (fun j hj => absurd hj (by omega))⟩) (fun h => absurd h (by omega)) eE
    | succ k ih =>
      intro i tx fr sk hi heq
      obtain ⟨x, y, hx, hy, ex, ey⟩ := hQE i (by omega)
      have hvi := hvE i (by omega)
      rw [ex, ey, nI_clamp (n := x) (by omega), nI_clamp (n := y) (by omega)] at hvi
      have vx : ∀ v, 100 + v ∈ tm x → b v ≠ none := fun v hv => hgv v (hvi v (.inl hv))
      have vy : ∀ v, 100 + v ∈ tm y → b v ≠ none := fun v hv => hgv v (hvi v (.inr hv))
      have ci : (nI i).toNatClampNeg = i := nI_clamp (by omega)
      have ii : vp_in (nI i) 4 := vp_in_nI (by omega) (by omega)
      refine pk_le E i (fun h => absurd h (by omega)) (fun _ => ⟨ii, ii, fz_same hV hn hC hb hx hy (by rw [ci]; exact ex) (by rw [ci]; exact ey) (fun e tx' fr' sk' => ?_) (fun e tx' fr' sk' => ?_)⟩) eE
      · refine br_f (by decide) (nm_r (nI_1 i) (ih (i + 1) tx' fr' sk' (by omega) (fun j hj => ?_)))
        rcases Nat.lt_or_ge j i with h2 | h2
        · exact heq j h2
        · have : j = i := by omega
          subst this
          rw [ex, ey, nI_clamp (n := x) (by omega), nI_clamp (n := y) (by omega), fz_stx vx (fz_totE tm b), fz_stx vy (fz_totE tm b)]
          exact e
      · refine br_t rfl (h0 ?_ bd pk tx' fr' sk')
        rintro ⟨s, hs, m, qq, _⟩
        have hx' := hall s hs m
        have := qq i (by omega)
        rw [ex, ey, nI_clamp (n := x) (by omega), nI_clamp (n := y) (by omega), fz_stx vx hx', fz_stx vy hx'] at this
        exact e this
  -- the goals once more, with the values
  have L84 : ∀ (b : Nat → Option Nat) (bd : Nat → Int32), fz_Vb tm n bd b → (∀ v, fz_Gv tm a_goalX a_goalY G v → b v ≠ none) → (∀ s, fz_As s → fz_Mt tm a_goalTable a_goalX a_goalY a_left a_right 0 G p s → fz_ex tm b s) → fz_As (fz_tot tm b) →
      ∀ (k g : Nat) (tx fr sk : Nat → Int32), g + k = G → (∀ j, j < g → fz_sb (fz_tot tm b) (tm (a_goalX j).toNatClampNeg) = tm (a_left (6 * (a_goalTable j).toNatClampNeg + p j)).toNatClampNeg ∧ fz_sb (fz_tot tm b) (tm (a_goalY j).toNatClampNeg) = tm (a_right (6 * (a_goalTable j).toNatClampNeg + p j)).toNatClampNeg) → wY_tryChoice_84 post (k + 1) (nI g) f_variables f_cells f_goals f_equations f_disequalities f_solved f_found a_sign a_first a_second a_rows a_left a_right a_goalTable a_goalX a_goalY a_goalFrozen a_equalX a_equalY a_differX a_differY a_choiceOf pk bd tx fr sk := by
    intro b bd hb hgv hall hA k
    induction k with
    | zero =>
      intro g tx fr sk hg hm
      have e : g = G := by omega
      subst e
      exact pk_le g g (fun _ => ⟨E + 1, L157 b bd hb hgv hall hA (fun j _ hj => hm j hj) E 0 tx fr sk (by omega) (fun j hj => absurd hj (by omega))⟩) (fun h => absurd h (by omega)) eG
    | succ k ih =>
      intro g tx fr sk hg hm
      obtain ⟨t, x, y, c, d, ht, hx, hy, hc, hd, et, ex, ey, ec, ed, gc, gd, hp6⟩ := goalAt g (by omega)
      have cg : (nI g).toNatClampNeg = g := nI_clamp (by omega)
      have ig : vp_in (nI g) 4 := vp_in_nI (by omega) (by omega)
      have IX : 6 * a_goalTable (nI g).toNatClampNeg + pk (nI g).toNatClampNeg = nI (6 * t + p g) := by
        rw [cg, et, hpk g (by omega)]
        show nI 6 * nI t + nI (p g) = _
        rw [pk_mul, nI_add]
      have iI : vp_in (nI (6 * t + p g)) 24 := vp_in_nI (by omega) (by omega)
      have GX : a_goalX (nI g).toNatClampNeg = nI x := by rw [cg]; exact ex
      have GY : a_goalY (nI g).toNatClampNeg = nI y := by rw [cg]; exact ey
      have LL : a_left (nI (6 * t + p g)).toNatClampNeg = nI c := by rw [nI_clamp (by omega)]; exact ec
      have RR : a_right (nI (6 * t + p g)).toNatClampNeg = nI d := by rw [nI_clamp (by omega)]; exact ed
      have vx : ∀ v, 100 + v ∈ tm x → b v ≠ none := fun v hv => hgv v ⟨g, by omega, .inl (by rw [ex, nI_clamp (by omega)]; exact hv)⟩
      have vy : ∀ v, 100 + v ∈ tm y → b v ≠ none := fun v hv => hgv v ⟨g, by omega, .inr (by rw [ey, nI_clamp (by omega)]; exact hv)⟩
      have step := fun s => fz_MtS (tm := tm) (gt := a_goalTable) (gx := a_goalX) (gy := a_goalY) (rl := a_left) (rr := a_right) (j := g) (G := G) (p := p) (s := s) (by omega) ht (by omega) (by omega) (by omega) (by omega) et ex ey ec ed
      refine pk_le G g (fun h => absurd h (by omega)) (fun _ => ⟨ig, ig, nm_r IX ⟨ig, iI, fz_same hV hn hC hb hx hc GX LL (fun e tx' fr' sk' => ?_) (fun e tx' fr' sk' => ?_)⟩⟩) eG
      · refine br_f (by decide) ⟨ig, iI, fz_same hV hn hC hb hy hd GY RR (fun e2 tx2 fr2 sk2 => ?_) (fun e2 tx2 fr2 sk2 => ?_)⟩
        · refine br_f (by decide) (nm_r (nI_1 g) (ih (g + 1) tx2 fr2 sk2 (by omega) (fun j hj => ?_)))
          rcases Nat.lt_or_ge j g with h2 | h2
          · exact hm j h2
          · have : j = g := by omega
            subst this
            rw [et, nI_clamp (n := t) (by omega), ex, ey, ec, ed, nI_clamp (n := x) (by omega), nI_clamp (n := y) (by omega), nI_clamp (n := c) (by omega), nI_clamp (n := d) (by omega), fz_stx vx (fz_totE tm b), fz_stx vy (fz_totE tm b), e, e2, fz_txG gc, fz_txG gd]
            exact ⟨rfl, rfl⟩
        · refine br_t rfl (h0 ?_ bd pk tx2 fr2 sk2)
          rintro ⟨s, hs, m, _, _⟩
          have hx' := hall s hs m
          have := ((step s).mp (fun j _ hj => m j (Nat.zero_le _) hj)).1.2
          rw [fz_stx vy hx', ← fz_txG (b := b) gd] at this
          exact e2 this
      · refine br_t rfl (h0 ?_ bd pk tx' fr' sk')
        rintro ⟨s, hs, m, _, _⟩
        have hx' := hall s hs m
        have := ((step s).mp (fun j _ hj => m j (Nat.zero_le _) hj)).1.1
        rw [fz_stx vx hx', ← fz_txG (b := b) gc] at this
        exact e this
  -- the goals read beside their rows
  have L11 : ∀ (k g : Nat) (b : Nat → Option Nat) (bd tx fr sk : Nat → Int32), g + k = G → fz_Vb tm n bd b → (∀ j, j < g → ∀ v, (100 + v ∈ tm (a_goalX j).toNatClampNeg ∨ 100 + v ∈ tm (a_goalY j).toNatClampNeg) → b v ≠ none) → (∀ s, fz_As s → fz_Mt tm a_goalTable a_goalX a_goalY a_left a_right 0 G p s → fz_ex tm b s) →
      wY_tryChoice_11 post (k + 1) (nI g) f_variables f_cells f_goals f_equations f_disequalities f_solved f_found a_sign a_first a_second a_rows a_left a_right a_goalTable a_goalX a_goalY a_goalFrozen a_equalX a_equalY a_differX a_differY a_choiceOf pk bd tx fr sk := by
    intro k
    induction k with
    | zero =>
      intro g b bd tx fr sk hg hb hv hall
      have e : g = G := by omega
      subst e
      have hA : fz_As (fz_tot tm b) := fz_totA (fun v c hvc => ⟨(hC c (fz_Vbn hb v c hvc).2.1).1, (fz_Vbn hb v c hvc).2.2.2⟩)
      refine pk_le g g (fun _ => ⟨g + 1, L84 b bd hb (fun v hgv => ?_) hall hA g 0 tx fr sk (by omega) (fun j hj => absurd hj (by omega))⟩) (fun h => absurd h (by omega)) eG
      obtain ⟨j, hj, hh⟩ := hgv
      exact hv j hj v hh
    | succ k ih =>
      intro g b bd tx fr sk hg hb hv hall
      obtain ⟨t, x, y, c, d, ht, hx, hy, hc, hd, et, ex, ey, ec, ed, gc, gd, hp6⟩ := goalAt g (by omega)
      have cg : (nI g).toNatClampNeg = g := nI_clamp (by omega)
      have ig : vp_in (nI g) 4 := vp_in_nI (by omega) (by omega)
      have IX : 6 * a_goalTable (nI g).toNatClampNeg + pk (nI g).toNatClampNeg = nI (6 * t + p g) := by
        rw [cg, et, hpk g (by omega)]
        show nI 6 * nI t + nI (p g) = _
        rw [pk_mul, nI_add]
      have iI : vp_in (nI (6 * t + p g)) 24 := vp_in_nI (by omega) (by omega)
      have GX : a_goalX (nI g).toNatClampNeg = nI x := by rw [cg]; exact ex
      have GY : a_goalY (nI g).toNatClampNeg = nI y := by rw [cg]; exact ey
      have LL : a_left (nI (6 * t + p g)).toNatClampNeg = nI c := by rw [nI_clamp (by omega)]; exact ec
      have RR : a_right (nI (6 * t + p g)).toNatClampNeg = nI d := by rw [nI_clamp (by omega)]; exact ed
      have step := fun s => fz_MtS (tm := tm) (gt := a_goalTable) (gx := a_goalX) (gy := a_goalY) (rl := a_left) (rr := a_right) (j := g) (G := G) (p := p) (s := s) (by omega) ht (by omega) (by omega) (by omega) (by omega) et ex ey ec ed
      refine pk_le G g (fun h => absurd h (by omega)) (fun _ => ⟨ig, ig, nm_r IX ⟨ig, iI, fz_read hV hn hC hb hx hc gc GX LL (fun b1 bd1 tx1 fr1 sk1 hb1 le1 v1 a1 => ?_) (fun e bd1 tx1 fr1 sk1 => ?_)⟩⟩) eG
      · refine br_f (by decide) ⟨ig, iI, fz_read hV hn hC hb1 hy hd gd GY RR (fun b2 bd2 tx2 fr2 sk2 hb2 le2 v2 a2 => ?_) (fun e bd2 tx2 fr2 sk2 => ?_)⟩
        · refine br_f (by decide) (nm_r (nI_1 g) (ih (g + 1) b2 bd2 tx2 fr2 sk2 (by omega) hb2 (fun j hj v hh => ?_) (fun s hs m => ?_)))
          · rcases Nat.lt_or_ge j g with h2 | h2
            · exact fz_lene le2 (fz_lene le1 (hv j h2 v hh))
            · have : j = g := by omega
              subst this
              rw [ex, ey, nI_clamp (n := x) (by omega), nI_clamp (n := y) (by omega)] at hh
              rcases hh with hh | hh
              · exact fz_lene le2 (v1 v hh)
              · exact v2 v hh
          · have q := ((step s).mp (fun j _ hj => m j (Nat.zero_le _) hj)).1
            exact a2 s hs (a1 s hs (hall s hs m) q.1) q.2
        · refine br_t rfl (h0 ?_ bd2 pk tx2 fr2 sk2)
          rintro ⟨s, hs, m, _, _⟩
          exact e s hs ((step s).mp (fun j _ hj => m j (Nat.zero_le _) hj)).1.2
      · refine br_t rfl (h0 ?_ bd1 pk tx1 fr1 sk1)
        rintro ⟨s, hs, m, _, _⟩
        exact e s hs ((step s).mp (fun j _ hj => m j (Nat.zero_le _) hj)).1.1
  exact ⟨G + 1, L11 G 0 (fun _ => none) bd0 a_text a_from a_stack (by omega) hb0 (fun j hj => absurd hj (by omega)) (fun s _ _ v c hvc => absurd hvc (by simp))⟩
theorem fz_num (hV : V ≤ 6) (hn : n ≤ 48) (hC : fz_CY V tm n a_sign a_first a_second) {c : Nat} (hc : c < n) {z : Int32} (ez : z = nI c) {post : Int64 → SY → Prop} (h : ∀ tx fr sk, post (lN (fz_vl (tm c))) (f_variables, f_cells, f_goals, f_equations, f_disequalities, f_solved, f_found, a_sign, a_first, a_second, a_rows, a_left, a_right, a_goalTable, a_goalX, a_goalY, a_goalFrozen, a_equalX, a_equalY, a_differX, a_differY, a_choiceOf, a_pick, a_bind, tx, fr, sk)) : wpY_number post (f_variables, f_cells, f_goals, f_equations, f_disequalities, f_solved, f_found, a_sign, a_first, a_second, a_rows, a_left, a_right, a_goalTable, a_goalX, a_goalY, a_goalFrozen, a_equalX, a_equalY, a_differX, a_differY, a_choiceOf, a_pick, a_bind, a_text, a_from, a_stack) z := by
  refine fz_write hV hn hC (b := fun _ => none) (.inl ⟨rfl, rfl⟩) (base := 0) (by omega) rfl hc ez (fun tx fr sk hsp _ _ => ?_)
  rw [fz_txN] at hsp ⊢
  have hl := (hC c hc).2.1
  have key : ∀ (r w : List Nat), tm c = w ++ r → wY_number_13 post (nI (tm c).length) f_variables f_cells f_goals f_equations f_disequalities f_solved f_found a_sign a_first a_second a_rows a_left a_right a_goalTable a_goalX a_goalY a_goalFrozen a_equalX a_equalY a_differX a_differY a_choiceOf a_pick a_bind tx fr sk (r.length + 1) (lN (fz_vl w)) (nI w.length) := by
    intro r
    induction r with
    | nil =>
      intro w e
      rw [List.append_nil] at e
      rw [← e]
      exact pk_le (tm c).length (tm c).length (fun _ => h tx fr sk) (fun h => absurd h (by omega))
    | cons a r ih =>
      intro w e
      have hlen : (tm c).length = w.length + (r.length + 1) := by rw [e, List.length_append, List.length_cons]
      have hm : a ∈ tm c := by rw [e]; exact List.mem_append_right _ List.mem_cons_self
      have ha := fz_symb hC hc hm
      have hg : (tm c)[w.length]? = some a := by
        rw [e, List.getElem?_append_right (Nat.le_refl _), Nat.sub_self]
        rfl
      have T : tx (nI w.length).toNatClampNeg = nI a := by rw [nI_clamp (by omega), ← hsp _ a hg, Nat.zero_add]
      have N : 18 * lN (fz_vl w) + (tx (nI w.length).toNatClampNeg).toInt64 = lN (fz_vl (w ++ [a])) := by
        rw [T, nI_l (by omega), fz_vS, ← lN_add, ← lN_mul]
        rfl
      have L1 : nI w.length + 1 = nI (w ++ [a]).length := by rw [nI_1, List.length_append]; rfl
      exact pk_le (tm c).length w.length (fun h => absurd h (by omega)) (fun _ => ⟨vp_in_nI (by omega) (by omega), nm_r N (nm_r L1 (ih (w ++ [a]) (by rw [e]; simp)))⟩)
  exact ⟨(tm c).length + 1, key (tm c) [] rfl⟩
end
end
section
/-! ===== bits ===== -/
theorem fz_b1 : ∀ i, i < 32 → bt 1 i = decide (i = 0) := by decide +kernel
theorem fz_bit (x : Int32) {v : Nat} (hv : v < 32) : (x >>> (nI v &&& 31)) &&& 1 = 1 ↔ bt x v = true := by
  have h : ∀ i, i < 32 → bt ((x >>> (nI v &&& 31)) &&& 1) i = (decide (i = 0) && bt x v) := by
    intro i hi
    rw [b_and, fz_b1 i hi]
    by_cases e : i = 0
    · subst e
      rw [b_sshr v hv x hi, if_pos (by omega), Nat.add_zero, Bool.and_comm]
    · rw [decide_eq_false e, Bool.and_false, Bool.false_and]
  constructor
  · intro e
    have := h 0 (by omega)
    rw [e, fz_b1 0 (by omega)] at this
    simpa using this.symm
  · intro e
    refine b_ext (fun i hi => ?_)
    rw [h i hi, e, fz_b1 i hi, Bool.and_true]
theorem fz_one {v : Nat} (hv : v < 32) {i : Nat} (hi : i < 32) : bt ((1 : Int32) <<< (nI v &&& 31)) i = decide (i = v) := by
  rw [b_shl v hv 1 hi]
  by_cases e : i = v
  · subst e
    rw [Nat.sub_self, fz_b1 0 (by omega)]
    simp
  · by_cases l : v ≤ i
    · rw [fz_b1 (i - v) (by omega), decide_eq_false (show ¬ i - v = 0 by omega), decide_eq_false e, Bool.and_false]
    · rw [decide_eq_false l, decide_eq_false e, Bool.false_and]
/-- the variable is spoken of: a goal is frozen on it, or it stands in an equation or a disequality -/
def fz_Sp (tm : Nat → List Nat) (gf ex ey dx dy : Nat → Int32) (G E D v : Nat) : Prop :=
  (∃ g, g < G ∧ gf g = nI v) ∨ (∃ i, i < E ∧ (100 + v ∈ tm (ex i).toNatClampNeg ∨ 100 + v ∈ tm (ey i).toNatClampNeg)) ∨ (∃ i, i < D ∧ (100 + v ∈ tm (dx i).toNatClampNeg ∨ 100 + v ∈ tm (dy i).toNatClampNeg))
section
variable {f_variables f_cells f_goals f_equations f_disequalities f_solved f_found : Int32} {a_sign a_first a_second a_rows a_left a_right a_goalTable a_goalX a_goalY a_goalFrozen a_equalX a_equalY a_differX a_differY a_choiceOf a_pick a_bind a_text a_from a_stack : Nat → Int32}
variable {V n G E D : Nat} {tm : Nat → List Nat}
theorem fz_ing (hV : V ≤ 6) (hn : n ≤ 48) (hC : fz_CY V tm n a_sign a_first a_second) (hG : G ≤ 4) (hGO : fz_GO n a_goalTable a_goalX a_goalY G) (eG : f_goals = nI G) {v : Nat} (hv : v < 6) {zv : Int32} (ev : zv = nI v) {post : Int32 → SY → Prop}
    (h1 : fz_Gv tm a_goalX a_goalY G v → ∀ tx fr sk, post 1 (f_variables, f_cells, f_goals, f_equations, f_disequalities, f_solved, f_found, a_sign, a_first, a_second, a_rows, a_left, a_right, a_goalTable, a_goalX, a_goalY, a_goalFrozen, a_equalX, a_equalY, a_differX, a_differY, a_choiceOf, a_pick, a_bind, tx, fr, sk)) (h0 : ¬ fz_Gv tm a_goalX a_goalY G v → ∀ tx fr sk, post 0 (f_variables, f_cells, f_goals, f_equations, f_disequalities, f_solved, f_found, a_sign, a_first, a_second, a_rows, a_left, a_right, a_goalTable, a_goalX, a_goalY, a_goalFrozen, a_equalX, a_equalY, a_differX, a_differY, a_choiceOf, a_pick, a_bind, tx, fr, sk)) : wpY_inGoals post (f_variables, f_cells, f_goals, f_equations, f_disequalities, f_solved, f_found, a_sign, a_first, a_second, a_rows, a_left, a_right, a_goalTable, a_goalX, a_goalY, a_goalFrozen, a_equalX, a_equalY, a_differX, a_differY, a_choiceOf, a_pick, a_bind, a_text, a_from, a_stack) zv := by
  subst ev
  have key : ∀ (k g : Nat) (tx fr sk : Nat → Int32), g + k = G → (∀ j, j < g → ¬ (100 + v ∈ tm (a_goalX j).toNatClampNeg ∨ 100 + v ∈ tm (a_goalY j).toNatClampNeg)) → wY_inGoals_2 post (nI v) (k + 1) (nI g) f_variables f_cells f_goals f_equations f_disequalities f_solved f_found a_sign a_first a_second a_rows a_left a_right a_goalTable a_goalX a_goalY a_goalFrozen a_equalX a_equalY a_differX a_differY a_choiceOf a_pick a_bind tx fr sk := by
    intro k
    induction k with
    | zero =>
      intro g tx fr sk hg hno
      have e : g = G := by omega
      subst e
      refine pk_le g g (fun _ => h0 ?_ tx fr sk) (fun h => absurd h (by omega)) eG
      rintro ⟨j, hj, hh⟩
      exact hno j hj hh
    | succ k ih =>
      intro g tx fr sk hg hno
      obtain ⟨t, x, y, ht, hx, hy, et, ex, ey⟩ := hGO g (by omega)
      have cg : (nI g).toNatClampNeg = g := nI_clamp (by omega)
      have ig : vp_in (nI g) 4 := vp_in_nI (by omega) (by omega)
      refine pk_le G g (fun h => absurd h (by omega)) (fun _ => ⟨ig, fz_occ hV hn hC hx hv rfl (by rw [cg]; exact ex) (fun hm tx1 fr1 sk1 => ?_) (fun hm tx1 fr1 sk1 => ?_)⟩) eG
      · refine br_f (by decide) (h1 ⟨g, by omega, .inl ?_⟩ tx1 fr1 sk1)
        rw [ex, nI_clamp (by omega)]
        exact hm
      · refine br_t rfl ⟨ig, fz_occ hV hn hC hy hv rfl (by rw [cg]; exact ey) (fun hm2 tx2 fr2 sk2 => ?_) (fun hm2 tx2 fr2 sk2 => ?_)⟩
        · refine br_f (by decide) (h1 ⟨g, by omega, .inr ?_⟩ tx2 fr2 sk2)
          rw [ey, nI_clamp (by omega)]
          exact hm2
        · refine br_t rfl (nm_r (nI_1 g) (ih (g + 1) tx2 fr2 sk2 (by omega) (fun j hj => ?_)))
          rcases Nat.lt_or_ge j g with h2 | h2
          · exact hno j h2
          · have : j = g := by omega
            subst this
            rw [ex, ey, nI_clamp (n := x) (by omega), nI_clamp (n := y) (by omega)]
            rintro (q | q)
            · exact hm q
            · exact hm2 q
  exact ⟨G + 1, key G 0 a_text a_from a_stack (by omega) (fun j hj => absurd hj (by omega))⟩
theorem fz_spo (hV : V ≤ 6) (hn : n ≤ 48) (hC : fz_CY V tm n a_sign a_first a_second) (hG : G ≤ 4) (eG : f_goals = nI G) (hE : E ≤ 4) (hQE : fz_QO n a_equalX a_equalY E) (eE : f_equations = nI E) (hD : D ≤ 6) (hQD : fz_QO n a_differX a_differY D) (eD : f_disequalities = nI D) {v : Nat} (hv : v < 6) {zv : Int32} (ev : zv = nI v) {post : Int32 → SY → Prop}
    (h1 : fz_Sp tm a_goalFrozen a_equalX a_equalY a_differX a_differY G E D v → ∀ tx fr sk, post 1 (f_variables, f_cells, f_goals, f_equations, f_disequalities, f_solved, f_found, a_sign, a_first, a_second, a_rows, a_left, a_right, a_goalTable, a_goalX, a_goalY, a_goalFrozen, a_equalX, a_equalY, a_differX, a_differY, a_choiceOf, a_pick, a_bind, tx, fr, sk)) (h0 : ¬ fz_Sp tm a_goalFrozen a_equalX a_equalY a_differX a_differY G E D v → ∀ tx fr sk, post 0 (f_variables, f_cells, f_goals, f_equations, f_disequalities, f_solved, f_found, a_sign, a_first, a_second, a_rows, a_left, a_right, a_goalTable, a_goalX, a_goalY, a_goalFrozen, a_equalX, a_equalY, a_differX, a_differY, a_choiceOf, a_pick, a_bind, tx, fr, sk)) : wpY_spokenOf post (f_variables, f_cells, f_goals, f_equations, f_disequalities, f_solved, f_found, a_sign, a_first, a_second, a_rows, a_left, a_right, a_goalTable, a_goalX, a_goalY, a_goalFrozen, a_equalX, a_equalY, a_differX, a_differY, a_choiceOf, a_pick, a_bind, a_text, a_from, a_stack) zv := by
  subst ev
  have k76 : (∀ g, g < G → ¬ a_goalFrozen g = nI v) → (∀ j, j < E → ¬ (100 + v ∈ tm (a_equalX j).toNatClampNeg ∨ 100 + v ∈ tm (a_equalY j).toNatClampNeg)) → ∀ (k g : Nat) (tx fr sk : Nat → Int32), g + k = D → (∀ j, j < g → ¬ (100 + v ∈ tm (a_differX j).toNatClampNeg ∨ 100 + v ∈ tm (a_differY j).toNatClampNeg)) → wY_spokenOf_76 post (nI v) (k + 1) (nI g) f_variables f_cells f_goals f_equations f_disequalities f_solved f_found a_sign a_first a_second a_rows a_left a_right a_goalTable a_goalX a_goalY a_goalFrozen a_equalX a_equalY a_differX a_differY a_choiceOf a_pick a_bind tx fr sk := by
    intro n1 n2 k
    induction k with
    | zero =>
      intro g tx fr sk hg hno
      have e : g = D := by omega
      subst e
      refine pk_le g g (fun _ => h0 ?_ tx fr sk) (fun h => absurd h (by omega)) eD
      rintro (⟨j, hj, hh⟩ | ⟨j, hj, hh⟩ | ⟨j, hj, hh⟩)
      · exact n1 j hj hh
      · exact n2 j hj hh
      · exact hno j hj hh
    | succ k ih =>
      intro g tx fr sk hg hno
      obtain ⟨x, y, hx, hy, ex, ey⟩ := hQD g (by omega)
      have cg : (nI g).toNatClampNeg = g := nI_clamp (by omega)
      have ig : vp_in (nI g) 6 := vp_in_nI (by omega) (by omega)
      refine pk_le D g (fun h => absurd h (by omega)) (fun _ => ⟨ig, fz_occ hV hn hC hx hv rfl (by rw [cg]; exact ex) (fun hm tx1 fr1 sk1 => ?_) (fun hm tx1 fr1 sk1 => ?_)⟩) eD
      · refine br_f (by decide) (h1 (.inr (.inr ⟨g, by omega, .inl ?_⟩)) tx1 fr1 sk1)
        rw [ex, nI_clamp (by omega)]
        exact hm
      · refine br_t rfl ⟨ig, fz_occ hV hn hC hy hv rfl (by rw [cg]; exact ey) (fun hm2 tx2 fr2 sk2 => ?_) (fun hm2 tx2 fr2 sk2 => ?_)⟩
        · refine br_f (by decide) (h1 (.inr (.inr ⟨g, by omega, .inr ?_⟩)) tx2 fr2 sk2)
          rw [ey, nI_clamp (by omega)]
          exact hm2
        · refine br_t rfl (nm_r (nI_1 g) (ih (g + 1) tx2 fr2 sk2 (by omega) (fun j hj => ?_)))
          rcases Nat.lt_or_ge j g with h2 | h2
          · exact hno j h2
          · have : j = g := by omega
            subst this
            rw [ex, ey, nI_clamp (n := x) (by omega), nI_clamp (n := y) (by omega)]
            rintro (q | q)
            · exact hm q
            · exact hm2 q
  have k30 : (∀ g, g < G → ¬ a_goalFrozen g = nI v) → ∀ (k g : Nat) (tx fr sk : Nat → Int32), g + k = E → (∀ j, j < g → ¬ (100 + v ∈ tm (a_equalX j).toNatClampNeg ∨ 100 + v ∈ tm (a_equalY j).toNatClampNeg)) → wY_spokenOf_30 post (nI v) (k + 1) (nI g) f_variables f_cells f_goals f_equations f_disequalities f_solved f_found a_sign a_first a_second a_rows a_left a_right a_goalTable a_goalX a_goalY a_goalFrozen a_equalX a_equalY a_differX a_differY a_choiceOf a_pick a_bind tx fr sk := by
    intro n1 k
    induction k with
    | zero =>
      intro g tx fr sk hg hno
      have e : g = E := by omega
      subst e
      exact pk_le g g (fun _ => ⟨D + 1, k76 n1 hno D 0 tx fr sk (by omega) (fun j hj => absurd hj (by omega))⟩) (fun h => absurd h (by omega)) eE
    | succ k ih =>
      intro g tx fr sk hg hno
      obtain ⟨x, y, hx, hy, ex, ey⟩ := hQE g (by omega)
      have cg : (nI g).toNatClampNeg = g := nI_clamp (by omega)
      have ig : vp_in (nI g) 4 := vp_in_nI (by omega) (by omega)
      refine pk_le E g (fun h => absurd h (by omega)) (fun _ => ⟨ig, fz_occ hV hn hC hx hv rfl (by rw [cg]; exact ex) (fun hm tx1 fr1 sk1 => ?_) (fun hm tx1 fr1 sk1 => ?_)⟩) eE
      · refine br_f (by decide) (h1 (.inr (.inl ⟨g, by omega, .inl ?_⟩)) tx1 fr1 sk1)
        rw [ex, nI_clamp (by omega)]
        exact hm
      · refine br_t rfl ⟨ig, fz_occ hV hn hC hy hv rfl (by rw [cg]; exact ey) (fun hm2 tx2 fr2 sk2 => ?_) (fun hm2 tx2 fr2 sk2 => ?_)⟩
        · refine br_f (by decide) (h1 (.inr (.inl ⟨g, by omega, .inr ?_⟩)) tx2 fr2 sk2)
          rw [ey, nI_clamp (by omega)]
          exact hm2
        · refine br_t rfl (nm_r (nI_1 g) (ih (g + 1) tx2 fr2 sk2 (by omega) (fun j hj => ?_)))
          rcases Nat.lt_or_ge j g with h2 | h2
          · exact hno j h2
          · have : j = g := by omega
            subst this
            rw [ex, ey, nI_clamp (n := x) (by omega), nI_clamp (n := y) (by omega)]
            rintro (q | q)
            · exact hm q
            · exact hm2 q
  have k2 : ∀ (k g : Nat), g + k = G → (∀ j, j < g → ¬ a_goalFrozen j = nI v) → wY_spokenOf_2 post (nI v) f_variables f_cells f_goals f_equations f_disequalities f_solved f_found a_sign a_first a_second a_rows a_left a_right a_goalTable a_goalX a_goalY a_goalFrozen a_equalX a_equalY a_differX a_differY a_choiceOf a_pick a_bind a_text a_from a_stack (k + 1) (nI g) := by
    intro k
    induction k with
    | zero =>
      intro g hg hno
      have e : g = G := by omega
      subst e
      exact pk_le g g (fun _ => ⟨E + 1, k30 hno E 0 a_text a_from a_stack (by omega) (fun j hj => absurd hj (by omega))⟩) (fun h => absurd h (by omega)) eG
    | succ k ih =>
      intro g hg hno
      have cg : (nI g).toNatClampNeg = g := nI_clamp (by omega)
      have ig : vp_in (nI g) 4 := vp_in_nI (by omega) (by omega)
      have F : a_goalFrozen (nI g).toNatClampNeg = a_goalFrozen g := by rw [cg]
      refine pk_le G g (fun h => absurd h (by omega)) (fun _ => ⟨ig, br_c (fun hf => h1 (.inl ⟨g, by omega, F.symm.trans hf⟩) _ _ _) (fun hf => nm_r (nI_1 g) (ih (g + 1) (by omega) (fun j hj => ?_)))⟩) eG
      rcases Nat.lt_or_ge j g with h2 | h2
      · exact hno j h2
      · have : j = g := by omega
        subst this
        exact fun q => hf (F.trans q)
  exact ⟨G + 1, k2 G 0 (by omega) (fun j hj => absurd hj (by omega))⟩
theorem fz_looY (hV : V ≤ 6) (hn : n ≤ 48) (hC : fz_CY V tm n a_sign a_first a_second) (eV : f_variables = nI V) (hG : G ≤ 4) (hGO : fz_GO n a_goalTable a_goalX a_goalY G) (eG : f_goals = nI G) (hE : E ≤ 4) (hQE : fz_QO n a_equalX a_equalY E) (eE : f_equations = nI E) (hD : D ≤ 6) (hQD : fz_QO n a_differX a_differY D) (eD : f_disequalities = nI D) {post : Int32 → SY → Prop}
    (h1 : (∃ v, v < V ∧ fz_Sp tm a_goalFrozen a_equalX a_equalY a_differX a_differY G E D v ∧ ¬ fz_Gv tm a_goalX a_goalY G v) → ∀ tx fr sk, post 1 (f_variables, f_cells, f_goals, f_equations, f_disequalities, f_solved, f_found, a_sign, a_first, a_second, a_rows, a_left, a_right, a_goalTable, a_goalX, a_goalY, a_goalFrozen, a_equalX, a_equalY, a_differX, a_differY, a_choiceOf, a_pick, a_bind, tx, fr, sk))
    (h0 : (∀ v, v < V → fz_Sp tm a_goalFrozen a_equalX a_equalY a_differX a_differY G E D v → fz_Gv tm a_goalX a_goalY G v) → ∀ tx fr sk, post 0 (f_variables, f_cells, f_goals, f_equations, f_disequalities, f_solved, f_found, a_sign, a_first, a_second, a_rows, a_left, a_right, a_goalTable, a_goalX, a_goalY, a_goalFrozen, a_equalX, a_equalY, a_differX, a_differY, a_choiceOf, a_pick, a_bind, tx, fr, sk)) : wpY_loose post (f_variables, f_cells, f_goals, f_equations, f_disequalities, f_solved, f_found, a_sign, a_first, a_second, a_rows, a_left, a_right, a_goalTable, a_goalX, a_goalY, a_goalFrozen, a_equalX, a_equalY, a_differX, a_differY, a_choiceOf, a_pick, a_bind, a_text, a_from, a_stack) := by
  have key : ∀ (k v : Nat) (tx fr sk : Nat → Int32), v + k = V → (∀ w, w < v → fz_Sp tm a_goalFrozen a_equalX a_equalY a_differX a_differY G E D w → fz_Gv tm a_goalX a_goalY G w) → wY_loose_2 post (k + 1) (nI v) f_variables f_cells f_goals f_equations f_disequalities f_solved f_found a_sign a_first a_second a_rows a_left a_right a_goalTable a_goalX a_goalY a_goalFrozen a_equalX a_equalY a_differX a_differY a_choiceOf a_pick a_bind tx fr sk := by
    intro k
    induction k with
    | zero =>
      intro v tx fr sk hv hno
      have e : v = V := by omega
      subst e
      exact pk_le v v (fun _ => h0 hno tx fr sk) (fun h => absurd h (by omega)) eV
    | succ k ih =>
      intro v tx fr sk hv hno
      refine pk_le V v (fun h => absurd h (by omega)) (fun _ => fz_spo hV hn hC hG eG hE hQE eE hD hQD eD (by omega) rfl (fun hs tx1 fr1 sk1 => ?_) (fun hs tx1 fr1 sk1 => ?_)) eV
      · refine br_f (by decide) (fz_ing hV hn hC hG hGO eG (by omega) rfl (fun hg tx2 fr2 sk2 => ?_) (fun hg tx2 fr2 sk2 => ?_))
        · refine br_f (by decide) (nm_r (nI_1 v) (ih (v + 1) tx2 fr2 sk2 (by omega) (fun w hw hs' => ?_)))
          rcases Nat.lt_or_ge w v with h2 | h2
          · exact hno w h2 hs'
          · have : w = v := by omega
            rw [this]
            exact hg
        · exact br_t rfl (h1 ⟨v, by omega, hs, hg⟩ tx2 fr2 sk2)
      · refine br_t rfl (nm_r (nI_1 v) (ih (v + 1) tx1 fr1 sk1 (by omega) (fun w hw hs' => ?_)))
        rcases Nat.lt_or_ge w v with h2 | h2
        · exact hno w h2 hs'
        · have : w = v := by omega
          rw [this] at hs'
          exact absurd hs' hs
  exact ⟨V + 1, key V 0 a_text a_from a_stack (by omega) (fun w hw => absurd hw (by omega))⟩
end
section
variable {f_variableCount f_cellCount f_goalCount f_frozenOn f_equationCount f_disequalityCount f_solved f_solutionCount : Int32} {a_kind a_first a_second a_size a_variablesIn a_rowCount a_rowLeft a_rowRight a_goalTable a_goalX a_goalY a_equationX a_equationY a_disequalityX a_disequalityY a_solutionChoice a_value a_walkX a_walkY : Nat → Int32} {a_code a_solutionCode : Nat → Int64}
variable {V n G E D : Nat} {tm : Nat → List Nat} {gf : Nat → Int32}
theorem fz_viB (hC : fz_CX V tm n a_kind a_first a_second a_size a_variablesIn a_code) {c : Nat} (hc : c < n) {i : Nat} (hi : i < 32) : bt (a_variablesIn c) i = true ↔ 100 + i ∈ tm c := by
  rw [(hC c hc).2.2.2.1 i hi]
  exact decide_eq_true_iff
theorem fz_or3 {x y z : Int32} {i : Nat} : bt (x ||| (y ||| z)) i = true ↔ bt x i = true ∨ (bt y i = true ∨ bt z i = true) := by
  rw [b_or, b_or, Bool.or_eq_true, Bool.or_eq_true]
theorem fz_gvX (hn : n ≤ 48) (hC : fz_CX V tm n a_kind a_first a_second a_size a_variablesIn a_code) (hG : G ≤ 4) (hGO : fz_GO n a_goalTable a_goalX a_goalY G) (eG : f_goalCount = nI G) {post : Int32 → Prop} (h : ∀ M : Int32, (∀ i, i < 32 → (bt M i = true ↔ fz_Gv tm a_goalX a_goalY G i)) → post M) : wpX_goalVariables post (f_variableCount, f_cellCount, f_goalCount, f_frozenOn, f_equationCount, f_disequalityCount, f_solved, f_solutionCount, a_kind, a_first, a_second, a_size, a_variablesIn, a_code, a_rowCount, a_rowLeft, a_rowRight, a_goalTable, a_goalX, a_goalY, a_equationX, a_equationY, a_disequalityX, a_disequalityY, a_solutionChoice, a_solutionCode, a_value, a_walkX, a_walkY) := by
  have key : ∀ (k g : Nat) (M : Int32), g + k = G → (∀ i, i < 32 → (bt M i = true ↔ fz_Gv tm a_goalX a_goalY g i)) → wX_goalVariables_4 post f_variableCount f_cellCount f_goalCount f_frozenOn f_equationCount f_disequalityCount f_solved f_solutionCount a_kind a_first a_second a_size a_variablesIn a_code a_rowCount a_rowLeft a_rowRight a_goalTable a_goalX a_goalY a_equationX a_equationY a_disequalityX a_disequalityY a_solutionChoice a_solutionCode a_value a_walkX a_walkY (k + 1) M (nI g) := by
    intro k
    induction k with
    | zero =>
      intro g M hg hM
      have e : g = G := by omega
      subst e
      exact pk_le g g (fun _ => h M hM) (fun h => absurd h (by omega)) eG
    | succ k ih =>
      intro g M hg hM
      obtain ⟨t, x, y, ht, hx, hy, et, ex, ey⟩ := hGO g (by omega)
      have cg : (nI g).toNatClampNeg = g := nI_clamp (by omega)
      have ig : vp_in (nI g) 4 := vp_in_nI (by omega) (by omega)
      have GX : a_goalX (nI g).toNatClampNeg = nI x := by rw [cg]; exact ex
      have GY : a_goalY (nI g).toNatClampNeg = nI y := by rw [cg]; exact ey
      have ix : vp_in (a_goalX (nI g).toNatClampNeg) 48 := by rw [GX]; exact vp_in_nI (by omega) (by omega)
      have iy : vp_in (a_goalY (nI g).toNatClampNeg) 48 := by rw [GY]; exact vp_in_nI (by omega) (by omega)
      refine pk_le G g (fun h => absurd h (by omega)) (fun _ => ⟨ig, ix, ig, iy, nm_r (e' := M ||| (a_variablesIn x ||| a_variablesIn y)) (by rw [GX, GY, nI_clamp (n := x) (by omega), nI_clamp (n := y) (by omega)]) (nm_r (nI_1 g) (ih (g + 1) _ (by omega) (fun i hi => ?_)))⟩) eG
      rw [fz_or3, hM i hi, fz_viB hC hx hi, fz_viB hC hy hi]
      constructor
      · rintro (⟨j, hj, hh⟩ | hh)
        · exact ⟨j, by omega, hh⟩
        · refine ⟨g, by omega, ?_⟩
          rw [ex, ey, nI_clamp (n := x) (by omega), nI_clamp (n := y) (by omega)]
          exact hh
      · rintro ⟨j, hj, hh⟩
        rcases Nat.lt_or_ge j g with h2 | h2
        · exact .inl ⟨j, h2, hh⟩
        · have : j = g := by omega
          subst this
          rw [ex, ey, nI_clamp (n := x) (by omega), nI_clamp (n := y) (by omega)] at hh
          exact .inr hh
  exact ⟨G + 1, key G 0 0 (by omega) (fun i _ => ⟨fun q => by rw [b_0] at q; exact absurd q (by decide), fun ⟨j, hj, _⟩ => absurd hj (by omega)⟩)⟩
theorem fz_looX (hn : n ≤ 48) (hC : fz_CX V tm n a_kind a_first a_second a_size a_variablesIn a_code) (hG : G ≤ 4) (hGO : fz_GO n a_goalTable a_goalX a_goalY G) (eG : f_goalCount = nI G) (hE : E ≤ 4) (hQE : fz_QO n a_equationX a_equationY E) (eE : f_equationCount = nI E) (hD : D ≤ 6) (hQD : fz_QO n a_disequalityX a_disequalityY D) (eD : f_disequalityCount = nI D)
    (hF : ∀ i, i < 32 → (bt f_frozenOn i = true ↔ ∃ g, g < G ∧ gf g = nI i)) {post : Int32 → Prop}
    (h1 : (∃ v, v < 32 ∧ fz_Sp tm gf a_equationX a_equationY a_disequalityX a_disequalityY G E D v ∧ ¬ fz_Gv tm a_goalX a_goalY G v) → post 1)
    (h0 : (∀ v, v < 32 → fz_Sp tm gf a_equationX a_equationY a_disequalityX a_disequalityY G E D v → fz_Gv tm a_goalX a_goalY G v) → post 0) : wpX_isLoose post (f_variableCount, f_cellCount, f_goalCount, f_frozenOn, f_equationCount, f_disequalityCount, f_solved, f_solutionCount, a_kind, a_first, a_second, a_size, a_variablesIn, a_code, a_rowCount, a_rowLeft, a_rowRight, a_goalTable, a_goalX, a_goalY, a_equationX, a_equationY, a_disequalityX, a_disequalityY, a_solutionChoice, a_solutionCode, a_value, a_walkX, a_walkY) := by
  have k49 : ∀ (k g : Nat) (M : Int32), g + k = D → (∀ i, i < 32 → (bt M i = true ↔ fz_Sp tm gf a_equationX a_equationY a_disequalityX a_disequalityY G E g i)) → wX_isLoose_49 post f_variableCount f_cellCount f_goalCount f_frozenOn f_equationCount f_disequalityCount f_solved f_solutionCount a_kind a_first a_second a_size a_variablesIn a_code a_rowCount a_rowLeft a_rowRight a_goalTable a_goalX a_goalY a_equationX a_equationY a_disequalityX a_disequalityY a_solutionChoice a_solutionCode a_value a_walkX a_walkY (k + 1) M (nI g) := by
    intro k
    induction k with
    | zero =>
      intro g M hg hM
      have e : g = D := by omega
      subst e
      refine pk_le g g (fun _ => fz_gvX hn hC hG hGO eG (fun N hN => ?_)) (fun h => absurd h (by omega)) eD
      have hbit : ∀ i, i < 32 → (bt (M &&& (N ^^^ (-1))) i = true ↔ (fz_Sp tm gf a_equationX a_equationY a_disequalityX a_disequalityY G E g i ∧ ¬ fz_Gv tm a_goalX a_goalY G i)) := by
        intro i hi
        rw [b_and, b_xor, b_m1 i hi, Bool.and_eq_true, hM i hi, ← hN i hi]
        cases bt N i <;> simp
      by_cases z : M &&& (N ^^^ (-1)) = 0
      · refine br_t z (h0 (fun v hv hs => ?_))
        have := hbit v hv
        rw [z, b_0] at this
        exact Classical.byContradiction (fun hg => absurd (this.mpr ⟨hs, hg⟩) (by decide))
      · refine br_f z (h1 (Classical.byContradiction (fun hno => z (b_ext (fun i hi => ?_)))))
        rw [b_0]
        cases e : bt (M &&& (N ^^^ (-1))) i with
        | false => rfl
        | true => exact absurd ⟨i, hi, (hbit i hi).mp e⟩ hno
    | succ k ih =>
      intro g M hg hM
      obtain ⟨x, y, hx, hy, ex, ey⟩ := hQD g (by omega)
      have cg : (nI g).toNatClampNeg = g := nI_clamp (by omega)
      have ig : vp_in (nI g) 6 := vp_in_nI (by omega) (by omega)
      have GX : a_disequalityX (nI g).toNatClampNeg = nI x := by rw [cg]; exact ex
      have GY : a_disequalityY (nI g).toNatClampNeg = nI y := by rw [cg]; exact ey
      have ix : vp_in (a_disequalityX (nI g).toNatClampNeg) 48 := by rw [GX]; exact vp_in_nI (by omega) (by omega)
      have iy : vp_in (a_disequalityY (nI g).toNatClampNeg) 48 := by rw [GY]; exact vp_in_nI (by omega) (by omega)
      refine pk_le D g (fun h => absurd h (by omega)) (fun _ => ⟨ig, ix, ig, iy, nm_r (e' := M ||| (a_variablesIn x ||| a_variablesIn y)) (by rw [GX, GY, nI_clamp (n := x) (by omega), nI_clamp (n := y) (by omega)]) (nm_r (nI_1 g) (ih (g + 1) _ (by omega) (fun i hi => ?_)))⟩) eD
      rw [fz_or3, hM i hi, fz_viB hC hx hi, fz_viB hC hy hi]
      constructor
      · rintro ((q | q | ⟨j, hj, hh⟩) | hh)
        · exact .inl q
        · exact .inr (.inl q)
        · exact .inr (.inr ⟨j, by omega, hh⟩)
        · refine .inr (.inr ⟨g, by omega, ?_⟩)
          rw [ex, ey, nI_clamp (n := x) (by omega), nI_clamp (n := y) (by omega)]
          exact hh
      · rintro (q | q | ⟨j, hj, hh⟩)
        · exact .inl (.inl q)
        · exact .inl (.inr (.inl q))
        · rcases Nat.lt_or_ge j g with h2 | h2
          · exact .inl (.inr (.inr ⟨j, h2, hh⟩))
          · have : j = g := by omega
            subst this
            rw [ex, ey, nI_clamp (n := x) (by omega), nI_clamp (n := y) (by omega)] at hh
            exact .inr hh
  have k7 : ∀ (k g : Nat) (M : Int32), g + k = E → (∀ i, i < 32 → (bt M i = true ↔ fz_Sp tm gf a_equationX a_equationY a_disequalityX a_disequalityY G g 0 i)) → wX_isLoose_7 post f_variableCount f_cellCount f_goalCount f_frozenOn f_equationCount f_disequalityCount f_solved f_solutionCount a_kind a_first a_second a_size a_variablesIn a_code a_rowCount a_rowLeft a_rowRight a_goalTable a_goalX a_goalY a_equationX a_equationY a_disequalityX a_disequalityY a_solutionChoice a_solutionCode a_value a_walkX a_walkY (k + 1) M (nI g) := by
    intro k
    induction k with
    | zero =>
      intro g M hg hM
      have e : g = E := by omega
      subst e
      exact pk_le g g (fun _ => ⟨D + 1, k49 D 0 M (by omega) hM⟩) (fun h => absurd h (by omega)) eE
    | succ k ih =>
      intro g M hg hM
      obtain ⟨x, y, hx, hy, ex, ey⟩ := hQE g (by omega)
      have cg : (nI g).toNatClampNeg = g := nI_clamp (by omega)
      have ig : vp_in (nI g) 4 := vp_in_nI (by omega) (by omega)
      have GX : a_equationX (nI g).toNatClampNeg = nI x := by rw [cg]; exact ex
      have GY : a_equationY (nI g).toNatClampNeg = nI y := by rw [cg]; exact ey
      have ix : vp_in (a_equationX (nI g).toNatClampNeg) 48 := by rw [GX]; exact vp_in_nI (by omega) (by omega)
      have iy : vp_in (a_equationY (nI g).toNatClampNeg) 48 := by rw [GY]; exact vp_in_nI (by omega) (by omega)
      refine pk_le E g (fun h => absurd h (by omega)) (fun _ => ⟨ig, ix, ig, iy, nm_r (e' := M ||| (a_variablesIn x ||| a_variablesIn y)) (by rw [GX, GY, nI_clamp (n := x) (by omega), nI_clamp (n := y) (by omega)]) (nm_r (nI_1 g) (ih (g + 1) _ (by omega) (fun i hi => ?_)))⟩) eE
      rw [fz_or3, hM i hi, fz_viB hC hx hi, fz_viB hC hy hi]
      constructor
      · rintro ((q | ⟨j, hj, hh⟩ | ⟨j, hj, hh⟩) | hh)
        · exact .inl q
        · exact .inr (.inl ⟨j, by omega, hh⟩)
        · exact absurd hj (by omega)
        · refine .inr (.inl ⟨g, by omega, ?_⟩)
          rw [ex, ey, nI_clamp (n := x) (by omega), nI_clamp (n := y) (by omega)]
          exact hh
      · rintro (q | ⟨j, hj, hh⟩ | ⟨j, hj, hh⟩)
        · exact .inl (.inl q)
        · rcases Nat.lt_or_ge j g with h2 | h2
          · exact .inl (.inr (.inl ⟨j, h2, hh⟩))
          · have : j = g := by omega
            subst this
            rw [ex, ey, nI_clamp (n := x) (by omega), nI_clamp (n := y) (by omega)] at hh
            exact .inr hh
        · exact absurd hj (by omega)
  refine ⟨E + 1, k7 E 0 f_frozenOn (by omega) (fun i hi => ?_)⟩
  rw [hF i hi]
  constructor
  · exact fun q => .inl q
  · rintro (q | ⟨j, hj, _⟩ | ⟨j, hj, _⟩)
    · exact q
    · exact absurd hj (by omega)
    · exact absurd hj (by omega)
end
end
section
/-! ===== a solved query ===== -/
def fz_Sv (G E D : Nat) (tm : Nat → List Nat) (f_solutionCount f_found : Int32) (a_rowCount a_rowLeft a_rowRight a_goalTable a_goalX a_goalY a_equationX a_equationY a_disequalityX a_disequalityY a_solutionChoice : Nat → Int32) (a_solutionCode : Nat → Int64) (a_choiceOf : Nat → Int32) : Prop :=
  ∃ K, K ≤ 1296 ∧ f_solutionCount = nI K ∧ f_found = nI K ∧
    (∀ i, i < E → ∀ v, (100 + v ∈ tm (a_equationX i).toNatClampNeg ∨ 100 + v ∈ tm (a_equationY i).toNatClampNeg) → fz_Gv tm a_goalX a_goalY G v) ∧
    (∀ i, i < D → ∀ v, (100 + v ∈ tm (a_disequalityX i).toNatClampNeg ∨ 100 + v ∈ tm (a_disequalityY i).toNatClampNeg) → fz_Gv tm a_goalX a_goalY G v) ∧
    ∀ k, k < K → ∃ p, (∀ g, g < G → p g < fz_Rw a_rowCount a_goalTable g) ∧ fz_Good tm a_goalTable a_goalX a_goalY a_rowLeft a_rowRight a_equationX a_equationY a_disequalityX a_disequalityY G E D p ∧ a_solutionChoice k = nI (fz_x6 p G) ∧ a_choiceOf k = nI (fz_yR (fz_Rw a_rowCount a_goalTable) p G) ∧
      ∀ s, fz_As s → fz_Mt tm a_goalTable a_goalX a_goalY a_rowLeft a_rowRight 0 G p s → ∀ v, v < 6 → fz_Gv tm a_goalX a_goalY G v → a_solutionCode (k * 6 + v) = lN (fz_vl (s v))
def fz_Inv (V : Nat) (n : Nat) (G : Nat) (E : Nat) (D : Nat) (tm : Nat → List Nat) (f_frozenOn : Int32) (f_solved : Int32) (f_solutionCount : Int32) (f_found : Int32) (a_kind : Nat → Int32) (a_first : Nat → Int32) (a_second : Nat → Int32) (a_size : Nat → Int32) (a_variablesIn : Nat → Int32) (a_code : Nat → Int64) (a_rowCount : Nat → Int32) (a_rowLeft : Nat → Int32) (a_rowRight : Nat → Int32) (a_goalTable : Nat → Int32) (a_goalX : Nat → Int32) (a_goalY : Nat → Int32) (a_equationX : Nat → Int32) (a_equationY : Nat → Int32) (a_disequalityX : Nat → Int32) (a_disequalityY : Nat → Int32) (a_solutionChoice : Nat → Int32) (a_solutionCode : Nat → Int64) (a_sign : Nat → Int32) (b_first : Nat → Int32) (a_goalFrozen : Nat → Int32) (a_choiceOf : Nat → Int32) : Prop :=
  1 ≤ V ∧ V ≤ 6 ∧ n ≤ 48 ∧ G ≤ 4 ∧ E ≤ 4 ∧ D ≤ 6 ∧
  fz_CX V tm n a_kind a_first a_second a_size a_variablesIn a_code ∧ fz_CY V tm n a_sign b_first a_second ∧
  fz_RO tm n a_rowCount a_rowLeft a_rowRight ∧ fz_GO n a_goalTable a_goalX a_goalY G ∧ fz_QO n a_equationX a_equationY E ∧ fz_QO n a_disequalityX a_disequalityY D ∧
  (∀ i, i < 32 → (bt f_frozenOn i = true ↔ ∃ g, g < G ∧ a_goalFrozen g = nI i)) ∧ (∀ g, g < G → a_goalFrozen g = -1 ∨ ∃ v, v < V ∧ a_goalFrozen g = nI v) ∧
  (f_solved = 0 ∨ (f_solved = 1 ∧ fz_Sv G E D tm f_solutionCount f_found a_rowCount a_rowLeft a_rowRight a_goalTable a_goalX a_goalY a_equationX a_equationY a_disequalityX a_disequalityY a_solutionChoice a_solutionCode a_choiceOf))
/-- both objects hold the same cells, tables and query; solved alike -/
def i_Rel (_ : Nat) (u : SX) (v : SY) : Prop := ∃ (V : Nat) (n : Nat) (G : Nat) (E : Nat) (D : Nat) (tm : Nat → List Nat) (f_frozenOn : Int32) (f_solved : Int32) (f_solutionCount : Int32) (f_found : Int32) (a_kind : Nat → Int32) (a_first : Nat → Int32) (a_second : Nat → Int32) (a_size : Nat → Int32) (a_variablesIn : Nat → Int32) (a_code : Nat → Int64) (a_rowCount : Nat → Int32) (a_rowLeft : Nat → Int32) (a_rowRight : Nat → Int32) (a_goalTable : Nat → Int32) (a_goalX : Nat → Int32) (a_goalY : Nat → Int32) (a_equationX : Nat → Int32) (a_equationY : Nat → Int32) (a_disequalityX : Nat → Int32) (a_disequalityY : Nat → Int32) (a_solutionChoice : Nat → Int32) (a_solutionCode : Nat → Int64) (a_sign : Nat → Int32) (b_first : Nat → Int32) (a_goalFrozen : Nat → Int32) (a_choiceOf : Nat → Int32) (a_value : Nat → Int32) (a_walkX : Nat → Int32) (a_walkY : Nat → Int32) (a_pick : Nat → Int32) (a_bind : Nat → Int32) (a_text : Nat → Int32) (a_from : Nat → Int32) (a_stack : Nat → Int32), u = (nI V, nI n, nI G, f_frozenOn, nI E, nI D, f_solved, f_solutionCount, a_kind, a_first, a_second, a_size, a_variablesIn, a_code, a_rowCount, a_rowLeft, a_rowRight, a_goalTable, a_goalX, a_goalY, a_equationX, a_equationY, a_disequalityX, a_disequalityY, a_solutionChoice, a_solutionCode, a_value, a_walkX, a_walkY) ∧ v = (nI V, nI n, nI G, nI E, nI D, f_solved, f_found, a_sign, b_first, a_second, a_rowCount, a_rowLeft, a_rowRight, a_goalTable, a_goalX, a_goalY, a_goalFrozen, a_equationX, a_equationY, a_disequalityX, a_disequalityY, a_choiceOf, a_pick, a_bind, a_text, a_from, a_stack) ∧ fz_Inv V n G E D tm f_frozenOn f_solved f_solutionCount f_found a_kind a_first a_second a_size a_variablesIn a_code a_rowCount a_rowLeft a_rowRight a_goalTable a_goalX a_goalY a_equationX a_equationY a_disequalityX a_disequalityY a_solutionChoice a_solutionCode a_sign b_first a_goalFrozen a_choiceOf
theorem i_up {k : Nat} {u : SX} {v : SY} (h : i_Rel k u v) : i_Rel (k + 5) u v := h
section
variable {V : Nat} {n : Nat} {G : Nat} {E : Nat} {D : Nat} {tm : Nat → List Nat} {f_frozenOn : Int32} {f_solved : Int32} {f_solutionCount : Int32} {f_found : Int32} {a_kind : Nat → Int32} {a_first : Nat → Int32} {a_second : Nat → Int32} {a_size : Nat → Int32} {a_variablesIn : Nat → Int32} {a_code : Nat → Int64} {a_rowCount : Nat → Int32} {a_rowLeft : Nat → Int32} {a_rowRight : Nat → Int32} {a_goalTable : Nat → Int32} {a_goalX : Nat → Int32} {a_goalY : Nat → Int32} {a_equationX : Nat → Int32} {a_equationY : Nat → Int32} {a_disequalityX : Nat → Int32} {a_disequalityY : Nat → Int32} {a_solutionChoice : Nat → Int32} {a_solutionCode : Nat → Int64} {a_sign : Nat → Int32} {b_first : Nat → Int32} {a_goalFrozen : Nat → Int32} {a_choiceOf : Nat → Int32} {a_value : Nat → Int32} {a_walkX : Nat → Int32} {a_walkY : Nat → Int32} {a_pick : Nat → Int32} {a_bind : Nat → Int32} {a_text : Nat → Int32} {a_from : Nat → Int32} {a_stack : Nat → Int32}
theorem fz_mk {k : Nat} (h : fz_Inv V n G E D tm f_frozenOn f_solved f_solutionCount f_found a_kind a_first a_second a_size a_variablesIn a_code a_rowCount a_rowLeft a_rowRight a_goalTable a_goalX a_goalY a_equationX a_equationY a_disequalityX a_disequalityY a_solutionChoice a_solutionCode a_sign b_first a_goalFrozen a_choiceOf) : i_Rel k (nI V, nI n, nI G, f_frozenOn, nI E, nI D, f_solved, f_solutionCount, a_kind, a_first, a_second, a_size, a_variablesIn, a_code, a_rowCount, a_rowLeft, a_rowRight, a_goalTable, a_goalX, a_goalY, a_equationX, a_equationY, a_disequalityX, a_disequalityY, a_solutionChoice, a_solutionCode, a_value, a_walkX, a_walkY) (nI V, nI n, nI G, nI E, nI D, f_solved, f_found, a_sign, b_first, a_second, a_rowCount, a_rowLeft, a_rowRight, a_goalTable, a_goalX, a_goalY, a_goalFrozen, a_equationX, a_equationY, a_disequalityX, a_disequalityY, a_choiceOf, a_pick, a_bind, a_text, a_from, a_stack) := ⟨V, n, G, E, D, tm, f_frozenOn, f_solved, f_solutionCount, f_found, a_kind, a_first, a_second, a_size, a_variablesIn, a_code, a_rowCount, a_rowLeft, a_rowRight, a_goalTable, a_goalX, a_goalY, a_equationX, a_equationY, a_disequalityX, a_disequalityY, a_solutionChoice, a_solutionCode, a_sign, b_first, a_goalFrozen, a_choiceOf, a_value, a_walkX, a_walkY, a_pick, a_bind, a_text, a_from, a_stack, rfl, rfl, h⟩
/-! ===== one cell more ===== -/
def fz_tn (tm : Nat → List Nat) (n : Nat) (A : List Nat) : Nat → List Nat := fun c => if c = n then A else tm c
theorem fz_tnS (tm : Nat → List Nat) (n : Nat) (A : List Nat) : fz_tn tm n A n = A := if_pos rfl
theorem fz_tnN (tm : Nat → List Nat) (n : Nat) (A : List Nat) {c : Nat} (h : c < n) : fz_tn tm n A c = tm c := if_neg (by omega)
theorem fz_Gvc {tm' : Nat → List Nat} (ht : ∀ c, c < n → tm' c = tm c) (hn : n ≤ 48) (hGO : fz_GO n a_goalTable a_goalX a_goalY G) (v : Nat) : fz_Gv tm' a_goalX a_goalY G v ↔ fz_Gv tm a_goalX a_goalY G v := by
  have key : ∀ g, g < G → tm' (a_goalX g).toNatClampNeg = tm (a_goalX g).toNatClampNeg ∧ tm' (a_goalY g).toNatClampNeg = tm (a_goalY g).toNatClampNeg := by
    intro g hg
    obtain ⟨t, x, y, _, hx, hy, _, ex, ey⟩ := hGO g hg
    rw [ex, ey, nI_clamp (n := x) (by omega), nI_clamp (n := y) (by omega)]
    exact ⟨ht x hx, ht y hy⟩
  constructor
  · rintro ⟨g, hg, h⟩
    rw [(key g hg).1, (key g hg).2] at h
    exact ⟨g, hg, h⟩
  · rintro ⟨g, hg, h⟩
    rw [← (key g hg).1, ← (key g hg).2] at h
    exact ⟨g, hg, h⟩
theorem fz_Mtc {tm' : Nat → List Nat} (ht : ∀ c, c < n → tm' c = tm c) (hn : n ≤ 48) (hGO : fz_GO n a_goalTable a_goalX a_goalY G) (hRO : fz_RO tm n a_rowCount a_rowLeft a_rowRight) {p : Nat → Nat} (hp : ∀ g, g < G → p g < fz_Rw a_rowCount a_goalTable g) (s : Nat → List Nat) :
    fz_Mt tm' a_goalTable a_goalX a_goalY a_rowLeft a_rowRight 0 G p s ↔ fz_Mt tm a_goalTable a_goalX a_goalY a_rowLeft a_rowRight 0 G p s := by
  have key : ∀ g, g < G → tm' (a_goalX g).toNatClampNeg = tm (a_goalX g).toNatClampNeg ∧ tm' (a_goalY g).toNatClampNeg = tm (a_goalY g).toNatClampNeg ∧ tm' (a_rowLeft (6 * (a_goalTable g).toNatClampNeg + p g)).toNatClampNeg = tm (a_rowLeft (6 * (a_goalTable g).toNatClampNeg + p g)).toNatClampNeg ∧ tm' (a_rowRight (6 * (a_goalTable g).toNatClampNeg + p g)).toNatClampNeg = tm (a_rowRight (6 * (a_goalTable g).toNatClampNeg + p g)).toNatClampNeg := by
    intro g hg
    obtain ⟨t, x, y, h4, hx, hy, et, ex, ey⟩ := hGO g hg
    obtain ⟨r, hr, er, hrow⟩ := hRO t h4
    have hpg := hp g hg
    rw [fz_RwE h4 hr et er] at hpg
    obtain ⟨c, d, hc, hd, ec, ed, _, _⟩ := hrow (p g) hpg
    rw [et, nI_clamp (n := t) (by omega), ex, ey, ec, ed, nI_clamp (n := x) (by omega), nI_clamp (n := y) (by omega), nI_clamp (n := c) (by omega), nI_clamp (n := d) (by omega)]
    exact ⟨ht x hx, ht y hy, ht c hc, ht d hd⟩
  constructor
  · intro h g hl hg
    obtain ⟨k1, k2, k3, k4⟩ := key g hg
    have := h g hl hg
    rw [k1, k2, k3, k4] at this
    exact this
  · intro h g hl hg
    obtain ⟨k1, k2, k3, k4⟩ := key g hg
    rw [k1, k2, k3, k4]
    exact h g hl hg
theorem fz_Qc {tm' : Nat → List Nat} (ht : ∀ c, c < n → tm' c = tm c) (hn : n ≤ 48) {qx qy : Nat → Int32} {Q : Nat} (hQ : fz_QO n qx qy Q) : ∀ i, i < Q → tm' (qx i).toNatClampNeg = tm (qx i).toNatClampNeg ∧ tm' (qy i).toNatClampNeg = tm (qy i).toNatClampNeg := by
  intro i hi
  obtain ⟨x, y, hx, hy, ex, ey⟩ := hQ i hi
  rw [ex, ey, nI_clamp (n := x) (by omega), nI_clamp (n := y) (by omega)]
  exact ⟨ht x hx, ht y hy⟩
theorem fz_Goodc {tm' : Nat → List Nat} (ht : ∀ c, c < n → tm' c = tm c) (hn : n ≤ 48) (hGO : fz_GO n a_goalTable a_goalX a_goalY G) (hRO : fz_RO tm n a_rowCount a_rowLeft a_rowRight) (hQE : fz_QO n a_equationX a_equationY E) (hQD : fz_QO n a_disequalityX a_disequalityY D) {p : Nat → Nat} (hp : ∀ g, g < G → p g < fz_Rw a_rowCount a_goalTable g)
    (h : fz_Good tm a_goalTable a_goalX a_goalY a_rowLeft a_rowRight a_equationX a_equationY a_disequalityX a_disequalityY G E D p) : fz_Good tm' a_goalTable a_goalX a_goalY a_rowLeft a_rowRight a_equationX a_equationY a_disequalityX a_disequalityY G E D p := by
  obtain ⟨s, hs, hM, hE, hD⟩ := h
  refine ⟨s, hs, (fz_Mtc ht hn hGO hRO hp s).mpr hM, fun i hi => ?_, fun i hi => ?_⟩
  · rw [(fz_Qc ht hn hQE i hi).1, (fz_Qc ht hn hQE i hi).2]
    exact hE i hi
  · rw [(fz_Qc ht hn hQD i hi).1, (fz_Qc ht hn hQD i hi).2]
    exact hD i hi
theorem fz_Svc {tm' : Nat → List Nat} (ht : ∀ c, c < n → tm' c = tm c) (hn : n ≤ 48) (hGO : fz_GO n a_goalTable a_goalX a_goalY G) (hRO : fz_RO tm n a_rowCount a_rowLeft a_rowRight) (hQE : fz_QO n a_equationX a_equationY E) (hQD : fz_QO n a_disequalityX a_disequalityY D)
    (h : fz_Sv G E D tm f_solutionCount f_found a_rowCount a_rowLeft a_rowRight a_goalTable a_goalX a_goalY a_equationX a_equationY a_disequalityX a_disequalityY a_solutionChoice a_solutionCode a_choiceOf) :
    fz_Sv G E D tm' f_solutionCount f_found a_rowCount a_rowLeft a_rowRight a_goalTable a_goalX a_goalY a_equationX a_equationY a_disequalityX a_disequalityY a_solutionChoice a_solutionCode a_choiceOf := by
  obtain ⟨K, hK, e1, e2, hvE, hvD, hk⟩ := h
  refine ⟨K, hK, e1, e2, fun i hi v hv => ?_, fun i hi v hv => ?_, fun k hk' => ?_⟩
  · rw [(fz_Qc ht hn hQE i hi).1, (fz_Qc ht hn hQE i hi).2] at hv
    exact (fz_Gvc ht hn hGO v).mpr (hvE i hi v hv)
  · rw [(fz_Qc ht hn hQD i hi).1, (fz_Qc ht hn hQD i hi).2] at hv
    exact (fz_Gvc ht hn hGO v).mpr (hvD i hi v hv)
  · obtain ⟨p, hp, hg, c1, c2, c3⟩ := hk k hk'
    exact ⟨p, hp, fz_Goodc ht hn hGO hRO hQE hQD hp hg, c1, c2, fun s hs hM v hv hgv => c3 s hs ((fz_Mtc ht hn hGO hRO hp s).mp hM) v hv ((fz_Gvc ht hn hGO v).mp hgv)⟩
theorem fz_new (h : fz_Inv V n G E D tm f_frozenOn f_solved f_solutionCount f_found a_kind a_first a_second a_size a_variablesIn a_code a_rowCount a_rowLeft a_rowRight a_goalTable a_goalX a_goalY a_equationX a_equationY a_disequalityX a_disequalityY a_solutionChoice a_solutionCode a_sign b_first a_goalFrozen a_choiceOf) (h48 : n < 48) {A : List Nat} {kd fs sd sz vi sg fy : Int32} {cd : Int64} (hw : fz_WT A) (hl : A.length ≤ 13) (es : sz = nI A.length) (ev : ∀ i, i < 32 → bt vi i = decide (100 + i ∈ A)) (ec : fz_Gr A → cd = lN (fz_vl A))
    (hx : (∃ a, 1 ≤ a ∧ a ≤ 16 ∧ A = [a] ∧ kd = 0) ∨ (∃ v, v < V ∧ A = [100 + v] ∧ kd = 1 ∧ fs = nI v) ∨ (∃ a b, a < n ∧ b < n ∧ A = 17 :: (tm a ++ tm b) ∧ kd = 2 ∧ fs = nI a ∧ sd = nI b))
    (hy : (∃ a, 1 ≤ a ∧ a ≤ 16 ∧ A = [a] ∧ sg = nI a) ∨ (∃ v, v < V ∧ A = [100 + v] ∧ sg = nI (100 + v)) ∨ (∃ a b, a < n ∧ b < n ∧ A = 17 :: (tm a ++ tm b) ∧ sg = nI 17 ∧ fy = nI a ∧ sd = nI b)) :
    fz_Inv V (n + 1) G E D (fz_tn tm n A) f_frozenOn f_solved f_solutionCount f_found (upd a_kind n kd) (upd a_first n fs) (upd a_second n sd) (upd a_size n sz) (upd a_variablesIn n vi) (vp_updL a_code n cd) a_rowCount a_rowLeft a_rowRight a_goalTable a_goalX a_goalY a_equationX a_equationY a_disequalityX a_disequalityY a_solutionChoice a_solutionCode (upd a_sign n sg) (upd b_first n fy) a_goalFrozen a_choiceOf := by
  obtain ⟨hV1, hV, hn, hG, hE, hD, hCX, hCY, hRO, hGO, hQE, hQD, hF, hF2, hS⟩ := h
  have ht : ∀ c, c < n → fz_tn tm n A c = tm c := fun c hc => fz_tnN tm n A hc
  refine ⟨hV1, hV, by omega, hG, hE, hD, ?_, ?_, ?_, ?_, ?_, ?_, hF, hF2, ?_⟩
  · intro c hc
    rcases Nat.lt_or_ge c n with h1 | h1
    · obtain ⟨q1, q2, q3, q4, q5, q6⟩ := hCX c h1
      have ne : c ≠ n := by omega
      unfold fz_cx
      rw [ht c h1, pk_un ne, pk_un ne, pk_un ne, pk_un ne, pk_un ne, pk_uLn ne]
      refine ⟨q1, q2, q3, q4, q5, ?_⟩
      rcases q6 with q | q | ⟨a, b, la, lb, e, q⟩
      · exact .inl q
      · exact .inr (.inl q)
      · refine .inr (.inr ⟨a, b, la, lb, ?_, q⟩)
        rw [ht a (by omega), ht b (by omega)]
        exact e
    · have e : c = n := by omega
      subst e
      unfold fz_cx
      rw [fz_tnS, pk_us, pk_us, pk_us, pk_us, pk_us, pk_uLs]
      refine ⟨hw, hl, es, ev, ec, ?_⟩
      rcases hx with q | q | ⟨a, b, la, lb, e, q⟩
      · exact .inl q
      · exact .inr (.inl q)
      · refine .inr (.inr ⟨a, b, la, lb, ?_, q⟩)
        rw [ht a la, ht b lb]
        exact e
  · intro c hc
    rcases Nat.lt_or_ge c n with h1 | h1
    · obtain ⟨q1, q2, q6⟩ := hCY c h1
      have ne : c ≠ n := by omega
      unfold fz_cy
      rw [ht c h1, pk_un ne, pk_un ne, pk_un ne]
      refine ⟨q1, q2, ?_⟩
      rcases q6 with q | q | ⟨a, b, la, lb, e, q⟩
      · exact .inl q
      · exact .inr (.inl q)
      · refine .inr (.inr ⟨a, b, la, lb, ?_, q⟩)
        rw [ht a (by omega), ht b (by omega)]
        exact e
    · have e : c = n := by omega
      subst e
      unfold fz_cy
      rw [fz_tnS, pk_us, pk_us, pk_us]
      refine ⟨hw, hl, ?_⟩
      rcases hy with q | q | ⟨a, b, la, lb, e, q⟩
      · exact .inl q
      · exact .inr (.inl q)
      · refine .inr (.inr ⟨a, b, la, lb, ?_, q⟩)
        rw [ht a la, ht b lb]
        exact e
  · intro t h4
    obtain ⟨r, hr, er, hrow⟩ := hRO t h4
    refine ⟨r, hr, er, fun j hj => ?_⟩
    obtain ⟨c, d, hc, hd, ec, ed, gc, gd⟩ := hrow j hj
    exact ⟨c, d, by omega, by omega, ec, ed, by rw [ht c hc]; exact gc, by rw [ht d hd]; exact gd⟩
  · intro g hg
    obtain ⟨t, x, y, h4, hx, hy, q⟩ := hGO g hg
    exact ⟨t, x, y, h4, by omega, by omega, q⟩
  · intro i hi
    obtain ⟨x, y, hx, hy, q⟩ := hQE i hi
    exact ⟨x, y, by omega, by omega, q⟩
  · intro i hi
    obtain ⟨x, y, hx, hy, q⟩ := hQD i hi
    exact ⟨x, y, by omega, by omega, q⟩
  · rcases hS with q | ⟨q, hS⟩
    · exact .inl q
    · exact .inr ⟨q, fz_Svc ht hn hGO hRO hQE hQD hS⟩
end
/-! ===== small methods ===== -/
def fz_bad (n : Nat) (z : Int32) : Prop := z < 0 ∨ nI n ≤ z
theorem fz_ix (z : Int32) {n : Nat} (hn : n < 2 ^ 31) : fz_bad n z ∨ ∃ j, j < n ∧ z = nI j := by
  rcases pk_ix z hn with h | h | h
  · exact .inl (.inl h)
  · exact .inl (.inr h)
  · exact .inr h
section
variable {f_variableCount f_cellCount f_goalCount f_frozenOn f_equationCount f_disequalityCount f_solved f_solutionCount : Int32} {a_kind a_first a_second a_size a_variablesIn a_rowCount a_rowLeft a_rowRight a_goalTable a_goalX a_goalY a_equationX a_equationY a_disequalityX a_disequalityY a_solutionChoice a_value a_walkX a_walkY : Nat → Int32} {a_code a_solutionCode : Nat → Int64}
variable {n : Nat}
theorem fz_icX1 {post : Int32 → Prop} (hn : n ≤ 48) (e : f_cellCount = nI n) {c : Nat} (hc : c < n) (h : post 1) : wpX_isCell post (f_variableCount, f_cellCount, f_goalCount, f_frozenOn, f_equationCount, f_disequalityCount, f_solved, f_solutionCount, a_kind, a_first, a_second, a_size, a_variablesIn, a_code, a_rowCount, a_rowLeft, a_rowRight, a_goalTable, a_goalX, a_goalY, a_equationX, a_equationY, a_disequalityX, a_disequalityY, a_solutionChoice, a_solutionCode, a_value, a_walkX, a_walkY) (nI c) :=
  br_f (nI_pos (by omega)) (pk_le n c (fun q => absurd q (by omega)) (fun _ => h) e)
theorem fz_icX0 {post : Int32 → Prop} (e : f_cellCount = nI n) {z : Int32} (hz : fz_bad n z) (h : post 0) : wpX_isCell post (f_variableCount, f_cellCount, f_goalCount, f_frozenOn, f_equationCount, f_disequalityCount, f_solved, f_solutionCount, a_kind, a_first, a_second, a_size, a_variablesIn, a_code, a_rowCount, a_rowLeft, a_rowRight, a_goalTable, a_goalX, a_goalY, a_equationX, a_equationY, a_disequalityX, a_disequalityY, a_solutionChoice, a_solutionCode, a_value, a_walkX, a_walkY) z := by
  rcases hz with q | q
  · exact br_t q h
  · exact br_c (fun _ => h) (fun _ => br_t (by rw [e]; exact q) h)
theorem fz_ivX1 {post : Int32 → Prop} {V : Nat} (hV : V ≤ 6) (e : f_variableCount = nI V) {c : Nat} (hc : c < V) (h : post 1) : wpX_isVariable post (f_variableCount, f_cellCount, f_goalCount, f_frozenOn, f_equationCount, f_disequalityCount, f_solved, f_solutionCount, a_kind, a_first, a_second, a_size, a_variablesIn, a_code, a_rowCount, a_rowLeft, a_rowRight, a_goalTable, a_goalX, a_goalY, a_equationX, a_equationY, a_disequalityX, a_disequalityY, a_solutionChoice, a_solutionCode, a_value, a_walkX, a_walkY) (nI c) :=
  br_f (nI_pos (by omega)) (pk_le V c (fun q => absurd q (by omega)) (fun _ => h) e)
theorem fz_ivX0 {post : Int32 → Prop} {V : Nat} (e : f_variableCount = nI V) {z : Int32} (hz : fz_bad V z) (h : post 0) : wpX_isVariable post (f_variableCount, f_cellCount, f_goalCount, f_frozenOn, f_equationCount, f_disequalityCount, f_solved, f_solutionCount, a_kind, a_first, a_second, a_size, a_variablesIn, a_code, a_rowCount, a_rowLeft, a_rowRight, a_goalTable, a_goalX, a_goalY, a_equationX, a_equationY, a_disequalityX, a_disequalityY, a_solutionChoice, a_solutionCode, a_value, a_walkX, a_walkY) z := by
  rcases hz with q | q
  · exact br_t q h
  · exact br_c (fun _ => h) (fun _ => br_t (by rw [e]; exact q) h)
theorem fz_itX1 {post : Int32 → Prop} {c : Nat} (hc : c < 4) (h : post 1) : wpX_isTable post (f_variableCount, f_cellCount, f_goalCount, f_frozenOn, f_equationCount, f_disequalityCount, f_solved, f_solutionCount, a_kind, a_first, a_second, a_size, a_variablesIn, a_code, a_rowCount, a_rowLeft, a_rowRight, a_goalTable, a_goalX, a_goalY, a_equationX, a_equationY, a_disequalityX, a_disequalityY, a_solutionChoice, a_solutionCode, a_value, a_walkX, a_walkY) (nI c) :=
  br_f (nI_pos (by omega)) (pk_le 4 c (fun q => absurd q (by omega)) (fun _ => h))
theorem fz_itX0 {post : Int32 → Prop} {z : Int32} (hz : fz_bad 4 z) (h : post 0) : wpX_isTable post (f_variableCount, f_cellCount, f_goalCount, f_frozenOn, f_equationCount, f_disequalityCount, f_solved, f_solutionCount, a_kind, a_first, a_second, a_size, a_variablesIn, a_code, a_rowCount, a_rowLeft, a_rowRight, a_goalTable, a_goalX, a_goalY, a_equationX, a_equationY, a_disequalityX, a_disequalityY, a_solutionChoice, a_solutionCode, a_value, a_walkX, a_walkY) z := by
  rcases hz with q | q
  · exact br_t q h
  · exact br_c (fun _ => h) (fun _ => br_t q h)
theorem fz_isX1 {post : Int32 → Prop} {K : Nat} (hK : K ≤ 1296) (e : f_solutionCount = nI K) {c : Nat} (hc : c < K) (h : post 1) : wpX_isSolution post (f_variableCount, f_cellCount, f_goalCount, f_frozenOn, f_equationCount, f_disequalityCount, f_solved, f_solutionCount, a_kind, a_first, a_second, a_size, a_variablesIn, a_code, a_rowCount, a_rowLeft, a_rowRight, a_goalTable, a_goalX, a_goalY, a_equationX, a_equationY, a_disequalityX, a_disequalityY, a_solutionChoice, a_solutionCode, a_value, a_walkX, a_walkY) (nI c) :=
  br_f (nI_pos (by omega)) (pk_le K c (fun q => absurd q (by omega)) (fun _ => h) e)
theorem fz_isX0 {post : Int32 → Prop} {K : Nat} (e : f_solutionCount = nI K) {z : Int32} (hz : fz_bad K z) (h : post 0) : wpX_isSolution post (f_variableCount, f_cellCount, f_goalCount, f_frozenOn, f_equationCount, f_disequalityCount, f_solved, f_solutionCount, a_kind, a_first, a_second, a_size, a_variablesIn, a_code, a_rowCount, a_rowLeft, a_rowRight, a_goalTable, a_goalX, a_goalY, a_equationX, a_equationY, a_disequalityX, a_disequalityY, a_solutionChoice, a_solutionCode, a_value, a_walkX, a_walkY) z := by
  rcases hz with q | q
  · exact br_t q h
  · exact br_c (fun _ => h) (fun _ => br_t (by rw [e]; exact q) h)
theorem fz_coX {post : Int32 → Prop} {x : Int32} {v : Nat} (hv : v < 32) (h1 : bt x v = true → post 1) (h0 : ¬ bt x v = true → post 0) : wpX_contains post (f_variableCount, f_cellCount, f_goalCount, f_frozenOn, f_equationCount, f_disequalityCount, f_solved, f_solutionCount, a_kind, a_first, a_second, a_size, a_variablesIn, a_code, a_rowCount, a_rowLeft, a_rowRight, a_goalTable, a_goalX, a_goalY, a_equationX, a_equationY, a_disequalityX, a_disequalityY, a_solutionChoice, a_solutionCode, a_value, a_walkX, a_walkY) x (nI v) :=
  br_c (fun q => h1 ((fz_bit x hv).mp q)) (fun q => h0 (fun z => q ((fz_bit x hv).mpr z)))
theorem fz_addX {post : Int32 → SX → Prop} (h48 : n < 48) (e : f_cellCount = nI n) {p0 p1 p2 : Int32} (h : post (nI n) (f_variableCount, nI (n + 1), f_goalCount, f_frozenOn, f_equationCount, f_disequalityCount, f_solved, f_solutionCount, upd a_kind n p0, upd a_first n p1, upd a_second n p2, a_size, a_variablesIn, a_code, a_rowCount, a_rowLeft, a_rowRight, a_goalTable, a_goalX, a_goalY, a_equationX, a_equationY, a_disequalityX, a_disequalityY, a_solutionChoice, a_solutionCode, a_value, a_walkX, a_walkY)) : wpX_addCell post (f_variableCount, f_cellCount, f_goalCount, f_frozenOn, f_equationCount, f_disequalityCount, f_solved, f_solutionCount, a_kind, a_first, a_second, a_size, a_variablesIn, a_code, a_rowCount, a_rowLeft, a_rowRight, a_goalTable, a_goalX, a_goalY, a_equationX, a_equationY, a_disequalityX, a_disequalityY, a_solutionChoice, a_solutionCode, a_value, a_walkX, a_walkY) p0 p1 p2 := by
  subst e
  have i48 : vp_in (nI n) 48 := vp_in_nI h48 (by omega)
  have cn : (nI n).toNatClampNeg = n := nI_clamp (by omega)
  exact ⟨i48, nm_r (e' := upd a_kind n p0) (by rw [cn]) ⟨i48, nm_r (e' := upd a_first n p1) (by rw [cn]) ⟨i48, nm_r (e' := upd a_second n p2) (by rw [cn]) (nm_r (nI_1 n) h)⟩⟩⟩
end
section
variable {f_variables f_cells f_goals f_equations f_disequalities f_solved f_found : Int32} {a_sign a_first a_second a_rows a_left a_right a_goalTable a_goalX a_goalY a_goalFrozen a_equalX a_equalY a_differX a_differY a_choiceOf a_pick a_bind a_text a_from a_stack : Nat → Int32}
variable {n : Nat}
theorem fz_icY1 {post : Int32 → Prop} (hn : n ≤ 48) (e : f_cells = nI n) {c : Nat} (hc : c < n) (h : post 1) : wpY_isCell post (f_variables, f_cells, f_goals, f_equations, f_disequalities, f_solved, f_found, a_sign, a_first, a_second, a_rows, a_left, a_right, a_goalTable, a_goalX, a_goalY, a_goalFrozen, a_equalX, a_equalY, a_differX, a_differY, a_choiceOf, a_pick, a_bind, a_text, a_from, a_stack) (nI c) :=
  br_f (nI_pos (by omega)) (pk_le n c (fun q => absurd q (by omega)) (fun _ => h) e)
theorem fz_icY0 {post : Int32 → Prop} (e : f_cells = nI n) {z : Int32} (hz : fz_bad n z) (h : post 0) : wpY_isCell post (f_variables, f_cells, f_goals, f_equations, f_disequalities, f_solved, f_found, a_sign, a_first, a_second, a_rows, a_left, a_right, a_goalTable, a_goalX, a_goalY, a_goalFrozen, a_equalX, a_equalY, a_differX, a_differY, a_choiceOf, a_pick, a_bind, a_text, a_from, a_stack) z := by
  rcases hz with q | q
  · exact br_t q h
  · exact br_c (fun _ => h) (fun _ => br_t (by rw [e]; exact q) h)
theorem fz_mkY {post : Int32 → SY → Prop} (h48 : n < 48) (e : f_cells = nI n) {p0 p1 p2 : Int32} (h : post (nI n) (f_variables, nI (n + 1), f_goals, f_equations, f_disequalities, f_solved, f_found, upd a_sign n p0, upd a_first n p1, upd a_second n p2, a_rows, a_left, a_right, a_goalTable, a_goalX, a_goalY, a_goalFrozen, a_equalX, a_equalY, a_differX, a_differY, a_choiceOf, a_pick, a_bind, a_text, a_from, a_stack)) : wpY_make post (f_variables, f_cells, f_goals, f_equations, f_disequalities, f_solved, f_found, a_sign, a_first, a_second, a_rows, a_left, a_right, a_goalTable, a_goalX, a_goalY, a_goalFrozen, a_equalX, a_equalY, a_differX, a_differY, a_choiceOf, a_pick, a_bind, a_text, a_from, a_stack) p0 p1 p2 := by
  subst e
  have i48 : vp_in (nI n) 48 := vp_in_nI h48 (by omega)
  have cn : (nI n).toNatClampNeg = n := nI_clamp (by omega)
  refine ⟨i48, nm_r (e' := upd a_sign n p0) (by rw [cn]) ⟨i48, nm_r (e' := upd a_first n p1) (by rw [cn]) ⟨i48, nm_r (e' := upd a_second n p2) (by rw [cn]) (nm_r (nI_1 n) ?_)⟩⟩⟩
  rw [nI_pred]
  exact h
/-- Y tests a table by 0 and 3 -/
theorem fz_tabY {A B : Prop} {z : Int32} (hz : fz_bad 4 z) (a : A) : (z < 0 → A) ∧ (¬ z < 0 → ((3 < z → A) ∧ (¬ 3 < z → B))) := by
  by_cases q : z < 0
  · exact br_t q a
  · refine br_f q (br_t ?_ a)
    rcases hz with h | h
    · exact absurd h q
    · obtain ⟨j, hj, rfl⟩ := nI_of q
      have := (nI_leI (a := 4) (by omega) hj).mp h
      exact (nI_ltI (a := 3) (by omega) hj).mpr (by omega)
theorem fz_tabY1 {A B : Prop} {t : Nat} (ht : t < 4) (b : B) : (nI t < 0 → A) ∧ (¬ nI t < 0 → ((3 < nI t → A) ∧ (¬ 3 < nI t → B))) :=
  br_f (nI_pos (by omega)) (pk_lt 3 t (fun q => absurd q (by omega)) (fun _ => b))
end
end
section
theorem i_vc0 (k0 : Int32) : wpX_init (fun u => wpY_init (fun v => i_Rel 1 u v) k0) k0 := by
  have key : ∀ V : Nat, 1 ≤ V → V ≤ 6 → fz_Inv V 0 0 0 0 (fun _ => []) 0 0 0 0 (fun _ => 0) (fun _ => 0) (fun _ => 0) (fun _ => 0) (fun _ => 0) (fun _ => 0) (fun _ => 0) (fun _ => 0) (fun _ => 0) (fun _ => 0) (fun _ => 0) (fun _ => 0) (fun _ => 0) (fun _ => 0) (fun _ => 0) (fun _ => 0) (fun _ => 0) (fun _ => 0) (fun _ => 0) (fun _ => 0) (fun _ => 0) (fun _ => 0) := by
    intro V h1 h6
    refine ⟨h1, h6, by omega, by omega, by omega, by omega, fun c hc => absurd hc (by omega), fun c hc => absurd hc (by omega), fun t ht => ⟨0, by omega, rfl, fun j hj => absurd hj (by omega)⟩, fun c hc => absurd hc (by omega), fun c hc => absurd hc (by omega), fun c hc => absurd hc (by omega), fun i hi => ?_, fun c hc => absurd hc (by omega), .inl rfl⟩
    rw [b_0]
    exact ⟨fun q => absurd q (by decide), fun ⟨g, hg, _⟩ => absurd hg (by omega)⟩
  by_cases h1 : 1 ≤ k0
  · by_cases h6 : k0 ≤ 6
    · obtain ⟨j, hj, rfl⟩ := nI_of (x := k0) (Int32.not_lt.mpr (Int32.le_trans (by decide) h1))
      have j1 := (nI_leI (a := 1) (by omega) hj).mp h1
      have j6 := (nI_leI (b := 6) hj (by omega)).mp h6
      exact br_t h1 (br_t h6 (br_t h1 (br_t h6 (fz_mk (V := j) (n := 0) (G := 0) (E := 0) (D := 0) (tm := fun _ => []) (f_frozenOn := 0) (f_solved := 0) (f_solutionCount := 0) (f_found := 0) (a_kind := fun _ => 0) (a_first := fun _ => 0) (a_second := fun _ => 0) (a_size := fun _ => 0) (a_variablesIn := fun _ => 0) (a_code := fun _ => 0) (a_rowCount := fun _ => 0) (a_rowLeft := fun _ => 0) (a_rowRight := fun _ => 0) (a_goalTable := fun _ => 0) (a_goalX := fun _ => 0) (a_goalY := fun _ => 0) (a_equationX := fun _ => 0) (a_equationY := fun _ => 0) (a_disequalityX := fun _ => 0) (a_disequalityY := fun _ => 0) (a_solutionChoice := fun _ => 0) (a_solutionCode := fun _ => 0) (a_sign := fun _ => 0) (b_first := fun _ => 0) (a_goalFrozen := fun _ => 0) (a_choiceOf := fun _ => 0) (a_value := fun _ => 0) (a_walkX := fun _ => 0) (a_walkY := fun _ => 0) (a_pick := fun _ => 0) (a_bind := fun _ => 0) (a_text := fun _ => 0) (a_from := fun _ => 0) (a_stack := fun _ => 0) (key j j1 j6)))))
    · exact br_t h1 (br_f h6 (br_t h1 (br_f h6 (fz_mk (V := 6) (n := 0) (G := 0) (E := 0) (D := 0) (tm := fun _ => []) (f_frozenOn := 0) (f_solved := 0) (f_solutionCount := 0) (f_found := 0) (a_kind := fun _ => 0) (a_first := fun _ => 0) (a_second := fun _ => 0) (a_size := fun _ => 0) (a_variablesIn := fun _ => 0) (a_code := fun _ => 0) (a_rowCount := fun _ => 0) (a_rowLeft := fun _ => 0) (a_rowRight := fun _ => 0) (a_goalTable := fun _ => 0) (a_goalX := fun _ => 0) (a_goalY := fun _ => 0) (a_equationX := fun _ => 0) (a_equationY := fun _ => 0) (a_disequalityX := fun _ => 0) (a_disequalityY := fun _ => 0) (a_solutionChoice := fun _ => 0) (a_solutionCode := fun _ => 0) (a_sign := fun _ => 0) (b_first := fun _ => 0) (a_goalFrozen := fun _ => 0) (a_choiceOf := fun _ => 0) (a_value := fun _ => 0) (a_walkX := fun _ => 0) (a_walkY := fun _ => 0) (a_pick := fun _ => 0) (a_bind := fun _ => 0) (a_text := fun _ => 0) (a_from := fun _ => 0) (a_stack := fun _ => 0) (key 6 (by omega) (by omega))))))
  · exact br_f h1 (br_f h1 (fz_mk (V := 1) (n := 0) (G := 0) (E := 0) (D := 0) (tm := fun _ => []) (f_frozenOn := 0) (f_solved := 0) (f_solutionCount := 0) (f_found := 0) (a_kind := fun _ => 0) (a_first := fun _ => 0) (a_second := fun _ => 0) (a_size := fun _ => 0) (a_variablesIn := fun _ => 0) (a_code := fun _ => 0) (a_rowCount := fun _ => 0) (a_rowLeft := fun _ => 0) (a_rowRight := fun _ => 0) (a_goalTable := fun _ => 0) (a_goalX := fun _ => 0) (a_goalY := fun _ => 0) (a_equationX := fun _ => 0) (a_equationY := fun _ => 0) (a_disequalityX := fun _ => 0) (a_disequalityY := fun _ => 0) (a_solutionChoice := fun _ => 0) (a_solutionCode := fun _ => 0) (a_sign := fun _ => 0) (b_first := fun _ => 0) (a_goalFrozen := fun _ => 0) (a_choiceOf := fun _ => 0) (a_value := fun _ => 0) (a_walkX := fun _ => 0) (a_walkY := fun _ => 0) (a_pick := fun _ => 0) (a_bind := fun _ => 0) (a_text := fun _ => 0) (a_from := fun _ => 0) (a_stack := fun _ => 0) (key 1 (by omega) (by omega))))
theorem i_vc_atom {k : Nat} {u : SX} {v : SY} (I : i_Rel k u v) (hk : k + 5 ≤ 2561) (v1 : Int32) : wpX_atom (fun r u' => wpY_atom (fun r' v' => r' = r ∧ i_Rel (k + 5) u' v') v v1) u v1 := by
  obtain ⟨V, n, G, E, D, tm, f_frozenOn, f_solved, f_solutionCount, f_found, a_kind, a_first, a_second, a_size, a_variablesIn, a_code, a_rowCount, a_rowLeft, a_rowRight, a_goalTable, a_goalX, a_goalY, a_equationX, a_equationY, a_disequalityX, a_disequalityY, a_solutionChoice, a_solutionCode, a_sign, b_first, a_goalFrozen, a_choiceOf, a_value, a_walkX, a_walkY, a_pick, a_bind, a_text, a_from, a_stack, rfl, rfl, h⟩ := I
  have hn := h.2.2.1
  rcases Nat.lt_or_ge n 48 with h48 | h48
  · have i48 : vp_in (nI n) 48 := vp_in_nI h48 (by omega)
    have cn : (nI n).toNatClampNeg = n := nI_clamp (by omega)
    refine pk_lt n 48 (fun _ => ?_) (fun q => absurd q (by omega))
    by_cases k0 : v1 < 0
    · exact br_t k0 (pk_eq n 48 (fun q => absurd q (by omega)) (fun _ => br_t k0 ⟨rfl, fz_mk h⟩))
    · obtain ⟨j, hj, rfl⟩ := nI_of k0
      rcases Nat.lt_or_ge j 16 with h16 | h16
      · have e1 : vp_updL a_code (nI n).toNatClampNeg ((nI j + 1).toInt64) = vp_updL a_code n (lN (j + 1)) := by rw [cn, nI_1, nI_l (by omega)]
        have e2 : upd a_size (nI n).toNatClampNeg 1 = upd a_size n 1 := by rw [cn]
        have e3 : upd a_variablesIn (nI n).toNatClampNeg 0 = upd a_variablesIn n 0 := by rw [cn]
        refine br_f k0 (pk_lt j 16 (fun _ => ⟨i48, nm_r e1 ⟨i48, nm_r e2 ⟨i48, nm_r e3 (fz_addX h48 rfl ?_)⟩⟩⟩) (fun q => absurd q (by omega)))
        refine pk_eq n 48 (fun q => absurd q (by omega)) (fun _ => br_f k0 (pk_le j 15 (fun _ => fz_mkY h48 rfl ⟨rfl, fz_mk (fz_new h h48 (A := [j + 1]) (fz_WTL (.inl ⟨by omega, by omega⟩)) (by simp) rfl (fun i hi => ?_) (fun _ => ?_) (.inl ⟨j + 1, by omega, by omega, rfl, rfl⟩) (.inl ⟨j + 1, by omega, by omega, rfl, nI_1 j⟩))⟩) (fun q => absurd q (by omega))))
        · rw [b_0]
          exact (decide_eq_false (fun q => by rw [List.mem_singleton] at q; omega)).symm
        · rw [show fz_vl [j + 1] = j + 1 by simp [fz_vl]]
      · exact br_f k0 (pk_lt j 16 (fun q => absurd q (by omega)) (fun _ => pk_eq n 48 (fun q => absurd q (by omega)) (fun _ => br_f k0 (pk_le j 15 (fun q => absurd q (by omega)) (fun _ => ⟨rfl, fz_mk h⟩)))))
  · exact pk_lt n 48 (fun q => absurd q (by omega)) (fun _ => pk_eq n 48 (fun _ => ⟨rfl, fz_mk h⟩) (fun q => absurd (show n = 48 by omega) q))
theorem i_vc_variable {k : Nat} {u : SX} {v : SY} (I : i_Rel k u v) (hk : k + 5 ≤ 2561) (v1 : Int32) : wpX_variable (fun r u' => wpY_variable (fun r' v' => r' = r ∧ i_Rel (k + 5) u' v') v v1) u v1 := by
  obtain ⟨V, n, G, E, D, tm, f_frozenOn, f_solved, f_solutionCount, f_found, a_kind, a_first, a_second, a_size, a_variablesIn, a_code, a_rowCount, a_rowLeft, a_rowRight, a_goalTable, a_goalX, a_goalY, a_equationX, a_equationY, a_disequalityX, a_disequalityY, a_solutionChoice, a_solutionCode, a_sign, b_first, a_goalFrozen, a_choiceOf, a_value, a_walkX, a_walkY, a_pick, a_bind, a_text, a_from, a_stack, rfl, rfl, h⟩ := I
  have hn := h.2.2.1
  have hV := h.2.1
  rcases Nat.lt_or_ge n 48 with h48 | h48
  · have i48 : vp_in (nI n) 48 := vp_in_nI h48 (by omega)
    have cn : (nI n).toNatClampNeg = n := nI_clamp (by omega)
    refine pk_lt n 48 (fun _ => ?_) (fun q => absurd q (by omega))
    rcases fz_ix v1 (n := V) (by omega) with hb | ⟨j, hj, rfl⟩
    · refine fz_ivX0 rfl hb (br_t rfl (pk_eq n 48 (fun q => absurd q (by omega)) (fun _ => ?_)))
      by_cases k0 : v1 < 0
      · exact br_t k0 ⟨rfl, fz_mk h⟩
      · rcases hb with q | q
        · exact absurd q k0
        · exact br_f k0 (br_f (Int32.not_lt.mpr q) ⟨rfl, fz_mk h⟩)
    · have e1 : vp_updL a_code (nI n).toNatClampNeg 0 = vp_updL a_code n 0 := by rw [cn]
      have e2 : upd a_size (nI n).toNatClampNeg 1 = upd a_size n 1 := by rw [cn]
      have e3 : upd a_variablesIn (nI n).toNatClampNeg ((1 : Int32) <<< (nI j &&& 31)) = upd a_variablesIn n ((1 : Int32) <<< (nI j &&& 31)) := by rw [cn]
      refine fz_ivX1 hV rfl hj (br_f (by decide) ⟨i48, nm_r e1 ⟨i48, nm_r e2 ⟨i48, nm_r e3 (fz_addX h48 rfl ?_)⟩⟩⟩)
      refine pk_eq n 48 (fun q => absurd q (by omega)) (fun _ => br_f (nI_pos (by omega)) (pk_lt j V (fun _ => fz_mkY h48 rfl ⟨rfl, fz_mk (fz_new h h48 (A := [100 + j]) (fz_WTL (.inr ⟨by omega, by omega⟩)) (by simp) rfl (fun i hi => ?_) (fun g => ?_) (.inr (.inl ⟨j, hj, rfl, rfl, rfl⟩)) (.inr (.inl ⟨j, hj, rfl, nI_add 100 j⟩)))⟩) (fun q => absurd q (by omega))))
      · rw [fz_one (by omega) hi]
        by_cases e : i = j
        · rw [decide_eq_true e, decide_eq_true (by rw [e]; exact List.mem_singleton.mpr rfl)]
        · rw [decide_eq_false e, decide_eq_false (fun q => by rw [List.mem_singleton] at q; omega)]
      · have := g (100 + j) (List.mem_singleton.mpr rfl)
        omega
  · exact pk_lt n 48 (fun q => absurd q (by omega)) (fun _ => pk_eq n 48 (fun _ => ⟨rfl, fz_mk h⟩) (fun q => absurd (show n = 48 by omega) q))
section
variable {f_variableCount f_cellCount f_goalCount f_frozenOn f_equationCount f_disequalityCount f_solved f_solutionCount : Int32} {a_kind a_first a_second a_size a_variablesIn a_rowCount a_rowLeft a_rowRight a_goalTable a_goalX a_goalY a_equationX a_equationY a_disequalityX a_disequalityY a_solutionChoice a_value a_walkX a_walkY : Nat → Int32} {a_code a_solutionCode : Nat → Int64}
theorem fz_shiftX {m : Nat} (hm : m < 2 ^ 31) {z : Int32} (ez : z = nI m) {post : Int64 → Prop} (h : post (lN (18 ^ m))) : wpX_codeShift post (f_variableCount, f_cellCount, f_goalCount, f_frozenOn, f_equationCount, f_disequalityCount, f_solved, f_solutionCount, a_kind, a_first, a_second, a_size, a_variablesIn, a_code, a_rowCount, a_rowLeft, a_rowRight, a_goalTable, a_goalX, a_goalY, a_equationX, a_equationY, a_disequalityX, a_disequalityY, a_solutionChoice, a_solutionCode, a_value, a_walkX, a_walkY) z := by
  subst ez
  have key : ∀ (k i : Nat), i + k = m → wX_codeShift_5 post (nI m) f_variableCount f_cellCount f_goalCount f_frozenOn f_equationCount f_disequalityCount f_solved f_solutionCount a_kind a_first a_second a_size a_variablesIn a_code a_rowCount a_rowLeft a_rowRight a_goalTable a_goalX a_goalY a_equationX a_equationY a_disequalityX a_disequalityY a_solutionChoice a_solutionCode a_value a_walkX a_walkY (k + 1) (lN (18 ^ i)) (nI i) := by
    intro k
    induction k with
    | zero =>
      intro i hi
      have e : i = m := by omega
      subst e
      exact pk_le i i (fun _ => h) (fun q => absurd q (by omega))
    | succ k ih =>
      intro i hi
      have e : lN (18 ^ i) * 18 = lN (18 ^ (i + 1)) := by
        rw [Nat.pow_succ]
        exact lN_mul (18 ^ i) 18
      exact pk_le m i (fun q => absurd q (by omega)) (fun _ => nm_r e (nm_r (nI_1 i) (ih (i + 1) (by omega))))
  exact ⟨m + 1, key m 0 (by omega)⟩
end
theorem i_vc_pair {k : Nat} {u : SX} {v : SY} (I : i_Rel k u v) (hk : k + 5 ≤ 2561) (v1 : Int32) (v2 : Int32) : wpX_pair (fun r u' => wpY_pair (fun r' v' => r' = r ∧ i_Rel (k + 5) u' v') v v1 v2) u v1 v2 := by
  obtain ⟨V, n, G, E, D, tm, f_frozenOn, f_solved, f_solutionCount, f_found, a_kind, a_first, a_second, a_size, a_variablesIn, a_code, a_rowCount, a_rowLeft, a_rowRight, a_goalTable, a_goalX, a_goalY, a_equationX, a_equationY, a_disequalityX, a_disequalityY, a_solutionChoice, a_solutionCode, a_sign, b_first, a_goalFrozen, a_choiceOf, a_value, a_walkX, a_walkY, a_pick, a_bind, a_text, a_from, a_stack, rfl, rfl, h⟩ := I
  have hn := h.2.2.1
  have hV := h.2.1
  have hCX := h.2.2.2.2.2.2.1
  have hCY := h.2.2.2.2.2.2.2.1
  rcases Nat.lt_or_ge n 48 with h48 | h48
  · have i48 : vp_in (nI n) 48 := vp_in_nI h48 (by omega)
    have cn : (nI n).toNatClampNeg = n := nI_clamp (by omega)
    refine pk_lt n 48 (fun _ => ?_) (fun q => absurd q (by omega))
    have nY : ¬ nI n = 48 := fun q => absurd ((nI_eq (b := 48) (by omega) (by omega)).mp q) (by omega)
    rcases fz_ix v1 (n := n) (by omega) with hb | ⟨a, ha, rfl⟩
    · exact fz_icX0 rfl hb (br_t rfl (br_f nY (fz_icY0 rfl hb (br_t rfl ⟨rfl, fz_mk h⟩))))
    · rcases fz_ix v2 (n := n) (by omega) with hb | ⟨b, hb, rfl⟩
      · exact fz_icX1 hn rfl ha (br_f (by decide) (fz_icX0 rfl hb (br_t rfl (br_f nY (fz_icY1 hn rfl ha (br_f (by decide) (fz_icY0 rfl hb (br_t rfl ⟨rfl, fz_mk h⟩))))))))
      · obtain ⟨wa, la, sa, va, ca, _⟩ := hCX a ha
        obtain ⟨wb, lb, sb, vb, cb, _⟩ := hCX b hb
        have ia : vp_in (nI a) 48 := vp_in_nI (by omega) (by omega)
        have ib : vp_in (nI b) 48 := vp_in_nI (by omega) (by omega)
        have ea : (nI a).toNatClampNeg = a := nI_clamp (by omega)
        have eb : (nI b).toNatClampNeg = b := nI_clamp (by omega)
        have SZ : 1 + a_size (nI a).toNatClampNeg + a_size (nI b).toNatClampNeg = nI (1 + (tm a).length + (tm b).length) := by
          rw [ea, eb, sa, sb]
          show nI 1 + _ + _ = _
          rw [nI_add, nI_add]
        have SY' : (1 : Int32) + nI (tm a).length + nI (tm b).length = nI (1 + (tm a).length + (tm b).length) := by
          show nI 1 + _ + _ = _
          rw [nI_add, nI_add]
        have wr : ∀ (post : Int32 → SY → Prop), (∀ tx fr sk, post (nI (tm a).length) (nI V, nI n, nI G, nI E, nI D, f_solved, f_found, a_sign, b_first, a_second, a_rowCount, a_rowLeft, a_rowRight, a_goalTable, a_goalX, a_goalY, a_goalFrozen, a_equationX, a_equationY, a_disequalityX, a_disequalityY, a_choiceOf, a_pick, a_bind, tx, fr, sk)) → wpY_write post (nI V, nI n, nI G, nI E, nI D, f_solved, f_found, a_sign, b_first, a_second, a_rowCount, a_rowLeft, a_rowRight, a_goalTable, a_goalX, a_goalY, a_goalFrozen, a_equationX, a_equationY, a_disequalityX, a_disequalityY, a_choiceOf, a_pick, a_bind, a_text, a_from, a_stack) (nI a) 0 0 := by
          intro post hp
          refine fz_write hV hn hCY (b := fun _ => none) (.inl ⟨rfl, rfl⟩) (base := 0) (by omega) rfl ha rfl (fun tx fr sk _ _ _ => ?_)
          rw [fz_txN]
          exact hp tx fr sk
        have wr2 : ∀ (post : Int32 → SY → Prop) (tx fr sk : Nat → Int32), (∀ tx fr sk, post (nI (tm b).length) (nI V, nI n, nI G, nI E, nI D, f_solved, f_found, a_sign, b_first, a_second, a_rowCount, a_rowLeft, a_rowRight, a_goalTable, a_goalX, a_goalY, a_goalFrozen, a_equationX, a_equationY, a_disequalityX, a_disequalityY, a_choiceOf, a_pick, a_bind, tx, fr, sk)) → wpY_write post (nI V, nI n, nI G, nI E, nI D, f_solved, f_found, a_sign, b_first, a_second, a_rowCount, a_rowLeft, a_rowRight, a_goalTable, a_goalX, a_goalY, a_goalFrozen, a_equationX, a_equationY, a_disequalityX, a_disequalityY, a_choiceOf, a_pick, a_bind, tx, fr, sk) (nI b) 0 0 := by
          intro post tx fr sk hp
          refine fz_write hV hn hCY (b := fun _ => none) (.inl ⟨rfl, rfl⟩) (base := 0) (by omega) rfl hb rfl (fun tx fr sk _ _ _ => ?_)
          rw [fz_txN]
          exact hp tx fr sk
        rcases Nat.lt_or_ge 13 (1 + (tm a).length + (tm b).length) with hs | hs
        · exact fz_icX1 hn rfl ha (br_f (by decide) (fz_icX1 hn rfl hb (br_f (by decide) ⟨ia, ib, pk_le (1 + (tm a).length + (tm b).length) 13 (fun q => absurd q (by omega)) (fun _ => br_f nY (fz_icY1 hn rfl ha (br_f (by decide) (fz_icY1 hn rfl hb (br_f (by decide) (wr _ (fun tx fr sk => wr2 _ tx fr sk (fun tx2 fr2 sk2 => pk_le (1 + (tm a).length + (tm b).length) 13 (fun q => absurd q (by omega)) (fun _ => ⟨rfl, fz_mk h⟩) SY')))))))) SZ⟩)))
        · have PC : ∀ post : Int64 → Prop, post ((((17 * lN (18 ^ (tm a).length)) + a_code a) * lN (18 ^ (tm b).length)) + a_code b) → wpX_pairCode post (nI V, nI n, nI G, f_frozenOn, nI E, nI D, f_solved, f_solutionCount, a_kind, a_first, a_second, a_size, a_variablesIn, a_code, a_rowCount, a_rowLeft, a_rowRight, a_goalTable, a_goalX, a_goalY, a_equationX, a_equationY, a_disequalityX, a_disequalityY, a_solutionChoice, a_solutionCode, a_value, a_walkX, a_walkY) (nI a) (nI b) := by
            intro post hp
            refine ⟨ia, fz_shiftX (m := (tm a).length) (by omega) (by rw [ea]; exact sa) ⟨ib, fz_shiftX (m := (tm b).length) (by omega) (by rw [eb]; exact sb) ⟨ia, ib, ?_⟩⟩⟩
            rw [ea, eb]
            exact hp
          have u1 : ∀ z : Int64, vp_updL a_code (nI n).toNatClampNeg z = vp_updL a_code n z := by intro z; rw [cn]
          have u2 : upd a_size (nI n).toNatClampNeg (1 + a_size (nI a).toNatClampNeg + a_size (nI b).toNatClampNeg) = upd a_size n (nI (1 + (tm a).length + (tm b).length)) := by rw [SZ, cn]
          have u3 : upd a_variablesIn (nI n).toNatClampNeg (a_variablesIn (nI a).toNatClampNeg ||| a_variablesIn (nI b).toNatClampNeg) = upd a_variablesIn n (a_variablesIn a ||| a_variablesIn b) := by rw [ea, eb, cn]
          refine fz_icX1 hn rfl ha (br_f (by decide) (fz_icX1 hn rfl hb (br_f (by decide) ⟨ia, ib, pk_le (1 + (tm a).length + (tm b).length) 13 (fun _ => PC _ ⟨i48, nm_r (u1 _) ⟨ia, ib, i48, nm_r u2 ⟨ia, ib, i48, nm_r u3 (fz_addX h48 rfl ?_)⟩⟩⟩) (fun q => absurd q (by omega)) SZ⟩)))
          refine br_f nY (fz_icY1 hn rfl ha (br_f (by decide) (fz_icY1 hn rfl hb (br_f (by decide) (wr _ (fun tx fr sk => wr2 _ tx fr sk (fun tx2 fr2 sk2 => pk_le (1 + (tm a).length + (tm b).length) 13 (fun _ => fz_mkY h48 rfl ⟨rfl, fz_mk (fz_new h h48 (A := 17 :: (tm a ++ tm b)) (fz_WTP wa wb) ?_ ?_ (fun i hi => ?_) (fun g => ?_) (.inr (.inr ⟨a, b, ha, hb, rfl, rfl, rfl, rfl⟩)) (.inr (.inr ⟨a, b, ha, hb, rfl, rfl, rfl, rfl⟩)))⟩) (fun q => absurd q (by omega)) SY')))))))
          · simp only [List.length_cons, List.length_append]
            omega
          · rw [List.length_cons, List.length_append]
            exact congrArg nI (by omega)
          · rw [b_or, va i hi, vb i hi]
            by_cases q1 : 100 + i ∈ tm a
            · rw [decide_eq_true q1, Bool.true_or, decide_eq_true (List.mem_cons_of_mem _ (List.mem_append_left _ q1))]
            · by_cases q2 : 100 + i ∈ tm b
              · rw [decide_eq_true q2, Bool.or_true, decide_eq_true (List.mem_cons_of_mem _ (List.mem_append_right _ q2))]
              · rw [decide_eq_false q1, decide_eq_false q2, decide_eq_false]
                · rfl
                · intro q
                  rcases List.mem_cons.mp q with e | q
                  · omega
                  · rcases List.mem_append.mp q with q | q
                    · exact q1 q
                    · exact q2 q
          · have g2 := fz_GrP.mp g
            rw [ca g2.1, cb g2.2]
            have e : fz_vl (17 :: (tm a ++ tm b)) = (17 * 18 ^ (tm a).length + fz_vl (tm a)) * 18 ^ (tm b).length + fz_vl (tm b) := by
              rw [fz_vC, fz_vA, List.length_append, Nat.pow_add, Nat.add_mul, Nat.mul_assoc, Nat.add_assoc]
            rw [e, ← lN_add, ← lN_mul, ← lN_add, ← lN_mul]
            rfl
  · exact pk_lt n 48 (fun q => absurd q (by omega)) (fun _ => pk_eq n 48 (fun _ => ⟨rfl, fz_mk h⟩) (fun q => absurd (show n = 48 by omega) q))
end
section
/-- z is no cell's number, or a cell that has variables -/
def fz_ng (tm : Nat → List Nat) (n : Nat) (z : Int32) : Prop := fz_bad n z ∨ ∃ c, c < n ∧ z = nI c ∧ ¬ fz_Gr (tm c)
theorem fz_cls (tm : Nat → List Nat) (z : Int32) {n : Nat} (hn : n < 2 ^ 31) : fz_ng tm n z ∨ ∃ c, c < n ∧ z = nI c ∧ fz_Gr (tm c) := by
  rcases fz_ix z hn with h | ⟨c, hc, e⟩
  · exact .inl (.inl h)
  · by_cases g : fz_Gr (tm c)
    · exact .inr ⟨c, hc, e, g⟩
    · exact .inl (.inr ⟨c, hc, e, g⟩)
/-- the table has that row -/
def fz_Hs (tm : Nat → List Nat) (rl rr : Nat → Int32) (t r l m : Nat) : Prop := ∃ j, j < r ∧ tm (rl (6 * t + j)).toNatClampNeg = tm l ∧ tm (rr (6 * t + j)).toNatClampNeg = tm m
section
variable {f_variableCount f_cellCount f_goalCount f_frozenOn f_equationCount f_disequalityCount f_solved f_solutionCount : Int32} {a_kind a_first a_second a_size a_variablesIn a_rowCount a_rowLeft a_rowRight a_goalTable a_goalX a_goalY a_equationX a_equationY a_disequalityX a_disequalityY a_solutionChoice a_value a_walkX a_walkY : Nat → Int32} {a_code a_solutionCode : Nat → Int64}
variable {V n : Nat} {tm : Nat → List Nat}
theorem fz_ngX {post : Int32 → Prop} (hn : n ≤ 48) (hC : fz_CX V tm n a_kind a_first a_second a_size a_variablesIn a_code) (e : f_cellCount = nI n) {z : Int32} (h : fz_ng tm n z) (hp : post 0) : wpX_isGroundCell post (f_variableCount, f_cellCount, f_goalCount, f_frozenOn, f_equationCount, f_disequalityCount, f_solved, f_solutionCount, a_kind, a_first, a_second, a_size, a_variablesIn, a_code, a_rowCount, a_rowLeft, a_rowRight, a_goalTable, a_goalX, a_goalY, a_equationX, a_equationY, a_disequalityX, a_disequalityY, a_solutionChoice, a_solutionCode, a_value, a_walkX, a_walkY) z := by
  rcases h with h | ⟨c, hc, rfl, g⟩
  · unfold wpX_isGroundCell
    refine fz_icX0 e h ?_
    exact br_t rfl hp
  · have cc : (nI c).toNatClampNeg = c := nI_clamp (by omega)
    unfold wpX_isGroundCell
    refine fz_icX1 hn e hc ?_
    exact br_f (by decide) ⟨vp_in_nI (by omega) (by omega), br_f (by rw [cc]; exact fun q => g ((fz_vi0 (hC c hc)).mp q)) hp⟩
theorem fz_grX {post : Int32 → Prop} (hn : n ≤ 48) (hC : fz_CX V tm n a_kind a_first a_second a_size a_variablesIn a_code) (e : f_cellCount = nI n) {c : Nat} (hc : c < n) (g : fz_Gr (tm c)) (hp : post 1) : wpX_isGroundCell post (f_variableCount, f_cellCount, f_goalCount, f_frozenOn, f_equationCount, f_disequalityCount, f_solved, f_solutionCount, a_kind, a_first, a_second, a_size, a_variablesIn, a_code, a_rowCount, a_rowLeft, a_rowRight, a_goalTable, a_goalX, a_goalY, a_equationX, a_equationY, a_disequalityX, a_disequalityY, a_solutionChoice, a_solutionCode, a_value, a_walkX, a_walkY) (nI c) := by
  have cc : (nI c).toNatClampNeg = c := nI_clamp (by omega)
  unfold wpX_isGroundCell
  refine fz_icX1 hn e hc ?_
  exact br_f (by decide) ⟨vp_in_nI (by omega) (by omega), br_t (by rw [cc]; exact (fz_vi0 (hC c hc)).mpr g) hp⟩
theorem fz_ceq (hC : fz_CX V tm n a_kind a_first a_second a_size a_variablesIn a_code) {c d : Nat} (hc : c < n) (hd : d < n) (gc : fz_Gr (tm c)) (gd : fz_Gr (tm d)) : a_code c = a_code d ↔ tm c = tm d := by
  have qc := hC c hc
  have qd := hC d hd
  rw [qc.2.2.2.2.1 gc, qd.2.2.2.2.1 gd, pk_lEQ (fz_vbig qc.1 gc qc.2.1) (fz_vbig qd.1 gd qd.2.1), fz_vjW qc.1 gc qd.1 gd]
theorem fz_hasX (hn : n ≤ 48) (hC : fz_CX V tm n a_kind a_first a_second a_size a_variablesIn a_code) {t r l m : Nat} (ht : t < 4) (hr : r ≤ 6) (er : a_rowCount t = nI r) (hrow : ∀ j, j < r → ∃ c d, c < n ∧ d < n ∧ a_rowLeft (6 * t + j) = nI c ∧ a_rowRight (6 * t + j) = nI d ∧ fz_Gr (tm c) ∧ fz_Gr (tm d)) (hl : l < n) (gl : fz_Gr (tm l)) (hm : m < n) (gm : fz_Gr (tm m)) {post : Int32 → Prop}
    (h1 : fz_Hs tm a_rowLeft a_rowRight t r l m → post 1) (h0 : ¬ fz_Hs tm a_rowLeft a_rowRight t r l m → post 0) : wpX_hasRow post (f_variableCount, f_cellCount, f_goalCount, f_frozenOn, f_equationCount, f_disequalityCount, f_solved, f_solutionCount, a_kind, a_first, a_second, a_size, a_variablesIn, a_code, a_rowCount, a_rowLeft, a_rowRight, a_goalTable, a_goalX, a_goalY, a_equationX, a_equationY, a_disequalityX, a_disequalityY, a_solutionChoice, a_solutionCode, a_value, a_walkX, a_walkY) (nI t) (nI l) (nI m) := by
  have it : vp_in (nI t) 4 := vp_in_nI ht (by omega)
  have il : vp_in (nI l) 48 := vp_in_nI (by omega) (by omega)
  have im : vp_in (nI m) 48 := vp_in_nI (by omega) (by omega)
  have cl : (nI l).toNatClampNeg = l := nI_clamp (by omega)
  have cm : (nI m).toNatClampNeg = m := nI_clamp (by omega)
  have RC : a_rowCount (nI t).toNatClampNeg = nI r := by rw [nI_clamp (by omega)]; exact er
  have key : ∀ (k j : Nat), j + k = r → ¬ fz_Hs tm a_rowLeft a_rowRight t j l m → wX_hasRow_3 post (nI t) (nI l) (nI m) f_variableCount f_cellCount f_goalCount f_frozenOn f_equationCount f_disequalityCount f_solved f_solutionCount a_kind a_first a_second a_size a_variablesIn a_code a_rowCount a_rowLeft a_rowRight a_goalTable a_goalX a_goalY a_equationX a_equationY a_disequalityX a_disequalityY a_solutionChoice a_solutionCode a_value a_walkX a_walkY (k + 1) (nI j) := by
    intro k
    induction k with
    | zero =>
      intro j hj hno
      have e : j = r := by omega
      subst e
      exact ⟨it, pk_le j j (fun _ => h0 hno) (fun q => absurd q (by omega)) RC⟩
    | succ k ih =>
      intro j hj hno
      obtain ⟨c, d, hc, hd, ec, ed, gc, gd⟩ := hrow j (by omega)
      have IX : nI t * 6 + nI j = nI (6 * t + j) := by
        show nI t * nI 6 + nI j = _
        rw [pk_mul, nI_add, Nat.mul_comm]
      have ii : vp_in (nI (6 * t + j)) 24 := vp_in_nI (by omega) (by omega)
      have ci : (nI (6 * t + j)).toNatClampNeg = 6 * t + j := nI_clamp (by omega)
      have LL : a_rowLeft (nI (6 * t + j)).toNatClampNeg = nI c := by rw [ci]; exact ec
      have RR : a_rowRight (nI (6 * t + j)).toNatClampNeg = nI d := by rw [ci]; exact ed
      have iL : vp_in (a_rowLeft (nI (6 * t + j)).toNatClampNeg) 48 := by rw [LL]; exact vp_in_nI (by omega) (by omega)
      have iR : vp_in (a_rowRight (nI (6 * t + j)).toNatClampNeg) 48 := by rw [RR]; exact vp_in_nI (by omega) (by omega)
      have CL : (a_code (a_rowLeft (nI (6 * t + j)).toNatClampNeg).toNatClampNeg = a_code (nI l).toNatClampNeg) ↔ tm c = tm l := by
        rw [LL, nI_clamp (n := c) (by omega), cl]
        exact fz_ceq hC hc hl gc gl
      have CR : (a_code (a_rowRight (nI (6 * t + j)).toNatClampNeg).toNatClampNeg = a_code (nI m).toNatClampNeg) ↔ tm d = tm m := by
        rw [RR, nI_clamp (n := d) (by omega), cm]
        exact fz_ceq hC hd hm gd gm
      have next : ¬ (tm c = tm l ∧ tm d = tm m) → ¬ fz_Hs tm a_rowLeft a_rowRight t (j + 1) l m := by
        rintro hh ⟨i, hi, q1, q2⟩
        rcases Nat.lt_or_ge i j with h2 | h2
        · exact hno ⟨i, h2, q1, q2⟩
        · have : i = j := by omega
          subst this
          rw [ec, nI_clamp (n := c) (by omega)] at q1
          rw [ed, nI_clamp (n := d) (by omega)] at q2
          exact hh ⟨q1, q2⟩
      refine ⟨it, pk_le r j (fun q => absurd q (by omega)) (fun _ => nm_r IX ⟨ii, iL, il, ?_⟩) RC⟩
      by_cases e1 : tm c = tm l
      · refine br_t (CL.mpr e1) ⟨ii, iR, im, ?_⟩
        by_cases e2 : tm d = tm m
        · refine br_t (CR.mpr e2) (h1 ⟨j, by omega, ?_, ?_⟩)
          · rw [ec, nI_clamp (n := c) (by omega)]
            exact e1
          · rw [ed, nI_clamp (n := d) (by omega)]
            exact e2
        · exact br_f (fun q => e2 (CR.mp q)) (nm_r (nI_1 j) (ih (j + 1) (by omega) (next (fun q => e2 q.2))))
      · exact br_f (fun q => e1 (CL.mp q)) (nm_r (nI_1 j) (ih (j + 1) (by omega) (next (fun q => e1 q.1))))
  exact ⟨r + 1, key r 0 (by omega) (fun ⟨j, hj, _⟩ => absurd hj (by omega))⟩
end
section
variable {f_variables f_cells f_goals f_equations f_disequalities f_solved f_found : Int32} {a_sign a_first a_second a_rows a_left a_right a_goalTable a_goalX a_goalY a_goalFrozen a_equalX a_equalY a_differX a_differY a_choiceOf a_pick a_bind a_text a_from a_stack : Nat → Int32}
variable {V n : Nat} {tm : Nat → List Nat}
theorem fz_rowY0 (hV : V ≤ 6) (hn : n ≤ 48) (hC : fz_CY V tm n a_sign a_first a_second) (e : f_cells = nI n) {t : Nat} (ht : t < 4) {z2 z3 : Int32} (h : fz_ng tm n z2 ∨ fz_ng tm n z3) {post : Int32 → SY → Prop} (hp : ∀ tx fr sk, post (-1) (f_variables, f_cells, f_goals, f_equations, f_disequalities, f_solved, f_found, a_sign, a_first, a_second, a_rows, a_left, a_right, a_goalTable, a_goalX, a_goalY, a_goalFrozen, a_equalX, a_equalY, a_differX, a_differY, a_choiceOf, a_pick, a_bind, tx, fr, sk)) : wpY_addRow post (f_variables, f_cells, f_goals, f_equations, f_disequalities, f_solved, f_found, a_sign, a_first, a_second, a_rows, a_left, a_right, a_goalTable, a_goalX, a_goalY, a_goalFrozen, a_equalX, a_equalY, a_differX, a_differY, a_choiceOf, a_pick, a_bind, a_text, a_from, a_stack) (nI t) z2 z3 := by
  refine fz_tabY1 ht ?_
  rcases fz_ix z2 (n := n) (by omega) with b2 | ⟨c, hc, rfl⟩
  · exact fz_icY0 e b2 (br_t rfl (hp _ _ _))
  · refine fz_icY1 hn e hc (br_f (by decide) ?_)
    rcases fz_ix z3 (n := n) (by omega) with b3 | ⟨d, hd, rfl⟩
    · exact fz_icY0 e b3 (br_t rfl (hp _ _ _))
    · have no : ¬ (fz_Gr (tm c) ∧ fz_Gr (tm d)) := by
        rintro ⟨g1, g2⟩
        have nb : ∀ x, x < n → fz_Gr (tm x) → ¬ fz_ng tm n (nI x) := by
          rintro x hx g ((q | q) | ⟨y, hy, q, g'⟩)
          · exact nI_pos (by omega) q
          · exact absurd ((nI_leI (by omega) (by omega)).mp q) (by omega)
          · have := (nI_eq (a := x) (b := y) (by omega) (by omega)).mp q
            rw [this] at g
            exact g' g
        rcases h with q | q
        · exact nb c hc g1 q
        · exact nb d hd g2 q
      refine fz_icY1 hn e hd (br_f (by decide) (fz_grd hV hn hC hc rfl (fun g1 tx fr sk => ?_) (fun g1 tx fr sk => br_t rfl (hp tx fr sk))))
      exact br_f (by decide) (fz_grd hV hn hC hd rfl (fun g2 tx fr sk => absurd ⟨g1, g2⟩ no) (fun g2 tx fr sk => br_t rfl (hp tx fr sk)))
theorem fz_rowY (hV : V ≤ 6) (hn : n ≤ 48) (hC : fz_CY V tm n a_sign a_first a_second) (e : f_cells = nI n) {t r l m : Nat} (ht : t < 4) (hr : r ≤ 6) (er : a_rows t = nI r) (hrow : ∀ j, j < r → ∃ c d, c < n ∧ d < n ∧ a_left (6 * t + j) = nI c ∧ a_right (6 * t + j) = nI d ∧ fz_Gr (tm c) ∧ fz_Gr (tm d)) (hl : l < n) (gl : fz_Gr (tm l)) (hm : m < n) (gm : fz_Gr (tm m)) {post : Int32 → SY → Prop}
    (h6 : r = 6 → ∀ tx fr sk, post (-2) (f_variables, f_cells, f_goals, f_equations, f_disequalities, f_solved, f_found, a_sign, a_first, a_second, a_rows, a_left, a_right, a_goalTable, a_goalX, a_goalY, a_goalFrozen, a_equalX, a_equalY, a_differX, a_differY, a_choiceOf, a_pick, a_bind, tx, fr, sk))
    (h1 : r < 6 → fz_Hs tm a_left a_right t r l m → ∀ bd tx fr sk, post (-1) (f_variables, f_cells, f_goals, f_equations, f_disequalities, f_solved, f_found, a_sign, a_first, a_second, a_rows, a_left, a_right, a_goalTable, a_goalX, a_goalY, a_goalFrozen, a_equalX, a_equalY, a_differX, a_differY, a_choiceOf, a_pick, bd, tx, fr, sk))
    (h0 : r < 6 → ¬ fz_Hs tm a_left a_right t r l m → ∀ bd tx fr sk, post (nI r) (f_variables, f_cells, f_goals, f_equations, f_disequalities, 0, f_found, a_sign, a_first, a_second, upd a_rows t (nI (r + 1)), upd a_left (6 * t + r) (nI l), upd a_right (6 * t + r) (nI m), a_goalTable, a_goalX, a_goalY, a_goalFrozen, a_equalX, a_equalY, a_differX, a_differY, a_choiceOf, a_pick, bd, tx, fr, sk)) : wpY_addRow post (f_variables, f_cells, f_goals, f_equations, f_disequalities, f_solved, f_found, a_sign, a_first, a_second, a_rows, a_left, a_right, a_goalTable, a_goalX, a_goalY, a_goalFrozen, a_equalX, a_equalY, a_differX, a_differY, a_choiceOf, a_pick, a_bind, a_text, a_from, a_stack) (nI t) (nI l) (nI m) := by
  have it : vp_in (nI t) 4 := vp_in_nI ht (by omega)
  have ct : (nI t).toNatClampNeg = t := nI_clamp (by omega)
  have RC : a_rows (nI t).toNatClampNeg = nI r := by rw [ct]; exact er
  refine fz_tabY1 ht (fz_icY1 hn e hl (br_f (by decide) (fz_icY1 hn e hm (br_f (by decide) (fz_grd hV hn hC hl rfl (fun _ tx fr sk => ?_) (fun q => absurd gl q))))))
  refine br_f (by decide) (fz_grd hV hn hC hm rfl (fun _ tx fr sk => ?_) (fun q => absurd gm q))
  refine br_f (by decide) ⟨it, pk_eq r 6 (fun q => h6 q tx fr sk) (fun q => fz_unb (fun bd hbd => ?_)) RC⟩
  have r6 : r < 6 := by omega
  have hb : fz_Vb tm n bd (fun _ => none) := ⟨fun _ _ => rfl, fun v hv => .inl ⟨rfl, hbd v hv⟩⟩
  have key : ∀ (k j : Nat) (tx fr sk : Nat → Int32), j + k = r → ¬ fz_Hs tm a_left a_right t j l m → wY_addRow_66 post (nI t) (nI l) (nI m) (k + 1) (nI j) f_variables f_cells f_goals f_equations f_disequalities f_solved f_found a_sign a_first a_second a_rows a_left a_right a_goalTable a_goalX a_goalY a_goalFrozen a_equalX a_equalY a_differX a_differY a_choiceOf a_pick bd tx fr sk := by
    intro k
    induction k with
    | zero =>
      intro j tx fr sk hj hno
      have ej : j = r := by omega
      subst ej
      have IX : 6 * nI t + a_rows (nI t).toNatClampNeg = nI (6 * t + j) := by
        rw [RC]
        show nI 6 * nI t + nI j = _
        rw [pk_mul, nI_add]
      have ii : vp_in (6 * nI t + a_rows (nI t).toNatClampNeg) 24 := by rw [IX]; exact vp_in_nI (by omega) (by omega)
      have ci : (6 * nI t + a_rows (nI t).toNatClampNeg).toNatClampNeg = 6 * t + j := by rw [IX]; exact nI_clamp (by omega)
      refine ⟨it, pk_le j j (fun _ => ⟨it, ii, nm_r (e' := upd a_left (6 * t + j) (nI l)) (by rw [ci]) ⟨it, ii, nm_r (e' := upd a_right (6 * t + j) (nI m)) (by rw [ci]) ⟨it, it, nm_r (e' := upd a_rows t (nI (j + 1))) (by rw [RC, nI_1, ct]) ⟨it, ?_⟩⟩⟩⟩) (fun q => absurd q (by omega)) RC⟩
      rw [ct, pk_us, nI_pred]
      exact h0 r6 hno bd tx fr sk
    | succ k ih =>
      intro j tx fr sk hj hno
      obtain ⟨c, d, hc, hd, ec, ed, gc, gd⟩ := hrow j (by omega)
      have IX : 6 * nI t + nI j = nI (6 * t + j) := by
        show nI 6 * nI t + nI j = _
        rw [pk_mul, nI_add]
      have ii : vp_in (6 * nI t + nI j) 24 := by rw [IX]; exact vp_in_nI (by omega) (by omega)
      have ci : (6 * nI t + nI j).toNatClampNeg = 6 * t + j := by rw [IX]; exact nI_clamp (by omega)
      have LL : a_left (6 * nI t + nI j).toNatClampNeg = nI c := by rw [ci]; exact ec
      have RR : a_right (6 * nI t + nI j).toNatClampNeg = nI d := by rw [ci]; exact ed
      have next : ¬ (tm c = tm l ∧ tm d = tm m) → ¬ fz_Hs tm a_left a_right t (j + 1) l m := by
        rintro hh ⟨i, hi, q1, q2⟩
        rcases Nat.lt_or_ge i j with h2 | h2
        · exact hno ⟨i, h2, q1, q2⟩
        · have : i = j := by omega
          subst this
          rw [ec, nI_clamp (n := c) (by omega)] at q1
          rw [ed, nI_clamp (n := d) (by omega)] at q2
          exact hh ⟨q1, q2⟩
      refine ⟨it, pk_le r j (fun q => absurd q (by omega)) (fun _ => ⟨ii, fz_same hV hn hC hb hc hl LL rfl (fun e1 tx1 fr1 sk1 => ?_) (fun e1 tx1 fr1 sk1 => ?_)⟩) RC⟩
      · rw [fz_txN, fz_txN] at e1
        refine br_f (by decide) ⟨ii, fz_same hV hn hC hb hd hm RR rfl (fun e2 tx2 fr2 sk2 => ?_) (fun e2 tx2 fr2 sk2 => ?_)⟩
        · rw [fz_txN, fz_txN] at e2
          refine br_f (by decide) (h1 r6 ⟨j, by omega, ?_, ?_⟩ bd tx2 fr2 sk2)
          · rw [ec, nI_clamp (n := c) (by omega)]
            exact e1
          · rw [ed, nI_clamp (n := d) (by omega)]
            exact e2
        · rw [fz_txN, fz_txN] at e2
          exact br_t rfl (nm_r (nI_1 j) (ih (j + 1) tx2 fr2 sk2 (by omega) (next (fun q => e2 q.2))))
      · rw [fz_txN, fz_txN] at e1
        exact br_t rfl (nm_r (nI_1 j) (ih (j + 1) tx1 fr1 sk1 (by omega) (next (fun q => e1 q.1))))
  exact ⟨r + 1, key r 0 tx fr sk (by omega) (fun ⟨j, hj, _⟩ => absurd hj (by omega))⟩
end
theorem i_vc_addRow {k : Nat} {u : SX} {v : SY} (I : i_Rel k u v) (hk : k + 5 ≤ 2561) (v1 : Int32) (v2 : Int32) (v3 : Int32) : wpX_addRow (fun r u' => wpY_addRow (fun r' v' => r' = r ∧ i_Rel (k + 5) u' v') v v1 v2 v3) u v1 v2 v3 := by
  obtain ⟨V, n, G, E, D, tm, f_frozenOn, f_solved, f_solutionCount, f_found, a_kind, a_first, a_second, a_size, a_variablesIn, a_code, a_rowCount, a_rowLeft, a_rowRight, a_goalTable, a_goalX, a_goalY, a_equationX, a_equationY, a_disequalityX, a_disequalityY, a_solutionChoice, a_solutionCode, a_sign, b_first, a_goalFrozen, a_choiceOf, a_value, a_walkX, a_walkY, a_pick, a_bind, a_text, a_from, a_stack, rfl, rfl, h⟩ := I
  have h' := h
  obtain ⟨hV1, hV, hn, hG, hE, hD, hCX, hCY, hRO, hGO, hQE, hQD, hF, hF2, hS⟩ := h'
  rcases fz_ix v1 (n := 4) (by omega) with b1 | ⟨t, ht, rfl⟩
  · unfold wpX_addRow
    refine fz_itX0 b1 ?_
    refine br_t rfl (fz_tabY b1 ⟨rfl, fz_mk h⟩)
  · unfold wpX_addRow
    refine fz_itX1 ht ?_
    refine br_f (by decide) ?_
    rcases fz_cls tm v2 (n := n) (by omega) with b2 | ⟨l, hl, rfl, gl⟩
    · exact fz_ngX hn hCX rfl b2 (br_t rfl (fz_rowY0 hV hn hCY rfl ht (.inl b2) (fun tx fr sk => ⟨rfl, fz_mk h⟩)))
    · refine fz_grX hn hCX rfl hl gl (br_f (by decide) ?_)
      rcases fz_cls tm v3 (n := n) (by omega) with b3 | ⟨m, hm, rfl, gm⟩
      · exact fz_ngX hn hCX rfl b3 (br_t rfl (fz_rowY0 hV hn hCY rfl ht (.inr b3) (fun tx fr sk => ⟨rfl, fz_mk h⟩)))
      · obtain ⟨r, hr, er, hrow⟩ := hRO t ht
        have it : vp_in (nI t) 4 := vp_in_nI ht (by omega)
        have ct : (nI t).toNatClampNeg = t := nI_clamp (by omega)
        have RC : a_rowCount (nI t).toNatClampNeg = nI r := by rw [ct]; exact er
        refine fz_grX hn hCX rfl hm gm (br_f (by decide) ⟨it, pk_lt r 6 (fun r6 => ?_) (fun r6 => ?_) RC⟩)
        · refine fz_hasX hn hCX ht hr er hrow hl gl hm gm (fun hs => ?_) (fun hs => ?_)
          · exact br_f (by decide) (fz_rowY hV hn hCY rfl ht hr er hrow hl gl hm gm (fun q => absurd q (by omega)) (fun _ _ bd tx fr sk => ⟨rfl, fz_mk h⟩) (fun _ q => absurd hs q))
          · have IX : nI t * 6 + nI r = nI (6 * t + r) := by
              show nI t * nI 6 + nI r = _
              rw [pk_mul, nI_add, Nat.mul_comm]
            have ii : vp_in (nI t * 6 + nI r) 24 := by rw [IX]; exact vp_in_nI (by omega) (by omega)
            have ci : (nI t * 6 + nI r).toNatClampNeg = 6 * t + r := by rw [IX]; exact nI_clamp (by omega)
            refine br_t rfl ⟨it, nm_r RC ⟨ii, nm_r (e' := upd a_rowLeft (6 * t + r) (nI l)) (by rw [ci]) ⟨ii, nm_r (e' := upd a_rowRight (6 * t + r) (nI m)) (by rw [ci]) ⟨it, nm_r (e' := upd a_rowCount t (nI (r + 1))) (by rw [nI_1, ct]) ?_⟩⟩⟩⟩
            refine fz_rowY hV hn hCY rfl ht hr er hrow hl gl hm gm (fun q => absurd q (by omega)) (fun _ q => absurd q hs) (fun _ _ bd tx fr sk => ⟨rfl, fz_mk ⟨hV1, hV, hn, hG, hE, hD, hCX, hCY, ?_, hGO, hQE, hQD, hF, hF2, .inl rfl⟩⟩)
            intro t' ht'
            by_cases et : t' = t
            · subst et
              refine ⟨r + 1, by omega, pk_us, fun j hj => ?_⟩
              by_cases ej : j = r
              · subst ej
                exact ⟨l, m, hl, hm, pk_us, pk_us, gl, gm⟩
              · obtain ⟨c, d, hc, hd, ec, ed, gc, gd⟩ := hrow j (by omega)
                refine ⟨c, d, hc, hd, ?_, ?_, gc, gd⟩
                · rw [pk_un (by omega)]
                  exact ec
                · rw [pk_un (by omega)]
                  exact ed
            · obtain ⟨r', hr', er', hrow'⟩ := hRO t' ht'
              refine ⟨r', hr', by rw [pk_un et]; exact er', fun j hj => ?_⟩
              obtain ⟨c, d, hc, hd, ec, ed, gc, gd⟩ := hrow' j hj
              refine ⟨c, d, hc, hd, ?_, ?_, gc, gd⟩
              · rw [pk_un (by omega)]
                exact ec
              · rw [pk_un (by omega)]
                exact ed
        · exact fz_rowY hV hn hCY rfl ht hr er hrow hl gl hm gm (fun _ tx fr sk => ⟨rfl, fz_mk h⟩) (fun q => absurd q (by omega)) (fun q => absurd q (by omega))
end
section
theorem fz_m1n {v : Nat} (h : v < 32) : ¬ (-1 : Int32) = nI v := by
  intro q
  exact fz_nm1 v (by omega) q.symm
section
variable {V : Nat} {n : Nat} {G : Nat} {E : Nat} {D : Nat} {tm : Nat → List Nat} {f_frozenOn : Int32} {f_solved : Int32} {f_solutionCount : Int32} {f_found : Int32} {a_kind : Nat → Int32} {a_first : Nat → Int32} {a_second : Nat → Int32} {a_size : Nat → Int32} {a_variablesIn : Nat → Int32} {a_code : Nat → Int64} {a_rowCount : Nat → Int32} {a_rowLeft : Nat → Int32} {a_rowRight : Nat → Int32} {a_goalTable : Nat → Int32} {a_goalX : Nat → Int32} {a_goalY : Nat → Int32} {a_equationX : Nat → Int32} {a_equationY : Nat → Int32} {a_disequalityX : Nat → Int32} {a_disequalityY : Nat → Int32} {a_solutionChoice : Nat → Int32} {a_solutionCode : Nat → Int64} {a_sign : Nat → Int32} {b_first : Nat → Int32} {a_goalFrozen : Nat → Int32} {a_choiceOf : Nat → Int32} {a_value : Nat → Int32} {a_walkX : Nat → Int32} {a_walkY : Nat → Int32} {a_pick : Nat → Int32} {a_bind : Nat → Int32} {a_text : Nat → Int32} {a_from : Nat → Int32} {a_stack : Nat → Int32}
/-- one goal more -/
theorem fz_newG (h : fz_Inv V n G E D tm f_frozenOn f_solved f_solutionCount f_found a_kind a_first a_second a_size a_variablesIn a_code a_rowCount a_rowLeft a_rowRight a_goalTable a_goalX a_goalY a_equationX a_equationY a_disequalityX a_disequalityY a_solutionChoice a_solutionCode a_sign b_first a_goalFrozen a_choiceOf) (h4 : G < 4) {t x y : Nat} (ht : t < 4) (hx : x < n) (hy : y < n) {fz fv : Int32} (hf : (fz = 0 ∧ fv = -1) ∨ ∃ v, v < V ∧ fv = nI v ∧ fz = (1 : Int32) <<< (nI v &&& 31)) :
    fz_Inv V n (G + 1) E D tm (f_frozenOn ||| fz) 0 f_solutionCount f_found a_kind a_first a_second a_size a_variablesIn a_code a_rowCount a_rowLeft a_rowRight (upd a_goalTable G (nI t)) (upd a_goalX G (nI x)) (upd a_goalY G (nI y)) a_equationX a_equationY a_disequalityX a_disequalityY a_solutionChoice a_solutionCode a_sign b_first (upd a_goalFrozen G fv) a_choiceOf := by
  obtain ⟨hV1, hV, hn, hG, hE, hD, hCX, hCY, hRO, hGO, hQE, hQD, hF, hF2, hS⟩ := h
  refine ⟨hV1, hV, hn, by omega, hE, hD, hCX, hCY, hRO, fun g hg => ?_, hQE, hQD, fun i hi => ?_, fun g hg => ?_, .inl rfl⟩
  · by_cases e : g = G
    · subst e
      exact ⟨t, x, y, ht, hx, hy, pk_us, pk_us, pk_us⟩
    · obtain ⟨t', x', y', q1, q2, q3, q4, q5, q6⟩ := hGO g (by omega)
      exact ⟨t', x', y', q1, q2, q3, by rw [pk_un e]; exact q4, by rw [pk_un e]; exact q5, by rw [pk_un e]; exact q6⟩
  · rw [b_or, Bool.or_eq_true, hF i hi]
    have bitf : bt fz i = true ↔ fv = nI i := by
      rcases hf with ⟨e1, e2⟩ | ⟨v, hv, e1, e2⟩
      · rw [e1, e2, b_0]
        exact ⟨fun q => absurd q (by decide), fun q => absurd q (fz_m1n hi)⟩
      · rw [e1, e2, fz_one (by omega) hi, decide_eq_true_iff, nI_eq (by omega) (by omega)]
        exact ⟨fun q => q.symm, fun q => q.symm⟩
    rw [bitf]
    constructor
    · rintro (⟨g, hg, q⟩ | q)
      · exact ⟨g, by omega, by rw [pk_un (by omega)]; exact q⟩
      · exact ⟨G, by omega, by rw [pk_us]; exact q⟩
    · rintro ⟨g, hg, q⟩
      by_cases e : g = G
      · rw [e, pk_us] at q
        exact .inr q
      · rw [pk_un e] at q
        exact .inl ⟨g, by omega, q⟩
  · by_cases e : g = G
    · rw [e, pk_us]
      rcases hf with ⟨_, e2⟩ | ⟨v, hv, e1, _⟩
      · exact .inl e2
      · exact .inr ⟨v, hv, e1⟩
    · rw [pk_un e]
      exact hF2 g (by omega)
theorem fz_newE (h : fz_Inv V n G E D tm f_frozenOn f_solved f_solutionCount f_found a_kind a_first a_second a_size a_variablesIn a_code a_rowCount a_rowLeft a_rowRight a_goalTable a_goalX a_goalY a_equationX a_equationY a_disequalityX a_disequalityY a_solutionChoice a_solutionCode a_sign b_first a_goalFrozen a_choiceOf) (h4 : E < 4) {x y : Nat} (hx : x < n) (hy : y < n) : fz_Inv V n G (E + 1) D tm f_frozenOn 0 f_solutionCount f_found a_kind a_first a_second a_size a_variablesIn a_code a_rowCount a_rowLeft a_rowRight a_goalTable a_goalX a_goalY (upd a_equationX E (nI x)) (upd a_equationY E (nI y)) a_disequalityX a_disequalityY a_solutionChoice a_solutionCode a_sign b_first a_goalFrozen a_choiceOf := by
  obtain ⟨hV1, hV, hn, hG, hE, hD, hCX, hCY, hRO, hGO, hQE, hQD, hF, hF2, hS⟩ := h
  refine ⟨hV1, hV, hn, hG, by omega, hD, hCX, hCY, hRO, hGO, fun g hg => ?_, hQD, hF, hF2, .inl rfl⟩
  by_cases e : g = E
  · subst e
    exact ⟨x, y, hx, hy, pk_us, pk_us⟩
  · obtain ⟨x', y', q2, q3, q5, q6⟩ := hQE g (by omega)
    exact ⟨x', y', q2, q3, by rw [pk_un e]; exact q5, by rw [pk_un e]; exact q6⟩
theorem fz_newD (h : fz_Inv V n G E D tm f_frozenOn f_solved f_solutionCount f_found a_kind a_first a_second a_size a_variablesIn a_code a_rowCount a_rowLeft a_rowRight a_goalTable a_goalX a_goalY a_equationX a_equationY a_disequalityX a_disequalityY a_solutionChoice a_solutionCode a_sign b_first a_goalFrozen a_choiceOf) (h6 : D < 6) {x y : Nat} (hx : x < n) (hy : y < n) : fz_Inv V n G E (D + 1) tm f_frozenOn 0 f_solutionCount f_found a_kind a_first a_second a_size a_variablesIn a_code a_rowCount a_rowLeft a_rowRight a_goalTable a_goalX a_goalY a_equationX a_equationY (upd a_disequalityX D (nI x)) (upd a_disequalityY D (nI y)) a_solutionChoice a_solutionCode a_sign b_first a_goalFrozen a_choiceOf := by
  obtain ⟨hV1, hV, hn, hG, hE, hD, hCX, hCY, hRO, hGO, hQE, hQD, hF, hF2, hS⟩ := h
  refine ⟨hV1, hV, hn, hG, hE, by omega, hCX, hCY, hRO, hGO, hQE, fun g hg => ?_, hF, hF2, .inl rfl⟩
  by_cases e : g = D
  · subst e
    exact ⟨x, y, hx, hy, pk_us, pk_us⟩
  · obtain ⟨x', y', q2, q3, q5, q6⟩ := hQD g (by omega)
    exact ⟨x', y', q2, q3, by rw [pk_un e]; exact q5, by rw [pk_un e]; exact q6⟩
theorem fz_noQ (h : fz_Inv V n G E D tm f_frozenOn f_solved f_solutionCount f_found a_kind a_first a_second a_size a_variablesIn a_code a_rowCount a_rowLeft a_rowRight a_goalTable a_goalX a_goalY a_equationX a_equationY a_disequalityX a_disequalityY a_solutionChoice a_solutionCode a_sign b_first a_goalFrozen a_choiceOf) : fz_Inv V n 0 0 0 tm 0 0 f_solutionCount f_found a_kind a_first a_second a_size a_variablesIn a_code a_rowCount a_rowLeft a_rowRight a_goalTable a_goalX a_goalY a_equationX a_equationY a_disequalityX a_disequalityY a_solutionChoice a_solutionCode a_sign b_first a_goalFrozen a_choiceOf := by
  obtain ⟨hV1, hV, hn, hG, hE, hD, hCX, hCY, hRO, hGO, hQE, hQD, hF, hF2, hS⟩ := h
  refine ⟨hV1, hV, hn, by omega, by omega, by omega, hCX, hCY, hRO, fun g hg => absurd hg (by omega), fun g hg => absurd hg (by omega), fun g hg => absurd hg (by omega), fun i hi => ?_, fun g hg => absurd hg (by omega), .inl rfl⟩
  rw [b_0]
  exact ⟨fun q => absurd q (by decide), fun ⟨g, hg, _⟩ => absurd hg (by omega)⟩
end
theorem fz_nbad {n c : Nat} (hn : n < 2 ^ 31) (hc : c < n) : ¬ fz_bad n (nI c) := by
  rintro (q | q)
  · exact nI_pos (by omega) q
  · exact absurd ((nI_leI hn (by omega)).mp q) (by omega)
section
variable {V : Nat} {n : Nat} {G : Nat} {E : Nat} {D : Nat} {tm : Nat → List Nat} {f_frozenOn : Int32} {f_solved : Int32} {f_solutionCount : Int32} {f_found : Int32} {a_kind : Nat → Int32} {a_first : Nat → Int32} {a_second : Nat → Int32} {a_size : Nat → Int32} {a_variablesIn : Nat → Int32} {a_code : Nat → Int64} {a_rowCount : Nat → Int32} {a_rowLeft : Nat → Int32} {a_rowRight : Nat → Int32} {a_goalTable : Nat → Int32} {a_goalX : Nat → Int32} {a_goalY : Nat → Int32} {a_equationX : Nat → Int32} {a_equationY : Nat → Int32} {a_disequalityX : Nat → Int32} {a_disequalityY : Nat → Int32} {a_solutionChoice : Nat → Int32} {a_solutionCode : Nat → Int64} {a_sign : Nat → Int32} {b_first : Nat → Int32} {a_goalFrozen : Nat → Int32} {a_choiceOf : Nat → Int32} {a_value : Nat → Int32} {a_walkX : Nat → Int32} {a_walkY : Nat → Int32} {a_pick : Nat → Int32} {a_bind : Nat → Int32} {a_text : Nat → Int32} {a_from : Nat → Int32} {a_stack : Nat → Int32}
theorem fz_goalX (h : fz_Inv V n G E D tm f_frozenOn f_solved f_solutionCount f_found a_kind a_first a_second a_size a_variablesIn a_code a_rowCount a_rowLeft a_rowRight a_goalTable a_goalX a_goalY a_equationX a_equationY a_disequalityX a_disequalityY a_solutionChoice a_solutionCode a_sign b_first a_goalFrozen a_choiceOf) {v1 v2 v3 fz : Int32} {post : Int32 → SX → Prop} (hb : (fz_bad 4 v1 ∨ fz_bad n v2 ∨ fz_bad n v3) → post (-1) (nI V, nI n, nI G, f_frozenOn, nI E, nI D, f_solved, f_solutionCount, a_kind, a_first, a_second, a_size, a_variablesIn, a_code, a_rowCount, a_rowLeft, a_rowRight, a_goalTable, a_goalX, a_goalY, a_equationX, a_equationY, a_disequalityX, a_disequalityY, a_solutionChoice, a_solutionCode, a_value, a_walkX, a_walkY))
    (hf : ∀ t x y, t < 4 → x < n → y < n → v1 = nI t → v2 = nI x → v3 = nI y → G = 4 → post (-2) (nI V, nI n, nI G, f_frozenOn, nI E, nI D, f_solved, f_solutionCount, a_kind, a_first, a_second, a_size, a_variablesIn, a_code, a_rowCount, a_rowLeft, a_rowRight, a_goalTable, a_goalX, a_goalY, a_equationX, a_equationY, a_disequalityX, a_disequalityY, a_solutionChoice, a_solutionCode, a_value, a_walkX, a_walkY))
    (ho : ∀ t x y, t < 4 → x < n → y < n → v1 = nI t → v2 = nI x → v3 = nI y → G < 4 → post (nI G) (nI V, nI n, nI (G + 1), f_frozenOn ||| fz, nI E, nI D, 0, f_solutionCount, a_kind, a_first, a_second, a_size, a_variablesIn, a_code, a_rowCount, a_rowLeft, a_rowRight, upd a_goalTable G v1, upd a_goalX G v2, upd a_goalY G v3, a_equationX, a_equationY, a_disequalityX, a_disequalityY, a_solutionChoice, a_solutionCode, a_value, a_walkX, a_walkY)) : wpX_addGoal post (nI V, nI n, nI G, f_frozenOn, nI E, nI D, f_solved, f_solutionCount, a_kind, a_first, a_second, a_size, a_variablesIn, a_code, a_rowCount, a_rowLeft, a_rowRight, a_goalTable, a_goalX, a_goalY, a_equationX, a_equationY, a_disequalityX, a_disequalityY, a_solutionChoice, a_solutionCode, a_value, a_walkX, a_walkY) v1 v2 v3 fz := by
  have hn := h.2.2.1
  have hG := h.2.2.2.1
  rcases fz_ix v1 (n := 4) (by omega) with b1 | ⟨t, ht, rfl⟩
  · unfold wpX_addGoal
    refine fz_itX0 b1 ?_
    exact br_t rfl (hb (.inl b1))
  · unfold wpX_addGoal
    refine fz_itX1 ht ?_
    refine br_f (by decide) ?_
    rcases fz_ix v2 (n := n) (by omega) with b2 | ⟨x, hx, rfl⟩
    · exact fz_icX0 rfl b2 (br_t rfl (hb (.inr (.inl b2))))
    · refine fz_icX1 hn rfl hx (br_f (by decide) ?_)
      rcases fz_ix v3 (n := n) (by omega) with b3 | ⟨y, hy, rfl⟩
      · exact fz_icX0 rfl b3 (br_t rfl (hb (.inr (.inr b3))))
      · refine fz_icX1 hn rfl hy (br_f (by decide) (pk_lt G 4 (fun g4 => ?_) (fun g4 => hf t x y ht hx hy rfl rfl rfl (by omega))))
        have i4 : vp_in (nI G) 4 := vp_in_nI g4 (by omega)
        have cG : (nI G).toNatClampNeg = G := nI_clamp (by omega)
        refine ⟨i4, nm_r (e' := upd a_goalTable G (nI t)) (by rw [cG]) ⟨i4, nm_r (e' := upd a_goalX G (nI x)) (by rw [cG]) ⟨i4, nm_r (e' := upd a_goalY G (nI y)) (by rw [cG]) (nm_e (nm_r (nI_1 G) ?_))⟩⟩⟩
        rw [nI_pred]
        exact ho t x y ht hx hy rfl rfl rfl g4
theorem fz_goalY (h : fz_Inv V n G E D tm f_frozenOn f_solved f_solutionCount f_found a_kind a_first a_second a_size a_variablesIn a_code a_rowCount a_rowLeft a_rowRight a_goalTable a_goalX a_goalY a_equationX a_equationY a_disequalityX a_disequalityY a_solutionChoice a_solutionCode a_sign b_first a_goalFrozen a_choiceOf) {v1 v2 v3 fv : Int32} (fl : fv < nI V) {post : Int32 → SY → Prop} (hb : (fz_bad 4 v1 ∨ fz_bad n v2 ∨ fz_bad n v3) → post (-1) (nI V, nI n, nI G, nI E, nI D, f_solved, f_found, a_sign, b_first, a_second, a_rowCount, a_rowLeft, a_rowRight, a_goalTable, a_goalX, a_goalY, a_goalFrozen, a_equationX, a_equationY, a_disequalityX, a_disequalityY, a_choiceOf, a_pick, a_bind, a_text, a_from, a_stack))
    (hf : ∀ t x y, t < 4 → x < n → y < n → v1 = nI t → v2 = nI x → v3 = nI y → G = 4 → post (-2) (nI V, nI n, nI G, nI E, nI D, f_solved, f_found, a_sign, b_first, a_second, a_rowCount, a_rowLeft, a_rowRight, a_goalTable, a_goalX, a_goalY, a_goalFrozen, a_equationX, a_equationY, a_disequalityX, a_disequalityY, a_choiceOf, a_pick, a_bind, a_text, a_from, a_stack))
    (ho : ∀ t x y, t < 4 → x < n → y < n → v1 = nI t → v2 = nI x → v3 = nI y → G < 4 → post (nI G) (nI V, nI n, nI (G + 1), nI E, nI D, 0, f_found, a_sign, b_first, a_second, a_rowCount, a_rowLeft, a_rowRight, upd a_goalTable G v1, upd a_goalX G v2, upd a_goalY G v3, upd a_goalFrozen G fv, a_equationX, a_equationY, a_disequalityX, a_disequalityY, a_choiceOf, a_pick, a_bind, a_text, a_from, a_stack)) : wpY_addGoal post (nI V, nI n, nI G, nI E, nI D, f_solved, f_found, a_sign, b_first, a_second, a_rowCount, a_rowLeft, a_rowRight, a_goalTable, a_goalX, a_goalY, a_goalFrozen, a_equationX, a_equationY, a_disequalityX, a_disequalityY, a_choiceOf, a_pick, a_bind, a_text, a_from, a_stack) fv v1 v2 v3 := by
  have hn := h.2.2.1
  have hG := h.2.2.2.1
  rcases fz_ix v1 (n := 4) (by omega) with b1 | ⟨t, ht, rfl⟩
  · exact fz_tabY b1 (hb (.inl b1))
  · refine fz_tabY1 ht ?_
    rcases fz_ix v2 (n := n) (by omega) with b2 | ⟨x, hx, rfl⟩
    · exact fz_icY0 rfl b2 (br_t rfl (hb (.inr (.inl b2))))
    · refine fz_icY1 hn rfl hx (br_f (by decide) ?_)
      rcases fz_ix v3 (n := n) (by omega) with b3 | ⟨y, hy, rfl⟩
      · exact fz_icY0 rfl b3 (br_t rfl (hb (.inr (.inr b3))))
      · refine fz_icY1 hn rfl hy (br_f (by decide) (br_t fl (pk_eq G 4 (fun g4 => hf t x y ht hx hy rfl rfl rfl g4) (fun g4 => ?_))))
        have i4 : vp_in (nI G) 4 := vp_in_nI (by omega) (by omega)
        have cG : (nI G).toNatClampNeg = G := nI_clamp (by omega)
        refine ⟨i4, nm_r (e' := upd a_goalTable G (nI t)) (by rw [cG]) ⟨i4, nm_r (e' := upd a_goalX G (nI x)) (by rw [cG]) ⟨i4, nm_r (e' := upd a_goalY G (nI y)) (by rw [cG]) ⟨i4, nm_r (e' := upd a_goalFrozen G fv) (by rw [cG]) (nm_r (nI_1 G) ?_)⟩⟩⟩⟩
        rw [nI_pred]
        exact ho t x y ht hx hy rfl rfl rfl (by omega)
end
theorem i_vc_goal {k : Nat} {u : SX} {v : SY} (I : i_Rel k u v) (hk : k + 5 ≤ 2561) (v1 : Int32) (v2 : Int32) (v3 : Int32) : wpX_goal (fun r u' => wpY_goal (fun r' v' => r' = r ∧ i_Rel (k + 5) u' v') v v1 v2 v3) u v1 v2 v3 := by
  obtain ⟨V, n, G, E, D, tm, f_frozenOn, f_solved, f_solutionCount, f_found, a_kind, a_first, a_second, a_size, a_variablesIn, a_code, a_rowCount, a_rowLeft, a_rowRight, a_goalTable, a_goalX, a_goalY, a_equationX, a_equationY, a_disequalityX, a_disequalityY, a_solutionChoice, a_solutionCode, a_sign, b_first, a_goalFrozen, a_choiceOf, a_value, a_walkX, a_walkY, a_pick, a_bind, a_text, a_from, a_stack, rfl, rfl, h⟩ := I
  have hn := h.2.2.1
  have fl : (-1 : Int32) < nI V := by
    have h0 : (0 : Int32) ≤ nI V := nI_pos' (by have := h.2.1; omega)
    exact Int32.lt_of_lt_of_le (by decide) h0
  have no : ∀ t x y, t < 4 → x < n → y < n → ¬ (fz_bad 4 (nI t) ∨ fz_bad n (nI x) ∨ fz_bad n (nI y)) := by
    rintro t x y ht hx hy (q | q | q)
    · exact fz_nbad (by omega) ht q
    · exact fz_nbad (by omega) hx q
    · exact fz_nbad (by omega) hy q
  unfold wpX_goal wpY_goal
  refine fz_goalX h (fun hb => ?_) (fun t x y ht hx hy e1 e2 e3 g4 => ?_) (fun t x y ht hx hy e1 e2 e3 g4 => ?_)
  · refine fz_goalY h fl (fun _ => ⟨rfl, fz_mk h⟩) (fun t x y ht hx hy e1 e2 e3 g4 => ?_) (fun t x y ht hx hy e1 e2 e3 g4 => ?_)
    · subst e1 e2 e3
      exact absurd hb (no t x y ht hx hy)
    · subst e1 e2 e3
      exact absurd hb (no t x y ht hx hy)
  · subst e1 e2 e3
    exact fz_goalY h fl (fun hb => absurd hb (no t x y ht hx hy)) (fun _ _ _ _ _ _ _ _ _ _ => ⟨rfl, fz_mk h⟩) (fun _ _ _ _ _ _ _ _ _ q => absurd q (by omega))
  · subst e1 e2 e3
    exact fz_goalY h fl (fun hb => absurd hb (no t x y ht hx hy)) (fun _ _ _ _ _ _ _ _ _ q => absurd q (by omega)) (fun _ _ _ _ _ _ _ _ _ _ => ⟨rfl, fz_mk (fz_newG h g4 ht hx hy (.inl ⟨rfl, rfl⟩))⟩)
theorem i_vc_freeze {k : Nat} {u : SX} {v : SY} (I : i_Rel k u v) (hk : k + 5 ≤ 2561) (v1 : Int32) (v2 : Int32) (v3 : Int32) (v4 : Int32) : wpX_freeze (fun r u' => wpY_freeze (fun r' v' => r' = r ∧ i_Rel (k + 5) u' v') v v1 v2 v3 v4) u v1 v2 v3 v4 := by
  obtain ⟨V, n, G, E, D, tm, f_frozenOn, f_solved, f_solutionCount, f_found, a_kind, a_first, a_second, a_size, a_variablesIn, a_code, a_rowCount, a_rowLeft, a_rowRight, a_goalTable, a_goalX, a_goalY, a_equationX, a_equationY, a_disequalityX, a_disequalityY, a_solutionChoice, a_solutionCode, a_sign, b_first, a_goalFrozen, a_choiceOf, a_value, a_walkX, a_walkY, a_pick, a_bind, a_text, a_from, a_stack, rfl, rfl, h⟩ := I
  have hV := h.2.1
  have hn := h.2.2.1
  have no : ∀ t x y, t < 4 → x < n → y < n → ¬ (fz_bad 4 (nI t) ∨ fz_bad n (nI x) ∨ fz_bad n (nI y)) := by
    rintro t x y ht hx hy (q | q | q)
    · exact fz_nbad (by omega) ht q
    · exact fz_nbad (by omega) hx q
    · exact fz_nbad (by omega) hy q
  rcases fz_ix v1 (n := V) (by omega) with b1 | ⟨j, hj, rfl⟩
  · unfold wpX_freeze wpY_freeze
    refine fz_ivX0 rfl b1 ?_
    refine br_t rfl ?_
    by_cases k0 : 0 ≤ v1
    · rcases b1 with q | q
      · exact absurd k0 (Int32.not_le.mpr q)
      · refine br_t k0 ?_
        rcases fz_ix v2 (n := 4) (by omega) with b2 | ⟨t, ht, rfl⟩
        · exact fz_tabY b2 ⟨rfl, fz_mk h⟩
        · refine fz_tabY1 ht ?_
          rcases fz_ix v3 (n := n) (by omega) with b3 | ⟨x, hx, rfl⟩
          · exact fz_icY0 rfl b3 (br_t rfl ⟨rfl, fz_mk h⟩)
          · refine fz_icY1 hn rfl hx (br_f (by decide) ?_)
            rcases fz_ix v4 (n := n) (by omega) with b4 | ⟨y, hy, rfl⟩
            · exact fz_icY0 rfl b4 (br_t rfl ⟨rfl, fz_mk h⟩)
            · exact fz_icY1 hn rfl hy (br_f (by decide) (br_f (Int32.not_lt.mpr q) ⟨rfl, fz_mk h⟩))
    · exact br_f k0 ⟨rfl, fz_mk h⟩
  · have p0 : (0 : Int32) ≤ nI j := nI_pos' (by omega)
    have fl : nI j < nI V := (nI_ltI (by omega) (by omega)).mpr hj
    unfold wpX_freeze wpY_freeze
    refine fz_ivX1 hV rfl hj ?_
    refine br_f (by decide) ?_
    refine fz_goalX h (fun hb => br_t p0 ?_) (fun t x y ht hx hy e1 e2 e3 g4 => br_t p0 ?_) (fun t x y ht hx hy e1 e2 e3 g4 => br_t p0 ?_)
    · refine fz_goalY h fl (fun _ => ⟨rfl, fz_mk h⟩) (fun t x y ht hx hy e1 e2 e3 g4 => ?_) (fun t x y ht hx hy e1 e2 e3 g4 => ?_)
      · subst e1 e2 e3
        exact absurd hb (no t x y ht hx hy)
      · subst e1 e2 e3
        exact absurd hb (no t x y ht hx hy)
    · subst e1 e2 e3
      exact fz_goalY h fl (fun hb => absurd hb (no t x y ht hx hy)) (fun _ _ _ _ _ _ _ _ _ _ => ⟨rfl, fz_mk h⟩) (fun _ _ _ _ _ _ _ _ _ q => absurd q (by omega))
    · subst e1 e2 e3
      exact fz_goalY h fl (fun hb => absurd hb (no t x y ht hx hy)) (fun _ _ _ _ _ _ _ _ _ q => absurd q (by omega)) (fun _ _ _ _ _ _ _ _ _ _ => ⟨rfl, fz_mk (fz_newG h g4 ht hx hy (.inr ⟨j, hj, rfl, rfl⟩))⟩)
theorem i_vc_equal {k : Nat} {u : SX} {v : SY} (I : i_Rel k u v) (hk : k + 5 ≤ 2561) (v1 : Int32) (v2 : Int32) : wpX_equal (fun r u' => wpY_equal (fun r' v' => r' = r ∧ i_Rel (k + 5) u' v') v v1 v2) u v1 v2 := by
  obtain ⟨V, n, G, E, D, tm, f_frozenOn, f_solved, f_solutionCount, f_found, a_kind, a_first, a_second, a_size, a_variablesIn, a_code, a_rowCount, a_rowLeft, a_rowRight, a_goalTable, a_goalX, a_goalY, a_equationX, a_equationY, a_disequalityX, a_disequalityY, a_solutionChoice, a_solutionCode, a_sign, b_first, a_goalFrozen, a_choiceOf, a_value, a_walkX, a_walkY, a_pick, a_bind, a_text, a_from, a_stack, rfl, rfl, h⟩ := I
  have hn := h.2.2.1
  have hE := h.2.2.2.2.1
  rcases fz_ix v1 (n := n) (by omega) with b2 | ⟨x, hx, rfl⟩
  · unfold wpX_equal wpY_equal
    refine fz_icX0 rfl b2 ?_
    refine br_t rfl ?_
    refine fz_icY0 rfl b2 ?_
    exact br_t rfl ⟨rfl, fz_mk h⟩
  · unfold wpX_equal wpY_equal
    refine fz_icX1 hn rfl hx ?_
    refine br_f (by decide) ?_
    rcases fz_ix v2 (n := n) (by omega) with b3 | ⟨y, hy, rfl⟩
    · exact fz_icX0 rfl b3 (br_t rfl (fz_icY1 hn rfl hx (br_f (by decide) (fz_icY0 rfl b3 (br_t rfl ⟨rfl, fz_mk h⟩)))))
    · refine fz_icX1 hn rfl hy (br_f (by decide) (pk_lt E 4 (fun g4 => ?_) (fun g4 => ?_)))
      · have i4 : vp_in (nI E) 4 := vp_in_nI g4 (by omega)
        have cG : (nI E).toNatClampNeg = E := nI_clamp (by omega)
        exact ⟨i4, nm_r (e' := upd a_equationX E (nI x)) (by rw [cG]) ⟨i4, nm_r (e' := upd a_equationY E (nI y)) (by rw [cG]) (nm_r (nI_1 E) (fz_icY1 hn rfl hx (br_f (by decide) (fz_icY1 hn rfl hy (br_f (by decide) (pk_eq E 4 (fun q => absurd q (by omega)) (fun _ => ⟨i4, nm_r (e' := upd a_equationX E (nI x)) (by rw [cG]) ⟨i4, nm_r (e' := upd a_equationY E (nI y)) (by rw [cG]) (nm_r (nI_1 E) ⟨rfl, fz_mk (fz_newE h g4 hx hy)⟩)⟩⟩)))))))⟩⟩
      · exact fz_icY1 hn rfl hx (br_f (by decide) (fz_icY1 hn rfl hy (br_f (by decide) (pk_eq E 4 (fun _ => ⟨rfl, fz_mk h⟩) (fun q => absurd (show E = 4 by omega) q)))))
theorem i_vc_differ {k : Nat} {u : SX} {v : SY} (I : i_Rel k u v) (hk : k + 5 ≤ 2561) (v1 : Int32) (v2 : Int32) : wpX_differ (fun r u' => wpY_differ (fun r' v' => r' = r ∧ i_Rel (k + 5) u' v') v v1 v2) u v1 v2 := by
  obtain ⟨V, n, G, E, D, tm, f_frozenOn, f_solved, f_solutionCount, f_found, a_kind, a_first, a_second, a_size, a_variablesIn, a_code, a_rowCount, a_rowLeft, a_rowRight, a_goalTable, a_goalX, a_goalY, a_equationX, a_equationY, a_disequalityX, a_disequalityY, a_solutionChoice, a_solutionCode, a_sign, b_first, a_goalFrozen, a_choiceOf, a_value, a_walkX, a_walkY, a_pick, a_bind, a_text, a_from, a_stack, rfl, rfl, h⟩ := I
  have hn := h.2.2.1
  have hD := h.2.2.2.2.2.1
  rcases fz_ix v1 (n := n) (by omega) with b2 | ⟨x, hx, rfl⟩
  · unfold wpX_differ wpY_differ
    refine fz_icX0 rfl b2 ?_
    refine br_t rfl ?_
    refine fz_icY0 rfl b2 ?_
    exact br_t rfl ⟨rfl, fz_mk h⟩
  · unfold wpX_differ wpY_differ
    refine fz_icX1 hn rfl hx ?_
    refine br_f (by decide) ?_
    rcases fz_ix v2 (n := n) (by omega) with b3 | ⟨y, hy, rfl⟩
    · exact fz_icX0 rfl b3 (br_t rfl (fz_icY1 hn rfl hx (br_f (by decide) (fz_icY0 rfl b3 (br_t rfl ⟨rfl, fz_mk h⟩)))))
    · refine fz_icX1 hn rfl hy (br_f (by decide) (pk_lt D 6 (fun g4 => ?_) (fun g4 => ?_)))
      · have i4 : vp_in (nI D) 6 := vp_in_nI g4 (by omega)
        have cG : (nI D).toNatClampNeg = D := nI_clamp (by omega)
        exact ⟨i4, nm_r (e' := upd a_disequalityX D (nI x)) (by rw [cG]) ⟨i4, nm_r (e' := upd a_disequalityY D (nI y)) (by rw [cG]) (nm_r (nI_1 D) (fz_icY1 hn rfl hx (br_f (by decide) (fz_icY1 hn rfl hy (br_f (by decide) (pk_eq D 6 (fun q => absurd q (by omega)) (fun _ => ⟨i4, nm_r (e' := upd a_disequalityX D (nI x)) (by rw [cG]) ⟨i4, nm_r (e' := upd a_disequalityY D (nI y)) (by rw [cG]) (nm_r (nI_1 D) ⟨rfl, fz_mk (fz_newD h g4 hx hy)⟩)⟩⟩)))))))⟩⟩
      · exact fz_icY1 hn rfl hx (br_f (by decide) (fz_icY1 hn rfl hy (br_f (by decide) (pk_eq D 6 (fun _ => ⟨rfl, fz_mk h⟩) (fun q => absurd (show D = 6 by omega) q)))))
theorem i_vc_forget {k : Nat} {u : SX} {v : SY} (I : i_Rel k u v) (hk : k + 5 ≤ 2561) : wpX_forget (fun r u' => wpY_forget (fun r' v' => r' = r ∧ i_Rel (k + 5) u' v') v) u := by
  obtain ⟨V, n, G, E, D, tm, f_frozenOn, f_solved, f_solutionCount, f_found, a_kind, a_first, a_second, a_size, a_variablesIn, a_code, a_rowCount, a_rowLeft, a_rowRight, a_goalTable, a_goalX, a_goalY, a_equationX, a_equationY, a_disequalityX, a_disequalityY, a_solutionChoice, a_solutionCode, a_sign, b_first, a_goalFrozen, a_choiceOf, a_value, a_walkX, a_walkY, a_pick, a_bind, a_text, a_from, a_stack, rfl, rfl, h⟩ := I
  have q := fz_mk (V := V) (n := n) (G := 0) (E := 0) (D := 0) (tm := tm) (f_frozenOn := 0) (f_solved := 0) (f_solutionCount := f_solutionCount) (f_found := f_found) (a_kind := a_kind) (a_first := a_first) (a_second := a_second) (a_size := a_size) (a_variablesIn := a_variablesIn) (a_code := a_code) (a_rowCount := a_rowCount) (a_rowLeft := a_rowLeft) (a_rowRight := a_rowRight) (a_goalTable := a_goalTable) (a_goalX := a_goalX) (a_goalY := a_goalY) (a_equationX := a_equationX) (a_equationY := a_equationY) (a_disequalityX := a_disequalityX) (a_disequalityY := a_disequalityY) (a_solutionChoice := a_solutionChoice) (a_solutionCode := a_solutionCode) (a_sign := a_sign) (b_first := b_first) (a_goalFrozen := a_goalFrozen) (a_choiceOf := a_choiceOf) (a_value := a_value) (a_walkX := a_walkX) (a_walkY := a_walkY) (a_pick := a_pick) (a_bind := a_bind) (a_text := a_text) (a_from := a_from) (a_stack := a_stack) (k := k + 5) (fz_noQ h)
  exact ⟨rfl, q⟩
def fz_zr (rc : Nat → Int32) : Nat → Nat → Int32
  | 0 => rc
  | i + 1 => upd (fz_zr rc i) i 0
theorem fz_zr0 (rc : Nat → Int32) : ∀ i t, t < i → fz_zr rc i t = 0 := by
  intro i
  induction i with
  | zero => intro t ht; omega
  | succ i ih =>
    intro t ht
    show upd (fz_zr rc i) i 0 t = 0
    by_cases e : t = i
    · rw [e]
      exact pk_us
    · rw [pk_un e]
      exact ih t (by omega)
theorem i_vc_clear {k : Nat} {u : SX} {v : SY} (I : i_Rel k u v) (hk : k + 5 ≤ 2561) : wpX_clear (fun r u' => wpY_clear (fun r' v' => r' = r ∧ i_Rel (k + 5) u' v') v) u := by
  obtain ⟨V, n, G, E, D, tm, f_frozenOn, f_solved, f_solutionCount, f_found, a_kind, a_first, a_second, a_size, a_variablesIn, a_code, a_rowCount, a_rowLeft, a_rowRight, a_goalTable, a_goalX, a_goalY, a_equationX, a_equationY, a_disequalityX, a_disequalityY, a_solutionChoice, a_solutionCode, a_sign, b_first, a_goalFrozen, a_choiceOf, a_value, a_walkX, a_walkY, a_pick, a_bind, a_text, a_from, a_stack, rfl, rfl, h⟩ := I
  have fin : fz_Inv V 0 0 0 0 tm 0 0 f_solutionCount f_found a_kind a_first a_second a_size a_variablesIn a_code (fz_zr a_rowCount 4) a_rowLeft a_rowRight a_goalTable a_goalX a_goalY a_equationX a_equationY a_disequalityX a_disequalityY a_solutionChoice a_solutionCode a_sign b_first a_goalFrozen a_choiceOf := by
    obtain ⟨hV1, hV, hn, hG, hE, hD, hCX, hCY, hRO, hGO, hQE, hQD, hF, hF2, hS⟩ := fz_noQ h
    exact ⟨hV1, hV, by omega, hG, hE, hD, fun c hc => absurd hc (by omega), fun c hc => absurd hc (by omega), fun t ht => ⟨0, by omega, fz_zr0 _ 4 t ht, fun j hj => absurd hj (by omega)⟩, fun c hc => absurd hc (by omega), fun c hc => absurd hc (by omega), fun c hc => absurd hc (by omega), hF, fun c hc => absurd hc (by omega), .inl rfl⟩
  have keyY : ∀ (post : Int32 → SY → Prop), post (nI n) (nI V, 0, 0, 0, 0, 0, f_found, a_sign, b_first, a_second, fz_zr a_rowCount 4, a_rowLeft, a_rowRight, a_goalTable, a_goalX, a_goalY, a_goalFrozen, a_equationX, a_equationY, a_disequalityX, a_disequalityY, a_choiceOf, a_pick, a_bind, a_text, a_from, a_stack) → ∀ (m i : Nat), i + m = 4 → wY_clear_17 post (nI n) (nI V) 0 0 0 0 0 f_found (m + 1) (nI i) a_sign b_first a_second (fz_zr a_rowCount i) a_rowLeft a_rowRight a_goalTable a_goalX a_goalY a_goalFrozen a_equationX a_equationY a_disequalityX a_disequalityY a_choiceOf a_pick a_bind a_text a_from a_stack := by
    intro post hp m
    induction m with
    | zero =>
      intro i hi
      have e : i = 4 := by omega
      subst e
      exact pk_le 4 4 (fun _ => hp) (fun q => absurd q (by omega))
    | succ m ih =>
      intro i hi
      exact pk_le 4 i (fun q => absurd q (by omega)) (fun _ => ⟨vp_in_nI (by omega) (by omega), nm_r (e' := fz_zr a_rowCount (i + 1)) (by rw [nI_clamp (by omega)]; rfl) (nm_r (nI_1 i) (ih (i + 1) (by omega)))⟩)
  have keyX : ∀ (post : Int32 → SX → Prop), post (nI n) (nI V, 0, 0, 0, 0, 0, 0, f_solutionCount, a_kind, a_first, a_second, a_size, a_variablesIn, a_code, fz_zr a_rowCount 4, a_rowLeft, a_rowRight, a_goalTable, a_goalX, a_goalY, a_equationX, a_equationY, a_disequalityX, a_disequalityY, a_solutionChoice, a_solutionCode, a_value, a_walkX, a_walkY) → ∀ (m i : Nat), i + m = 4 → wX_clear_11 post (nI n) (nI V) (nI n) 0 0 0 0 0 f_solutionCount (m + 1) (nI i) a_kind a_first a_second a_size a_variablesIn a_code (fz_zr a_rowCount i) a_rowLeft a_rowRight a_goalTable a_goalX a_goalY a_equationX a_equationY a_disequalityX a_disequalityY a_solutionChoice a_solutionCode a_value a_walkX a_walkY := by
    intro post hp m
    induction m with
    | zero =>
      intro i hi
      have e : i = 4 := by omega
      subst e
      exact pk_le 4 4 (fun _ => hp) (fun q => absurd q (by omega))
    | succ m ih =>
      intro i hi
      exact pk_le 4 i (fun q => absurd q (by omega)) (fun _ => ⟨vp_in_nI (by omega) (by omega), nm_r (e' := fz_zr a_rowCount (i + 1)) (by rw [nI_clamp (by omega)]; rfl) (nm_r (nI_1 i) (ih (i + 1) (by omega)))⟩)
  have q := fz_mk (V := V) (n := 0) (G := 0) (E := 0) (D := 0) (tm := tm) (f_frozenOn := 0) (f_solved := 0) (f_solutionCount := f_solutionCount) (f_found := f_found) (a_kind := a_kind) (a_first := a_first) (a_second := a_second) (a_size := a_size) (a_variablesIn := a_variablesIn) (a_code := a_code) (a_rowCount := fz_zr a_rowCount 4) (a_rowLeft := a_rowLeft) (a_rowRight := a_rowRight) (a_goalTable := a_goalTable) (a_goalX := a_goalX) (a_goalY := a_goalY) (a_equationX := a_equationX) (a_equationY := a_equationY) (a_disequalityX := a_disequalityX) (a_disequalityY := a_disequalityY) (a_solutionChoice := a_solutionChoice) (a_solutionCode := a_solutionCode) (a_sign := a_sign) (b_first := b_first) (a_goalFrozen := a_goalFrozen) (a_choiceOf := a_choiceOf) (a_value := a_value) (a_walkX := a_walkX) (a_walkY := a_walkY) (a_pick := a_pick) (a_bind := a_bind) (a_text := a_text) (a_from := a_from) (a_stack := a_stack) (k := k + 5) fin
  exact ⟨5, keyX _ ⟨5, keyY _ ⟨rfl, q⟩ 4 0 rfl⟩ 4 0 rfl⟩
end
section
section
variable {V : Nat} {n : Nat} {G : Nat} {E : Nat} {D : Nat} {tm : Nat → List Nat} {f_frozenOn : Int32} {f_solved : Int32} {f_solutionCount : Int32} {f_found : Int32} {a_kind : Nat → Int32} {a_first : Nat → Int32} {a_second : Nat → Int32} {a_size : Nat → Int32} {a_variablesIn : Nat → Int32} {a_code : Nat → Int64} {a_rowCount : Nat → Int32} {a_rowLeft : Nat → Int32} {a_rowRight : Nat → Int32} {a_goalTable : Nat → Int32} {a_goalX : Nat → Int32} {a_goalY : Nat → Int32} {a_equationX : Nat → Int32} {a_equationY : Nat → Int32} {a_disequalityX : Nat → Int32} {a_disequalityY : Nat → Int32} {a_solutionChoice : Nat → Int32} {a_solutionCode : Nat → Int64} {a_sign : Nat → Int32} {b_first : Nat → Int32} {a_goalFrozen : Nat → Int32} {a_choiceOf : Nat → Int32} {a_value : Nat → Int32} {a_walkX : Nat → Int32} {a_walkY : Nat → Int32} {a_pick : Nat → Int32} {a_bind : Nat → Int32} {a_text : Nat → Int32} {a_from : Nat → Int32} {a_stack : Nat → Int32}
theorem fz_varV (hC : fz_CX V tm n a_kind a_first a_second a_size a_variablesIn a_code) : ∀ c, c < n → ∀ v, 100 + v ∈ tm c → v < V := by
  intro c
  induction c using Nat.strongRecOn with
  | _ c ih =>
    intro hc v hv
    rcases (hC c hc).2.2.2.2.2 with ⟨a, l1, l2, e, _⟩ | ⟨w, hw, e, _⟩ | ⟨a, b, la, lb, e, _⟩
    · rw [e, List.mem_singleton] at hv
      omega
    · rw [e, List.mem_singleton] at hv
      omega
    · rw [e] at hv
      rcases List.mem_cons.mp hv with q | q
      · omega
      · rcases List.mem_append.mp q with q | q
        · exact ih a la (by omega) v q
        · exact ih b lb (by omega) v q
theorem fz_QV (hn : n ≤ 48) (hC : fz_CX V tm n a_kind a_first a_second a_size a_variablesIn a_code) {qx qy : Nat → Int32} {Q : Nat} (hQ : fz_QO n qx qy Q) {i : Nat} (hi : i < Q) {v : Nat} (h : 100 + v ∈ tm (qx i).toNatClampNeg ∨ 100 + v ∈ tm (qy i).toNatClampNeg) : v < V := by
  obtain ⟨x, y, hx, hy, ex, ey⟩ := hQ i hi
  rw [ex, ey, nI_clamp (n := x) (by omega), nI_clamp (n := y) (by omega)] at h
  rcases h with h | h
  · exact fz_varV hC x hx v h
  · exact fz_varV hC y hy v h
theorem fz_SpV (h : fz_Inv V n G E D tm f_frozenOn f_solved f_solutionCount f_found a_kind a_first a_second a_size a_variablesIn a_code a_rowCount a_rowLeft a_rowRight a_goalTable a_goalX a_goalY a_equationX a_equationY a_disequalityX a_disequalityY a_solutionChoice a_solutionCode a_sign b_first a_goalFrozen a_choiceOf) {v : Nat} (hv : v < 32) (hs : fz_Sp tm a_goalFrozen a_equationX a_equationY a_disequalityX a_disequalityY G E D v) : v < V := by
  obtain ⟨hV1, hV, hn, hG, hE, hD, hCX, hCY, hRO, hGO, hQE, hQD, hF, hF2, hS⟩ := h
  rcases hs with ⟨g, hg, e⟩ | ⟨i, hi, q⟩ | ⟨i, hi, q⟩
  · rcases hF2 g hg with e2 | ⟨w, hw, e2⟩
    · rw [e2] at e
      exact absurd e (fz_m1n hv)
    · rw [e2] at e
      have := (nI_eq (a := w) (b := v) (by omega) (by omega)).mp e
      omega
  · exact fz_QV hn hCX hQE hi q
  · exact fz_QV hn hCX hQD hi q
theorem fz_solY (h : fz_Inv V n G E D tm f_frozenOn f_solved f_solutionCount f_found a_kind a_first a_second a_size a_variablesIn a_code a_rowCount a_rowLeft a_rowRight a_goalTable a_goalX a_goalY a_equationX a_equationY a_disequalityX a_disequalityY a_solutionChoice a_solutionCode a_sign b_first a_goalFrozen a_choiceOf) (hvE : ∀ i, i < E → ∀ v, (100 + v ∈ tm (a_equationX i).toNatClampNeg ∨ 100 + v ∈ tm (a_equationY i).toNatClampNeg) → fz_Gv tm a_goalX a_goalY G v)
    (hvD : ∀ i, i < D → ∀ v, (100 + v ∈ tm (a_disequalityX i).toNatClampNeg ∨ 100 + v ∈ tm (a_disequalityY i).toNatClampNeg) → fz_Gv tm a_goalX a_goalY G v) {post : Int32 → SY → Prop}
    (hp : ∀ ch pk bd tx fr sk, fz_sp ch 0 (fz_fl (fz_PY tm a_rowCount a_goalTable a_goalX a_goalY a_rowLeft a_rowRight a_equationX a_equationY a_disequalityX a_disequalityY G E D) (fz_pr (fz_Rw a_rowCount a_goalTable) G)) →
      post (nI (fz_fl (fz_PY tm a_rowCount a_goalTable a_goalX a_goalY a_rowLeft a_rowRight a_equationX a_equationY a_disequalityX a_disequalityY G E D) (fz_pr (fz_Rw a_rowCount a_goalTable) G)).length) (nI V, nI n, nI G, nI E, nI D, 1, nI (fz_fl (fz_PY tm a_rowCount a_goalTable a_goalX a_goalY a_rowLeft a_rowRight a_equationX a_equationY a_disequalityX a_disequalityY G E D) (fz_pr (fz_Rw a_rowCount a_goalTable) G)).length, a_sign, b_first, a_second, a_rowCount, a_rowLeft, a_rowRight, a_goalTable, a_goalX, a_goalY, a_goalFrozen, a_equationX, a_equationY, a_disequalityX, a_disequalityY, ch, pk, bd, tx, fr, sk)) :
    ∃ m, wY_solve_29 post m 0 (nI V) (nI n) (nI G) (nI E) (nI D) f_solved 0 a_sign b_first a_second a_rowCount a_rowLeft a_rowRight a_goalTable a_goalX a_goalY a_goalFrozen a_equationX a_equationY a_disequalityX a_disequalityY a_choiceOf a_pick a_bind a_text a_from a_stack := by
  obtain ⟨hV1, hV, hn, hG, hE, hD, hCX, hCY, hRO, hGO, hQE, hQD, hF, hF2, hS⟩ := h
  have hR6 := fz_Rw6 hGO hRO
  have hM := fz_prb hG hR6
  have key : ∀ (m i : Nat) (ch pk bd tx fr sk : Nat → Int32), i + m = fz_pr (fz_Rw a_rowCount a_goalTable) G → fz_sp ch 0 (fz_fl (fz_PY tm a_rowCount a_goalTable a_goalX a_goalY a_rowLeft a_rowRight a_equationX a_equationY a_disequalityX a_disequalityY G E D) i) →
      wY_solve_29 post (m + 1) (nI i) (nI V) (nI n) (nI G) (nI E) (nI D) f_solved (nI (fz_fl (fz_PY tm a_rowCount a_goalTable a_goalX a_goalY a_rowLeft a_rowRight a_equationX a_equationY a_disequalityX a_disequalityY G E D) i).length) a_sign b_first a_second a_rowCount a_rowLeft a_rowRight a_goalTable a_goalX a_goalY a_goalFrozen a_equationX a_equationY a_disequalityX a_disequalityY ch pk bd tx fr sk := by
    intro m
    induction m with
    | zero =>
      intro i ch pk bd tx fr sk hi hsp
      have e : i = fz_pr (fz_Rw a_rowCount a_goalTable) G := by omega
      refine fz_choices hG hGO hRO rfl ?_
      rw [e] at hsp ⊢
      exact pk_le (fz_pr (fz_Rw a_rowCount a_goalTable) G) (fz_pr (fz_Rw a_rowCount a_goalTable) G) (fun _ => hp ch pk bd tx fr sk hsp) (fun q => absurd q (by omega))
    | succ m ih =>
      intro i ch pk bd tx fr sk hi hsp
      obtain ⟨p, hpv, ep⟩ := fz_yRs (R := fz_Rw a_rowCount a_goalTable) G i (by omega)
      have hlen := fz_fll (fz_PY tm a_rowCount a_goalTable a_goalX a_goalY a_rowLeft a_rowRight a_equationX a_equationY a_disequalityX a_disequalityY G E D) i
      refine fz_choices hG hGO hRO rfl (pk_le (fz_pr (fz_Rw a_rowCount a_goalTable) G) i (fun q => absurd q (by omega)) (fun _ => fz_try hV hn hCY hG hGO hRO rfl hE hQE rfl hD hQD rfl hvE hvD hpv (congrArg nI ep.symm) ?_ ?_))
      · intro b bd1 pk1 tx1 fr1 sk1 _ _ hA hMt hEq hDf
        have yes : fz_PY tm a_rowCount a_goalTable a_goalX a_goalY a_rowLeft a_rowRight a_equationX a_equationY a_disequalityX a_disequalityY G E D i := ⟨p, hpv, ⟨_, hA, hMt, hEq, hDf⟩, ep⟩
        have cl : (nI (fz_fl (fz_PY tm a_rowCount a_goalTable a_goalX a_goalY a_rowLeft a_rowRight a_equationX a_equationY a_disequalityX a_disequalityY G E D) i).length).toNatClampNeg = (fz_fl (fz_PY tm a_rowCount a_goalTable a_goalX a_goalY a_rowLeft a_rowRight a_equationX a_equationY a_disequalityX a_disequalityY G E D) i).length := nI_clamp (by omega)
        refine br_f (by decide) ⟨vp_in_nI (by omega) (by omega), nm_r (e' := upd ch (fz_fl (fz_PY tm a_rowCount a_goalTable a_goalX a_goalY a_rowLeft a_rowRight a_equationX a_equationY a_disequalityX a_disequalityY G E D) i).length (nI i)) (by rw [cl]) (nm_r (nI_1 _) (nm_r (nI_1 i) ?_))⟩
        have := ih (i + 1) (upd ch (fz_fl (fz_PY tm a_rowCount a_goalTable a_goalX a_goalY a_rowLeft a_rowRight a_equationX a_equationY a_disequalityX a_disequalityY G E D) i).length (nI i)) pk1 bd1 tx1 fr1 sk1 (by omega)
        rw [fz_flT yes, List.length_append] at this
        refine this ?_
        have q := fz_spu hsp i
        rw [Nat.zero_add] at q
        exact q
      · intro hno bd1 pk1 tx1 fr1 sk1
        have hn' : ¬ fz_PY tm a_rowCount a_goalTable a_goalX a_goalY a_rowLeft a_rowRight a_equationX a_equationY a_disequalityX a_disequalityY G E D i := by
          rintro ⟨q, hq, hg, eq⟩
          exact hno (fz_Goodp q p (fz_yRe G (fun g hg' => ⟨hq g hg', hpv g hg'⟩) (eq.trans ep.symm)) hg)
        refine br_t rfl (nm_r (nI_1 i) ?_)
        have := ih (i + 1) ch pk1 bd1 tx1 fr1 sk1 (by omega)
        rw [fz_flF hn'] at this
        exact this hsp
  exact ⟨fz_pr (fz_Rw a_rowCount a_goalTable) G + 1, key (fz_pr (fz_Rw a_rowCount a_goalTable) G) 0 a_choiceOf a_pick a_bind a_text a_from a_stack (by omega) (fz_sp0 _ _)⟩
theorem fz_fin (h : fz_Inv V n G E D tm f_frozenOn f_solved f_solutionCount f_found a_kind a_first a_second a_size a_variablesIn a_code a_rowCount a_rowLeft a_rowRight a_goalTable a_goalX a_goalY a_equationX a_equationY a_disequalityX a_disequalityY a_solutionChoice a_solutionCode a_sign b_first a_goalFrozen a_choiceOf) (hvE : ∀ i, i < E → ∀ v, (100 + v ∈ tm (a_equationX i).toNatClampNeg ∨ 100 + v ∈ tm (a_equationY i).toNatClampNeg) → fz_Gv tm a_goalX a_goalY G v)
    (hvD : ∀ i, i < D → ∀ v, (100 + v ∈ tm (a_disequalityX i).toNatClampNeg ∨ 100 + v ∈ tm (a_disequalityY i).toNatClampNeg) → fz_Gv tm a_goalX a_goalY G v) {sc ch : Nat → Int32} {sC : Nat → Int64}
    (hX : fz_SX tm a_goalTable a_goalX a_goalY a_rowLeft a_rowRight G (fz_fl (fz_PX tm a_rowCount a_goalTable a_goalX a_goalY a_rowLeft a_rowRight a_equationX a_equationY a_disequalityX a_disequalityY G E D) (6 ^ G)) sc sC)
    (hY : fz_sp ch 0 (fz_fl (fz_PY tm a_rowCount a_goalTable a_goalX a_goalY a_rowLeft a_rowRight a_equationX a_equationY a_disequalityX a_disequalityY G E D) (fz_pr (fz_Rw a_rowCount a_goalTable) G))) :
    (fz_fl (fz_PY tm a_rowCount a_goalTable a_goalX a_goalY a_rowLeft a_rowRight a_equationX a_equationY a_disequalityX a_disequalityY G E D) (fz_pr (fz_Rw a_rowCount a_goalTable) G)).length = (fz_fl (fz_PX tm a_rowCount a_goalTable a_goalX a_goalY a_rowLeft a_rowRight a_equationX a_equationY a_disequalityX a_disequalityY G E D) (6 ^ G)).length ∧
    fz_Sv G E D tm (nI (fz_fl (fz_PX tm a_rowCount a_goalTable a_goalX a_goalY a_rowLeft a_rowRight a_equationX a_equationY a_disequalityX a_disequalityY G E D) (6 ^ G)).length) (nI (fz_fl (fz_PY tm a_rowCount a_goalTable a_goalX a_goalY a_rowLeft a_rowRight a_equationX a_equationY a_disequalityX a_disequalityY G E D) (fz_pr (fz_Rw a_rowCount a_goalTable) G)).length) a_rowCount a_rowLeft a_rowRight a_goalTable a_goalX a_goalY a_equationX a_equationY a_disequalityX a_disequalityY sc sC ch := by
  obtain ⟨hV1, hV, hn, hG, hE, hD, hCX, hCY, hRO, hGO, hQE, hQD, hF, hF2, hS⟩ := h
  have hR6 := fz_Rw6 hGO hRO
  have hM := fz_prb hG hR6
  have two : fz_fl (fz_PX tm a_rowCount a_goalTable a_goalX a_goalY a_rowLeft a_rowRight a_equationX a_equationY a_disequalityX a_disequalityY G E D) (6 ^ G) = (fz_fl (fz_PY tm a_rowCount a_goalTable a_goalX a_goalY a_rowLeft a_rowRight a_equationX a_equationY a_disequalityX a_disequalityY G E D) (fz_pr (fz_Rw a_rowCount a_goalTable) G)).map (fun m => fz_x6 (fz_ph (fz_Rw a_rowCount a_goalTable) G m) G) :=
    fz_two (R := fz_Rw a_rowCount a_goalTable) hR6 (Q := fz_Good tm a_goalTable a_goalX a_goalY a_rowLeft a_rowRight a_equationX a_equationY a_disequalityX a_disequalityY G E D) fz_Goodp
  have hlen : (fz_fl (fz_PY tm a_rowCount a_goalTable a_goalX a_goalY a_rowLeft a_rowRight a_equationX a_equationY a_disequalityX a_disequalityY G E D) (fz_pr (fz_Rw a_rowCount a_goalTable) G)).length = (fz_fl (fz_PX tm a_rowCount a_goalTable a_goalX a_goalY a_rowLeft a_rowRight a_equationX a_equationY a_disequalityX a_disequalityY G E D) (6 ^ G)).length := by rw [two, List.length_map]
  have hle := fz_fll (fz_PY tm a_rowCount a_goalTable a_goalX a_goalY a_rowLeft a_rowRight a_equationX a_equationY a_disequalityX a_disequalityY G E D) (fz_pr (fz_Rw a_rowCount a_goalTable) G)
  refine ⟨hlen, _, ?_, rfl, congrArg nI hlen, hvE, hvD, fun k hk => ?_⟩
  · omega
  · obtain ⟨m, hm, hmem, _⟩ := fz_at (l := fz_fl (fz_PY tm a_rowCount a_goalTable a_goalX a_goalY a_rowLeft a_rowRight a_equationX a_equationY a_disequalityX a_disequalityY G E D) (fz_pr (fz_Rw a_rowCount a_goalTable) G)) (i := k) (by omega)
    obtain ⟨hlt, q, hq, hg, eq⟩ := fz_flm.mp hmem
    obtain ⟨v1, v2⟩ := fz_phs hlt
    have qp := fz_yRe G (fun g hg' => ⟨hq g hg', v1 g hg'⟩) (eq.trans v2.symm)
    have hx : (fz_fl (fz_PX tm a_rowCount a_goalTable a_goalX a_goalY a_rowLeft a_rowRight a_equationX a_equationY a_disequalityX a_disequalityY G E D) (6 ^ G))[k]? = some (fz_x6 (fz_ph (fz_Rw a_rowCount a_goalTable) G m) G) := by
      rw [two, List.getElem?_map, hm]
      rfl
    refine ⟨fz_ph (fz_Rw a_rowCount a_goalTable) G m, v1, fz_Goodp q _ qp hg, ?_, ?_, ?_⟩
    · have := hX.1 k _ hx
      rw [Nat.zero_add] at this
      exact this
    · have := hY k _ hm
      rw [Nat.zero_add] at this
      rw [v2]
      exact this
    · intro s hs hMt v hv hgv
      exact hX.2 k _ hx _ (fun g hg' => by have := v1 g hg'; have := hR6 g hg'; omega) rfl s hs hMt v hv hgv
end
theorem i_vc_solve {k : Nat} {u : SX} {v : SY} (I : i_Rel k u v) (hk : k + 5 ≤ 2561) : wpX_solve (fun r u' => wpY_solve (fun r' v' => r' = r ∧ i_Rel (k + 5) u' v') v) u := by
  obtain ⟨V, n, G, E, D, tm, f_frozenOn, f_solved, f_solutionCount, f_found, a_kind, a_first, a_second, a_size, a_variablesIn, a_code, a_rowCount, a_rowLeft, a_rowRight, a_goalTable, a_goalX, a_goalY, a_equationX, a_equationY, a_disequalityX, a_disequalityY, a_solutionChoice, a_solutionCode, a_sign, b_first, a_goalFrozen, a_choiceOf, a_value, a_walkX, a_walkY, a_pick, a_bind, a_text, a_from, a_stack, rfl, rfl, h⟩ := I
  have h' := h
  obtain ⟨hV1, hV, hn, hG, hE, hD, hCX, hCY, hRO, hGO, hQE, hQD, hF, hF2, hS⟩ := h'
  rcases hS with e0 | ⟨e1, K, hK, q1, q2, _⟩
  · subst e0
    refine br_t rfl (fz_looX hn hCX hG hGO rfl hE hQE rfl hD hQD rfl hF (fun hl => ?_) (fun hl => ?_))
    · obtain ⟨w, hw, hs, hg⟩ := hl
      have hwV := fz_SpV h hw hs
      refine br_f (by decide) (br_t rfl (fz_looY hV hn hCY rfl hG hGO rfl hE hQE rfl hD hQD rfl (fun _ tx fr sk => br_f (by decide) ⟨rfl, fz_mk h⟩) (fun hall => absurd (hall w hwV hs) hg)))
    · have hvE : ∀ i, i < E → ∀ v, (100 + v ∈ tm (a_equationX i).toNatClampNeg ∨ 100 + v ∈ tm (a_equationY i).toNatClampNeg) → fz_Gv tm a_goalX a_goalY G v := by
        intro i hi v hv
        have := fz_QV hn hCX hQE hi hv
        exact hl v (by omega) (.inr (.inl ⟨i, hi, hv⟩))
      have hvD : ∀ i, i < D → ∀ v, (100 + v ∈ tm (a_disequalityX i).toNatClampNeg ∨ 100 + v ∈ tm (a_disequalityY i).toNatClampNeg) → fz_Gv tm a_goalX a_goalY G v := by
        intro i hi v hv
        have := fz_QV hn hCX hQD hi hv
        exact hl v (by omega) (.inr (.inr ⟨i, hi, hv⟩))
      refine br_t rfl (fz_find hV hn hCX hG hGO hRO rfl hE hQE rfl hD hQD rfl hvE hvD (fun sc sC val wx wy hX => ?_))
      refine br_t rfl (fz_looY hV hn hCY rfl hG hGO rfl hE hQE rfl hD hQD rfl (fun hx => ?_) (fun _ tx fr sk => br_t rfl (fz_solY h hvE hvD (fun ch pk bd tx fr sk hY => ?_))))
      · obtain ⟨w, hw, hs, hg⟩ := hx
        exact absurd (hl w (by omega) hs) hg
      · obtain ⟨f1, f2⟩ := fz_fin h hvE hvD hX hY
        exact ⟨congrArg nI f1, fz_mk ⟨hV1, hV, hn, hG, hE, hD, hCX, hCY, hRO, hGO, hQE, hQD, hF, hF2, .inr ⟨rfl, f2⟩⟩⟩
  · subst e1
    exact br_f (by decide) (br_f (by decide) ⟨q2.trans q1.symm, fz_mk h⟩)
end
section
theorem i_vc_solutions {k : Nat} {u : SX} {v : SY} (I : i_Rel k u v) (hk : k + 5 ≤ 2561) : wpX_solutions (fun r => wpY_solutions (fun r' => r' = r ∧ i_Rel (k + 5) u v) v) u := by
  obtain ⟨V, n, G, E, D, tm, f_frozenOn, f_solved, f_solutionCount, f_found, a_kind, a_first, a_second, a_size, a_variablesIn, a_code, a_rowCount, a_rowLeft, a_rowRight, a_goalTable, a_goalX, a_goalY, a_equationX, a_equationY, a_disequalityX, a_disequalityY, a_solutionChoice, a_solutionCode, a_sign, b_first, a_goalFrozen, a_choiceOf, a_value, a_walkX, a_walkY, a_pick, a_bind, a_text, a_from, a_stack, rfl, rfl, h⟩ := I
  have hS := h.2.2.2.2.2.2.2.2.2.2.2.2.2.2
  rcases hS with e0 | ⟨e1, K, hK, q1, q2, _⟩
  · subst e0
    exact br_t rfl (br_t rfl ⟨rfl, fz_mk h⟩)
  · subst e1
    exact br_f (by decide) (br_f (by decide) ⟨q2.trans q1.symm, fz_mk h⟩)
/-- Y tests a number by 0 and an upper end -/
theorem fz_2Y {A B : Prop} {K : Nat} {f z : Int32} (e : f = nI K) (hz : fz_bad K z) (a : A) : (z < 0 → A) ∧ (¬ z < 0 → ((f ≤ z → A) ∧ (¬ f ≤ z → B))) := by
  by_cases q : z < 0
  · exact br_t q a
  · refine br_f q (br_t ?_ a)
    rcases hz with h | h
    · exact absurd h q
    · rw [e]
      exact h
theorem fz_2Y1 {A B : Prop} {K c : Nat} {f : Int32} (hK : K ≤ 1296) (e : f = nI K) (hc : c < K) (b : B) : (nI c < 0 → A) ∧ (¬ nI c < 0 → ((f ≤ nI c → A) ∧ (¬ f ≤ nI c → B))) :=
  br_f (nI_pos (by omega)) (pk_le K c (fun q => absurd q (by omega)) (fun _ => b) e)
/-- or by 0 and 'below the upper end' -/
theorem fz_3Y {A B : Prop} {K : Nat} {f z : Int32} (e : f = nI K) (hz : fz_bad K z) (a : A) : (z < 0 → A) ∧ (¬ z < 0 → ((z < f → B) ∧ (¬ z < f → A))) := by
  by_cases q : z < 0
  · exact br_t q a
  · refine br_f q (br_f ?_ a)
    rcases hz with h | h
    · exact absurd h q
    · rw [e]
      exact Int32.not_lt.mpr h
theorem fz_3Y1 {A B : Prop} {K c : Nat} {f : Int32} (hK : K ≤ 1296) (e : f = nI K) (hc : c < K) (b : B) : (nI c < 0 → A) ∧ (¬ nI c < 0 → ((nI c < f → B) ∧ (¬ nI c < f → A))) :=
  br_f (nI_pos (by omega)) (pk_lt c K (fun _ => b) (fun q => absurd q (by omega)) rfl e)
theorem i_vc_rowOf {k : Nat} {u : SX} {v : SY} (I : i_Rel k u v) (hk : k + 5 ≤ 2561) (v1 : Int32) (v2 : Int32) : wpX_rowOf (fun r => wpY_rowOf (fun r' v' => r' = r ∧ i_Rel (k + 5) u v') v v1 v2) u v1 v2 := by
  obtain ⟨V, n, G, E, D, tm, f_frozenOn, f_solved, f_solutionCount, f_found, a_kind, a_first, a_second, a_size, a_variablesIn, a_code, a_rowCount, a_rowLeft, a_rowRight, a_goalTable, a_goalX, a_goalY, a_equationX, a_equationY, a_disequalityX, a_disequalityY, a_solutionChoice, a_solutionCode, a_sign, b_first, a_goalFrozen, a_choiceOf, a_value, a_walkX, a_walkY, a_pick, a_bind, a_text, a_from, a_stack, rfl, rfl, h⟩ := I
  have h' := h
  obtain ⟨hV1, hV, hn, hG, hE, hD, hCX, hCY, hRO, hGO, hQE, hQD, hF, hF2, hS⟩ := h'
  rcases hS with e0 | ⟨e1, K, hK, q1, q2, _, _, hs⟩
  · subst e0
    exact br_t rfl (br_t rfl ⟨rfl, fz_mk h⟩)
  · subst e1
    refine br_f (by decide) ?_
    rcases fz_ix v1 (n := K) (by omega) with b1 | ⟨j, hj, rfl⟩
    · exact fz_isX0 q1 b1 (br_t rfl (br_f (by decide) (fz_2Y q2 b1 ⟨rfl, fz_mk h⟩)))
    · refine fz_isX1 hK q1 hj (br_f (by decide) ?_)
      rcases fz_ix v2 (n := G) (by omega) with b2 | ⟨g, hg, rfl⟩
      · exact fz_3Y rfl b2 (br_f (by decide) (fz_2Y1 hK q2 hj (fz_3Y rfl b2 ⟨rfl, fz_mk h⟩)))
      · obtain ⟨p, hp, _, c1, c2, _⟩ := hs j hj
        have hR6 := fz_Rw6 hGO hRO
        have hp6 : ∀ g, g < G → p g < 6 := fun g hg' => by have := hp g hg'; have := hR6 g hg'; omega
        have ij : vp_in (nI j) 1296 := vp_in_nI (by omega) (by omega)
        have cj : (nI j).toNatClampNeg = j := nI_clamp (by omega)
        have YY : wpY_rowOf (fun r' v' => r' = nI (p g) ∧ i_Rel (k + 5) (nI V, nI n, nI G, f_frozenOn, nI E, nI D, 1, f_solutionCount, a_kind, a_first, a_second, a_size, a_variablesIn, a_code, a_rowCount, a_rowLeft, a_rowRight, a_goalTable, a_goalX, a_goalY, a_equationX, a_equationY, a_disequalityX, a_disequalityY, a_solutionChoice, a_solutionCode, a_value, a_walkX, a_walkY) v') (nI V, nI n, nI G, nI E, nI D, 1, f_found, a_sign, b_first, a_second, a_rowCount, a_rowLeft, a_rowRight, a_goalTable, a_goalX, a_goalY, a_goalFrozen, a_equationX, a_equationY, a_disequalityX, a_disequalityY, a_choiceOf, a_pick, a_bind, a_text, a_from, a_stack) (nI j) (nI g) := by
          refine br_f (by decide) (fz_2Y1 hK q2 hj (fz_3Y1 (by omega) rfl hg ⟨ij, fz_pick hG hGO hRO rfl hp (by rw [cj]; exact c2) (fun pk hpk => ⟨vp_in_nI (by omega) (by omega), ?_, fz_mk h⟩)⟩))
          rw [nI_clamp (by omega)]
          exact hpk g hg
        have key : ∀ (m i : Nat), i = g + m → i < G → wX_rowOf_47 (fun r => wpY_rowOf (fun r' v' => r' = r ∧ i_Rel (k + 5) (nI V, nI n, nI G, f_frozenOn, nI E, nI D, 1, f_solutionCount, a_kind, a_first, a_second, a_size, a_variablesIn, a_code, a_rowCount, a_rowLeft, a_rowRight, a_goalTable, a_goalX, a_goalY, a_equationX, a_equationY, a_disequalityX, a_disequalityY, a_solutionChoice, a_solutionCode, a_value, a_walkX, a_walkY) v') (nI V, nI n, nI G, nI E, nI D, 1, f_found, a_sign, b_first, a_second, a_rowCount, a_rowLeft, a_rowRight, a_goalTable, a_goalX, a_goalY, a_goalFrozen, a_equationX, a_equationY, a_disequalityX, a_disequalityY, a_choiceOf, a_pick, a_bind, a_text, a_from, a_stack) (nI j) (nI g)) (nI g) (nI V) (nI n) (nI G) f_frozenOn (nI E) (nI D) 1 f_solutionCount a_kind a_first a_second a_size a_variablesIn a_code a_rowCount a_rowLeft a_rowRight a_goalTable a_goalX a_goalY a_equationX a_equationY a_disequalityX a_disequalityY a_solutionChoice a_solutionCode a_value a_walkX a_walkY (m + 1) (nI (fz_x6 p (i + 1))) (nI i) := by
          intro m
          induction m with
          | zero =>
            intro i hi hiG
            have e : i = g := by omega
            subst e
            have hb6 := fz_x6b (p := p) (j := i + 1) (fun g hg' => hp6 g (by omega)) (by omega)
            have hs6 : fz_x6 p (i + 1) = 6 * fz_x6 p i + p i := rfl
            have hpi := hp6 i hg
            have eM : nI (fz_x6 p (i + 1)) - nI (fz_x6 p (i + 1)) / 6 * 6 = nI (p i) := by
              have h := pk_rem (a := fz_x6 p (i + 1)) (d := 6) (by omega) (by omega) (by omega)
              rw [show fz_x6 p (i + 1) % 6 = p i by omega] at h
              exact h
            refine pk_le i i (fun _ => ⟨by decide, ?_⟩) (fun q => absurd q (by omega))
            rw [eM]
            exact YY
          | succ m ih =>
            intro i hi hiG
            have hb6 := fz_x6b (p := p) (j := i + 1) (fun g hg' => hp6 g (by omega)) (by omega)
            have hs6 : fz_x6 p (i + 1) = 6 * fz_x6 p i + p i := rfl
            have hpi := hp6 i hiG
            obtain ⟨i, rfl⟩ : ∃ z, i = z + 1 := ⟨i - 1, by omega⟩
            have eD : nI (fz_x6 p (i + 1 + 1)) / 6 = nI (fz_x6 p (i + 1)) := by
              have h := pk_div (a := fz_x6 p (i + 1 + 1)) (d := 6) (by omega) (by omega) (by omega)
              rw [show fz_x6 p (i + 1 + 1) / 6 = fz_x6 p (i + 1) by omega] at h
              exact h
            exact pk_le (i + 1) g (fun q => absurd q (by omega)) (fun _ => ⟨by decide, nm_r eD (nm_r (pk_m1 i) (ih i (by omega) (by omega)))⟩)
        obtain ⟨G', hG'⟩ : ∃ z, G = z + 1 := ⟨G - 1, by omega⟩
        refine fz_3Y1 (by omega) rfl hg ⟨ij, nm_r (e' := nI (fz_x6 p (G' + 1))) (by rw [cj, ← hG']; exact c1) (nm_r (e' := nI G') (by rw [hG', nI_pred]) ⟨G' - g + 1, key (G' - g) G' (by omega) (by omega)⟩)⟩
section
variable {V : Nat} {n : Nat} {G : Nat} {E : Nat} {D : Nat} {tm : Nat → List Nat} {f_frozenOn : Int32} {f_solved : Int32} {f_solutionCount : Int32} {f_found : Int32} {a_kind : Nat → Int32} {a_first : Nat → Int32} {a_second : Nat → Int32} {a_size : Nat → Int32} {a_variablesIn : Nat → Int32} {a_code : Nat → Int64} {a_rowCount : Nat → Int32} {a_rowLeft : Nat → Int32} {a_rowRight : Nat → Int32} {a_goalTable : Nat → Int32} {a_goalX : Nat → Int32} {a_goalY : Nat → Int32} {a_equationX : Nat → Int32} {a_equationY : Nat → Int32} {a_disequalityX : Nat → Int32} {a_disequalityY : Nat → Int32} {a_solutionChoice : Nat → Int32} {a_solutionCode : Nat → Int64} {a_sign : Nat → Int32} {b_first : Nat → Int32} {a_goalFrozen : Nat → Int32} {a_choiceOf : Nat → Int32} {a_value : Nat → Int32} {a_walkX : Nat → Int32} {a_walkY : Nat → Int32} {a_pick : Nat → Int32} {a_bind : Nat → Int32} {a_text : Nat → Int32} {a_from : Nat → Int32} {a_stack : Nat → Int32}
theorem fz_valY (h : fz_Inv V n G E D tm f_frozenOn 1 f_solutionCount f_found a_kind a_first a_second a_size a_variablesIn a_code a_rowCount a_rowLeft a_rowRight a_goalTable a_goalX a_goalY a_equationX a_equationY a_disequalityX a_disequalityY a_solutionChoice a_solutionCode a_sign b_first a_goalFrozen a_choiceOf) {K : Nat} (hK : K ≤ 1296) (q2 : f_found = nI K)
    (hvE : ∀ i, i < E → ∀ v, (100 + v ∈ tm (a_equationX i).toNatClampNeg ∨ 100 + v ∈ tm (a_equationY i).toNatClampNeg) → fz_Gv tm a_goalX a_goalY G v)
    (hvD : ∀ i, i < D → ∀ v, (100 + v ∈ tm (a_disequalityX i).toNatClampNeg ∨ 100 + v ∈ tm (a_disequalityY i).toNatClampNeg) → fz_Gv tm a_goalX a_goalY G v)
    {j : Nat} (hj : j < K) {p : Nat → Nat} (hp : ∀ g, g < G → p g < fz_Rw a_rowCount a_goalTable g) (hg : fz_Good tm a_goalTable a_goalX a_goalY a_rowLeft a_rowRight a_equationX a_equationY a_disequalityX a_disequalityY G E D p) (c2 : a_choiceOf j = nI (fz_yR (fz_Rw a_rowCount a_goalTable) p G))
    (c3 : ∀ s, fz_As s → fz_Mt tm a_goalTable a_goalX a_goalY a_rowLeft a_rowRight 0 G p s → ∀ v, v < 6 → fz_Gv tm a_goalX a_goalY G v → a_solutionCode (j * 6 + v) = lN (fz_vl (s v))) {w : Nat} (hw : w < V) {post : Int64 → SY → Prop}
    (h0 : ¬ fz_Gv tm a_goalX a_goalY G w → ∀ tx fr sk, post (-1) (nI V, nI n, nI G, nI E, nI D, 1, f_found, a_sign, b_first, a_second, a_rowCount, a_rowLeft, a_rowRight, a_goalTable, a_goalX, a_goalY, a_goalFrozen, a_equationX, a_equationY, a_disequalityX, a_disequalityY, a_choiceOf, a_pick, a_bind, tx, fr, sk))
    (h1 : fz_Gv tm a_goalX a_goalY G w → ∀ pk bd tx fr sk, post (a_solutionCode (j * 6 + w)) (nI V, nI n, nI G, nI E, nI D, 1, f_found, a_sign, b_first, a_second, a_rowCount, a_rowLeft, a_rowRight, a_goalTable, a_goalX, a_goalY, a_goalFrozen, a_equationX, a_equationY, a_disequalityX, a_disequalityY, a_choiceOf, pk, bd, tx, fr, sk)) : wpY_valueOf post (nI V, nI n, nI G, nI E, nI D, 1, f_found, a_sign, b_first, a_second, a_rowCount, a_rowLeft, a_rowRight, a_goalTable, a_goalX, a_goalY, a_goalFrozen, a_equationX, a_equationY, a_disequalityX, a_disequalityY, a_choiceOf, a_pick, a_bind, a_text, a_from, a_stack) (nI j) (nI w) := by
  obtain ⟨hV1, hV, hn, hG, hE, hD, hCX, hCY, hRO, hGO, hQE, hQD, hF, hF2, hS⟩ := h
  have cj : (nI j).toNatClampNeg = j := nI_clamp (by omega)
  refine br_f (by decide) (fz_2Y1 hK q2 hj (fz_3Y1 (by omega) rfl hw (fz_ing hV hn hCY hG hGO rfl (by omega) rfl (fun hgv tx fr sk => ?_) (fun hgv tx fr sk => ?_))))
  · refine br_f (by decide) ⟨vp_in_nI (by omega) (by omega), fz_try hV hn hCY hG hGO hRO rfl hE hQE rfl hD hQD rfl hvE hvD hp (by rw [cj]; exact c2) (fun b bd1 pk1 tx1 fr1 sk1 hb hbv hA hMt _ _ => ?_) (fun q => absurd hg q)⟩
    have cw : (nI w).toNatClampNeg = w := nI_clamp (by omega)
    rcases hb.2 w (by omega) with ⟨n1, _⟩ | ⟨d, hd, n1, n2, n3⟩
    · exact absurd n1 (hbv w hgv)
    · refine ⟨vp_in_nI (by omega) (by omega), fz_num hV hn hCY hd (by rw [cw]; exact n2) (fun tx2 fr2 sk2 => ?_)⟩
      have := c3 _ hA hMt w (by omega) hgv
      rw [fz_totE tm b w d n1] at this
      rw [← this]
      exact h1 hgv pk1 bd1 tx2 fr2 sk2
  · exact br_t rfl (h0 hgv tx fr sk)
end
theorem i_vc_valueOf {k : Nat} {u : SX} {v : SY} (I : i_Rel k u v) (hk : k + 5 ≤ 2561) (v1 : Int32) (v2 : Int32) : wpX_valueOf (fun r => wpY_valueOf (fun r' v' => r' = r ∧ i_Rel (k + 5) u v') v v1 v2) u v1 v2 := by
  obtain ⟨V, n, G, E, D, tm, f_frozenOn, f_solved, f_solutionCount, f_found, a_kind, a_first, a_second, a_size, a_variablesIn, a_code, a_rowCount, a_rowLeft, a_rowRight, a_goalTable, a_goalX, a_goalY, a_equationX, a_equationY, a_disequalityX, a_disequalityY, a_solutionChoice, a_solutionCode, a_sign, b_first, a_goalFrozen, a_choiceOf, a_value, a_walkX, a_walkY, a_pick, a_bind, a_text, a_from, a_stack, rfl, rfl, h⟩ := I
  have h' := h
  obtain ⟨hV1, hV, hn, hG, hE, hD, hCX, hCY, hRO, hGO, hQE, hQD, hF, hF2, hS⟩ := h'
  rcases hS with e0 | ⟨e1, K, hK, q1, q2, hvE, hvD, hs⟩
  · subst e0
    exact br_t rfl (br_t rfl ⟨rfl, fz_mk h⟩)
  · subst e1
    refine br_f (by decide) (fz_gvX hn hCX hG hGO rfl (fun M hM => ?_))
    rcases fz_ix v1 (n := K) (by omega) with b1 | ⟨j, hj, rfl⟩
    · exact fz_isX0 q1 b1 (br_t rfl (br_f (by decide) (fz_2Y q2 b1 ⟨rfl, fz_mk h⟩)))
    · refine fz_isX1 hK q1 hj (br_f (by decide) ?_)
      rcases fz_ix v2 (n := V) (by omega) with b2 | ⟨w, hw, rfl⟩
      · exact fz_ivX0 rfl b2 (br_t rfl (br_f (by decide) (fz_2Y1 hK q2 hj (fz_3Y rfl b2 ⟨rfl, fz_mk h⟩))))
      · obtain ⟨p, hp, hg, c1, c2, c3⟩ := hs j hj
        refine fz_ivX1 hV rfl hw (br_f (by decide) (fz_coX (by omega) (fun hb => ?_) (fun hb => ?_)))
        · have hgv := (hM w (by omega)).mp hb
          have IX : nI j * 6 + nI w = nI (j * 6 + w) := by
            show nI j * nI 6 + nI w = _
            rw [pk_mul, nI_add]
          have ii : vp_in (nI j * 6 + nI w) 7776 := by rw [IX]; exact vp_in_nI (by omega) (by omega)
          have ci : (nI j * 6 + nI w).toNatClampNeg = j * 6 + w := by rw [IX]; exact nI_clamp (by omega)
          refine br_f (by decide) ⟨ii, ?_⟩
          rw [ci]
          exact fz_valY h hK q2 hvE hvD hj hp hg c2 c3 hw (fun q => absurd hgv q) (fun _ pk bd tx fr sk => ⟨rfl, fz_mk h⟩)
        · have hgv : ¬ fz_Gv tm a_goalX a_goalY G w := fun q => hb ((hM w (by omega)).mpr q)
          exact br_t rfl (fz_valY h hK q2 hvE hvD hj hp hg c2 c3 hw (fun _ tx fr sk => ⟨rfl, fz_mk h⟩) (fun q => absurd q hgv))
theorem i_vc_alike {k : Nat} {u : SX} {v : SY} (I : i_Rel k u v) (hk : k + 5 ≤ 2561) (v1 : Int32) (v2 : Int32) (v3 : Int32) : wpX_alike (fun r => wpY_alike (fun r' v' => r' = r ∧ i_Rel (k + 5) u v') v v1 v2 v3) u v1 v2 v3 := by
  obtain ⟨V, n, G, E, D, tm, f_frozenOn, f_solved, f_solutionCount, f_found, a_kind, a_first, a_second, a_size, a_variablesIn, a_code, a_rowCount, a_rowLeft, a_rowRight, a_goalTable, a_goalX, a_goalY, a_equationX, a_equationY, a_disequalityX, a_disequalityY, a_solutionChoice, a_solutionCode, a_sign, b_first, a_goalFrozen, a_choiceOf, a_value, a_walkX, a_walkY, a_pick, a_bind, a_text, a_from, a_stack, rfl, rfl, h⟩ := I
  have h' := h
  obtain ⟨hV1, hV, hn, hG, hE, hD, hCX, hCY, hRO, hGO, hQE, hQD, hF, hF2, hS⟩ := h'
  rcases hS with e0 | ⟨e1, K, hK, q1, q2, hvE, hvD, hs⟩
  · subst e0
    exact br_t rfl (br_t rfl ⟨rfl, fz_mk h⟩)
  · subst e1
    refine br_f (by decide) ?_
    rcases fz_ix v1 (n := K) (by omega) with b1 | ⟨i, hi, rfl⟩
    · exact fz_isX0 q1 b1 (br_t rfl (br_f (by decide) (fz_2Y q2 b1 ⟨rfl, fz_mk h⟩)))
    · refine fz_isX1 hK q1 hi (br_f (by decide) ?_)
      rcases fz_ix v2 (n := K) (by omega) with b2 | ⟨j, hj, rfl⟩
      · exact fz_isX0 q1 b2 (br_t rfl (br_f (by decide) (fz_2Y1 hK q2 hi (fz_3Y q2 b2 ⟨rfl, fz_mk h⟩))))
      · refine fz_isX1 hK q1 hj (br_f (by decide) (fz_gvX hn hCX hG hGO rfl (fun M hM => nm_e ?_)))
        obtain ⟨p, hp, hg, c1, c2, c3⟩ := hs i hi
        obtain ⟨p', hp', hg', c1', c2', c3'⟩ := hs j hj
        -- Y's loop
        have keyY : ∀ (r : Int32) (m w : Nat) (pk bd tx fr sk : Nat → Int32), w + m = V → ((∀ x, w ≤ x → x < V → bt v3 x = true → fz_Gv tm a_goalX a_goalY G x → a_solutionCode (i * 6 + x) = a_solutionCode (j * 6 + x)) → r = 1) → ((∃ x, w ≤ x ∧ x < V ∧ bt v3 x = true ∧ fz_Gv tm a_goalX a_goalY G x ∧ ¬ a_solutionCode (i * 6 + x) = a_solutionCode (j * 6 + x)) → r = 0) →
            wY_alike_36 (fun r' v' => r' = r ∧ i_Rel (k + 5) (nI V, nI n, nI G, f_frozenOn, nI E, nI D, 1, f_solutionCount, a_kind, a_first, a_second, a_size, a_variablesIn, a_code, a_rowCount, a_rowLeft, a_rowRight, a_goalTable, a_goalX, a_goalY, a_equationX, a_equationY, a_disequalityX, a_disequalityY, a_solutionChoice, a_solutionCode, a_value, a_walkX, a_walkY) v') (nI i) (nI j) v3 (m + 1) (nI w) (nI V) (nI n) (nI G) (nI E) (nI D) 1 f_found a_sign b_first a_second a_rowCount a_rowLeft a_rowRight a_goalTable a_goalX a_goalY a_goalFrozen a_equationX a_equationY a_disequalityX a_disequalityY a_choiceOf pk bd tx fr sk := by
          intro r m
          induction m with
          | zero =>
            intro w pk bd tx fr sk hw y1 y0
            exact pk_le V w (fun _ => ⟨(y1 (fun x hx hx' => absurd hx' (by omega))).symm, fz_mk h⟩) (fun q => absurd q (by omega))
          | succ m ih =>
            intro w pk bd tx fr sk hw y1 y0
            have next : (bt v3 w = true → fz_Gv tm a_goalX a_goalY G w → a_solutionCode (i * 6 + w) = a_solutionCode (j * 6 + w)) → ∀ pk bd tx fr sk, wY_alike_36 (fun r' v' => r' = r ∧ i_Rel (k + 5) (nI V, nI n, nI G, f_frozenOn, nI E, nI D, 1, f_solutionCount, a_kind, a_first, a_second, a_size, a_variablesIn, a_code, a_rowCount, a_rowLeft, a_rowRight, a_goalTable, a_goalX, a_goalY, a_equationX, a_equationY, a_disequalityX, a_disequalityY, a_solutionChoice, a_solutionCode, a_value, a_walkX, a_walkY) v') (nI i) (nI j) v3 (m + 1) (nI (w + 1)) (nI V) (nI n) (nI G) (nI E) (nI D) 1 f_found a_sign b_first a_second a_rowCount a_rowLeft a_rowRight a_goalTable a_goalX a_goalY a_goalFrozen a_equationX a_equationY a_disequalityX a_disequalityY a_choiceOf pk bd tx fr sk := by
              intro hh pk bd tx fr sk
              refine ih (w + 1) pk bd tx fr sk (by omega) (fun q => y1 (fun x hx hx' hb hg => ?_)) (fun ⟨x, hx, q⟩ => y0 ⟨x, by omega, q⟩)
              rcases Nat.eq_or_lt_of_le hx with e | e
              · subst e
                exact hh hb hg
              · exact q x e hx' hb hg
            refine pk_le V w (fun q => absurd q (by omega)) (fun _ => ?_)
            by_cases hb : bt v3 w = true
            · refine br_t ((fz_bit v3 (by omega)).mpr hb) ?_
              refine fz_valY h hK q2 hvE hvD hi hp hg c2 c3 (by omega) (fun hgv tx1 fr1 sk1 => ?_) (fun hgv pk1 bd1 tx1 fr1 sk1 => ?_)
              · refine fz_valY h hK q2 hvE hvD hj hp' hg' c2' c3' (by omega) (fun _ tx2 fr2 sk2 => ?_) (fun q => absurd q hgv)
                exact br_t rfl (nm_r (nI_1 w) (next (fun _ q => absurd q hgv) _ _ _ _ _))
              · refine fz_valY h hK q2 hvE hvD hj hp' hg' c2' c3' (by omega) (fun q => absurd hgv q) (fun _ pk2 bd2 tx2 fr2 sk2 => ?_)
                refine br_c (fun e => nm_r (nI_1 w) (next (fun _ _ => e) _ _ _ _ _)) (fun e => ⟨(y0 ⟨w, Nat.le_refl _, by omega, hb, hgv, e⟩).symm, fz_mk h⟩)
            · exact br_f (fun q => hb ((fz_bit v3 (by omega)).mp q)) (nm_r (nI_1 w) (next (fun q => absurd q hb) _ _ _ _ _))
        have YY : ∀ r : Int32, ((∀ x, x < V → bt v3 x = true → fz_Gv tm a_goalX a_goalY G x → a_solutionCode (i * 6 + x) = a_solutionCode (j * 6 + x)) → r = 1) → ((∃ x, x < V ∧ bt v3 x = true ∧ fz_Gv tm a_goalX a_goalY G x ∧ ¬ a_solutionCode (i * 6 + x) = a_solutionCode (j * 6 + x)) → r = 0) → wpY_alike (fun r' v' => r' = r ∧ i_Rel (k + 5) (nI V, nI n, nI G, f_frozenOn, nI E, nI D, 1, f_solutionCount, a_kind, a_first, a_second, a_size, a_variablesIn, a_code, a_rowCount, a_rowLeft, a_rowRight, a_goalTable, a_goalX, a_goalY, a_equationX, a_equationY, a_disequalityX, a_disequalityY, a_solutionChoice, a_solutionCode, a_value, a_walkX, a_walkY) v') (nI V, nI n, nI G, nI E, nI D, 1, f_found, a_sign, b_first, a_second, a_rowCount, a_rowLeft, a_rowRight, a_goalTable, a_goalX, a_goalY, a_goalFrozen, a_equationX, a_equationY, a_disequalityX, a_disequalityY, a_choiceOf, a_pick, a_bind, a_text, a_from, a_stack) (nI i) (nI j) v3 := by
          intro r y1 y0
          exact br_f (by decide) (fz_2Y1 hK q2 hi (fz_3Y1 hK q2 hj ⟨V + 1, keyY r V 0 a_pick a_bind a_text a_from a_stack (by omega) (fun q => y1 (fun x hx => q x (Nat.zero_le _) hx)) (fun ⟨x, _, q⟩ => y0 ⟨x, q⟩)⟩))
        have bm : ∀ x, x < 32 → (bt (v3 &&& M) x = true ↔ (bt v3 x = true ∧ fz_Gv tm a_goalX a_goalY G x)) := by
          intro x hx
          rw [b_and, Bool.and_eq_true, hM x hx]
        have keyX : ∀ (m w : Nat), w + m = V → (∀ x, x < w → bt v3 x = true → fz_Gv tm a_goalX a_goalY G x → a_solutionCode (i * 6 + x) = a_solutionCode (j * 6 + x)) → wX_alike_36 (fun r => wpY_alike (fun r' v' => r' = r ∧ i_Rel (k + 5) (nI V, nI n, nI G, f_frozenOn, nI E, nI D, 1, f_solutionCount, a_kind, a_first, a_second, a_size, a_variablesIn, a_code, a_rowCount, a_rowLeft, a_rowRight, a_goalTable, a_goalX, a_goalY, a_equationX, a_equationY, a_disequalityX, a_disequalityY, a_solutionChoice, a_solutionCode, a_value, a_walkX, a_walkY) v') (nI V, nI n, nI G, nI E, nI D, 1, f_found, a_sign, b_first, a_second, a_rowCount, a_rowLeft, a_rowRight, a_goalTable, a_goalX, a_goalY, a_goalFrozen, a_equationX, a_equationY, a_disequalityX, a_disequalityY, a_choiceOf, a_pick, a_bind, a_text, a_from, a_stack) (nI i) (nI j) v3) (nI i) (nI j) (v3 &&& M) (nI V) (nI n) (nI G) f_frozenOn (nI E) (nI D) 1 f_solutionCount a_kind a_first a_second a_size a_variablesIn a_code a_rowCount a_rowLeft a_rowRight a_goalTable a_goalX a_goalY a_equationX a_equationY a_disequalityX a_disequalityY a_solutionChoice a_solutionCode a_value a_walkX a_walkY (m + 1) (nI w) := by
          intro m
          induction m with
          | zero =>
            intro w hw hall
            refine pk_le V w (fun _ => YY 1 (fun _ => rfl) (fun ⟨x, hx, hb, hg, e⟩ => absurd (hall x (by omega) hb hg) e)) (fun q => absurd q (by omega))
          | succ m ih =>
            intro w hw hall
            have I1 : nI i * 6 + nI w = nI (i * 6 + w) := by
              show nI i * nI 6 + nI w = _
              rw [pk_mul, nI_add]
            have I2 : nI j * 6 + nI w = nI (j * 6 + w) := by
              show nI j * nI 6 + nI w = _
              rw [pk_mul, nI_add]
            have i1 : vp_in (nI i * 6 + nI w) 7776 := by rw [I1]; exact vp_in_nI (by omega) (by omega)
            have i2 : vp_in (nI j * 6 + nI w) 7776 := by rw [I2]; exact vp_in_nI (by omega) (by omega)
            have C1 : a_solutionCode (nI i * 6 + nI w).toNatClampNeg = a_solutionCode (i * 6 + w) := by rw [I1, nI_clamp (by omega)]
            have C2 : a_solutionCode (nI j * 6 + nI w).toNatClampNeg = a_solutionCode (j * 6 + w) := by rw [I2, nI_clamp (by omega)]
            have next : (bt v3 w = true → fz_Gv tm a_goalX a_goalY G w → a_solutionCode (i * 6 + w) = a_solutionCode (j * 6 + w)) → _ := fun hh => ih (w + 1) (by omega) (fun x hx hb hg => by
              rcases Nat.lt_or_ge x w with l | l
              · exact hall x l hb hg
              · have : x = w := by omega
                subst this
                exact hh hb hg)
            refine pk_le V w (fun q => absurd q (by omega)) (fun _ => ⟨i1, nm_r C1 ⟨i2, nm_r C2 (fz_coX (by omega) (fun hb => ?_) (fun hb => ?_))⟩⟩)
            · obtain ⟨b1, b2⟩ := (bm w (by omega)).mp hb
              refine br_f (by decide) (br_c (fun e => nm_r (nI_1 w) (next (fun _ _ => e))) (fun e => ?_))
              exact YY 0 (fun q => absurd (q w (by omega) b1 b2) e) (fun _ => rfl)
            · exact br_t rfl (nm_r (nI_1 w) (next (fun b1 b2 => absurd ((bm w (by omega)).mpr ⟨b1, b2⟩) hb)))
        exact ⟨V + 1, keyX V 0 (by omega) (fun x hx => absurd hx (by omega))⟩
end
