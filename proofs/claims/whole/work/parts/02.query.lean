/-! ===== k terms one behind another ===== -/
def fz_Ct : Nat → List Nat → Prop
  | 0, l => l = []
  | k + 1, l => ∃ A B, fz_WT A ∧ l = A ++ B ∧ fz_Ct k B
theorem fz_Ct1 {A : List Nat} (h : fz_WT A) : fz_Ct 1 A := ⟨A, [], h, by simp, rfl⟩
theorem fz_CtL {k a : Nat} {l : List Nat} (h : fz_Ct (k + 1) (a :: l)) (ha : a ≠ 17) : fz_lf a ∧ fz_Ct k l := by
  obtain ⟨A, B, hA, e, hB⟩ := h
  rcases fz_WTcase hA with ⟨b, hb, rfl⟩ | ⟨C, D, _, _, rfl⟩
  · have e2 : a = b ∧ l = B := by simpa using e
    rw [e2.1, e2.2]
    exact ⟨hb, hB⟩
  · have e2 : a = 17 ∧ _ := List.cons.inj e
    exact absurd e2.1 ha
theorem fz_CtP {k : Nat} {l : List Nat} (h : fz_Ct (k + 1) (17 :: l)) : fz_Ct (k + 2) l := by
  obtain ⟨A, B, hA, e, hB⟩ := h
  rcases fz_WTcase hA with ⟨b, hb, rfl⟩ | ⟨C, D, hC, hD, rfl⟩
  · have e2 : 17 = b ∧ l = B := by simpa using e
    exact absurd e2.1.symm (fz_lf17 hb)
  · have e2 : l = C ++ (D ++ B) := by simpa using e
    exact ⟨C, D ++ B, hC, e2, D, B, hD, rfl, hB⟩
theorem fz_CtN {k : Nat} (h : fz_Ct k []) : k = 0 := by
  cases k with
  | zero => rfl
  | succ k =>
    obtain ⟨A, B, hA, e, _⟩ := h
    have h1 := fz_WTlen hA
    have h2 : A = [] := (List.append_eq_nil_iff.mp e.symm).1
    rw [h2] at h1
    simp at h1
theorem fz_CtK {k : Nat} {A l : List Nat} (hA : fz_WT A) (h : fz_Ct (k + 1) (A ++ l)) : fz_Ct k l := by
  obtain ⟨A', B, hA', e, hB⟩ := h
  rw [(fz_cut (fz_WTm hA) (fz_WTm hA') e).2]
  exact hB
/-! ===== assignments, and what has a value already ===== -/
/-- every variable is given a ground term -/
def fz_As (s : Nat → List Nat) : Prop := ∀ v, fz_WT (s v) ∧ fz_Gr (s v)
theorem fz_AsT {s : Nat → List Nat} (h : fz_As s) (v : Nat) : fz_Tm (s v) := fz_WTm (h v).1
/-- s gives each variable that has a value in b that cell's text -/
def fz_ex (tm : Nat → List Nat) (b : Nat → Option Nat) (s : Nat → List Nat) : Prop := ∀ v c, b v = some c → s v = tm c
/-- the texts under b; a variable without a value stays -/
def fz_pb (tm : Nat → List Nat) (b : Nat → Option Nat) (v : Nat) : List Nat := match b v with
  | some c => tm c
  | none => [100 + v]
theorem fz_pbn (tm : Nat → List Nat) (A : List Nat) : fz_sb (fz_pb tm (fun _ => none)) A = A := fz_sbi A
def fz_le (b b' : Nat → Option Nat) : Prop := ∀ v c, b v = some c → b' v = some c
/-- some assignment that extends b -/
def fz_tot (tm : Nat → List Nat) (b : Nat → Option Nat) (v : Nat) : List Nat := match b v with
  | some c => tm c
  | none => [1]
theorem fz_totE (tm : Nat → List Nat) (b : Nat → Option Nat) : fz_ex tm b (fz_tot tm b) := by
  intro v c h
  unfold fz_tot
  rw [h]
theorem fz_totA {tm : Nat → List Nat} {b : Nat → Option Nat} (h : ∀ v c, b v = some c → fz_WT (tm c) ∧ fz_Gr (tm c)) : fz_As (fz_tot tm b) := by
  intro v
  unfold fz_tot
  cases e : b v with
  | some c => exact h v c e
  | none => exact ⟨fz_WTL (.inl ⟨by omega, by omega⟩), fun a ha => by rw [List.mem_singleton] at ha; omega⟩
/-! ===== the query ===== -/
/-- the goals from lo on fit the chosen rows -/
def fz_Mt (tm : Nat → List Nat) (gt gx gy rl rr : Nat → Int32) (lo G : Nat) (p : Nat → Nat) (s : Nat → List Nat) : Prop :=
  ∀ g, lo ≤ g → g < G → fz_sb s (tm (gx g).toNatClampNeg) = tm (rl (6 * (gt g).toNatClampNeg + p g)).toNatClampNeg ∧ fz_sb s (tm (gy g).toNatClampNeg) = tm (rr (6 * (gt g).toNatClampNeg + p g)).toNatClampNeg
def fz_Eq (tm : Nat → List Nat) (ex ey : Nat → Int32) (E : Nat) (s : Nat → List Nat) : Prop :=
  ∀ e, e < E → fz_sb s (tm (ex e).toNatClampNeg) = fz_sb s (tm (ey e).toNatClampNeg)
def fz_Df (tm : Nat → List Nat) (dx dy : Nat → Int32) (D : Nat) (s : Nat → List Nat) : Prop :=
  ∀ e, e < D → ¬ fz_sb s (tm (dx e).toNatClampNeg) = fz_sb s (tm (dy e).toNatClampNeg)
def fz_Good (tm : Nat → List Nat) (gt gx gy rl rr ex ey dx dy : Nat → Int32) (G E D : Nat) (p : Nat → Nat) : Prop :=
  ∃ s, fz_As s ∧ fz_Mt tm gt gx gy rl rr 0 G p s ∧ fz_Eq tm ex ey E s ∧ fz_Df tm dx dy D s
/-- the variable occurs in a goal's terms -/
def fz_Gv (tm : Nat → List Nat) (gx gy : Nat → Int32) (G v : Nat) : Prop := ∃ g, g < G ∧ (100 + v ∈ tm (gx g).toNatClampNeg ∨ 100 + v ∈ tm (gy g).toNatClampNeg)
theorem fz_Mtu {tm : Nat → List Nat} {gt gx gy rl rr : Nat → Int32} {G : Nat} {p : Nat → Nat} {s s' : Nat → List Nat} (hs : fz_As s) (hs' : fz_As s') (hw : ∀ g, g < G → fz_WT (tm (gx g).toNatClampNeg) ∧ fz_WT (tm (gy g).toNatClampNeg)) (m : fz_Mt tm gt gx gy rl rr 0 G p s) (m' : fz_Mt tm gt gx gy rl rr 0 G p s') {v : Nat} (hv : fz_Gv tm gx gy G v) : s v = s' v := by
  obtain ⟨g, hg, h⟩ := hv
  have a := m g (Nat.zero_le _) hg
  have b := m' g (Nat.zero_le _) hg
  rcases h with h | h
  · exact fz_uq (fz_AsT hs) (fz_AsT hs') (hw g hg).1 (a.1.trans b.1.symm) v h
  · exact fz_uq (fz_AsT hs) (fz_AsT hs') (hw g hg).2 (a.2.trans b.2.symm) v h
theorem fz_Mtp {tm : Nat → List Nat} {gt gx gy rl rr : Nat → Int32} {lo G : Nat} {p q : Nat → Nat} {s : Nat → List Nat} (h : ∀ g, g < G → p g = q g) (m : fz_Mt tm gt gx gy rl rr lo G p s) : fz_Mt tm gt gx gy rl rr lo G q s := by
  intro g hl hg
  rw [← h g hg]
  exact m g hl hg
theorem fz_Goodp {tm : Nat → List Nat} {gt gx gy rl rr ex ey dx dy : Nat → Int32} {G E D : Nat} (p q : Nat → Nat) (h : ∀ g, g < G → p g = q g) (m : fz_Good tm gt gx gy rl rr ex ey dx dy G E D p) : fz_Good tm gt gx gy rl rr ex ey dx dy G E D q := by
  obtain ⟨s, a, b, c, d⟩ := m
  exact ⟨s, a, fz_Mtp h b, c, d⟩
/-! ===== what the arrays hold ===== -/
def fz_GO (n : Nat) (gt gx gy : Nat → Int32) (G : Nat) : Prop := ∀ g, g < G → ∃ t x y, t < 4 ∧ x < n ∧ y < n ∧ gt g = nI t ∧ gx g = nI x ∧ gy g = nI y
def fz_RO (tm : Nat → List Nat) (n : Nat) (rc rl rr : Nat → Int32) : Prop := ∀ t, t < 4 → ∃ r, r ≤ 6 ∧ rc t = nI r ∧ ∀ j, j < r → ∃ c d, c < n ∧ d < n ∧ rl (6 * t + j) = nI c ∧ rr (6 * t + j) = nI d ∧ fz_Gr (tm c) ∧ fz_Gr (tm d)
def fz_QO (n : Nat) (ex ey : Nat → Int32) (E : Nat) : Prop := ∀ e, e < E → ∃ x y, x < n ∧ y < n ∧ ex e = nI x ∧ ey e = nI y
/-- the number of rows of a goal's table -/
def fz_Rw (rc gt : Nat → Int32) (g : Nat) : Nat := (rc (gt g).toNatClampNeg).toNatClampNeg
theorem fz_RwE {rc gt : Nat → Int32} {g t r : Nat} (ht : t < 4) (hr : r ≤ 6) (et : gt g = nI t) (er : rc t = nI r) : fz_Rw rc gt g = r := by
  unfold fz_Rw
  rw [et, nI_clamp (by omega), er, nI_clamp (by omega)]
theorem fz_MtS {tm : Nat → List Nat} {gt gx gy rl rr : Nat → Int32} {j G : Nat} {p : Nat → Nat} {s : Nat → List Nat} {t x y c d : Nat} (hj : j < G) (ht : t < 4) (hx : x < 48) (hy : y < 48) (hc : c < 48) (hd : d < 48) (et : gt j = nI t) (ex : gx j = nI x) (ey : gy j = nI y) (ec : rl (6 * t + p j) = nI c) (ed : rr (6 * t + p j) = nI d) :
    fz_Mt tm gt gx gy rl rr j G p s ↔ (fz_sb s (tm x) = tm c ∧ fz_sb s (tm y) = tm d) ∧ fz_Mt tm gt gx gy rl rr (j + 1) G p s := by
  have k : (fz_sb s (tm (gx j).toNatClampNeg) = tm (rl (6 * (gt j).toNatClampNeg + p j)).toNatClampNeg ∧ fz_sb s (tm (gy j).toNatClampNeg) = tm (rr (6 * (gt j).toNatClampNeg + p j)).toNatClampNeg) ↔ (fz_sb s (tm x) = tm c ∧ fz_sb s (tm y) = tm d) := by
    rw [et, nI_clamp (n := t) (by omega), ex, ey, ec, ed, nI_clamp (n := x) (by omega), nI_clamp (n := y) (by omega), nI_clamp (n := c) (by omega), nI_clamp (n := d) (by omega)]
  constructor
  · intro h
    exact ⟨k.mp (h j (Nat.le_refl _) hj), fun g h1 h2 => h g (by omega) h2⟩
  · rintro ⟨h1, h2⟩ g h3 h4
    rcases Nat.eq_or_lt_of_le h3 with e | e
    · rw [← e]
      exact k.mpr h1
    · exact h2 g e h4
theorem fz_exle {tm : Nat → List Nat} {b b' : Nat → Option Nat} {s : Nat → List Nat} (h : fz_le b b') (hs : fz_ex tm b' s) : fz_ex tm b s := fun v c hv => hs v c (h v c hv)
theorem fz_lene {b b' : Nat → Option Nat} (h : fz_le b b') {v : Nat} (hv : b v ≠ none) : b' v ≠ none := by
  cases e : b v with
  | none => exact absurd e hv
  | some c =>
    rw [h v c e]
    simp
theorem fz_x6b {p : Nat → Nat} {j : Nat} (hp : ∀ g, g < j → p g < 6) (hj : j ≤ 4) : fz_x6 p j < 1296 := by
  have h1 := fz_x6lt (p := p) j hp
  have h2 : 6 ^ j ≤ 6 ^ 4 := Nat.pow_le_pow_right (by omega) hj
  have h3 : 6 ^ 4 = 1296 := by decide
  omega
