/-! how a quay works its landings, as numbers: order o, hours h, fish f, who is there (a), pace, stale -/
abbrev sc_G : Type := (Int → Int) × (Int → Int) × (Int → Int) × (Int → Bool) × Int × Int
abbrev sc_o (g : sc_G) : Int → Int := g.1
abbrev sc_h (g : sc_G) : Int → Int := g.2.1
abbrev sc_f (g : sc_G) : Int → Int := g.2.2.1
abbrev sc_a (g : sc_G) : Int → Bool := g.2.2.2.1
abbrev sc_p (g : sc_G) : Int := g.2.2.2.2.1
abbrev sc_s (g : sc_G) : Int := g.2.2.2.2.2
def sc_one (g : sc_G) (k r : Int) : Int := max 0 (min (sc_f g k) ((sc_h g k + sc_s g) * sc_p g - max r (sc_h g k * sc_p g)))
def sc_RT (g : sc_G) : Nat → Int × Int
  | 0 => (0, 0)
  | p + 1 => if sc_a g (sc_o g p) = true then (max (sc_RT g p).1 (sc_h g (sc_o g p) * sc_p g) + sc_one g (sc_o g p) (sc_RT g p).1, (sc_RT g p).2 + sc_one g (sc_o g p) (sc_RT g p).1) else sc_RT g p
def sc_R (g : sc_G) (p : Nat) : Int := (sc_RT g p).1
def sc_T (g : sc_G) (p : Nat) : Int := (sc_RT g p).2
def sc_S (g : sc_G) (p : Nat) : Int := max (sc_R g p) (sc_h g (sc_o g p) * sc_p g)
def sc_W (g : sc_G) (p : Nat) : Int := sc_one g (sc_o g p) (sc_R g p)
theorem sc_W_eq (g : sc_G) (p : Nat) : sc_W g p = max 0 (min (sc_f g (sc_o g p)) ((sc_h g (sc_o g p) + sc_s g) * sc_p g - sc_S g p)) := rfl
theorem sc_R1 {g : sc_G} {p : Nat} (h : sc_a g (sc_o g p) = true) : sc_R g (p + 1) = sc_S g p + sc_W g p := by
  show (sc_RT g (p + 1)).1 = _
  rw [sc_RT, if_pos h]; rfl
theorem sc_T1 {g : sc_G} {p : Nat} (h : sc_a g (sc_o g p) = true) : sc_T g (p + 1) = sc_T g p + sc_W g p := by
  show (sc_RT g (p + 1)).2 = _
  rw [sc_RT, if_pos h]; rfl
theorem sc_R2 {g : sc_G} {p : Nat} (h : ¬ sc_a g (sc_o g p) = true) : sc_R g (p + 1) = sc_R g p := by
  show (sc_RT g (p + 1)).1 = _
  rw [sc_RT, if_neg h]; rfl
theorem sc_T2 {g : sc_G} {p : Nat} (h : ¬ sc_a g (sc_o g p) = true) : sc_T g (p + 1) = sc_T g p := by
  show (sc_RT g (p + 1)).2 = _
  rw [sc_RT, if_neg h]; rfl
theorem sc_W0 (g : sc_G) (p : Nat) : 0 ≤ sc_W g p := by rw [sc_W_eq]; omega
theorem sc_step (g : sc_G) (p : Nat) : sc_R g p ≤ sc_R g (p + 1) ∧ sc_T g p ≤ sc_T g (p + 1) := by
  have hw := sc_W0 g p
  by_cases h : sc_a g (sc_o g p) = true
  · rw [sc_R1 h, sc_T1 h]
    unfold sc_S
    omega
  · rw [sc_R2 h, sc_T2 h]; omega
theorem sc_mono (g : sc_G) {p q : Nat} (h : p ≤ q) : sc_R g p ≤ sc_R g q ∧ sc_T g p ≤ sc_T g q := by
  induction q with
  | zero => have : p = 0 := by omega
            subst this; omega
  | succ q ih =>
    by_cases e : p = q + 1
    · subst e; omega
    · have h1 := ih (by omega)
      have h2 := sc_step g q
      omega
theorem sc_next (g : sc_G) {p q : Nat} (h : p < q) (hp : sc_a g (sc_o g p) = true) : sc_S g p + sc_W g p ≤ sc_R g q ∧ sc_S g p + sc_W g p ≤ sc_S g q ∧ sc_T g p + sc_W g p ≤ sc_T g q := by
  have h1 := sc_mono g (p := p + 1) (q := q) h
  rw [sc_R1 hp, sc_T1 hp] at h1
  have h2 : sc_R g q ≤ sc_S g q := by unfold sc_S; omega
  omega
theorem sc_R0 (g : sc_G) (p : Nat) : 0 ≤ sc_R g p ∧ 0 ≤ sc_T g p := by
  have := sc_mono g (p := 0) (q := p) (by omega)
  exact this
/-- what is asked of landings: n of them -/
def sc_ok (g : sc_G) (n : Nat) : Prop :=
  (∀ p : Nat, p < n → 0 ≤ sc_o g p ∧ sc_o g p < n) ∧ (∀ k : Int, 0 ≤ k → k < n → (0 ≤ sc_h g k ∧ sc_h g k ≤ 2000) ∧ (1 ≤ sc_f g k ∧ sc_f g k ≤ 20000)) ∧
  (∀ p q : Nat, p < q → q < n → sc_h g (sc_o g p) < sc_h g (sc_o g q) ∨ (sc_h g (sc_o g p) = sc_h g (sc_o g q) ∧ sc_o g p < sc_o g q)) ∧
  (∀ k : Int, 0 ≤ k → k < n → ∃ p : Nat, p < n ∧ sc_o g p = k) ∧ (1 ≤ sc_p g ∧ sc_p g ≤ 18000) ∧ (1 ≤ sc_s g ∧ sc_s g ≤ 72)
theorem sc_mul {g : sc_G} {n : Nat} (hk : sc_ok g n) (x : Int) : (x + 1) * sc_p g = x * sc_p g + sc_p g := by rw [Int.add_mul, Int.one_mul]
theorem sc_mle {g : sc_G} {n : Nat} (hk : sc_ok g n) {x y : Int} (h : x ≤ y) : x * sc_p g ≤ y * sc_p g := Int.mul_le_mul_of_nonneg_right h (by have := hk.2.2.2.2.1; omega)
theorem sc_mlt {g : sc_G} {n : Nat} (hk : sc_ok g n) {x y : Int} (h : x < y) : x * sc_p g + sc_p g ≤ y * sc_p g := by
  rw [← sc_mul hk]; exact sc_mle hk (by omega)
theorem sc_hs {g : sc_G} {n : Nat} (hk : sc_ok g n) {p : Nat} (hp : p < n) : sc_h g (sc_o g p) * sc_p g + sc_p g ≤ (sc_h g (sc_o g p) + sc_s g) * sc_p g := sc_mlt hk (by have := hk.2.2.2.2.2; omega)
/-- a landing of which nothing is worked began behind another one's end -/
theorem sc_zero {g : sc_G} {n : Nat} (hk : sc_ok g n) {p : Nat} (hp : p < n) (hw : sc_W g p = 0) : sc_S g p = sc_R g p := by
  have h1 := hk.1 p hp
  have h2 := hk.2.1 (sc_o g p) h1.1 h1.2
  have h3 := sc_hs hk hp
  have h4 := hk.2.2.2.2.1
  rw [sc_W_eq] at hw
  unfold sc_S at hw ⊢
  omega
/-- reach and total come from the last one that was worked -/
theorem sc_last {g : sc_G} {n : Nat} (hk : sc_ok g n) : ∀ p : Nat, p ≤ n → (sc_R g p = 0 ∧ sc_T g p = 0 ∧ ∀ q : Nat, q < p → sc_a g (sc_o g q) = true → sc_W g q = 0) ∨ ∃ q : Nat, q < p ∧ sc_a g (sc_o g q) = true ∧ 0 < sc_W g q ∧ sc_R g p = sc_S g q + sc_W g q ∧ sc_T g p = sc_T g q + sc_W g q ∧ ∀ q' : Nat, q < q' → q' < p → sc_a g (sc_o g q') = true → sc_W g q' = 0 := by
  intro p
  induction p with
  | zero => intro _; exact Or.inl ⟨rfl, rfl, fun q h => by omega⟩
  | succ p ih =>
    intro hp
    have ih := ih (by omega)
    by_cases ha : sc_a g (sc_o g p) = true
    · have hw := sc_W0 g p
      by_cases hz : sc_W g p = 0
      · have hs := sc_zero hk (p := p) (by omega) hz
        rw [sc_R1 ha, sc_T1 ha, hz, hs]
        rcases ih with ⟨h1, h2, h3⟩ | ⟨q, h1, h2, h3, h4, h5, h6⟩
        · left
          refine ⟨by omega, by omega, fun q hq hqa => ?_⟩
          by_cases e : q = p
          · subst e; exact hz
          · exact h3 q (by omega) hqa
        · right
          refine ⟨q, by omega, h2, h3, by omega, by omega, fun q' h7 h8 h9 => ?_⟩
          by_cases e : q' = p
          · subst e; exact hz
          · exact h6 q' h7 (by omega) h9
      · right
        exact ⟨p, by omega, ha, by omega, sc_R1 ha, sc_T1 ha, fun q' h7 h8 => by omega⟩
    · rw [sc_R2 ha, sc_T2 ha]
      rcases ih with ⟨h1, h2, h3⟩ | ⟨q, h1, h2, h3, h4, h5, h6⟩
      · left
        refine ⟨h1, h2, fun q hq hqa => ?_⟩
        by_cases e : q = p
        · subst e; exact absurd hqa ha
        · exact h3 q (by omega) hqa
      · right
        refine ⟨q, by omega, h2, h3, h4, h5, fun q' h7 h8 h9 => ?_⟩
        by_cases e : q' = p
        · subst e; exact absurd h9 ha
        · exact h6 q' h7 (by omega) h9
/-- bounds -/
theorem sc_dl {g : sc_G} {n : Nat} (hk : sc_ok g n) {p : Nat} (hp : p < n) (hw : 0 < sc_W g p) : sc_S g p + sc_W g p ≤ (sc_h g (sc_o g p) + sc_s g) * sc_p g ∧ sc_W g p ≤ sc_f g (sc_o g p) := by
  rw [sc_W_eq] at hw ⊢
  omega
theorem sc_Wf {g : sc_G} {n : Nat} (hk : sc_ok g n) {p : Nat} (hp : p < n) : sc_W g p ≤ sc_f g (sc_o g p) := by
  have h1 := hk.1 p hp
  have h2 := hk.2.1 (sc_o g p) h1.1 h1.2
  rw [sc_W_eq]
  omega
theorem sc_Rb {g : sc_G} {n : Nat} (hk : sc_ok g n) {p : Nat} (hp : p ≤ n) : sc_R g p ≤ 2072 * sc_p g := by
  rcases sc_last hk p hp with ⟨h1, -⟩ | ⟨q, h1, h2, h3, h4, -⟩
  · rw [h1]
    have := hk.2.2.2.2.1
    omega
  · rw [h4]
    have h5 := sc_dl hk (p := q) (by omega) h3
    have h6 := hk.1 q (by omega)
    have h7 := hk.2.1 (sc_o g q) h6.1 h6.2
    have h8 := hk.2.2.2.2.2
    have h9 := sc_mle hk (x := sc_h g (sc_o g q) + sc_s g) (y := 2072) (by omega)
    omega
theorem sc_Sb {g : sc_G} {n : Nat} (hk : sc_ok g n) {p : Nat} (hp : p < n) : 0 ≤ sc_S g p ∧ sc_S g p ≤ 2072 * sc_p g := by
  have h1 := sc_Rb hk (p := p) (by omega)
  have h0 := sc_R0 g p
  have h6 := hk.1 p hp
  have h7 := hk.2.1 (sc_o g p) h6.1 h6.2
  have h9 := sc_mle hk (x := sc_h g (sc_o g p)) (y := 2072) (by omega)
  unfold sc_S
  omega
theorem sc_Tb {g : sc_G} {n : Nat} (hk : sc_ok g n) : ∀ p : Nat, p ≤ n → sc_T g p ≤ 20000 * p := by
  intro p
  induction p with
  | zero => intro _; exact Int.le_refl _
  | succ p ih =>
    intro hp
    have h1 := ih (by omega)
    have h6 := hk.1 p (by omega)
    have h7 := hk.2.1 (sc_o g p) h6.1 h6.2
    have h8 := sc_Wf hk (p := p) (by omega)
    by_cases ha : sc_a g (sc_o g p) = true
    · rw [sc_T1 ha]; omega
    · rw [sc_T2 ha]; omega
