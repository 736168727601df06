/-! barrels: what a run of fish worked is -/
def br_ov (g : sc_G) (a b : Int) (p : Nat) : Prop := sc_a g (sc_o g p) = true ∧ max a (sc_T g p) < min b (sc_T g p + sc_W g p)
def br_hr (g : sc_G) (b : Int) (p : Nat) : Int := (sc_S g p + min b (sc_T g p + sc_W g p) - 1 - sc_T g p) / sc_p g
def br_in (g : sc_G) (x : Int) (p : Nat) : Prop := sc_a g (sc_o g p) = true ∧ sc_T g p ≤ x ∧ x < sc_T g p + sc_W g p
noncomputable def br_n (g : sc_G) (a b : Int) : Nat → Int
  | 0 => 0
  | p + 1 => br_n g a b p + (@ite _ (br_ov g a b p) (Classical.propDecidable _) 1 0)
/-- the barrel of the fish from a to b (of n landings, sizes z): hour, most hours, least size, landings in it -/
def br_is (g : sc_G) (n : Nat) (z : Int → Int) (a b dn ms ls pt : Int) : Prop :=
  (∃ p : Nat, p < n ∧ br_in g (b - 1) p ∧ dn = (sc_S g p + (b - 1 - sc_T g p)) / sc_p g) ∧
  ((∀ p : Nat, p < n → br_ov g a b p → br_hr g b p - sc_h g (sc_o g p) ≤ ms) ∧ ∃ p : Nat, p < n ∧ br_ov g a b p ∧ ms = br_hr g b p - sc_h g (sc_o g p)) ∧
  ((∀ p : Nat, p < n → br_ov g a b p → ls ≤ z (sc_o g p)) ∧ ∃ p : Nat, p < n ∧ br_ov g a b p ∧ ls = z (sc_o g p)) ∧
  pt = br_n g a b n
theorem br_in_u {g : sc_G} {n : Nat} {x : Int} {p q : Nat} (hp : p < n) (hq : q < n) (h : br_in g x p) (h' : br_in g x q) : p = q := by
  rcases Nat.lt_trichotomy p q with c | c | c
  · have := (sc_next g c h.1).2.2
    unfold br_in at h h'; omega
  · exact c
  · have := (sc_next g c h'.1).2.2
    unfold br_in at h h'; omega
theorem br_in_ex {g : sc_G} {n : Nat} (x : Int) (h0 : 0 ≤ x) (h1 : x < sc_T g n) : ∃ p : Nat, p < n ∧ br_in g x p := by
  induction n with
  | zero => have : sc_T g 0 = 0 := rfl
            omega
  | succ n ih =>
    by_cases c : x < sc_T g n
    · obtain ⟨p, h2, h3⟩ := ih c
      exact ⟨p, by omega, h3⟩
    · by_cases ha : sc_a g (sc_o g n) = true
      · rw [sc_T1 ha] at h1
        exact ⟨n, by omega, ha, by omega, h1⟩
      · rw [sc_T2 ha] at h1
        omega
theorem br_u {g : sc_G} {n : Nat} {z : Int → Int} {a b d1 m1 l1 p1 d2 m2 l2 p2 : Int} (h : br_is g n z a b d1 m1 l1 p1) (h' : br_is g n z a b d2 m2 l2 p2) : d1 = d2 ∧ m1 = m2 ∧ l1 = l2 ∧ p1 = p2 := by
  obtain ⟨⟨p, a1, a2, a3⟩, ⟨b1, q, b2, b3, b4⟩, ⟨c1, r, c2, c3, c4⟩, e⟩ := h
  obtain ⟨⟨p', a1', a2', a3'⟩, ⟨b1', q', b2', b3', b4'⟩, ⟨c1', r', c2', c3', c4'⟩, e'⟩ := h'
  have : p = p' := br_in_u a1 a1' a2 a2'
  subst this
  refine ⟨by rw [a3, a3'], ?_, ?_, by rw [e, e']⟩
  · have x1 := b1 q' b2' b3'
    have x2 := b1' q b2 b3
    omega
  · have x1 := c1 r' c2' c3'
    have x2 := c1' r c2 c3
    omega
theorem br_n0 {g : sc_G} {a b : Int} : ∀ kz : Nat, (∀ p : Nat, p < kz → ¬ br_ov g a b p) → br_n g a b kz = 0 := by
  intro kz
  induction kz with
  | zero => intro _; rfl
  | succ kz ih =>
    intro h
    simp only [br_n]
    rw [ih (fun p hp => h p (by omega)), if_neg (h kz (by omega))]
    rfl
theorem br_n_in {g : sc_G} {a b : Int} (n : Nat) : 0 ≤ br_n g a b n ∧ br_n g a b n ≤ n := by
  induction n with
  | zero => simp [br_n]
  | succ n ih =>
    simp only [br_n]
    split <;> omega
theorem br_n_end {g : sc_G} {a b : Int} {kz n : Nat} (h : kz ≤ n) (hn : ∀ p : Nat, kz ≤ p → p < n → ¬ br_ov g a b p) : br_n g a b n = br_n g a b kz := by
  induction n with
  | zero => have : kz = 0 := by omega
            subst this; rfl
  | succ n ih =>
    by_cases e : kz = n + 1
    · rw [e]
    · simp only [br_n]
      rw [if_neg (hn n (by omega) (by omega)), ih (by omega) (fun p h1 h2 => hn p h1 (by omega))]
      omega
/-- the class's arrays hold the schedule of a quay -/
def qb_wk (hp : qb_H) (n : Nat) (Q : Int) : Prop := hp 24 Q = sc_T (qb_gq hp Q) n ∧ ∀ p : Nat, p < n → hp 13 (hp 17 p) = Q → hp 18 (hp 17 p) = sc_S (qb_gq hp Q) p ∧ hp 19 (hp 17 p) = sc_W (qb_gq hp Q) p ∧ hp 20 (hp 17 p) = sc_T (qb_gq hp Q) p
/-- the loop of measure at place kz -/
def ms_inv (g : sc_G) (z : Int → Int) (a b : Int) (kz : Nat) (pl0 : Int) (hq : qb_H) : Prop :=
  hq 25 5 = br_n g a b kz ∧
  (((∀ p : Nat, p < kz → ¬ br_ov g a b p) ∧ hq 25 2 = 0 ∧ hq 25 3 = 0 ∧ hq 25 4 = 9 ∧ hq 25 1 = pl0) ∨
   ((∃ p : Nat, p < kz ∧ br_ov g a b p ∧ (∀ q : Nat, p < q → q < kz → ¬ br_ov g a b q) ∧ hq 25 2 = br_hr g b p ∧ hq 25 1 = p) ∧
    ((∀ p : Nat, p < kz → br_ov g a b p → br_hr g b p - sc_h g (sc_o g p) ≤ hq 25 3) ∧ ∃ p : Nat, p < kz ∧ br_ov g a b p ∧ hq 25 3 = br_hr g b p - sc_h g (sc_o g p)) ∧
    ((∀ p : Nat, p < kz → br_ov g a b p → hq 25 4 ≤ z (sc_o g p)) ∧ ∃ p : Nat, p < kz ∧ br_ov g a b p ∧ hq 25 4 = z (sc_o g p))))
/-- all overlaps are seen: it is the barrel -/
theorem ms_end {g : sc_G} {n : Nat} {z : Int → Int} {a b : Int} {kz : Nat} {pl0 : Int} {hq : qb_H} (hab : a < b) (ha : 0 ≤ a) (hb : b ≤ sc_T g n) (hkn : kz ≤ n) (h : ms_inv g z a b kz pl0 hq) (hno : ∀ p : Nat, kz ≤ p → p < n → ¬ br_ov g a b p) :
    br_is g n z a b (hq 25 2) (hq 25 3) (hq 25 4) (hq 25 5) ∧ ∃ p : Nat, p < n ∧ hq 25 1 = p ∧ br_in g (b - 1) p := by
  obtain ⟨h1, h2⟩ := h
  obtain ⟨ps, e1, e2⟩ := br_in_ex (g := g) (n := n) (b - 1) (by omega) (by omega)
  have hov : br_ov g a b ps := ⟨e2.1, by unfold br_in at e2; omega⟩
  have hps : ps < kz := by
    apply Classical.byContradiction
    intro hc
    exact hno ps (by omega) e1 hov
  rcases h2 with ⟨c1, -⟩ | ⟨⟨p, c1, c2, c3, c4, c5⟩, ⟨d1, d2, d3, d4, d5⟩, ⟨f1, f2, f3, f4, f5⟩⟩
  · exact absurd hov (c1 ps hps)
  · have hpe : p = ps := by
      rcases Nat.lt_trichotomy p ps with c | c | c
      · exact absurd hov (c3 ps c hps)
      · exact c
      · have := (sc_next g c e2.1).2.2
        unfold br_ov at c2
        unfold br_in at e2
        omega
    subst hpe
    refine ⟨⟨⟨p, e1, e2, ?_⟩, ⟨fun q hq1 hq2 => d1 q ?_ hq2, d2, by omega, d4, d5⟩, ⟨fun q hq1 hq2 => f1 q ?_ hq2, f2, by omega, f4, f5⟩, ?_⟩, p, e1, c5, e2⟩
    · rw [c4]
      unfold br_hr
      unfold br_in at e2
      congr 1
      omega
    · apply Classical.byContradiction
      intro hc
      exact hno q (by omega) hq1 hq2
    · apply Classical.byContradiction
      intro hc
      exact hno q (by omega) hq1 hq2
    · rw [h1]; exact (br_n_end hkn hno).symm
