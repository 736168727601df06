/-! the next set of places -/
theorem r39_end {s x : Int} {hr : qb_H} {K : Int → qb_H → Prop} (h : s ≤ x) (k : K 1 hr) : r_ju_advance_39 s x hr K := b_ju_advance_39 ⟨fun _ => k, fun c => absurd h c⟩
theorem r39_go {s x y v : Int} {hr : qb_H} {K : Int → qb_H → Prop} (h : x < s) (h0 : 1 ≤ x ∧ x ≤ 2) (hy : y = x + 1) (e : hr 35 (x - 1) = v) (hv : 0 ≤ v ∧ v ≤ 100) (k : r_ju_advance_39 s y (qb_st hr 35 x (v + 1)) K) : r_ju_advance_39 s x hr K := by
  subst hy
  refine b_ju_advance_39 ⟨fun c => absurd c (by omega), fun _ => ?_⟩
  rw [e]
  exact ⟨by unfold qb_in; omega, by omega, by unfold qb_in; omega, by omega, k⟩
theorem r4_end {s x : Int} {hr : qb_H} {K : Int → qb_H → Prop} (h : x < 0) (k : K 0 hr) : r_ju_advance_4 s x hr K := b_ju_advance_4 ⟨fun _ => k, fun c => absurd h c⟩
theorem r4_dn {s x y A : Int} {hr : qb_H} {K : Int → qb_H → Prop} (h0 : 0 ≤ x ∧ x ≤ 2) (hs : 0 ≤ s ∧ s ≤ 3) (hA : hr 32 5 = A) (hA30 : 0 ≤ A ∧ A ≤ 30) (hy : y = x - 1) (h : A - s + x ≤ hr 35 x) (k : r_ju_advance_4 s y hr K) : r_ju_advance_4 s x hr K := by
  subst hy
  refine b_ju_advance_4 ⟨fun c => absurd c (by omega), fun _ => ?_⟩
  rw [hA]
  exact ⟨by omega, by unfold qb_in; omega, by unfold qb_in; omega, fun _ => k, fun c => absurd h c⟩
theorem r4_up {s x y A v : Int} {hr : qb_H} {K : Int → qb_H → Prop} (h0 : 0 ≤ x ∧ x ≤ 2) (hs : 0 ≤ s ∧ s ≤ 3) (hA : hr 32 5 = A) (hA30 : 0 ≤ A ∧ A ≤ 30) (hy : y = x + 1) (e : hr 35 x = v) (hv : 0 ≤ v ∧ v ≤ 100) (h : ¬ A - s + x ≤ v) (k : r_ju_advance_39 s y (qb_st hr 35 x (v + 1)) K) : r_ju_advance_4 s x hr K := by
  subst hy
  refine b_ju_advance_4 ⟨fun c => absurd c (by omega), fun _ => ?_⟩
  rw [hA, e]
  exact ⟨by omega, by unfold qb_in; omega, by unfold qb_in; omega, fun c => absurd c h, fun _ => ⟨by unfold qb_in; omega, k⟩⟩
theorem s_ju_adv {hp hq : qb_H} {s A : Int} {x : Nat} {R : Int} (hAB : ABc hp A (hq 34) 30) (hA : hq 32 5 = A) (hc : cu s A (hq 34) (hq 35) x R) {K : Int → qb_H → Prop}
    (hK0 : (∀ z : Nat, x < z → z < 27000 → ¬ sA hp s z) → K 0 hq)
    (hK1 : ∀ (hr : qb_H) (y : Nat) (R' : Int), (∀ c : Nat, c ≠ 35 → hr c = hq c) → cu s A (hq 34) (hr 35) y R' → x < y → y < 27000 → R + 1 ≤ R' → (∀ z : Nat, x < z → z < y → ¬ sA hp s z) → K 1 hr) : c_ju_advance s hq K := by
  have hA30 : 0 ≤ A ∧ A ≤ 30 := hAB.1
  rcases hc with ⟨c0, c1, c2⟩ | ⟨c0, c1, c2, c3⟩ | ⟨c0, c1, c2, c3⟩ | ⟨c0, c1, c2, c3⟩
  · subst c0
    refine b_ju_advance ⟨by unfold qb_in; omega, r4_end (by decide) (hK0 (fun z z0 z1 hz => ?_))⟩
    have := sA0 hz
    omega
  · subst c0
    obtain ⟨u, eu⟩ : ∃ u : Int, hq 35 0 = u := ⟨_, rfl⟩
    rw [eu] at c1 c2 c3
    have hb := fun j j0 j1 => (hAB.2.1 j j0 j1).1
    refine b_ju_advance ⟨by unfold qb_in; omega, ?_⟩
    have e11 : (1 : Int) - 1 = 0 := by decide
    rw [e11]
    by_cases d : A - 1 + 0 ≤ u
    · refine r4_dn (A := A) (by decide) (by decide) hA hA30 (y := -1) (by decide) (by rw [eu]; exact d) (r4_end (by decide) (hK0 (fun z z0 z1 hz => ?_)))
      obtain ⟨i, hi, ei⟩ := sA1 hAB z1 hz
      have := (lex1 hAB c1.1 c1.2 hi.1 hi.2).1 (by omega)
      omega
    · refine r4_up (A := A) (v := u) (by decide) (by decide) hA hA30 (y := 1) (by decide) eu (by omega) d (r39_end (by decide) ?_)
      have hw := hb (u + 1) (by omega) (by omega)
      have hxy := (lex1 hAB c1.1 c1.2 (j := u + 1) (by omega) (by omega)).2 (by omega)
      refine hK1 _ (900 * hq 34 (u + 1)).toNat (u + 1) (fun c hc => qb_st_ne hc) (Or.inr (Or.inl ⟨rfl, ?_⟩)) (by omega) (by omega) (by omega) (fun z z0 z1 hz => ?_)
      · have e0 : qb_st hq 35 0 (u + 1) 35 0 = u + 1 := by simp [qb_st]
        rw [e0]
        exact ⟨by omega, by omega, rfl⟩
      · obtain ⟨i, hi, ei⟩ := sA1 hAB (by omega) hz
        have l1 := (lex1 hAB c1.1 c1.2 hi.1 hi.2).1 (by omega)
        have l2 := (lex1 hAB hi.1 hi.2 (j := u + 1) (by omega) (by omega)).1 (by omega)
        omega
  · subst c0
    obtain ⟨u, eu⟩ : ∃ u : Int, hq 35 0 = u := ⟨_, rfl⟩
    obtain ⟨v, ev⟩ : ∃ v : Int, hq 35 1 = v := ⟨_, rfl⟩
    rw [eu, ev] at c1 c2 c3
    have hb := fun j j0 j1 => (hAB.2.1 j j0 j1).1
    have hu := hb u (by omega) (by omega)
    have hv := hb v (by omega) (by omega)
    refine b_ju_advance ⟨by unfold qb_in; omega, ?_⟩
    have e21 : (2 : Int) - 1 = 1 := by decide
    rw [e21]
    by_cases d : A - 2 + 1 ≤ v
    · refine r4_dn (A := A) (by decide) (by decide) hA hA30 (y := 0) (by decide) (by rw [ev]; exact d) ?_
      by_cases f : A - 2 + 0 ≤ u
      · refine r4_dn (A := A) (by decide) (by decide) hA hA30 (y := -1) (by decide) (by rw [eu]; exact f) (r4_end (by decide) (hK0 (fun z z0 z1 hz => ?_)))
        obtain ⟨i, j, hi, ei⟩ := sA2 hAB z1 hz
        have := (lex2 hAB (i := u) (j := v) (k := i) (l := j) (by omega) (by omega) (by omega) (by omega) (by omega) (by omega) (by omega) (by omega)).1 (by omega)
        omega
      · refine r4_up (A := A) (v := u) (by decide) (by decide) hA hA30 (y := 1) (by decide) eu (by omega) f ?_
        refine r39_go (v := u + 1) (by decide) (by decide) (y := 2) (by decide) (by simp [qb_st]) (by omega) (r39_end (by decide) ?_)
        have hw1 := hb (u + 1) (by omega) (by omega)
        have hw2 := hb (u + 1 + 1) (by omega) (by omega)
        have hxy := (lex2 hAB (i := u) (j := v) (k := u + 1) (l := u + 1 + 1) (by omega) (by omega) (by omega) (by omega) (by omega) (by omega) (by omega) (by omega)).2 (by omega)
        have t1 := tS_up (j := u) (by omega)
        have e0 : qb_st (qb_st hq 35 0 (u + 1)) 35 1 (u + 1 + 1) 35 0 = u + 1 := by simp [qb_st]
        have e1 : qb_st (qb_st hq 35 0 (u + 1)) 35 1 (u + 1 + 1) 35 1 = u + 1 + 1 := by simp [qb_st]
        refine hK1 _ (900 * hq 34 (u + 1) + 30 * hq 34 (u + 1 + 1)).toNat (tS (u + 1)) (fun c hc => by rw [qb_st_ne hc, qb_st_ne hc]) (Or.inr (Or.inr (Or.inl ⟨rfl, ?_⟩))) (by omega) (by omega) (by omega) (fun z z0 z1 hz => ?_)
        · rw [e0, e1]
          exact ⟨by omega, by omega, by omega⟩
        · obtain ⟨i, j, hi, ei⟩ := sA2 hAB (by omega) hz
          have l1 := (lex2 hAB (i := u) (j := v) (k := i) (l := j) (by omega) (by omega) (by omega) (by omega) (by omega) (by omega) (by omega) (by omega)).1 (by omega)
          have l2 := (lex2 hAB (i := i) (j := j) (k := u + 1) (l := u + 1 + 1) (by omega) (by omega) (by omega) (by omega) (by omega) (by omega) (by omega) (by omega)).1 (by omega)
          omega
    · refine r4_up (A := A) (v := v) (by decide) (by decide) hA hA30 (y := 2) (by decide) ev (by omega) d (r39_end (by decide) ?_)
      have hw2 := hb (v + 1) (by omega) (by omega)
      have hxy := (lex2 hAB (i := u) (j := v) (k := u) (l := v + 1) (by omega) (by omega) (by omega) (by omega) (by omega) (by omega) (by omega) (by omega)).2 (by omega)
      have e0 : qb_st hq 35 1 (v + 1) 35 0 = u := by simp [qb_st, eu]
      have e1 : qb_st hq 35 1 (v + 1) 35 1 = v + 1 := by simp [qb_st]
      refine hK1 _ (900 * hq 34 u + 30 * hq 34 (v + 1)).toNat (tS u + (v + 1 - u - 1)) (fun c hc => qb_st_ne hc) (Or.inr (Or.inr (Or.inl ⟨rfl, ?_⟩))) (by omega) (by omega) (by omega) (fun z z0 z1 hz => ?_)
      · rw [e0, e1]
        exact ⟨by omega, by omega, by omega⟩
      · obtain ⟨i, j, hi, ei⟩ := sA2 hAB (by omega) hz
        have l1 := (lex2 hAB (i := u) (j := v) (k := i) (l := j) (by omega) (by omega) (by omega) (by omega) (by omega) (by omega) (by omega) (by omega)).1 (by omega)
        have l2 := (lex2 hAB (i := i) (j := j) (k := u) (l := v + 1) (by omega) (by omega) (by omega) (by omega) (by omega) (by omega) (by omega) (by omega)).1 (by omega)
        omega
  · subst c0
    obtain ⟨u, eu⟩ : ∃ u : Int, hq 35 0 = u := ⟨_, rfl⟩
    obtain ⟨v, ev⟩ : ∃ v : Int, hq 35 1 = v := ⟨_, rfl⟩
    obtain ⟨w, ew⟩ : ∃ w : Int, hq 35 2 = w := ⟨_, rfl⟩
    rw [eu, ev, ew] at c1 c2 c3
    have hb := fun j j0 j1 => (hAB.2.1 j j0 j1).1
    have hu := hb u (by omega) (by omega)
    have hv := hb v (by omega) (by omega)
    have hw := hb w (by omega) (by omega)
    refine b_ju_advance ⟨by unfold qb_in; omega, ?_⟩
    have e32 : (3 : Int) - 1 = 2 := by decide
    rw [e32]
    by_cases d : A - 3 + 2 ≤ w
    · refine r4_dn (A := A) (by decide) (by decide) hA hA30 (y := 1) (by decide) (by rw [ew]; exact d) ?_
      by_cases f : A - 3 + 1 ≤ v
      · refine r4_dn (A := A) (by decide) (by decide) hA hA30 (y := 0) (by decide) (by rw [ev]; exact f) ?_
        by_cases g : A - 3 + 0 ≤ u
        · refine r4_dn (A := A) (by decide) (by decide) hA hA30 (y := -1) (by decide) (by rw [eu]; exact g) (r4_end (by decide) (hK0 (fun z z0 z1 hz => ?_)))
          obtain ⟨i, j, m, hi, ei⟩ := sA3 hAB z1 hz
          have := (lex3 hAB (i := u) (j := v) (m := w) (k := i) (l := j) (o := m) (by omega) (by omega) (by omega) (by omega) (by omega) (by omega) (by omega) (by omega) (by omega) (by omega) (by omega) (by omega)).1 (by omega)
          omega
        · refine r4_up (A := A) (v := u) (by decide) (by decide) hA hA30 (y := 1) (by decide) eu (by omega) g ?_
          refine r39_go (v := u + 1) (by decide) (by decide) (y := 2) (by decide) (by simp [qb_st]) (by omega) ?_
          refine r39_go (v := u + 1 + 1) (by decide) (by decide) (y := 3) (by decide) (by simp [qb_st]) (by omega) (r39_end (by decide) ?_)
          have hw1 := hb (u + 1) (by omega) (by omega)
          have hw2 := hb (u + 1 + 1) (by omega) (by omega)
          have hw3 := hb (u + 1 + 1 + 1) (by omega) (by omega)
          have hxy := (lex3 hAB (i := u) (j := v) (m := w) (k := u + 1) (l := u + 1 + 1) (o := u + 1 + 1 + 1) (by omega) (by omega) (by omega) (by omega) (by omega) (by omega) (by omega) (by omega) (by omega) (by omega) (by omega) (by omega)).2 (by omega)
          have t1 := tT_up (j := u) (by omega)
          have t2 := tS_in (j := v) (by omega) (by omega)
          have e0 : qb_st (qb_st (qb_st hq 35 0 (u + 1)) 35 1 (u + 1 + 1)) 35 2 (u + 1 + 1 + 1) 35 0 = u + 1 := by simp [qb_st]
          have e1 : qb_st (qb_st (qb_st hq 35 0 (u + 1)) 35 1 (u + 1 + 1)) 35 2 (u + 1 + 1 + 1) 35 1 = u + 1 + 1 := by simp [qb_st]
          have e2 : qb_st (qb_st (qb_st hq 35 0 (u + 1)) 35 1 (u + 1 + 1)) 35 2 (u + 1 + 1 + 1) 35 2 = u + 1 + 1 + 1 := by simp [qb_st]
          refine hK1 _ (900 * hq 34 (u + 1) + 30 * hq 34 (u + 1 + 1) + hq 34 (u + 1 + 1 + 1)).toNat (tT (u + 1)) (fun c hc => by rw [qb_st_ne hc, qb_st_ne hc, qb_st_ne hc]) (Or.inr (Or.inr (Or.inr ⟨rfl, ?_⟩))) (by omega) (by omega) (by omega) (fun z z0 z1 hz => ?_)
          · rw [e0, e1, e2]
            exact ⟨by omega, by omega, by omega⟩
          · obtain ⟨i, j, m, hi, ei⟩ := sA3 hAB (by omega) hz
            have l1 := (lex3 hAB (i := u) (j := v) (m := w) (k := i) (l := j) (o := m) (by omega) (by omega) (by omega) (by omega) (by omega) (by omega) (by omega) (by omega) (by omega) (by omega) (by omega) (by omega)).1 (by omega)
            have l2 := (lex3 hAB (i := i) (j := j) (m := m) (k := u + 1) (l := u + 1 + 1) (o := u + 1 + 1 + 1) (by omega) (by omega) (by omega) (by omega) (by omega) (by omega) (by omega) (by omega) (by omega) (by omega) (by omega) (by omega)).1 (by omega)
            clear ei hxy t1 t2 hw1 hw2 hw3 hu hv hw c2 c3
            omega
      · refine r4_up (A := A) (v := v) (by decide) (by decide) hA hA30 (y := 2) (by decide) ev (by omega) f ?_
        refine r39_go (v := v + 1) (by decide) (by decide) (y := 3) (by decide) (by simp [qb_st]) (by omega) (r39_end (by decide) ?_)
        have hw2 := hb (v + 1) (by omega) (by omega)
        have hw3 := hb (v + 1 + 1) (by omega) (by omega)
        have hxy := (lex3 hAB (i := u) (j := v) (m := w) (k := u) (l := v + 1) (o := v + 1 + 1) (by omega) (by omega) (by omega) (by omega) (by omega) (by omega) (by omega) (by omega) (by omega) (by omega) (by omega) (by omega)).2 (by omega)
        have t1 := tS_up (j := v) (by omega)
        have e0 : qb_st (qb_st hq 35 1 (v + 1)) 35 2 (v + 1 + 1) 35 0 = u := by simp [qb_st, eu]
        have e1 : qb_st (qb_st hq 35 1 (v + 1)) 35 2 (v + 1 + 1) 35 1 = v + 1 := by simp [qb_st]
        have e2 : qb_st (qb_st hq 35 1 (v + 1)) 35 2 (v + 1 + 1) 35 2 = v + 1 + 1 := by simp [qb_st]
        refine hK1 _ (900 * hq 34 u + 30 * hq 34 (v + 1) + hq 34 (v + 1 + 1)).toNat (tT u + tS (v + 1) - tS (u + 1)) (fun c hc => by rw [qb_st_ne hc, qb_st_ne hc]) (Or.inr (Or.inr (Or.inr ⟨rfl, ?_⟩))) (by omega) (by omega) (by omega) (fun z z0 z1 hz => ?_)
        · rw [e0, e1, e2]
          exact ⟨by omega, by omega, by omega⟩
        · obtain ⟨i, j, m, hi, ei⟩ := sA3 hAB (by omega) hz
          have l1 := (lex3 hAB (i := u) (j := v) (m := w) (k := i) (l := j) (o := m) (by omega) (by omega) (by omega) (by omega) (by omega) (by omega) (by omega) (by omega) (by omega) (by omega) (by omega) (by omega)).1 (by omega)
          have l2 := (lex3 hAB (i := i) (j := j) (m := m) (k := u) (l := v + 1) (o := v + 1 + 1) (by omega) (by omega) (by omega) (by omega) (by omega) (by omega) (by omega) (by omega) (by omega) (by omega) (by omega) (by omega)).1 (by omega)
          clear ei hxy t1 hw2 hw3 hu hv hw c2 c3
          omega
    · refine r4_up (A := A) (v := w) (by decide) (by decide) hA hA30 (y := 3) (by decide) ew (by omega) d (r39_end (by decide) ?_)
      have hw3 := hb (w + 1) (by omega) (by omega)
      have hxy := (lex3 hAB (i := u) (j := v) (m := w) (k := u) (l := v) (o := w + 1) (by omega) (by omega) (by omega) (by omega) (by omega) (by omega) (by omega) (by omega) (by omega) (by omega) (by omega) (by omega)).2 (by omega)
      have e0 : qb_st hq 35 2 (w + 1) 35 0 = u := by simp [qb_st, eu]
      have e1 : qb_st hq 35 2 (w + 1) 35 1 = v := by simp [qb_st, ev]
      have e2 : qb_st hq 35 2 (w + 1) 35 2 = w + 1 := by simp [qb_st]
      refine hK1 _ (900 * hq 34 u + 30 * hq 34 v + hq 34 (w + 1)).toNat (tT u + tS v - tS (u + 1) + (w + 1 - v - 1)) (fun c hc => qb_st_ne hc) (Or.inr (Or.inr (Or.inr ⟨rfl, ?_⟩))) (by omega) (by omega) (by omega) (fun z z0 z1 hz => ?_)
      · rw [e0, e1, e2]
        exact ⟨by omega, by omega, by omega⟩
      · obtain ⟨i, j, m, hi, ei⟩ := sA3 hAB (by omega) hz
        have l1 := (lex3 hAB (i := u) (j := v) (m := w) (k := i) (l := j) (o := m) (by omega) (by omega) (by omega) (by omega) (by omega) (by omega) (by omega) (by omega) (by omega) (by omega) (by omega) (by omega)).1 (by omega)
        have l2 := (lex3 hAB (i := i) (j := j) (m := m) (k := u) (l := v) (o := w + 1) (by omega) (by omega) (by omega) (by omega) (by omega) (by omega) (by omega) (by omega) (by omega) (by omega) (by omega) (by omega)).1 (by omega)
        clear ei hxy hw3 hu hv hw c2 c3
        omega
