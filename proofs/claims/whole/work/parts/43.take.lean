/-! the reference takes a barrel: piece by piece -/
theorem br_more {g : sc_G} {n : Nat} (hk : sc_ok g n) {a x y H : Int} {p : Nat} (hp : p < n) (hat : sc_a g (sc_o g p) = true) (ha : a ≤ x) (hxy : x < y) (t1 : sc_T g p ≤ x) (t2 : y ≤ sc_T g p + sc_W g p) (hH : (sc_S g p + (y - 1 - sc_T g p)) / sc_p g = H) :
    (∀ q : Nat, br_ov g a y q ↔ br_ov g a x q ∨ q = p) ∧ (∀ q : Nat, q ≠ p → br_ov g a x q → br_hr g y q = br_hr g x q) ∧ br_hr g y p = H ∧ (br_ov g a x p → br_hr g x p ≤ H) := by
  have hpc := hk.2.2.2.2.1
  have hlow : ∀ q : Nat, q < p → sc_a g (sc_o g q) = true → sc_T g q + sc_W g q ≤ x := fun q hq hqa => by
    have := (sc_next g hq hqa).2.2; omega
  have hhigh : ∀ q : Nat, p < q → y ≤ sc_T g q := fun q hq => by
    have := (sc_next g hq hat).2.2; omega
  refine ⟨fun q => ⟨fun h => ?_, fun h => ?_⟩, fun q hq ho => ?_, ?_, fun ho => ?_⟩
  · rcases Nat.lt_trichotomy q p with c | c | c
    · left
      have := hlow q c h.1
      refine ⟨h.1, ?_⟩
      have := h.2
      omega
    · exact Or.inr c
    · have := hhigh q c
      have := h.2
      omega
  · rcases h with h | h
    · refine ⟨h.1, ?_⟩
      have := h.2
      omega
    · rw [h]
      exact ⟨hat, by omega⟩
  · unfold br_hr
    rcases Nat.lt_trichotomy q p with c | c | c
    · have := hlow q c ho.1
      rw [show min y (sc_T g q + sc_W g q) = min x (sc_T g q + sc_W g q) by omega]
    · exact absurd c hq
    · have := hhigh q c
      have := ho.2
      omega
  · unfold br_hr
    rw [← hH]
    congr 1
    omega
  · unfold br_hr
    rw [← hH]
    apply Int.ediv_le_ediv (by omega)
    have := ho.2
    omega
theorem br_n_more {g : sc_G} {a x y : Int} {p : Nat} (h : ∀ q : Nat, br_ov g a y q ↔ br_ov g a x q ∨ q = p) (m : Nat) : br_n g a y m = br_n g a x m + @ite _ (p < m ∧ ¬ br_ov g a x p) (Classical.propDecidable _) 1 0 := by
  induction m with
  | zero => rw [if_neg (by omega)]; rfl
  | succ m ih =>
    simp only [br_n]
    rw [ih]
    by_cases e : m = p
    · subst e
      rw [if_neg (show ¬ (m < m ∧ ¬ br_ov g a x m) by omega), if_pos ((h m).2 (Or.inr rfl))]
      by_cases c : br_ov g a x m
      · rw [if_pos c, if_neg (fun z => z.2 c)]; omega
      · rw [if_neg c, if_pos ⟨by omega, c⟩]
    · have e1 : br_ov g a y m ↔ br_ov g a x m := by
        rw [h m]
        exact ⟨fun z => z.elim id (fun z => absurd z e), Or.inl⟩
      have e2 : (p < m + 1 ∧ ¬ br_ov g a x p) ↔ (p < m ∧ ¬ br_ov g a x p) := by
        constructor
        · intro z; exact ⟨by omega, z.2⟩
        · intro z; exact ⟨by omega, z.2⟩
      by_cases c : br_ov g a x m
      · rw [if_pos c, if_pos (e1.2 c)]
        by_cases d : p < m ∧ ¬ br_ov g a x p
        · rw [if_pos d, if_pos (e2.2 d)]
        · rw [if_neg d, if_neg (fun z => d (e2.1 z))]; omega
      · rw [if_neg c, if_neg (fun z => c (e1.1 z))]
        by_cases d : p < m ∧ ¬ br_ov g a x p
        · rw [if_pos d, if_pos (e2.2 d)]; omega
        · rw [if_neg d, if_neg (fun z => d (e2.1 z))]
theorem br_is_more {g : sc_G} {n : Nat} (hk : sc_ok g n) {z : Int → Int} {a x y H dn ms ls : Int} {p : Nat} (hp : p < n) (ha0 : 0 ≤ a) (hat : sc_a g (sc_o g p) = true) (ha : a ≤ x) (hxy : x < y) (t1 : sc_T g p ≤ x) (t2 : y ≤ sc_T g p + sc_W g p) (hH : (sc_S g p + (y - 1 - sc_T g p)) / sc_p g = H) (hz : z (sc_o g p) ≤ 10)
    (h : (x = a ∧ ms = 0 ∧ ls = 10) ∨ (a < x ∧ br_is g n z a x dn ms ls (br_n g a x n))) : br_is g n z a y H (max ms (H - sc_h g (sc_o g p))) (min ls (z (sc_o g p))) (br_n g a y n) := by
  obtain ⟨m1, m2, m3, m4⟩ := br_more hk hp hat ha hxy t1 t2 hH
  have hop : br_ov g a y p := (m1 p).2 (Or.inr rfl)
  have hHi := (br_hr_in hk hp ha0 hop).1
  rw [m3] at hHi
  refine ⟨⟨p, hp, ⟨hat, by omega, by omega⟩, hH.symm⟩, ?_, ?_, rfl⟩
  · rcases h with ⟨c1, c2, c3⟩ | ⟨c1, -, ⟨d1, q, d2, d3, d4⟩, -⟩
    · refine ⟨fun r hr hro => ?_, p, hp, hop, by omega⟩
      rcases (m1 r).1 hro with e | e
      · have := e.2; omega
      · rw [e, m3]; omega
    · refine ⟨fun r hr hro => ?_, ?_⟩
      · by_cases er : r = p
        · rw [er, m3]; omega
        · rcases (m1 r).1 hro with e | e
          · have := d1 r hr e
            rw [m2 r er e]; omega
          · exact absurd e er
      · by_cases c : ms ≤ H - sc_h g (sc_o g p)
        · exact ⟨p, hp, hop, by omega⟩
        · by_cases eq : q = p
          · subst eq
            have := m4 d3
            omega
          · exact ⟨q, d2, (m1 q).2 (Or.inl d3), by rw [m2 q eq d3]; omega⟩
  · rcases h with ⟨c1, c2, c3⟩ | ⟨c1, -, -, ⟨d1, q, d2, d3, d4⟩, -⟩
    · refine ⟨fun r hr hro => ?_, p, hp, hop, by omega⟩
      rcases (m1 r).1 hro with e | e
      · have := e.2; omega
      · rw [e]; omega
    · refine ⟨fun r hr hro => ?_, ?_⟩
      · rcases (m1 r).1 hro with e | e
        · have := d1 r hr e
          omega
        · rw [e]; omega
      · by_cases c : z (sc_o g p) ≤ ls
        · exact ⟨p, hp, hop, by omega⟩
        · exact ⟨q, d2, (m1 q).2 (Or.inl d3), by omega⟩
/-- the pieces of a worked quay -/
def tb_P (g : sc_G) (n : Nat) (hp : qb_H) (mz : Nat) : Prop := n ≤ 30 ∧ sc_ok g n ∧ mz < 2400 ∧ qb_sum (hp 85) mz = sc_T g n ∧ (∀ j : Nat, j < mz → mi_pc g n hp j) ∧ (∀ k : Int, 0 ≤ k → k < n → hp 68 (7 * k + 2) = sc_h g k ∧ 1 ≤ hp 68 (7 * k + 4) ∧ hp 68 (7 * k + 4) ≤ 9) ∧ (100 ≤ hp 67 1 ∧ hp 67 1 ≤ 1500)
def tb_fr (hp0 hp : qb_H) : Prop := (∀ c : Nat, c ≠ 60 → hp c = hp0 c) ∧ ∀ j : Int, j ≠ 29 → j ≠ 30 → j ≠ 31 → j ≠ 32 → j ≠ 40 → j ≠ 41 → hp 60 j = hp0 60 j
theorem tb_fr.rf {hp : qb_H} : tb_fr hp hp := ⟨fun _ _ => rfl, fun _ _ _ _ _ _ _ => rfl⟩
theorem tb_fr.tr {a b c : qb_H} (h : tb_fr a b) (h' : tb_fr b c) : tb_fr a c := ⟨fun x hx => (h'.1 x hx).trans (h.1 x hx), fun j h1 h2 h3 h4 h5 h6 => (h'.2 j h1 h2 h3 h4 h5 h6).trans (h.2 j h1 h2 h3 h4 h5 h6)⟩
def tb_z (hp : qb_H) (k : Int) : Int := hp 68 (7 * k + 4)
theorem tb_P.go {g : sc_G} {n mz : Nat} {hp hq : qb_H} (h : tb_P g n hp mz) (hf : tb_fr hp hq) : tb_P g n hq mz ∧ tb_z hq = tb_z hp := by
  obtain ⟨h1, h2, h3, h4, h5, h6, h7⟩ := h
  have f := hf.1
  constructor
  · refine ⟨h1, h2, h3, ?_, fun j hj => ?_, ?_, ?_⟩
    · rw [f 85 (by decide)]; exact h4
    · have := h5 j hj
      unfold mi_pc at this ⊢
      rw [f 83 (by decide), f 84 (by decide), f 85 (by decide)]; exact this
    · rw [f 68 (by decide)]; exact h6
    · rw [f 67 (by decide)]; exact h7
  · unfold tb_z; rw [f 68 (by decide)]
/-- so many fish are taken -/
def tb_at (hp : qb_H) (mz : Nat) (x : Int) : Prop := ∃ j : Nat, hp 60 40 = j ∧ j ≤ mz ∧ 0 ≤ hp 60 41 ∧ qb_sum (hp 85) j + hp 60 41 = x ∧ (j < mz → hp 60 41 < hp 85 j) ∧ (j = mz → hp 60 41 = 0)
def tb_inv (g : sc_G) (n : Nat) (a x : Int) (hp : qb_H) (sd : Nat) : Prop :=
  a ≤ x ∧ sd < 1073741824 ∧ (∀ k : Nat, k < 30 → (sd.testBit k = true ↔ ∃ p : Nat, p < n ∧ sc_o g p = k ∧ br_ov g a x p)) ∧ hp 60 32 = br_n g a x n ∧
  ((x = a ∧ hp 60 30 = 0 ∧ hp 60 31 = 10) ∨ (a < x ∧ br_is g n (tb_z hp) a x (hp 60 29) (hp 60 30) (hp 60 31) (br_n g a x n)))
theorem tb_loop {g : sc_G} {n mz : Nat} {hp0 : qb_H} (hP0 : tb_P g n hp0 mz) {a b : Int} (ha : 0 ≤ a) (hb : b ≤ sc_T g n) {K : qb_H → Prop}
    (hK : ∀ hq : qb_H, tb_fr hp0 hq → tb_at hq mz b → (∃ sd, tb_inv g n a b hq sd) → K hq) :
    ∀ (jm : Nat) (x : Int) (sd : Nat) (hp : qb_H), b - x ≤ jm → x ≤ b → tb_fr hp0 hp → tb_at hp mz x → tb_inv g n a x hp sd → r_m_takeBarrel_25 (b - x) sd hp K := by
  intro jm
  induction jm with
  | zero =>
    intro x sd hp h1 h2 hf hat hi
    have e : x = b := by omega
    rw [e] at hat hi
    exact b_m_takeBarrel_25 ⟨fun _ => hK hp hf hat ⟨sd, hi⟩, fun c => absurd (by omega) c⟩
  | succ jm ih =>
    intro x sd hp h1 h2 hf hat hi
    by_cases hx : x = b
    · rw [hx] at hat hi
      exact b_m_takeBarrel_25 ⟨fun _ => hK hp hf hat ⟨sd, hi⟩, fun c => absurd (by omega) c⟩
    obtain ⟨hP, hz⟩ := hP0.go hf
    obtain ⟨P1, hk, P3, P4, P5, P6, P7⟩ := hP
    obtain ⟨j, j1, j2, j3, j4, j5, j6⟩ := hat
    obtain ⟨i1, i2, i3, i4, i5⟩ := hi
    have hjm : j < mz := by
      apply Classical.byContradiction
      intro hc
      have e : j = mz := by omega
      have := j6 e
      rw [e] at j4
      omega
    obtain ⟨p, q1, q2, q3, q4, q5, q6, q7, q8⟩ := P5 j hjm
    have hu := j5 hjm
    have hko := hk.1 p q1
    obtain ⟨s1, s2, s3⟩ := P6 (sc_o g p) hko.1 hko.2
    have hkf := hk.2.1 (sc_o g p) hko.1 hko.2
    have hpc := hk.2.2.2.2.1
    have hTb := sc_Tb hk n (Nat.le_refl n)
    have hTq := (sc_next g (p := p) (q := n) q1 q2).2.2
    have hT0 := (sc_R0 g p).2
    have hbn := br_n_in (g := g) (a := a) (b := x) n
    refine b_m_takeBarrel_25 ⟨fun c => absurd c (by omega), fun _ => ⟨by omega, fun y1 e1 => ⟨?_, fun y2 e2 y3 e3 => ?_⟩⟩⟩
    · rw [j1]; unfold qb_in; omega
    rw [j1] at e1 e2
    rw [q3] at e1
    rw [j1, e1, s1]
    have h84 : hp 84 j = (sc_S g p + (x + y3 - 1 - sc_T g p)) / sc_p g := by
      refine (qb_dv ?_ ?_ (by omega)).symm
      · rw [e3, e2]; split <;> omega
      · rw [e3, e2]; split <;> omega
    have hy3 : 0 < y3 ∧ y3 ≤ b - x ∧ x + y3 ≤ sc_T g p + sc_W g p ∧ hp 60 41 + y3 ≤ hp 85 j := by
      rw [e3]; split <;> omega
    have hmore := br_more hk (a := a) (x := x) (y := x + y3) q1 q2 i1 (by omega) (by omega) hy3.2.2.1 h84.symm
    have hov := (hmore.1 p).2 (Or.inr rfl)
    have hHb := br_hr_in hk q1 ha hov
    rw [hmore.2.2.1] at hHb
    have his := br_is_more (z := tb_z hp) (dn := hp 60 29) (ms := hp 60 30) (ls := hp 60 31) hk q1 ha q2 i1 (by omega) (by omega) hy3.2.2.1 h84.symm (show hp 68 (7 * sc_o g p + 4) ≤ 10 by omega) i5
    have hnn := br_n_more hmore.1 n
    obtain ⟨kk, hkk⟩ : ∃ kk : Nat, sc_o g p = kk := ⟨_, (Int.toNat_of_nonneg hko.1).symm⟩
    have hkk30 : kk < 30 := by omega
    have hbit : qb_and (qb_shr sd (sc_o g p)) 1 = if sd.testBit kk = true then 1 else 0 := by
      rw [hkk]; exact bt_test (by omega) (by omega)
    have hbi : sd.testBit kk = true ↔ br_ov g a x p := by
      rw [i3 kk hkk30]
      constructor
      · rintro ⟨r, r1, r2, r3⟩
        have : r = p := sc_inj hk r1 q1 (by rw [r2, hkk])
        rw [this] at r3; exact r3
      · exact fun h => ⟨p, q1, hkk, h⟩
    have hor : qb_or sd (qb_shl 1 (sc_o g p)) = ((sd ||| 2 ^ kk : Nat) : Int) := by
      rw [hkk, (bt_shl (by omega)).1]
      exact (bt_or (by omega) (bt_shl (by omega)).2).1
    have hor2 : sd ||| 2 ^ kk < 1073741824 := by
      have h1 : 2 ^ kk < 2 ^ 30 := Nat.pow_lt_pow_right (by decide) hkk30
      have : sd ||| 2 ^ kk < 2 ^ 30 := Nat.or_lt_two_pow (by omega) h1
      exact this
    refine ⟨by unfold qb_in; omega, by unfold qb_in; omega, by omega, by unfold qb_in; omega, fun y4 e4 y5 e5 => ⟨by unfold qb_in; omega, by omega, fun y6 e6 y7 e7 => ⟨?_, fun y8 e8 => ⟨by unfold qb_in; omega, by unfold qb_in; omega, fun hq eq => ?_⟩⟩⟩⟩
    · have : y7 = 0 ∨ y7 = 1 := by rw [e7]; split <;> omega
      unfold qb_in; omega
    · rw [hor] at e8
      rw [e8]
      have ex : b - x - y3 = b - (x + y3) := by omega
      rw [ex]
      have e5' : y5 = max (hp 60 30) (hp 84 j - sc_h g (sc_o g p)) := by
        rw [e5, e4]; split <;> omega
      have e6' : y6 = min (hp 60 31) (tb_z hp (sc_o g p)) := by
        rw [e6]; unfold tb_z; split <;> omega
      have e7' : hp 60 32 + y7 = br_n g a (x + y3) n := by
        rw [hnn, i4, e7, hbit]
        by_cases c : br_ov g a x p
        · rw [if_pos (hbi.2 c), if_neg (by decide), if_neg (fun z => z.2 c)]
        · rw [if_neg (fun z => c (hbi.1 z)), if_pos rfl, if_pos ⟨q1, c⟩]
      have hfr : tb_fr hp hq := by
        rw [eq]
        refine ⟨fun c hc => ?_, fun i c1 c2 c3 c4 c5 c6 => ?_⟩
        · split <;> simp [qb_st_ne, hc]
        · split <;> simp [qb_st, c1, c2, c3, c4, c5, c6]
      have v29 : hq 60 29 = hp 84 j := by rw [eq]; split <;> simp [qb_st]
      have v30 : hq 60 30 = y5 := by rw [eq]; split <;> simp [qb_st]
      have v31 : hq 60 31 = y6 := by rw [eq]; split <;> simp [qb_st]
      have v32 : hq 60 32 = hp 60 32 + y7 := by rw [eq]; split <;> simp [qb_st]
      have hzz := (hP0.go (hf.tr hfr)).2
      rw [← hz] at hzz
      refine ih (x + y3) (sd ||| 2 ^ kk) hq (by omega) (by omega) (hf.tr hfr) ?_ ⟨by omega, hor2, fun k hk30 => ?_, ?_, Or.inr ⟨by omega, ?_⟩⟩
      · have h85 : hq 85 = hp 85 := hfr.1 85 (by decide)
        by_cases c : hp 60 41 + y3 = hp 85 j
        · refine ⟨j + 1, ?_, by omega, ?_, ?_, ?_, ?_⟩
          · rw [eq, if_pos c]; simp [qb_st]
          · rw [eq, if_pos c]; simp [qb_st]
          · rw [h85]; simp only [qb_sum]; rw [eq, if_pos c]; simp [qb_st]; omega
          · intro hj1
            obtain ⟨p', -, -, -, r, -⟩ := P5 (j + 1) hj1
            have r2 : 1 ≤ hp 85 ((j : Int) + 1) := r
            rw [h85, eq, if_pos c]; simp [qb_st]; omega
          · intro _; rw [eq, if_pos c]; simp [qb_st]
        · have w40 : hq 60 40 = hp 60 40 := by rw [eq, if_neg c]; simp [qb_st]
          have w41 : hq 60 41 = hp 60 41 + y3 := by rw [eq, if_neg c]; simp [qb_st]
          refine ⟨j, by rw [w40, j1], by omega, by omega, by rw [h85, w41]; omega, fun _ => by rw [h85, w41]; omega, fun h => by omega⟩
      · rw [bt_put]
        constructor
        · intro h
          rcases Bool.or_eq_true _ _ ▸ h with h | h
          · obtain ⟨r, r1, r2, r3⟩ := (i3 k hk30).1 h
            exact ⟨r, r1, r2, (hmore.1 r).2 (Or.inl r3)⟩
          · have := of_decide_eq_true h
            exact ⟨p, q1, by rw [hkk, this], hov⟩
        · rintro ⟨r, r1, r2, r3⟩
          rcases (hmore.1 r).1 r3 with h | h
          · rw [(i3 k hk30).2 ⟨r, r1, r2, h⟩]; rfl
          · rw [h, hkk] at r2
            have : kk = k := by omega
            rw [decide_eq_true this]; exact Bool.or_true _
      · rw [v32, e7']
      · rw [hzz, v29, v30, v31, e5', e6']
        exact his
/-- THE REFERENCE TAKES ITS NEXT BARREL -/
theorem tb_ok {g : sc_G} {n mz : Nat} {hp : qb_H} (hP : tb_P g n hp mz) {a : Int} (ha : 0 ≤ a) (hb : a + hp 67 1 ≤ sc_T g n) (hat : tb_at hp mz a) {K : qb_H → Prop}
    (hK : ∀ hq : qb_H, tb_fr hp hq → tb_at hq mz (a + hp 67 1) → br_is g n (tb_z hp) a (a + hp 67 1) (hq 60 29) (hq 60 30) (hq 60 31) (hq 60 32) → K hq) : c_m_takeBarrel hp K := by
  refine b_m_takeBarrel ?_
  have h7 := hP.2.2.2.2.2.2
  have hfr : tb_fr hp (qb_st (qb_st (qb_st hp 60 30 0) 60 31 10) 60 32 0) := by
    refine ⟨fun c hc => ?_, fun i c1 c2 c3 c4 c5 c6 => ?_⟩
    · rw [qb_st_ne hc, qb_st_ne hc, qb_st_ne hc]
    · simp [qb_st, c2, c3, c4]
  have hlp := tb_loop hP (a := a) (b := a + hp 67 1) ha hb (K := K) (fun hq q1 q2 ⟨sd, q3⟩ => by
    obtain ⟨i1, i2, i3, i4, i5⟩ := q3
    rcases i5 with ⟨c, -⟩ | ⟨-, c⟩
    · omega
    · have hz := (hP.go q1).2
      rw [hz, ← i4] at c
      exact hK hq q1 q2 c) (hp 67 1).toNat a 0 (qb_st (qb_st (qb_st hp 60 30 0) 60 31 10) 60 32 0) (by omega) (by omega) hfr ?_ ⟨Int.le_refl _, by decide, fun k hk30 => ?_, ?_, Or.inl ⟨rfl, ?_, ?_⟩⟩
  · rw [show a + hp 67 1 - a = hp 67 1 by omega] at hlp
    exact hlp
  · obtain ⟨j, j1, j2, j3, j4, j5, j6⟩ := hat
    have h85 := hfr.1 85 (by decide)
    have h40 := hfr.2 40
    refine ⟨j, ?_, j2, ?_, ?_, fun h => ?_, fun h => ?_⟩
    · simpa [qb_st] using j1
    · simpa [qb_st] using j3
    · rw [h85]; simpa [qb_st] using j4
    · rw [h85]; simpa [qb_st] using j5 h
    · simpa [qb_st] using j6 h
  · constructor
    · intro h; simp at h
    · rintro ⟨p, -, -, p3⟩
      have := p3.2; omega
  · have : br_n g a a n = 0 := br_n0 n (fun p _ ho => by have := ho.2; omega)
    rw [this]; simp [qb_st]
  · simp [qb_st]
  · simp [qb_st]
