/-! the class: sets of causes by places in its list -/
def ABc (hp : qb_H) (A : Int) (ab : Int → Int) (n : Nat) : Prop := (0 ≤ A ∧ A ≤ n) ∧ (∀ j : Int, 0 ≤ j → j < A → (0 ≤ ab j ∧ ab j < n) ∧ ¬ jm hp (ab j) = 0) ∧ (∀ i j : Int, 0 ≤ i → i < j → j < A → ab i < ab j) ∧ (∀ c : Int, 0 ≤ c → c < n → ¬ jm hp c = 0 → ∃ j : Int, 0 ≤ j ∧ j < A ∧ ab j = c)
theorem jm_go {hp hq : qb_H} (h70 : hq 70 = hp 70) (h13 : hq 60 13 = hp 60 13) (c : Int) : jm hq c = jm hp c := by
  have hv : ∀ kz : Int, v_m_hasCause kz c hq = v_m_hasCause kz c hp := fun kz => by
    unfold v_m_hasCause
    rw [h70]
  have e : ∀ n : Nat, jo hq c n = jo hp c n := by
    intro n
    induction n with
    | zero => rfl
    | succ n ih => simp only [jo]; rw [ih, hv, h70]
  have e2 : ∀ n : Nat, jn hq c n = jn hp c n := by
    intro n
    refine qb_sum_cg n (fun kz _ => ?_)
    show (if v_m_hasCause kz c hq = 0 then (0 : Int) else (if hq 70 (4 * (kz : Int) + 3) = 1 then 1 else 0)) = (if v_m_hasCause kz c hp = 0 then (0 : Int) else (if hp 70 (4 * (kz : Int) + 3) = 1 then 1 else 0))
    rw [hv, h70]
  unfold jm
  rw [e, e2, h13]
theorem s_ju_listAble {hp : qb_H} (hJ : qb_iJ hp) {K : qb_H → Prop} (hK : ∀ hq : qb_H, (∀ c : Nat, c ≠ 32 → c ≠ 34 → hq c = hp c) → (∀ j : Int, j ≠ 5 → hq 32 j = hp 32 j) → ABc hp (hq 32 5) (hq 34) 30 → K hq) : c_ju_listAble hp K := by
  have key : ∀ hq : qb_H, (∀ c : Nat, c ≠ 32 → c ≠ 34 → hq c = hp c) → (∀ j : Int, j ≠ 5 → hq 32 j = hp 32 j) → ABc hp (hq 32 5) (hq 34) 0 → r_ju_listAble_7 0 hq K := by
    refine qb_up 30 (fun n x => ∀ hq : qb_H, (∀ c : Nat, c ≠ 32 → c ≠ 34 → hq c = hp c) → (∀ j : Int, j ≠ 5 → hq 32 j = hp 32 j) → ABc hp (hq 32 5) (hq 34) n → r_ju_listAble_7 x hq K) ?_ ?_
    · exact fun hq h1 h2 h3 => b_ju_listAble_7 ⟨fun _ => hK hq h1 h2 h3, fun z => absurd (by decide) z⟩
    · intro n hn ih hq h1 h2 h3
      have hJq : qb_iJ hq := iJ_go hJ (h2 3 (by decide)) (h2 4 (by decide)) (h1 33 (by decide) (by decide)) (h1 70 (by decide) (by decide)) (by rw [h1 60 (by decide) (by decide)])
      obtain ⟨g1, g2⟩ := ju_mayBe_is hJq (c := (n : Int)) (by omega)
      have ej : jm hq n = jm hp n := jm_go (h1 70 (by decide) (by decide)) (by rw [h1 60 (by decide) (by decide)]) _
      rw [ej] at g2
      obtain ⟨a1, a2, a3, a4⟩ := h3
      refine b_ju_listAble_7 ⟨fun z => absurd z (by omega), fun _ => ⟨g1, fun _ => by omega, fun hr er => ⟨by unfold qb_in; omega, ih hr ?_ ?_ ?_⟩⟩⟩
      · intro c c1 c2
        rw [er]
        split
        · exact h1 c c1 c2
        · rw [qb_st_ne c1, qb_st_ne c2]; exact h1 c c1 c2
      · intro j hj
        rw [er]
        split
        · exact h2 j hj
        · rw [← h2 j hj]; simp [qb_st, hj]
      · rw [g2] at er
        by_cases c : jm hp n = 0
        · rw [if_pos c] at er
          rw [er]
          refine ⟨by omega, fun j j0 j1 => ?_, a3, fun x x0 x1 hx => ?_⟩
          · have := a2 j j0 j1
            exact ⟨by omega, this.2⟩
          · by_cases e : x = n
            · rw [e] at hx; exact absurd c hx
            · exact a4 x x0 (by omega) hx
        · rw [if_neg c] at er
          have e5 : hr 32 5 = hq 32 5 + 1 := by rw [er]; simp [qb_st]
          have e34 : ∀ i : Int, hr 34 i = if i = hq 32 5 then (n : Int) else hq 34 i := by intro i; rw [er]; simp [qb_st]
          rw [e5]
          refine ⟨by omega, fun j j0 j1 => ?_, fun i j i0 ij j1 => ?_, fun x x0 x1 hx => ?_⟩
          · rw [e34]
            by_cases e : j = hq 32 5
            · rw [if_pos e]; exact ⟨by omega, c⟩
            · rw [if_neg e]
              have := a2 j j0 (by omega)
              exact ⟨by omega, this.2⟩
          · rw [e34 i, e34 j, if_neg (show ¬ i = hq 32 5 by omega)]
            have hi := (a2 i i0 (by omega)).1
            by_cases e : j = hq 32 5
            · rw [if_pos e]; omega
            · rw [if_neg e]; exact a3 i j i0 ij (by omega)
          · by_cases e : x = n
            · exact ⟨hq 32 5, by omega, by omega, by rw [e34, if_pos rfl]; exact e.symm⟩
            · obtain ⟨j, j0, j1, j2⟩ := a4 x x0 (by omega) hx
              exact ⟨j, j0, by omega, by rw [e34, if_neg (show ¬ j = hq 32 5 by omega)]; exact j2⟩
  refine b_ju_listAble (key _ (fun c c1 c2 => qb_st_ne c1) (fun j hj => by simp [qb_st, hj]) ?_)
  have e5 : qb_st hp 32 5 0 32 5 = 0 := by simp [qb_st]
  rw [e5]
  exact ⟨by omega, fun j j0 j1 => by omega, fun i j i0 ij j1 => by omega, fun c c0 c1 => by omega⟩
/-- whether the chosen causes explain all rejects -/
theorem s_ju_explainsAll {hq : qb_H} (hJ : qb_iJ hq) {s A : Int} (hs : 0 ≤ s ∧ s ≤ 3) (hAB : ABc hq A (hq 34) 30) (hch : ∀ j : Int, 0 ≤ j → j < s → 0 ≤ hq 35 j ∧ hq 35 j < A) {K : Int → qb_H → Prop}
    (hK : ∀ v : Int, (¬ v = 0 ↔ ∀ kz : Nat, (kz : Int) < hq 60 13 → jr hq kz = 1 → ∃ j : Int, 0 ≤ j ∧ j < s ∧ jh hq kz (hq 34 (hq 35 j))) → K v hq) : c_ju_explainsAll s hq K := by
  have hJ2 := hJ
  obtain ⟨j1, j2, j3, ⟨r, j4, j5, j6⟩, j7⟩ := hJ
  have key : ∀ (d : Nat) (t : Int) (z : Nat), 0 ≤ t → t + d = s → z < 2147483648 → (∀ kz : Nat, z.testBit kz = true ↔ ((kz : Int) < hq 60 13 ∧ jr hq kz = 1 ∧ ∀ j : Int, 0 ≤ j → j < t → ¬ jh hq kz (hq 34 (hq 35 j)))) → r_ju_explainsAll_7 s z t hq K := by
    intro d
    induction d with
    | zero =>
      intro t z t0 t1 hz hb
      have e : t = s := by omega
      subst e
      refine b_ju_explainsAll_7 ⟨fun _ y ey => hK y ?_, fun c => absurd (Int.le_refl _) c⟩
      have hy : ¬ y = 0 ↔ z = 0 := by
        rw [ey]
        by_cases c : (z : Int) = 0
        · rw [if_pos c]; exact ⟨fun _ => by omega, fun _ => by decide⟩
        · rw [if_neg c]; exact ⟨fun q => absurd rfl q, fun q => absurd (by omega) c⟩
      rw [hy]
      constructor
      · intro hz0 kz k1 k2
        apply Classical.byContradiction
        intro hno
        have : z.testBit kz = true := (hb kz).2 ⟨k1, k2, fun j j0 j1 hh => hno ⟨j, j0, j1, hh⟩⟩
        rw [hz0, Nat.zero_testBit] at this
        exact absurd this (by decide)
      · intro h
        refine Nat.eq_of_testBit_eq (fun kz => ?_)
        rw [Nat.zero_testBit]
        rcases hc : z.testBit kz with _ | _
        · rfl
        · obtain ⟨b1, b2, b3⟩ := (hb kz).1 hc
          obtain ⟨j, j0, j1, j2⟩ := h kz b1 b2
          exact absurd j2 (b3 j j0 j1)
    | succ d ih =>
      intro t z t0 t1 hz hb
      obtain ⟨c1, c2⟩ := hch t t0 (by omega)
      have hab := (hAB.2.1 (hq 35 t) c1 c2).1
      obtain ⟨m, m1, m2, m3⟩ := j3 (hq 34 (hq 35 t)) hab.1 (by omega)
      obtain ⟨w, w1, w2, w3⟩ := nand_is (a := z) (r := m) hz (by omega)
      have hA30 := hAB.1
      refine b_ju_explainsAll_7 ⟨fun c => absurd c (by omega), fun _ => ⟨by omega, by omega, by omega, fun y ey => ?_⟩⟩
      rw [m1, w1] at ey
      rw [ey]
      refine ih (t + 1) w (by omega) (by omega) w2 (fun kz => ?_)
      rw [w3, Bool.and_eq_true, hb]
      have hm : (!m.testBit kz) = true ↔ ¬ ((kz : Int) < hq 60 13 ∧ jh hq kz (hq 34 (hq 35 t))) := by
        rw [← m3]
        cases m.testBit kz <;> simp
      rw [hm]
      constructor
      · rintro ⟨⟨b1, b2, b3⟩, b4⟩
        refine ⟨b1, b2, fun j i0 i1 hh => ?_⟩
        by_cases e : j = t
        · rw [e] at hh; exact b4 ⟨b1, hh⟩
        · exact b3 j i0 (by omega) hh
      · rintro ⟨b1, b2, b3⟩
        exact ⟨⟨b1, b2, fun j i0 i1 => b3 j i0 (by omega)⟩, fun q => b3 t t0 (by omega) q.2⟩
  refine b_ju_explainsAll ?_
  rw [j4]
  refine key s.toNat 0 r (Int.le_refl _) (by omega) (by omega) (fun kz => ?_)
  rw [j6]
  exact ⟨fun q => ⟨q.1, q.2, fun j i0 i1 => by omega⟩, fun q => ⟨q.1, q.2.1⟩⟩
/-! places in order: a cursor, its code, its rank -/
def tS (j : Int) : Int := qb_sum (fun i => 29 - i) j.toNat
def tT (j : Int) : Int := qb_sum (fun i => 435 - tS (i + 1)) j.toNat
theorem tS_up {j : Int} (h : 0 ≤ j) : tS (j + 1) = tS j + (29 - j) := by
  obtain ⟨n, hn⟩ : ∃ n : Nat, j = n := ⟨_, (Int.toNat_of_nonneg h).symm⟩
  subst hn
  rfl
theorem tT_up {j : Int} (h : 0 ≤ j) : tT (j + 1) = tT j + (435 - tS (j + 1)) := by
  obtain ⟨n, hn⟩ : ∃ n : Nat, j = n := ⟨_, (Int.toNat_of_nonneg h).symm⟩
  subst hn
  rfl
theorem tS_fin : ∀ j : Fin 31, 0 ≤ tS (j.val : Int) ∧ tS (j.val : Int) ≤ 435 ∧ (j.val < 29 → tS (j.val : Int) ≤ 434) := by decide +kernel
theorem tT_fin : ∀ j : Fin 31, 0 ≤ tT (j.val : Int) ∧ tT (j.val : Int) ≤ 4060 := by decide +kernel
theorem tS_in {j : Int} (h0 : 0 ≤ j) (h1 : j ≤ 30) : 0 ≤ tS j ∧ tS j ≤ 435 ∧ (j < 29 → tS j ≤ 434) := by
  obtain ⟨n, hn⟩ : ∃ n : Nat, j = n := ⟨_, (Int.toNat_of_nonneg h0).symm⟩
  subst hn
  have := tS_fin ⟨n, by omega⟩
  exact ⟨this.1, this.2.1, fun h => this.2.2 (by show n < 29; omega)⟩
theorem tT_in {j : Int} (h0 : 0 ≤ j) (h1 : j ≤ 30) : 0 ≤ tT j ∧ tT j ≤ 4060 := by
  obtain ⟨n, hn⟩ : ∃ n : Nat, j = n := ⟨_, (Int.toNat_of_nonneg h0).symm⟩
  subst hn
  exact tT_fin ⟨n, by omega⟩
def cu (s A : Int) (ab ch : Int → Int) (x : Nat) (R : Int) : Prop :=
  (s = 0 ∧ x = 0 ∧ R = 0) ∨
  (s = 1 ∧ (0 ≤ ch 0 ∧ ch 0 < A) ∧ (x : Int) = 900 * ab (ch 0) ∧ R = ch 0) ∨
  (s = 2 ∧ (0 ≤ ch 0 ∧ ch 0 < ch 1 ∧ ch 1 < A) ∧ (x : Int) = 900 * ab (ch 0) + 30 * ab (ch 1) ∧ R = tS (ch 0) + (ch 1 - ch 0 - 1)) ∨
  (s = 3 ∧ (0 ≤ ch 0 ∧ ch 0 < ch 1 ∧ ch 1 < ch 2 ∧ ch 2 < A) ∧ (x : Int) = 900 * ab (ch 0) + 30 * ab (ch 1) + ab (ch 2) ∧ R = tT (ch 0) + tS (ch 1) - tS (ch 0 + 1) + (ch 2 - ch 1 - 1))
theorem cu_R {s A : Int} {ab ch : Int → Int} {x : Nat} {R : Int} (hA : A ≤ 30) (h : cu s A ab ch x R) : R ≤ 4900 := by
  rcases h with ⟨-, -, h⟩ | ⟨-, h1, -, h⟩ | ⟨-, h1, -, h⟩ | ⟨-, h1, -, h⟩
  · omega
  · omega
  · have := tS_in (j := ch 0) (by omega) (by omega)
    omega
  · have a := tT_in (j := ch 0) (by omega) (by omega)
    have b := tS_in (j := ch 1) (by omega) (by omega)
    have c := tS_in (j := ch 0 + 1) (by omega) (by omega)
    omega
theorem tri {hp : qb_H} {A : Int} {ab : Int → Int} {n : Nat} (h : ABc hp A ab n) {i j : Int} (i0 : 0 ≤ i) (i1 : i < A) (j0 : 0 ≤ j) (j1 : j < A) : (i < j ∧ ab i < ab j) ∨ (i = j ∧ ab i = ab j) ∨ (j < i ∧ ab j < ab i) := by
  rcases Int.lt_trichotomy i j with c | c | c
  · exact Or.inl ⟨c, h.2.2.1 i j i0 c j1⟩
  · exact Or.inr (Or.inl ⟨c, by rw [c]⟩)
  · exact Or.inr (Or.inr ⟨c, h.2.2.1 j i j0 c i1⟩)
theorem lex1 {hp : qb_H} {A : Int} {ab : Int → Int} {n : Nat} (h : ABc hp A ab n) {i j : Int} (i0 : 0 ≤ i) (i1 : i < A) (j0 : 0 ≤ j) (j1 : j < A) : 900 * ab i < 900 * ab j ↔ i < j := by
  rcases tri h i0 i1 j0 j1 with c | c | c <;> omega
theorem lex2 {hp : qb_H} {A : Int} {ab : Int → Int} (h : ABc hp A ab 30) {i j k l : Int} (i0 : 0 ≤ i) (i1 : i < A) (j0 : 0 ≤ j) (j1 : j < A) (k0 : 0 ≤ k) (k1 : k < A) (l0 : 0 ≤ l) (l1 : l < A) : 900 * ab i + 30 * ab j < 900 * ab k + 30 * ab l ↔ (i < k ∨ (i = k ∧ j < l)) := by
  have b1 := (h.2.1 j j0 j1).1
  have b2 := (h.2.1 l l0 l1).1
  rcases tri h i0 i1 k0 k1 with c | c | c <;> rcases tri h j0 j1 l0 l1 with d | d | d <;> omega
theorem lex3 {hp : qb_H} {A : Int} {ab : Int → Int} (h : ABc hp A ab 30) {i j m k l o : Int} (i0 : 0 ≤ i) (i1 : i < A) (j0 : 0 ≤ j) (j1 : j < A) (m0 : 0 ≤ m) (m1 : m < A) (k0 : 0 ≤ k) (k1 : k < A) (l0 : 0 ≤ l) (l1 : l < A) (o0 : 0 ≤ o) (o1 : o < A) : 900 * ab i + 30 * ab j + ab m < 900 * ab k + 30 * ab l + ab o ↔ (i < k ∨ (i = k ∧ (j < l ∨ (j = l ∧ m < o)))) := by
  have b1 := (h.2.1 j j0 j1).1
  have b2 := (h.2.1 l l0 l1).1
  have b3 := (h.2.1 m m0 m1).1
  have b4 := (h.2.1 o o0 o1).1
  rcases tri h i0 i1 k0 k1 with c | c | c <;> rcases tri h j0 j1 l0 l1 with d | d | d <;> rcases tri h m0 m1 o0 o1 with e | e | e <;> omega
theorem sA0 {hp : qb_H} {z : Nat} (h : sA hp 0 z) : z = 0 := by
  have h1 := h.1
  unfold sv at h1
  rw [if_pos rfl] at h1
  apply Classical.byContradiction
  intro c
  rw [if_neg (show ¬ (z : Int) = 0 by omega)] at h1
  exact h1 rfl
theorem sA1 {hp : qb_H} {A : Int} {ab : Int → Int} (hAB : ABc hp A ab 30) {z : Nat} (hz : z < 27000) (h : sA hp 1 z) : ∃ i : Int, (0 ≤ i ∧ i < A) ∧ (z : Int) = 900 * ab i := by
  obtain ⟨h1, h2, -, -⟩ := h
  unfold sv at h1
  rw [if_neg (by decide), if_pos rfl] at h1
  obtain ⟨i, i0, i1, i2⟩ := hAB.2.2.2 ((z : Int) / 900) (by omega) (by omega) (h2 (by decide))
  refine ⟨i, ⟨i0, i1⟩, ?_⟩
  by_cases c : (z : Int) / 30 % 30 = 0
  · rw [if_pos c] at h1
    by_cases d : (z : Int) % 30 = 0
    · omega
    · rw [if_neg d] at h1; exact absurd rfl h1
  · rw [if_neg c] at h1; exact absurd rfl h1
theorem sA2 {hp : qb_H} {A : Int} {ab : Int → Int} (hAB : ABc hp A ab 30) {z : Nat} (hz : z < 27000) (h : sA hp 2 z) : ∃ i j : Int, (0 ≤ i ∧ i < j ∧ j < A) ∧ (z : Int) = 900 * ab i + 30 * ab j := by
  obtain ⟨h1, h2, h3, -⟩ := h
  unfold sv at h1
  rw [if_neg (by decide), if_neg (by decide), if_pos rfl] at h1
  obtain ⟨i, i0, i1, i2⟩ := hAB.2.2.2 ((z : Int) / 900) (by omega) (by omega) (h2 (by decide))
  obtain ⟨j, j0, j1, j2⟩ := hAB.2.2.2 ((z : Int) / 30 % 30) (by omega) (by omega) (h3 (by decide))
  have ht := tri hAB i0 i1 j0 j1
  refine ⟨i, j, ?_⟩
  by_cases c : (z : Int) / 30 % 30 ≤ (z : Int) / 900
  · rw [if_pos c] at h1; exact absurd rfl h1
  · rw [if_neg c] at h1
    by_cases d : (z : Int) % 30 = 0
    · omega
    · rw [if_neg d] at h1; exact absurd rfl h1
theorem sA3 {hp : qb_H} {A : Int} {ab : Int → Int} (hAB : ABc hp A ab 30) {z : Nat} (hz : z < 27000) (h : sA hp 3 z) : ∃ i j m : Int, (0 ≤ i ∧ i < j ∧ j < m ∧ m < A) ∧ (z : Int) = 900 * ab i + 30 * ab j + ab m := by
  obtain ⟨h1, h2, h3, h4⟩ := h
  unfold sv at h1
  rw [if_neg (by decide), if_neg (by decide), if_neg (by decide)] at h1
  obtain ⟨i, i0, i1, i2⟩ := hAB.2.2.2 ((z : Int) / 900) (by omega) (by omega) (h2 (by decide))
  obtain ⟨j, j0, j1, j2⟩ := hAB.2.2.2 ((z : Int) / 30 % 30) (by omega) (by omega) (h3 (by decide))
  obtain ⟨m, m0, m1, m2⟩ := hAB.2.2.2 ((z : Int) % 30) (by omega) (by omega) (h4 (by decide))
  have ht := tri hAB i0 i1 j0 j1
  have hu := tri hAB j0 j1 m0 m1
  refine ⟨i, j, m, ?_⟩
  by_cases c : (z : Int) / 30 % 30 ≤ (z : Int) / 900
  · rw [if_pos c] at h1; exact absurd rfl h1
  · rw [if_neg c] at h1
    by_cases d : (z : Int) % 30 ≤ (z : Int) / 30 % 30
    · rw [if_pos d] at h1; exact absurd rfl h1
    · omega
