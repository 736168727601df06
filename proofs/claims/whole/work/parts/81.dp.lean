/-! LOADED: the most that ships can make -/
def vl (N : Int → Int → Int) (pr qr x y a b : Int) : Int := a * pr + b * qr + N (x - a) (y - b)
def dp (N : Int → Int → Int) (pr qr : Int) : Nat → Int → Int → Int
  | 0, x, y => N x y
  | t + 1, x, y => if y ≤ 0 then (if x ≤ 0 then dp N pr qr t x y else max (dp N pr qr t x y) (dp N pr qr t (x - 1) y + pr)) else max (if x ≤ 0 then dp N pr qr t x y else max (dp N pr qr t x y) (dp N pr qr t (x - 1) y + pr)) (dp N pr qr t x (y - 1) + qr)
def mx (N : Int → Int → Int) (pr qr T V x y : Int) : Prop := (∃ a b : Int, 0 ≤ a ∧ a ≤ x ∧ 0 ≤ b ∧ b ≤ y ∧ a + b ≤ T ∧ V = vl N pr qr x y a b) ∧ ∀ a b : Int, 0 ≤ a → a ≤ x → 0 ≤ b → b ≤ y → a + b ≤ T → vl N pr qr x y a b ≤ V
theorem mx_u {N : Int → Int → Int} {pr qr T V W x y : Int} (h : mx N pr qr T V x y) (h' : mx N pr qr T W x y) : V = W := by
  obtain ⟨⟨a, b, a1, a2, a3, a4, a5, a6⟩, h2⟩ := h
  obtain ⟨⟨c, d, c1, c2, c3, c4, c5, c6⟩, h4⟩ := h'
  have e1 := h2 c d c1 c2 c3 c4 c5
  have e2 := h4 a b a1 a2 a3 a4 a5
  omega
theorem vl_x {N : Int → Int → Int} {pr qr x y a b : Int} : vl N pr qr (x - 1) y a b + pr = vl N pr qr x y (a + 1) b := by
  unfold vl
  have e : x - 1 - a = x - (a + 1) := by omega
  rw [e, Int.add_mul, Int.one_mul]
  omega
theorem vl_y {N : Int → Int → Int} {pr qr x y a b : Int} : vl N pr qr x (y - 1) a b + qr = vl N pr qr x y a (b + 1) := by
  unfold vl
  have e : y - 1 - b = y - (b + 1) := by omega
  rw [e, Int.add_mul, Int.one_mul]
  omega
theorem dp_mx {N : Int → Int → Int} {pr qr : Int} : ∀ (t : Nat) (x y : Int), 0 ≤ x → 0 ≤ y → mx N pr qr t (dp N pr qr t x y) x y := by
  intro t
  induction t with
  | zero =>
    intro x y hx hy
    have e0 : vl N pr qr x y 0 0 = N x y := by unfold vl; rw [Int.zero_mul, Int.zero_mul, Int.sub_zero, Int.sub_zero]; omega
    refine ⟨⟨0, 0, Int.le_refl 0, hx, Int.le_refl 0, hy, by decide, e0.symm⟩, fun a b a0 a1 b0 b1 ab => ?_⟩
    have ea : a = 0 := by omega
    have eb : b = 0 := by omega
    rw [ea, eb, e0]
    exact Int.le_refl _
  | succ t ih =>
    intro x y hx hy
    have h0 := ih x y hx hy
    have hX : 0 < x → mx N pr qr t (dp N pr qr t (x - 1) y) (x - 1) y := fun h => ih (x - 1) y (by omega) hy
    have hY : 0 < y → mx N pr qr t (dp N pr qr t x (y - 1)) x (y - 1) := fun h => ih x (y - 1) hx (by omega)
    obtain ⟨⟨a, b, a1, a2, a3, a4, a5, a6⟩, h2⟩ := h0
    refine ⟨?_, fun c d c0 c1 d0 d1 cd => ?_⟩
    · have hbase : ∃ c d : Int, 0 ≤ c ∧ c ≤ x ∧ 0 ≤ d ∧ d ≤ y ∧ c + d ≤ ((t + 1 : Nat) : Int) ∧ dp N pr qr t x y = vl N pr qr x y c d := ⟨a, b, a1, a2, a3, a4, by omega, a6⟩
      have hx1 : 0 < x → ∃ c d : Int, 0 ≤ c ∧ c ≤ x ∧ 0 ≤ d ∧ d ≤ y ∧ c + d ≤ ((t + 1 : Nat) : Int) ∧ dp N pr qr t (x - 1) y + pr = vl N pr qr x y c d := by
        intro h
        obtain ⟨⟨c, d, c1, c2, c3, c4, c5, c6⟩, -⟩ := hX h
        exact ⟨c + 1, d, by omega, by omega, c3, c4, by omega, by rw [c6, vl_x]⟩
      have hy1 : 0 < y → ∃ c d : Int, 0 ≤ c ∧ c ≤ x ∧ 0 ≤ d ∧ d ≤ y ∧ c + d ≤ ((t + 1 : Nat) : Int) ∧ dp N pr qr t x (y - 1) + qr = vl N pr qr x y c d := by
        intro h
        obtain ⟨⟨c, d, c1, c2, c3, c4, c5, c6⟩, -⟩ := hY h
        exact ⟨c, d + 1, c1, c2, by omega, by omega, by omega, by rw [c6, vl_y]⟩
      have hA : ∃ c d : Int, 0 ≤ c ∧ c ≤ x ∧ 0 ≤ d ∧ d ≤ y ∧ c + d ≤ ((t + 1 : Nat) : Int) ∧ (if x ≤ 0 then dp N pr qr t x y else max (dp N pr qr t x y) (dp N pr qr t (x - 1) y + pr)) = vl N pr qr x y c d := by
        by_cases c : x ≤ 0
        · rw [if_pos c]; exact hbase
        · rw [if_neg c]
          by_cases d : dp N pr qr t x y ≤ dp N pr qr t (x - 1) y + pr
          · rw [Int.max_eq_right d]; exact hx1 (by omega)
          · rw [Int.max_eq_left (by omega)]; exact hbase
      simp only [dp]
      by_cases c : y ≤ 0
      · rw [if_pos c]; exact hA
      · rw [if_neg c]
        generalize (if x ≤ 0 then dp N pr qr t x y else max (dp N pr qr t x y) (dp N pr qr t (x - 1) y + pr)) = W at hA ⊢
        by_cases d : W ≤ dp N pr qr t x (y - 1) + qr
        · rw [Int.max_eq_right d]; exact hy1 (by omega)
        · rw [Int.max_eq_left (by omega)]; exact hA
    · have hle1 : dp N pr qr t x y ≤ dp N pr qr (t + 1) x y := by
        simp only [dp]
        split <;> split <;> omega
      have hle2 : 0 < x → dp N pr qr t (x - 1) y + pr ≤ dp N pr qr (t + 1) x y := by
        intro h
        simp only [dp]
        rw [if_neg (show ¬ x ≤ 0 by omega)]
        split <;> omega
      have hle3 : 0 < y → dp N pr qr t x (y - 1) + qr ≤ dp N pr qr (t + 1) x y := by
        intro h
        simp only [dp]
        rw [if_neg (show ¬ y ≤ 0 by omega)]
        omega
      by_cases k1 : c + d ≤ (t : Int)
      · exact Int.le_trans (h2 c d c0 c1 d0 d1 k1) hle1
      · by_cases k2 : 0 < c
        · have := (hX (by omega)).2 (c - 1) d (by omega) (by omega) d0 d1 (by omega)
          have e := vl_x (N := N) (pr := pr) (qr := qr) (x := x) (y := y) (a := c - 1) (b := d)
          have e1 : c - 1 + 1 = c := by omega
          rw [e1] at e
          have := hle2 (by omega)
          omega
        · have := (hY (by omega)).2 c (d - 1) c0 c1 (by omega) (by omega) (by omega)
          have e := vl_y (N := N) (pr := pr) (qr := qr) (x := x) (y := y) (a := c) (b := d - 1)
          have e1 : d - 1 + 1 = d := by omega
          rw [e1] at e
          have := hle3 (by omega)
          omega
theorem dp_in {N : Int → Int → Int} {pr qr U : Int} (hp1 : 0 ≤ pr ∧ pr ≤ 1000) (hq1 : 0 ≤ qr ∧ qr ≤ 1000) (hN : ∀ x y : Int, 0 ≤ x → 0 ≤ y → 0 ≤ N x y ∧ N x y ≤ U) : ∀ (t : Nat) (x y : Int), 0 ≤ x → 0 ≤ y → 0 ≤ dp N pr qr t x y ∧ dp N pr qr t x y ≤ U + 1000 * t := by
  intro t
  induction t with
  | zero => intro x y hx hy
            have := hN x y hx hy
            simp only [dp]
            omega
  | succ t ih =>
    intro x y hx hy
    have h0 := ih x y hx hy
    have h1 : 0 < x → _ := fun h => ih (x - 1) y (by omega) hy
    have h2 : 0 < y → _ := fun h => ih x (y - 1) hx (by omega)
    simp only [dp]
    by_cases c : y ≤ 0
    · rw [if_pos c]
      by_cases d : x ≤ 0
      · rw [if_pos d]; omega
      · rw [if_neg d]
        have := h1 (by omega)
        omega
    · rw [if_neg c]
      have := h2 (by omega)
      by_cases d : x ≤ 0
      · rw [if_pos d]; omega
      · rw [if_neg d]
        have := h1 (by omega)
        omega
/-- prices of grade g on ship s's day; the most from ship 4 - j on -/
def pz (hp : qb_H) (kn g s : Int) : Int := v_m_priceAt g (hp 77 s) kn hp
def Mt (hp : qb_H) (kn : Int) : Nat → Int → Int → Int
  | 0 => fun _ _ => 0
  | j + 1 => dp (Mt hp kn j) (pz hp kn 0 (3 - j)) (pz hp kn 1 (3 - j)) (hp 78 (3 - j)).toNat
theorem pz_in {hp : qb_H} (hP : qb_iP hp) (kn g s : Int) : 0 ≤ pz hp kn g s ∧ pz hp kn g s ≤ 1000 := (iP_eq hP g (hp 77 s) kn).2
theorem Mt_in {hp : qb_H} (hP : qb_iP hp) (hH : qb_iH hp) (kn : Int) : ∀ j : Nat, j ≤ 4 → ∀ x y : Int, 0 ≤ x → 0 ≤ y → 0 ≤ Mt hp kn j x y ∧ Mt hp kn j x y ≤ 20000 * j := by
  intro j
  induction j with
  | zero =>
    intro _ x y _ _
    show (0 : Int) ≤ 0 ∧ (0 : Int) ≤ 20000 * ((0 : Nat) : Int)
    decide
  | succ j ih =>
    intro hj x y hx hy
    have hb := (hH.1 (3 - (j : Int)) (by omega) (by omega)).2.2.1
    have := dp_in (pz_in hP kn 0 (3 - j)) (pz_in hP kn 1 (3 - j)) (U := 20000 * j) (fun a b ha hb => ih (by omega) a b ha hb) (hp 78 (3 - j)).toNat x y hx hy
    show 0 ≤ dp (Mt hp kn j) (pz hp kn 0 (3 - j)) (pz hp kn 1 (3 - j)) (hp 78 (3 - j)).toNat x y ∧ dp (Mt hp kn j) (pz hp kn 0 (3 - j)) (pz hp kn 1 (3 - j)) (hp 78 (3 - j)).toNat x y ≤ 20000 * ((j + 1 : Nat) : Int)
    omega
/-- the first row that makes the most -/
def lr (hp : qb_H) (kn : Int) (j : Nat) (x y z : Int) : Prop := ∃ a b : Int, 0 ≤ a ∧ a ≤ x ∧ 0 ≤ b ∧ b ≤ y ∧ a + b ≤ hp 78 (3 - j) ∧ z = 100 * a + b ∧ vl (Mt hp kn j) (pz hp kn 0 (3 - j)) (pz hp kn 1 (3 - j)) x y a b = Mt hp kn (j + 1) x y
theorem nat_least (P : Nat → Prop) (h : ∃ n, P n) : ∃ n, P n ∧ ∀ m : Nat, m < n → ¬ P m := by
  obtain ⟨n, hn⟩ := h
  have : ∀ k : Nat, (∃ m : Nat, m ≤ k ∧ P m) → ∃ m, P m ∧ ∀ l : Nat, l < m → ¬ P l := by
    intro k
    induction k with
    | zero =>
      rintro ⟨m, h1, h2⟩
      exact ⟨m, h2, fun l hl => by omega⟩
    | succ k ih =>
      rintro ⟨m, h1, h2⟩
      by_cases c : ∃ m : Nat, m ≤ k ∧ P m
      · exact ih c
      · exact ⟨m, h2, fun l hl hP => c ⟨l, by omega, hP⟩⟩
  exact this n ⟨n, Nat.le_refl n, hn⟩
theorem lr_ex {hp : qb_H} (hH : qb_iH hp) (kn : Int) {j : Nat} (hj : j < 4) {x y : Int} (hx : 0 ≤ x) (hy : 0 ≤ y) : ∃ z : Nat, lr hp kn j x y z ∧ ∀ w : Nat, w < z → ¬ lr hp kn j x y w := by
  refine nat_least _ ?_
  have hb := (hH.1 (3 - (j : Int)) (by omega) (by omega)).2.2.1
  obtain ⟨⟨a, b, a1, a2, a3, a4, a5, a6⟩, -⟩ := dp_mx (N := Mt hp kn j) (pr := pz hp kn 0 (3 - j)) (qr := pz hp kn 1 (3 - j)) (hp 78 (3 - j)).toNat x y hx hy
  exact ⟨(100 * a + b).toNat, a, b, a1, a2, a3, a4, by omega, by omega, a6.symm⟩
