/-! LOADED: the class's tables and rows -/
/-- the class's heap as the ships are loaded: prices of the four ships laid; tables from ship 4 - j on -/
def ft (hp : qb_H) (kn fx fy : Int) (j : Nat) (hq : qb_H) : Prop :=
  (∀ c : Nat, c ≠ 57 → c ≠ 58 → c ≠ 59 → hq c = hp c) ∧ (∀ s : Int, 0 ≤ s → s < 4 → hq 57 s = pz hp kn 0 s ∧ hq 58 s = pz hp kn 1 s) ∧
  (∀ i : Int, 1764 ≤ i → hq 59 i = 0) ∧
  ∀ l : Nat, l ≤ j → ∀ x y : Int, 0 ≤ x → x ≤ fx → 0 ≤ y → y ≤ fy → hq 59 ((4 - l) * 441 + x * 21 + y) = Mt hp kn l x y
theorem fl_g {s x y : Int} (hs : 0 ≤ s ∧ s ≤ 4) (hx : 0 ≤ x ∧ x ≤ 20) (hy : 0 ≤ y ∧ y ≤ 20) : g_fl_worth s x y := by
  unfold g_fl_worth qb_in
  omega
theorem bear_ok {hp : qb_H} (hP : qb_iP hp) (hH : qb_iH hp) {kn fx fy : Int} (hfx : 0 ≤ fx ∧ fx ≤ 20) (hfy : 0 ≤ fy ∧ fy ≤ 20) {j t : Nat} (hj : j < 4) (ht : t < 20) {hq : qb_H} (hf : ft hp kn fx fy j hq)
    (hD : ∀ x y : Int, 0 ≤ x → x ≤ fx → 0 ≤ y → y ≤ fy → hq 59 ((3 - j) * 441 + x * 21 + y) = dp (Mt hp kn j) (pz hp kn 0 (3 - j)) (pz hp kn 1 (3 - j)) t x y) {K : qb_H → Prop}
    (hK : ∀ hr : qb_H, ft hp kn fx fy j hr → (∀ x y : Int, 0 ≤ x → x ≤ fx → 0 ≤ y → y ≤ fy → hr 59 ((3 - j) * 441 + x * 21 + y) = dp (Mt hp kn j) (pz hp kn 0 (3 - j)) (pz hp kn 1 (3 - j)) (t + 1) x y) → K hr) : c_fl_bearOneMore (3 - j) fx fy hq K := by
  obtain ⟨D, hDD⟩ : ∃ D, D = dp (Mt hp kn j) (pz hp kn 0 (3 - j)) (pz hp kn 1 (3 - j)) := ⟨_, rfl⟩
  rw [← hDD] at hD hK
  have hz0 := pz_in hP kn 0 (3 - j)
  have hz1 := pz_in hP kn 1 (3 - j)
  have hDb : ∀ x y : Int, 0 ≤ x → 0 ≤ y → 0 ≤ D t x y ∧ D t x y ≤ 100000 := fun x y hx hy => by
    have := dp_in hz0 hz1 (U := 20000 * j) (fun a b ha hb => Mt_in hP hH kn j (by omega) a b ha hb) t x y hx hy
    rw [hDD]
    omega
  have hup : ∀ x y : Int, D (t + 1) x y = if y ≤ 0 then (if x ≤ 0 then D t x y else max (D t x y) (D t (x - 1) y + pz hp kn 0 (3 - j))) else max (if x ≤ 0 then D t x y else max (D t x y) (D t (x - 1) y + pz hp kn 0 (3 - j))) (D t x (y - 1) + pz hp kn 1 (3 - j)) := fun x y => by rw [hDD]; rfl
  have inner : ∀ (d : Nat) (x y : Int) (hr : qb_H), y + 1 = d → 0 ≤ x → x ≤ fx → y ≤ fy → (ft hp kn fx fy j hr ∧ ∀ a b : Int, 0 ≤ a → a ≤ fx → 0 ≤ b → b ≤ fy → hr 59 ((3 - j) * 441 + a * 21 + b) = if x < a ∨ (x = a ∧ y < b) then D (t + 1) a b else D t a b) → (∀ hs : qb_H, (ft hp kn fx fy j hs ∧ ∀ a b : Int, 0 ≤ a → a ≤ fx → 0 ≤ b → b ≤ fy → hs 59 ((3 - j) * 441 + a * 21 + b) = if x ≤ a then D (t + 1) a b else D t a b) → r_fl_bearOneMore_3 (3 - j) fy (x + (-1)) hs K) → r_fl_bearOneMore_11 (3 - j) fy x y hr K := by
    intro d
    induction d with
    | zero =>
      intro x y hr hd hx hx2 hy2 hi hk
      refine b_fl_bearOneMore_11 ⟨fun _ => ⟨by unfold qb_in; omega, hk hr ⟨hi.1, fun a b a0 a1 b0 b1 => ?_⟩⟩, fun c => absurd (by omega) c⟩
      rw [hi.2 a b a0 a1 b0 b1]
      by_cases c : x ≤ a
      · rw [if_pos c, if_pos (by omega)]
      · rw [if_neg c, if_neg (by omega)]
    | succ d ih =>
      intro x y hr hd hx hx2 hy2 hi hk
      have hy : 0 ≤ y := by omega
      obtain ⟨⟨f1, f2, f3, f4⟩, hT⟩ := hi
      have w0 : v_fl_worth (3 - j) x y hr = D t x y := by
        unfold v_fl_worth
        rw [hT x y hx hx2 hy hy2, if_neg (by omega)]
      have w1 : 0 < x → v_fl_worth (3 - j) (x - 1) y hr = D t (x - 1) y := fun h => by
        unfold v_fl_worth
        rw [hT (x - 1) y (by omega) (by omega) hy hy2, if_neg (by omega)]
      have w2 : 0 < y → v_fl_worth (3 - j) x (y - 1) hr = D t x (y - 1) := fun h => by
        unfold v_fl_worth
        rw [hT x (y - 1) hx hx2 (by omega) (by omega), if_neg (by omega)]
      have p0 : hr 57 (3 - j) = pz hp kn 0 (3 - j) := (f2 (3 - j) (by omega) (by omega)).1
      have p1 : hr 58 (3 - j) = pz hp kn 1 (3 - j) := (f2 (3 - j) (by omega) (by omega)).2
      have b0 := hDb x y hx hy
      have hval : (if y ≤ 0 then (if x ≤ 0 then (v_fl_worth (3 - j) x y hr) else (max (v_fl_worth (3 - j) x y hr) ((v_fl_worth (3 - j) (x - 1) y hr) + (hr 57 (3 - j))))) else (max (if x ≤ 0 then (v_fl_worth (3 - j) x y hr) else (max (v_fl_worth (3 - j) x y hr) ((v_fl_worth (3 - j) (x - 1) y hr) + (hr 57 (3 - j))))) ((v_fl_worth (3 - j) x (y - 1) hr) + (hr 58 (3 - j))))) = D (t + 1) x y := by
        rw [hup, w0, p0, p1]
        by_cases c : y ≤ 0
        · rw [if_pos c, if_pos c]
          by_cases e : x ≤ 0
          · rw [if_pos e, if_pos e]
          · rw [if_neg e, if_neg e, w1 (by omega)]
        · rw [if_neg c, if_neg c, w2 (by omega)]
          by_cases e : x ≤ 0
          · rw [if_pos e, if_pos e]
          · rw [if_neg e, if_neg e, w1 (by omega)]
      refine b_fl_bearOneMore_11 ⟨fun c => absurd hy (by omega), fun _ => ⟨fl_g (by omega) (by omega) (by omega), fun c => ⟨by unfold qb_in; omega, fl_g (by omega) (by omega) (by omega), by omega, ?_⟩, fun c => ⟨by unfold qb_in; omega, fl_g (by omega) (by omega) (by omega), by omega, ?_⟩, by unfold qb_in; omega, by unfold qb_in; omega, by unfold qb_in; omega, by unfold qb_in; omega, by omega, by unfold qb_in; omega, ?_⟩⟩
      · have := hDb (x - 1) y (by omega) hy
        rw [w1 (by omega), p0]; unfold qb_in; omega
      · have := hDb x (y - 1) hx (by omega)
        rw [w2 (by omega), p1]; unfold qb_in; omega
      · rw [hval]
        refine ih x (y + (-1)) _ (by omega) hx hx2 (by omega) ⟨⟨fun c c1 c2 c3 => by rw [qb_st_ne c3]; exact f1 c c1 c2 c3, fun s s0 s1 => by rw [qb_st_ne (by decide), qb_st_ne (by decide)]; exact f2 s s0 s1, fun i hi2 => ?_, fun l hl a b a0 a1 b0 b1 => ?_⟩, fun a b a0 a1 b0 b1 => ?_⟩ hk
        · have : ¬ i = (3 - j) * 441 + x * 21 + y := by omega
          rw [← f3 i hi2]; simp [qb_st, this]
        · have : ¬ (4 - (l : Int)) * 441 + a * 21 + b = (3 - j) * 441 + x * 21 + y := by omega
          rw [← f4 l hl a b a0 a1 b0 b1]; simp [qb_st, this]
        · by_cases e : a = x ∧ b = y
          · rw [e.1, e.2, if_pos (by omega)]; simp [qb_st]
          · have : ¬ (3 - (j : Int)) * 441 + a * 21 + b = (3 - j) * 441 + x * 21 + y := by omega
            have e2 : qb_st hr 59 ((3 - j) * 441 + x * 21 + y) (D (t + 1) x y) 59 ((3 - j) * 441 + a * 21 + b) = hr 59 ((3 - j) * 441 + a * 21 + b) := by simp [qb_st, this]
            rw [e2, hT a b a0 a1 b0 b1]
            by_cases c : x < a ∨ (x = a ∧ y < b)
            · rw [if_pos c, if_pos (by omega)]
            · rw [if_neg c, if_neg (by omega)]
  have outer : ∀ (d : Nat) (x : Int) (hr : qb_H), x + 1 = d → x ≤ fx → (ft hp kn fx fy j hr ∧ ∀ a b : Int, 0 ≤ a → a ≤ fx → 0 ≤ b → b ≤ fy → hr 59 ((3 - j) * 441 + a * 21 + b) = if x < a then D (t + 1) a b else D t a b) → r_fl_bearOneMore_3 (3 - j) fy x hr K := by
    intro d
    induction d with
    | zero =>
      intro x hr hd hx hi
      refine b_fl_bearOneMore_3 ⟨fun _ => hK hr hi.1 (fun a b a0 a1 b0 b1 => ?_), fun c => absurd (by omega) c⟩
      rw [hi.2 a b a0 a1 b0 b1, if_pos (by omega)]
    | succ d ih =>
      intro x hr hd hx hi
      refine b_fl_bearOneMore_3 ⟨fun c => absurd c (by omega), fun _ => inner (fy + 1).toNat x fy hr (by omega) (by omega) hx (Int.le_refl _) ⟨hi.1, fun a b a0 a1 b0 b1 => ?_⟩ (fun hs h2 => ih (x + (-1)) hs (by omega) (by omega) ⟨h2.1, fun a b a0 a1 b0 b1 => ?_⟩)⟩
      · rw [hi.2 a b a0 a1 b0 b1]
        by_cases c : x < a
        · rw [if_pos c, if_pos (Or.inl c)]
        · rw [if_neg c, if_neg (by omega)]
      · rw [h2.2 a b a0 a1 b0 b1]
        by_cases c : x ≤ a
        · rw [if_pos c, if_pos (by omega)]
        · rw [if_neg c, if_neg (by omega)]
  refine b_fl_bearOneMore (outer (fx + 1).toNat fx hq (by omega) (Int.le_refl _) ⟨hf, fun a b a0 a1 b0 b1 => ?_⟩)
  rw [hD a b a0 a1 b0 b1, if_neg (by omega)]
theorem plan_ok {hp : qb_H} (hP : qb_iP hp) (hH : qb_iH hp) {kn fx fy : Int} (hfx : 0 ≤ fx ∧ fx ≤ 20) (hfy : 0 ≤ fy ∧ fy ≤ 20) {hq : qb_H} (hf : ft hp kn fx fy 0 hq) {K : qb_H → Prop} (hK : ∀ hr : qb_H, ft hp kn fx fy 4 hr → K hr) : c_fl_plan fx fy hq K := by
  have key : ∀ (d j : Nat) (hr : qb_H), j + d = 4 → ft hp kn fx fy j hr → r_fl_plan_2 fx fy (3 - j) hr K := by
    intro d
    induction d with
    | zero =>
      intro j hr hj h
      have e : j = 4 := by omega
      subst e
      exact b_fl_plan_2 ⟨fun _ => hK hr h, fun c => absurd (by decide) c⟩
    | succ d ih =>
      intro j hr hj h
      obtain ⟨f1, f2, f3, f4⟩ := h
      have hb := (hH.1 (3 - (j : Int)) (by omega) (by omega))
      have e56 : ∀ hs : qb_H, (∀ c : Nat, c ≠ 57 → c ≠ 58 → c ≠ 59 → hs c = hp c) → hs 56 (3 - j) = hp 78 (3 - j) := fun hs h => by rw [h 56 (by decide) (by decide) (by decide)]; exact hb.2.1
      refine b_fl_plan_2 ⟨fun c => absurd c (by omega), fun _ => ⟨by unfold qb_in; omega, by unfold qb_in; omega, by unfold qb_in; omega, by omega, by omega, by omega, by omega, ?_⟩⟩
      have e59 : ∀ i : Int, qb_cpy hr 59 59 ((3 - j + 1) * 441) ((3 - j) * 441) 441 59 i = if (3 - (j : Int)) * 441 ≤ i ∧ i < (3 - (j : Int)) * 441 + 441 then hr 59 ((3 - j + 1) * 441 + (i - (3 - j) * 441)) else hr 59 i := fun i => by simp [qb_cpy]
      have en : ∀ c : Nat, c ≠ 59 → qb_cpy hr 59 59 ((3 - j + 1) * 441) ((3 - j) * 441) 441 c = hr c := fun c hc => qb_cpy_ne hc
      generalize qb_cpy hr 59 59 ((3 - j + 1) * 441) ((3 - j) * 441) 441 = hs at e59 en ⊢
      have bear : ∀ (g t : Nat) (hu : qb_H), (t : Int) + g = hp 78 (3 - j) → ft hp kn fx fy j hu → (∀ x y : Int, 0 ≤ x → x ≤ fx → 0 ≤ y → y ≤ fy → hu 59 ((3 - j) * 441 + x * 21 + y) = dp (Mt hp kn j) (pz hp kn 0 (3 - j)) (pz hp kn 1 (3 - j)) t x y) → r_fl_plan_35 fx fy (3 - j) t hu K := by
        intro g
        induction g with
        | zero =>
          intro t hu ht h1 h2
          refine b_fl_plan_35 ⟨by omega, fun _ => ?_, fun c => absurd (by rw [e56 hu h1.1]; omega) c⟩
          have e1 : 3 - (j : Int) + (-1) = 3 - ((j + 1 : Nat) : Int) := by omega
          rw [e1]
          refine ih (j + 1) hu (by omega) ⟨h1.1, h1.2.1, h1.2.2.1, fun l hl x y x0 x1 y0 y1 => ?_⟩
          by_cases e : l = j + 1
          · have e2 : 4 - ((j + 1 : Nat) : Int) = 3 - j := by omega
            have e3 : t = (hp 78 (3 - j)).toNat := by omega
            rw [e, e2, h2 x y x0 x1 y0 y1, e3]
            rfl
          · exact h1.2.2.2 l (by omega) x y x0 x1 y0 y1
        | succ g ihg =>
          intro t hu ht h1 h2
          refine b_fl_plan_35 ⟨by omega, fun c => absurd c (by rw [e56 hu h1.1]; omega), fun _ => bear_ok hP hH hfx hfy (by omega) (by omega) h1 h2 (fun hv v1 v2 => ⟨by unfold qb_in; omega, ?_⟩)⟩
          have := ihg (t + 1) hv (by omega) v1 v2
          rw [Int.natCast_succ] at this
          exact this
      refine bear (hp 78 (3 - j)).toNat 0 hs (by omega) ⟨fun c c1 c2 c3 => (en c c3).trans (f1 c c1 c2 c3), fun s s0 s1 => by rw [en 57 (by decide), en 58 (by decide)]; exact f2 s s0 s1, fun i hi => ?_, fun l hl x y x0 x1 y0 y1 => ?_⟩ (fun x y x0 x1 y0 y1 => ?_)
      · rw [e59, if_neg (by omega)]; exact f3 i hi
      · rw [e59, if_neg (by omega)]; exact f4 l hl x y x0 x1 y0 y1
      · rw [e59, if_pos (by omega)]
        have e2 : (3 - (j : Int) + 1) * 441 + ((3 - j) * 441 + x * 21 + y - (3 - j) * 441) = (4 - (j : Int)) * 441 + x * 21 + y := by omega
        rw [e2, f4 j (Nat.le_refl j) x y x0 x1 y0 y1]
        rfl
  have := key 4 0 hq (by omega) hf
  exact b_fl_plan this
theorem row_ok {hp : qb_H} (hP : qb_iP hp) (hH : qb_iH hp) {kn fx fy : Int} (hfx : 0 ≤ fx ∧ fx ≤ 20) (hfy : 0 ≤ fy ∧ fy ≤ 20) {j : Nat} (hj : j < 4) {hr : qb_H} (hf : ft hp kn fx fy 4 hr) {x y : Int} (hx : 0 ≤ x ∧ x ≤ fx) (hy : 0 ≤ y ∧ y ≤ fy) {z : Nat} (hz : lr hp kn j x y z) (hz2 : ∀ w : Nat, w < z → ¬ lr hp kn j x y w) {K : Int → qb_H → Prop} (hK : K z hr) : c_fl_leastRow (3 - j) x y hr K := by
  obtain ⟨f1, f2, f3, f4⟩ := hf
  obtain ⟨a', b', a1, a2, b1, b2, ab, ez, ev⟩ := hz
  have hb := (hH.1 (3 - (j : Int)) (by omega) (by omega))
  have e56 : hr 56 (3 - j) = hp 78 (3 - j) := by rw [f1 56 (by decide) (by decide) (by decide)]; exact hb.2.1
  have p0 : hr 57 (3 - j) = pz hp kn 0 (3 - j) := (f2 (3 - j) (by omega) (by omega)).1
  have p1 : hr 58 (3 - j) = pz hp kn 1 (3 - j) := (f2 (3 - j) (by omega) (by omega)).2
  have hz0 := pz_in hP kn 0 (3 - j)
  have hz1 := pz_in hP kn 1 (3 - j)
  have due : v_fl_worth (3 - j) x y hr = Mt hp kn (j + 1) x y := by
    unfold v_fl_worth
    have := f4 (j + 1) (by omega) x y hx.1 hx.2 hy.1 hy.2
    have e2 : 4 - ((j + 1 : Nat) : Int) = 3 - j := by omega
    rw [e2] at this
    exact this
  have nxt : ∀ a b : Int, 0 ≤ a → a ≤ x → 0 ≤ b → b ≤ y → v_fl_worth (3 - j + 1) (x - a) (y - b) hr = Mt hp kn j (x - a) (y - b) := by
    intro a b h1 h2 h3 h4
    unfold v_fl_worth
    have := f4 j (by omega) (x - a) (y - b) (by omega) (by omega) (by omega) (by omega)
    have e2 : 4 - (j : Int) = 3 - j + 1 := by omega
    rw [e2] at this
    exact this
  refine b_fl_leastRow ⟨fl_g (by omega) (by omega) (by omega), fun w ew => ?_⟩
  rw [due] at ew
  subst ew
  have inner : ∀ (d : Nat) (a b : Int), 0 ≤ a → a ≤ a' → 0 ≤ b → (a = a' → b ≤ b') → b + d = y + 1 → (a < a' → r_fl_leastRow_12 (3 - j) x y (Mt hp kn (j + 1) x y) (a + 1) hr K) → r_fl_leastRow_30 (3 - j) x y (Mt hp kn (j + 1) x y) a b hr K := by
    intro d
    induction d with
    | zero =>
      intro a b h1 h2 h3 h4 h5 h6
      refine b_fl_leastRow_30 ⟨by omega, by rw [e56]; unfold qb_in; omega, fun _ => ⟨by unfold qb_in; omega, h6 (by omega)⟩, fun c => absurd (by rw [e56]; omega) c⟩
    | succ d ih =>
      intro a b h1 h2 h3 h4 h5 h6
      refine b_fl_leastRow_30 ⟨by omega, by rw [e56]; unfold qb_in; omega, fun c => ⟨by unfold qb_in; omega, h6 ?_⟩, fun c => ?_⟩
      · rw [e56] at c
        by_cases e : a = a'
        · have := h4 e
          omega
        · omega
      · rw [e56] at c
        have m1 := cs_b (x := a) (y := pz hp kn 0 (3 - j)) (cr := 500) (by omega) hz0 (by decide)
        have m2 := cs_b (x := b) (y := pz hp kn 1 (3 - j)) (cr := 500) (by omega) hz1 (by decide)
        have m3 := Mt_in hP hH kn j (by omega) (x - a) (y - b) (by omega) (by omega)
        rw [p0, p1, nxt a b h1 (by omega) h3 (by omega)]
        refine ⟨by unfold qb_in; omega, by unfold qb_in; omega, by unfold qb_in; omega, by unfold qb_in; omega, by unfold qb_in; omega, fl_g (by omega) (by omega) (by omega), by unfold qb_in; omega, fun v ev2 => ⟨fun e => ⟨by unfold qb_in; omega, by unfold qb_in; omega, ?_⟩, fun e => ⟨by unfold qb_in; omega, ?_⟩⟩⟩
        · have hlr : lr hp kn j x y ((100 * a + b).toNat : Nat) := ⟨a, b, h1, by omega, h3, by omega, by omega, by omega, by unfold vl; rw [← ev2]; exact e⟩
          have hge : ¬ (100 * a + b).toNat < z := fun q => hz2 _ q hlr
          have ee : 100 * a + b = z := by
            by_cases q : a = a'
            · have := h4 q
              omega
            · omega
          rw [ee]; exact hK
        · refine ih a (b + 1) h1 h2 (by omega) (fun q => ?_) (by omega) h6
          have := h4 q
          by_cases r : b = b'
          · exfalso
            apply e
            rw [ev2, q, r]
            exact ev
          · omega
  have outer : ∀ (d : Nat) (a : Int), 0 ≤ a → a + d = a' → r_fl_leastRow_12 (3 - j) x y (Mt hp kn (j + 1) x y) a hr K := by
    intro d
    induction d with
    | zero =>
      intro a h1 h2
      refine b_fl_leastRow_12 ⟨by omega, fun c => absurd c (by rw [e56]; omega), fun _ => inner (y + 1).toNat a 0 h1 (by omega) (by decide) (fun _ => b1) (by omega) (fun c => absurd c (by omega))⟩
    | succ d ih =>
      intro a h1 h2
      refine b_fl_leastRow_12 ⟨by omega, fun c => absurd c (by rw [e56]; omega), fun _ => inner (y + 1).toNat a 0 h1 (by omega) (by decide) (fun _ => b1) (by omega) (fun _ => ih (a + 1) (by omega) (by omega))⟩
  exact outer a'.toNat 0 (by decide) (by omega)
