/-! a whole draft into rows -/
def af_0 (hp hq : qb_H) : Prop := ∀ c : Nat, c ≠ 6 → c ≠ 7 → c ≠ 8 → c ≠ 9 → hq c = hp c
def af_r (b : Int) (hq hr : qb_H) : Prop := af_0 hq hr ∧ ∀ i : Int, i < b → hr 6 i = hq 6 i ∧ hr 7 i = hq 7 i ∧ hr 8 i = hq 8 i ∧ hr 9 i = hq 9 i
theorem af_r.tr {b b' : Int} {x y z : qb_H} (hb : b ≤ b') (h : af_r b x y) (h' : af_r b' y z) : af_r b x z := by
  refine ⟨fun c c1 c2 c3 c4 => (h'.1 c c1 c2 c3 c4).trans (h.1 c c1 c2 c3 c4), fun i hi => ?_⟩
  have h1 := h.2 i hi
  have h2 := h'.2 i (by omega)
  rw [h2.1, h2.2.1, h2.2.2.1, h2.2.2.2]
  exact h1
theorem af_r.rf {b : Int} {x : qb_H} : af_r b x x := ⟨fun _ _ _ _ _ => rfl, fun _ _ => ⟨rfl, rfl, rfl, rfl⟩⟩
theorem af_row {base b l kz s : Int} {hq : qb_H} (h : b ≤ base) : af_r b hq (add_row hq base l kz s) := by
  unfold add_row
  refine ⟨fun c c1 c2 c3 c4 => by rw [qb_st_ne c4, qb_st_ne c3, qb_st_ne c2, qb_st_ne c1], fun i hi => ?_⟩
  have : ¬ i = base := by omega
  simp [qb_st, this]
theorem af_num {base b v : Int} {hq : qb_H} (h : b ≤ base) : af_r b hq (qb_st hq 9 base v) := by
  refine ⟨fun c c1 c2 c3 c4 => by rw [qb_st_ne c4], fun i hi => ?_⟩
  have : ¬ i = base := by omega
  simp [qb_st, this]
def add_fin (hq : qb_H) (a day R : Int) : qb_H := qb_st (qb_st (qb_st hq 4 a day) 5 a R) 3 6 (a + 1)
theorem tx_row_cg {t : Int → Int} {a r k : Int} {d : Nat} {hq hr : qb_H} {b : Int} (hf : af_r b hq hr) (hb : a * 15 + r < b) (h : tx_row t (ac_kd hq a) (ac_cp hq a) (ac_nm hq a) r k d) : tx_row t (ac_kd hr a) (ac_cp hr a) (ac_nm hr a) r k d := by
  have h1 := hf.2 (a * 15 + r) hb
  unfold tx_row ac_kd ac_cp ac_nm at h ⊢
  rw [h1.2.1, h1.2.2.1, h1.2.2.2]
  exact h
def add_P2 (hp : qb_H) (a day : Int) (n : Nat) (jm : Nat) : Prop :=
  ∀ (j : Nat) (p r l kz : Int) (sd : Nat) (hq : qb_H) (K : qb_H → Prop), j ≤ jm → p + j = n → 0 ≤ p → 0 ≤ r → 4 * r + 2 ≤ p → (0 ≤ l ∧ l ≤ 5) → af_0 hp hq → fa_v (hp 2) n j p 2 sd = -6 → sd < 64 → sd.testBit l.toNat = true →
    (∀ (hr : qb_H) (f : Nat), af_r (a * 15 + r) hq hr → tx_to (hp 2) n (ac_lt hr a) (ac_kd hr a) (ac_cp hr a) (ac_nm hr a) f r p → ac_lt hr a r = l → r + f ≤ 14 → K (add_fin hr a day (r + f))) → r_ac_add_20 day r l kz (a * 15) p hq K
def add_Pd (hp : qb_H) (a day : Int) (n : Nat) (jm : Nat) : Prop :=
  ∀ (j : Nat) (k r l kz : Int) (d sd : Nat) (hq : qb_H) (K : qb_H → Prop), j ≤ jm → k + 2 + d + j = n → 0 ≤ k → 0 ≤ r → 4 * r + 2 ≤ k → (0 ≤ l ∧ l ≤ 5) → af_0 hp hq → (1 ≤ d ∧ d ≤ 4) → tx_row (hp 2) (ac_kd hq a) (ac_cp hq a) (ac_nm hq a) r k d → ac_lt hq a r = l → fa_v (hp 2) n j (k + 2 + d) (4 + d) sd = -6 → sd < 64 → sd.testBit l.toNat = true →
    (∀ (hr : qb_H) (f : Nat), af_r (a * 15 + r) hq hr → tx_to (hp 2) n (ac_lt hr a) (ac_kd hr a) (ac_cp hr a) (ac_nm hr a) f r k → ac_lt hr a r = l → r + f ≤ 14 → K (add_fin hr a day (r + f))) → r_ac_add_20 day (r + 1) l kz (a * 15) (k + 2 + d) hq K
theorem add_both {hp : qb_H} {a day : Int} {n : Nat} (ha : 0 ≤ a ∧ a < 8) (hpa : hp 3 6 = a) (hn : hp 1 1 = n) (hn60 : n ≤ 60) : ∀ jm : Nat, add_P2 hp a day n jm ∧ add_Pd hp a day n jm := by
  intro jm
  induction jm with
  | zero =>
    constructor
    · intro j p r l kz sd hq K h1 h2 h3 h4 h5 h6 h7 h8
      have e : j = 0 := by omega
      subst e
      have := fa_end (by omega) h8
      omega
    · intro j k r l kz d sd hq K h1 h2 h3 h4 h5 h6 h7 h8 h9 h10 h11 h12 h13 hK
      have e : j = 0 := by omega
      subst e
      refine b_ac_add_20 ⟨fun _ => ?_, fun c => absurd ?_ c⟩
      · rw [h7 3 (by decide) (by decide) (by decide) (by decide), hpa]
        refine ⟨ha, hK hq 1 af_r.rf ?_ h10 (by omega)⟩
        exact ⟨d, h9, Or.inl ⟨rfl, by omega⟩⟩
      · rw [h7 1 (by decide) (by decide) (by decide) (by decide), hn]; omega
  | succ jm ih =>
    obtain ⟨ih2, ihd⟩ := ih
    constructor
    · intro j p r l kz sd hq K h1 h2 h3 h4 h5 h6 h7 h8 h9 h10 hK
      obtain ⟨j1, rfl⟩ : ∃ j1, j = j1 + 1 := ⟨j - 1, by
        have : j ≠ 0 := fun e => by
          subst e
          have := fa_end (by omega) h8
          omega
        omega⟩
      obtain ⟨s1, s2⟩ := fa_step h3 h8
      obtain ⟨⟨x, x1, x2, x3⟩, x4⟩ := fo_2 s1
      rw [x4, if_neg (by decide)] at s2
      obtain ⟨j2, rfl⟩ : ∃ j2, j1 = j2 + 1 := ⟨j1 - 1, by
        have : j1 ≠ 0 := fun e => by
          subst e
          have := fa_end (by omega) s2
          omega
        omega⟩
      obtain ⟨u1, u2⟩ := fa_step (by omega) s2
      obtain ⟨v1, v2⟩ := fo_3 u1
      rw [v2, if_neg (by decide)] at u2
      obtain ⟨j3, rfl⟩ : ∃ j3, j2 = j3 + 1 := ⟨j2 - 1, by
        have : j2 ≠ 0 := fun e => by
          subst e
          have := fa_end (by omega) u2
          omega
        omega⟩
      obtain ⟨y1, y2⟩ := fa_step (by omega) u2
      obtain ⟨z1, z2⟩ := fo_4 y1
      rw [z2, if_neg (by decide)] at y2
      have q2 : hq 2 = hp 2 := h7 2 (by decide) (by decide) (by decide) (by decide)
      have q1 : hq 1 = hp 1 := h7 1 (by decide) (by decide) (by decide) (by decide)
      refine add_fact (x := x) (by omega) (by rw [q1, hn]; omega) x1 (by rw [q2]; exact x3) (by rw [q2]; exact x2) ?_
      refine add_cmp (by omega) (by rw [q1, hn]; omega) (by omega) (by omega) (by rw [q2]; exact v1) ?_
      rw [q2]
      have f1 := af_row (base := a * 15 + r) (b := a * 15 + r) (l := l) (kz := x) (s := hp 2 (p + 1)) (hq := hq) (Int.le_refl _)
      have g6 : add_row hq (a * 15 + r) l x (hp 2 (p + 1)) 6 (a * 15 + r) = l := by simp [add_row, qb_st]
      have g7 : add_row hq (a * 15 + r) l x (hp 2 (p + 1)) 7 (a * 15 + r) = x := by simp [add_row, qb_st]
      have g8 : add_row hq (a * 15 + r) l x (hp 2 (p + 1)) 8 (a * 15 + r) = hp 2 (p + 1) := by simp [add_row, qb_st]
      have g9 : add_row hq (a * 15 + r) l x (hp 2 (p + 1)) 9 (a * 15 + r) = 0 := by simp [add_row, qb_st]
      generalize add_row hq (a * 15 + r) l x (hp 2 (p + 1)) = hs at f1 g6 g7 g8 g9 ⊢
      have q2' : hs 2 = hp 2 := (f1.1 2 (by decide) (by decide) (by decide) (by decide)).trans q2
      have q1' : hs 1 = hp 1 := (f1.1 1 (by decide) (by decide) (by decide) (by decide)).trans q1
      have e9 : a * 15 + (r + 1) - 1 = a * 15 + r := by omega
      refine add_dig (by omega) (by rw [q1', hn]; omega) (by omega) (by omega) (by rw [q2']; exact z1) (by rw [e9, g9]; decide) ?_
      rw [e9, g9, q2']
      have f2 := af_num (base := a * 15 + r) (b := a * 15 + r) (v := 0 * 10 + hp 2 (p + 1 + 1) - 48) (hq := hs) (Int.le_refl _)
      have k6 : qb_st hs 9 (a * 15 + r) (0 * 10 + hp 2 (p + 1 + 1) - 48) 6 (a * 15 + r) = l := by simp [qb_st, g6]
      have k7 : qb_st hs 9 (a * 15 + r) (0 * 10 + hp 2 (p + 1 + 1) - 48) 7 (a * 15 + r) = x := by simp [qb_st, g7]
      have k8 : qb_st hs 9 (a * 15 + r) (0 * 10 + hp 2 (p + 1 + 1) - 48) 8 (a * 15 + r) = hp 2 (p + 1) := by simp [qb_st, g8]
      have k9 : qb_st hs 9 (a * 15 + r) (0 * 10 + hp 2 (p + 1 + 1) - 48) 9 (a * 15 + r) = hp 2 (p + 1 + 1) - 48 := by simp [qb_st]
      generalize qb_st hs 9 (a * 15 + r) (0 * 10 + hp 2 (p + 1 + 1) - 48) = hu at f2 k6 k7 k8 k9 ⊢
      have f3 := f1.tr (Int.le_refl _) f2
      have e10 : p + 1 + 1 + 1 = p + 2 + ((1 : Nat) : Int) := by omega
      rw [e10] at y2 ⊢
      refine ihd j3 p r l x 1 sd hu K (by omega) (by omega) h3 h4 h5 h6 (fun c c1 c2 c3 c4 => (f3.1 c c1 c2 c3 c4).trans (h7 c c1 c2 c3 c4)) (by omega) ?_ k6 y2 h9 h10 (fun hr f w1 w2 w3 w4 => hK hr f (f3.tr (Int.le_refl _) w1) w2 w3 w4)
      unfold tx_row ac_kd ac_cp ac_nm
      rw [k7, k8, k9]
      refine ⟨x1, x3, rfl, v1, by omega, fun i hi => ?_, ?_⟩
      · have : i = 0 := by omega
        subst this
        rw [show p + 2 + ((0 : Nat) : Int) = p + 1 + 1 by omega]
        exact z1
      · simp only [tx_val]
        rw [show p + 2 + ((0 : Nat) : Int) = p + 1 + 1 by omega]
        omega
    · intro j k r l kz d sd hq K h1 h2 h3 h4 h5 h6 h7 h8 h9 h10 h11 h12 h13 hK
      have q2 : hq 2 = hp 2 := h7 2 (by decide) (by decide) (by decide) (by decide)
      have q1 : hq 1 = hp 1 := h7 1 (by decide) (by decide) (by decide) (by decide)
      cases j with
      | zero => exact ihd 0 k r l kz d sd hq K (by omega) h2 h3 h4 h5 h6 h7 h8 h9 h10 h11 h12 h13 hK
      | succ j1 =>
        obtain ⟨s1, s2⟩ := fa_step (by omega) h11
        rw [if_neg (show ¬ (4 : Int) + d = 0 by omega)] at s2
        rcases fo_5 (by omega) s1 with ⟨c1, c2⟩ | ⟨c1, c2⟩ | ⟨c1, c2, c3⟩
        · rw [c2] at s2
          refine add_pass (by omega) (by rw [q1, hn]; omega) (by rw [q2]; omega) ?_
          refine ih2 j1 (k + 2 + d + 1) (r + 1) l kz sd hq K (by omega) (by omega) (by omega) (by omega) (by omega) h6 h7 s2 h12 h13 (fun hr f w1 w2 w3 w4 => ?_)
          have w5 : ac_lt hr a r = l := by
            rw [← h10]
            exact (w1.2 (a * 15 + r) (by omega)).1
          have := hK hr (f + 1) (af_r.tr (b' := a * 15 + (r + 1)) (by omega) af_r.rf w1) ⟨d, tx_row_cg w1 (by omega) h9, Or.inr (Or.inl ⟨c1, by rw [w3, w5], w2⟩)⟩ w5 (by omega)
          rw [show r + ((f + 1 : Nat) : Int) = r + 1 + f by omega] at this
          exact this
        · rw [c2] at s2
          refine add_pass (by omega) (by rw [q1, hn]; omega) (by rw [q2]; omega) ?_
          obtain ⟨j2, rfl⟩ : ∃ j2, j1 = j2 + 1 := ⟨j1 - 1, by
            have : j1 ≠ 0 := fun e => by
              subst e
              have := fa_end (by omega) s2
              omega
            omega⟩
          obtain ⟨u1, u2⟩ := fa_step (by omega) s2
          obtain ⟨v1, v2, v3⟩ := fo_0 u1
          rw [v3, if_pos rfl, ac_yes v1] at u2
          obtain ⟨j3, rfl⟩ : ∃ j3, j2 = j3 + 1 := ⟨j2 - 1, by
            have : j2 ≠ 0 := fun e => by
              subst e
              have := fa_end (by omega) u2
              omega
            omega⟩
          obtain ⟨y1, y2⟩ := fa_step (by omega) u2
          obtain ⟨z1, z2⟩ := fo_1 y1
          rw [z2, if_neg (by decide)] at y2
          obtain ⟨m, hm⟩ : ∃ m : Nat, hp 2 (k + 2 + d + 1) - 65 = m := ⟨_, (Int.toNat_of_nonneg (show 0 ≤ hp 2 (k + 2 + d + 1) - 65 by omega)).symm⟩
          rw [hm, bt_test (by omega) (by omega)] at v2
          have hmb : ¬ sd.testBit m = true := fun z => by rw [if_pos z] at v2; omega
          have hor := bt_or (a := sd) (b := 2 ^ m) (by omega) (bt_shl (by omega)).2
          rw [hm, (bt_shl (k := m) (by omega)).1, hor.1] at y2
          have hor2 : sd ||| 2 ^ m < 64 := by
            have h1 : 2 ^ m < 2 ^ 6 := Nat.pow_lt_pow_right (by decide) (by omega)
            have : sd ||| 2 ^ m < 2 ^ 6 := Nat.or_lt_two_pow (by omega) h1
            exact this
          refine add_letter (by omega) (by rw [q1, hn]; omega) (by rw [q2]; exact v1) ?_
          refine add_pass (by omega) (by rw [q1, hn]; omega) (by rw [q2]; omega) ?_
          rw [q2, hm]
          have e10 : k + 2 + (d : Int) + 1 + 1 + 1 = k + 2 + d + 3 := by omega
          rw [e10] at y2 ⊢
          refine ih2 j3 (k + 2 + d + 3) (r + 1) m kz (sd ||| 2 ^ m) hq K (by omega) (by omega) (by omega) (by omega) (by omega) (by omega) h7 y2 hor2 ?_ (fun hr f w1 w2 w3 w4 => ?_)
          · rw [Int.toNat_natCast, bt_put]; simp
          · have w5 : ac_lt hr a r = l := by
              rw [← h10]
              exact (w1.2 (a * 15 + r) (by omega)).1
            have hne : (m : Int) ≠ l := fun e => by
              rw [← e, Int.toNat_natCast] at h13
              exact hmb h13
            have := hK hr (f + 1) (af_r.tr (b' := a * 15 + (r + 1)) (by omega) af_r.rf w1) ⟨d, tx_row_cg w1 (by omega) h9, Or.inr (Or.inr ⟨c1, by rw [w3]; omega, by rw [show k + 2 + (d : Int) + 2 = k + 2 + d + 1 + 1 by omega]; exact z1, by rw [w3, w5]; exact hne, by rw [w3]; omega, w2⟩)⟩ w5 (by omega)
            rw [show r + ((f + 1 : Nat) : Int) = r + 1 + f by omega] at this
            exact this
        · rw [c3] at s2
          have t1 := h9
          unfold tx_row at t1
          have hvb := tx_vb (t := hp 2) (k := k + 2) (d := d) (by omega) t1.2.2.2.2.2.1 d (Nat.le_refl d)
          have hnm : ac_nm hq a r = tx_val (hp 2) (k + 2) d := t1.2.2.2.2.2.2
          have e9 : a * 15 + (r + 1) - 1 = a * 15 + r := by omega
          have hnm2 : hq 9 (a * 15 + r) = tx_val (hp 2) (k + 2) d := hnm
          refine add_dig (by omega) (by rw [q1, hn]; omega) (by omega) (by omega) (by rw [q2]; exact c1) (by rw [e9, hnm2]; exact ⟨hvb.1, hvb.2.2.2.2.1 (by omega)⟩) ?_
          rw [e9, hnm2, q2]
          have f2 := af_num (base := a * 15 + r) (b := a * 15 + r) (v := tx_val (hp 2) (k + 2) d * 10 + hp 2 (k + 2 + d) - 48) (hq := hq) (Int.le_refl _)
          have k6 : qb_st hq 9 (a * 15 + r) (tx_val (hp 2) (k + 2) d * 10 + hp 2 (k + 2 + d) - 48) 6 = hq 6 := qb_st_ne (by decide)
          have k7 : qb_st hq 9 (a * 15 + r) (tx_val (hp 2) (k + 2) d * 10 + hp 2 (k + 2 + d) - 48) 7 = hq 7 := qb_st_ne (by decide)
          have k8 : qb_st hq 9 (a * 15 + r) (tx_val (hp 2) (k + 2) d * 10 + hp 2 (k + 2 + d) - 48) 8 = hq 8 := qb_st_ne (by decide)
          have k9 : qb_st hq 9 (a * 15 + r) (tx_val (hp 2) (k + 2) d * 10 + hp 2 (k + 2 + d) - 48) 9 (a * 15 + r) = tx_val (hp 2) (k + 2) d * 10 + hp 2 (k + 2 + d) - 48 := by simp [qb_st]
          generalize qb_st hq 9 (a * 15 + r) (tx_val (hp 2) (k + 2) d * 10 + hp 2 (k + 2 + d) - 48) = hu at f2 k6 k7 k8 k9 ⊢
          have e10 : k + 2 + (d : Int) + 1 = k + 2 + ((d + 1 : Nat) : Int) := by omega
          have e11 : (4 : Int) + d + 1 = 4 + ((d + 1 : Nat) : Int) := by omega
          rw [e10, e11] at s2
          rw [e10]
          refine ihd j1 k r l kz (d + 1) sd hu K (by omega) (by omega) h3 h4 h5 h6 (fun c c1 c2 c3 c4 => (f2.1 c c1 c2 c3 c4).trans (h7 c c1 c2 c3 c4)) (by omega) ?_ (by unfold ac_lt; rw [k6]; exact h10) s2 h12 h13 (fun hr f w1 w2 w3 w4 => hK hr f (f2.tr (Int.le_refl _) w1) w2 w3 w4)
          unfold tx_row ac_kd ac_cp ac_nm
          rw [k7, k8, k9]
          refine ⟨t1.1, t1.2.1, t1.2.2.1, t1.2.2.2.1, by omega, fun i hi => ?_, ?_⟩
          · by_cases e : i = d
            · rw [e]; exact c1
            · exact t1.2.2.2.2.2.1 i (by omega)
          · simp only [tx_val]; omega
