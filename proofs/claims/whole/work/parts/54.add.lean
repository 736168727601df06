/-! the class takes a draft without a fault into rows -/
theorem fa_end {t : Int → Int} {n p st mx : Int} (hn : 0 ≤ n) (h : fa_v t n 0 p st mx = -6) : 5 ≤ st := by
  simp only [fa_v] at h
  by_cases c : st < 5
  · rw [if_pos c] at h; omega
  · omega
theorem fa_step {t : Int → Int} {n p st mx : Int} {j : Nat} (hp : 0 ≤ p) (h : fa_v t n (j + 1) p st mx = -6) : v_dr_following st (t p) mx ≠ -1 ∧ fa_v t n j (p + 1) (v_dr_following st (t p) mx) (if st = 0 then qb_or mx (qb_shl 1 (v_ac_letterOf (t p))) else mx) = -6 := by
  simp only [fa_v] at h
  by_cases c : v_dr_following st (t p) mx = -1
  · rw [if_pos c] at h; omega
  · rw [if_neg c] at h; exact ⟨c, h⟩
theorem ac_no {s : Int} (h : s < 65 ∨ 70 < s) : v_ac_letterOf s = -6 := by
  unfold v_ac_letterOf v_q_within
  by_cases c : s < 65
  · rw [if_pos c, if_pos rfl]
  · rw [if_neg c, if_pos (show 70 < s by omega), if_pos rfl]
theorem ac_yes {s : Int} (h : 65 ≤ s ∧ s ≤ 70) : v_ac_letterOf s = s - 65 := by
  unfold v_ac_letterOf v_q_within
  rw [if_neg (show ¬ s < 65 by omega), if_neg (show ¬ 70 < s by omega), if_neg (by decide)]
theorem ac_nof {s : Int} (h : s < 104) : v_ac_factOf s = -6 := by
  unfold v_ac_factOf
  rw [if_neg (show ¬ s = 104 by omega), if_neg (show ¬ s = 113 by omega), if_neg (show ¬ s = 115 by omega), if_neg (show ¬ s = 116 by omega), if_neg (show ¬ s = 122 by omega)]
theorem ac_wi {s a b : Int} (h : a ≤ s ∧ s ≤ b) : v_q_within s a b = 1 := v_m_in_1 h
theorem ac_wo {s a b : Int} (h : s < a ∨ b < s) : v_q_within s a b = 0 := v_m_in_0 h
theorem fo_0 {s mx : Int} (h : v_dr_following 0 s mx ≠ -1) : (65 ≤ s ∧ s ≤ 70) ∧ qb_and (qb_shr mx (s - 65)) 1 = 0 ∧ v_dr_following 0 s mx = 1 := by
  unfold v_dr_following at h ⊢
  rw [if_pos rfl] at h ⊢
  by_cases c : v_dr_isNewLetter s mx = 0
  · rw [if_pos c] at h; exact absurd rfl h
  · rw [if_neg c]
    unfold v_dr_isNewLetter at c
    by_cases r : 65 ≤ s ∧ s ≤ 70
    · rw [ac_yes r, if_neg (by omega)] at c
      refine ⟨r, ?_, rfl⟩
      apply Classical.byContradiction
      intro z
      rw [if_neg z] at c; exact c rfl
    · rw [ac_no (by omega), if_pos rfl] at c; exact absurd rfl c
theorem fo_1 {s mx : Int} (h : v_dr_following 1 s mx ≠ -1) : s = 58 ∧ v_dr_following 1 s mx = 2 := by
  unfold v_dr_following at h ⊢
  rw [if_neg (by decide), if_pos rfl] at h ⊢
  by_cases c : s = 58
  · exact ⟨c, if_pos c⟩
  · rw [if_neg c] at h; exact absurd rfl h
theorem fo_2 {s mx : Int} (h : v_dr_following 2 s mx ≠ -1) : (∃ x : Int, (0 ≤ x ∧ x ≤ 4) ∧ v_ac_factOf s = x ∧ s = tx_sign x) ∧ v_dr_following 2 s mx = 3 := by
  unfold v_dr_following at h ⊢
  rw [if_neg (by decide), if_neg (by decide), if_pos rfl] at h ⊢
  by_cases c : v_ac_factOf s = -6
  · rw [if_pos c] at h; exact absurd rfl h
  · refine ⟨?_, if_neg c⟩
    unfold v_ac_factOf at c ⊢
    by_cases c1 : s = 104
    · exact ⟨0, by decide, by rw [if_pos c1], c1⟩
    · rw [if_neg c1] at c ⊢
      by_cases c2 : s = 113
      · exact ⟨4, by decide, by rw [if_pos c2], c2⟩
      · rw [if_neg c2] at c ⊢
        by_cases c3 : s = 115
        · exact ⟨2, by decide, by rw [if_pos c3], c3⟩
        · rw [if_neg c3] at c ⊢
          by_cases c4 : s = 116
          · exact ⟨1, by decide, by rw [if_pos c4], c4⟩
          · rw [if_neg c4] at c ⊢
            by_cases c5 : s = 122
            · exact ⟨3, by decide, by rw [if_pos c5], c5⟩
            · rw [if_neg c5] at c; exact absurd rfl c
theorem fo_3 {s mx : Int} (h : v_dr_following 3 s mx ≠ -1) : (60 ≤ s ∧ s ≤ 62) ∧ v_dr_following 3 s mx = 4 := by
  unfold v_dr_following at h ⊢
  rw [if_neg (by decide), if_neg (by decide), if_neg (by decide), if_pos rfl] at h ⊢
  unfold v_ac_isComparer at h ⊢
  by_cases c : 60 ≤ s ∧ s ≤ 62
  · rw [ac_wi c]; exact ⟨c, rfl⟩
  · rw [ac_wo (by omega)] at h; exact absurd rfl h
theorem fo_4 {s mx : Int} (h : v_dr_following 4 s mx ≠ -1) : (48 ≤ s ∧ s ≤ 57) ∧ v_dr_following 4 s mx = 5 := by
  unfold v_dr_following at h ⊢
  rw [if_neg (by decide), if_neg (by decide), if_neg (by decide), if_neg (by decide), if_pos rfl] at h ⊢
  unfold v_ac_isDigit at h ⊢
  by_cases c : 48 ≤ s ∧ s ≤ 57
  · rw [ac_wi c]; exact ⟨c, rfl⟩
  · rw [ac_wo (by omega)] at h; exact absurd rfl h
theorem fo_5 {st s mx : Int} (hst : 5 ≤ st) (h : v_dr_following st s mx ≠ -1) : (s = 44 ∧ v_dr_following st s mx = 2) ∨ (s = 59 ∧ v_dr_following st s mx = 0) ∨ ((48 ≤ s ∧ s ≤ 57) ∧ st < 8 ∧ v_dr_following st s mx = st + 1) := by
  have e : v_dr_following st s mx = v_dr_behindDigit st s mx := by
    unfold v_dr_following
    rw [if_neg (show ¬ st = 0 by omega), if_neg (show ¬ st = 1 by omega), if_neg (show ¬ st = 2 by omega), if_neg (show ¬ st = 3 by omega), if_neg (show ¬ st = 4 by omega)]
  rw [e] at h ⊢
  unfold v_dr_behindDigit at h ⊢
  by_cases c1 : s = 44
  · exact Or.inl ⟨c1, if_pos c1⟩
  · rw [if_neg c1] at h ⊢
    by_cases c2 : s = 59
    · rw [if_pos c2] at h ⊢
      by_cases c3 : mx = 63
      · rw [if_pos c3] at h; exact absurd rfl h
      · exact Or.inr (Or.inl ⟨c2, if_neg c3⟩)
    · rw [if_neg c2] at h ⊢
      unfold v_ac_isDigit at h ⊢
      by_cases c4 : 48 ≤ s ∧ s ≤ 57
      · rw [ac_wi c4, if_neg (by decide)] at h ⊢
        by_cases c5 : 8 ≤ st
        · rw [if_pos c5] at h; exact absurd rfl h
        · exact Or.inr (Or.inr ⟨c4, by omega, if_neg c5⟩)
      · rw [ac_wo (by omega), if_pos rfl] at h; exact absurd rfl h
/-- one sign of the class's loop -/
theorem add_pass {day r l kz base p : Int} {hq : qb_H} {K : qb_H → Prop} (hp : 0 ≤ p ∧ p < 60) (hpn : p < hq 1 1) (h1 : hq 2 p = 44 ∨ hq 2 p = 59 ∨ hq 2 p = 58) (h : r_ac_add_20 day r l kz base (p + 1) hq K) : r_ac_add_20 day r l kz base p hq K := by
  have e1 : v_ac_letterOf (hq 2 p) = -6 := ac_no (by omega)
  have e2 : v_ac_factOf (hq 2 p) = -6 := ac_nof (by omega)
  have e3 : v_ac_isComparer (hq 2 p) = 0 := ac_wo (by omega)
  have e4 : v_ac_isDigit (hq 2 p) = 0 := ac_wo (by omega)
  refine b_ac_add_20 ⟨fun c => absurd c (by omega), fun _ => ⟨hp, fun c => by unfold qb_in; omega, fun _ => fun _ => ⟨fun _ c => absurd e4 c, fun c => absurd e3 c⟩, fun y1 y2 y3 hy w1 w2 w3 w4 => ?_⟩⟩
  rw [e1, if_pos rfl] at w1 w2 w3 w4
  rw [e2, if_pos rfl] at w1 w3 w4
  rw [e3, if_pos rfl] at w1 w4
  rw [e4, if_pos rfl] at w4
  rw [w1, w2, w3, w4]
  exact h
theorem add_letter {day r l kz base p : Int} {hq : qb_H} {K : qb_H → Prop} (hp : 0 ≤ p ∧ p < 60) (hpn : p < hq 1 1) (h1 : 65 ≤ hq 2 p ∧ hq 2 p ≤ 70) (h : r_ac_add_20 day r (hq 2 p - 65) kz base (p + 1) hq K) : r_ac_add_20 day r l kz base p hq K := by
  have e1 : v_ac_letterOf (hq 2 p) = hq 2 p - 65 := ac_yes h1
  have e0 : ¬ hq 2 p - 65 = -6 := by omega
  refine b_ac_add_20 ⟨fun c => absurd c (by omega), fun _ => ⟨hp, fun c => by unfold qb_in; omega, fun c => absurd (e1.symm.trans c) e0, fun y1 y2 y3 hy w1 w2 w3 w4 => ?_⟩⟩
  rw [e1, if_neg e0] at w1 w2 w3 w4
  rw [w1, w2, w3, w4]
  exact h
theorem add_fact {day r l kz base p x : Int} {hq : qb_H} {K : qb_H → Prop} (hp : 0 ≤ p ∧ p < 60) (hpn : p < hq 1 1) (hx : 0 ≤ x ∧ x ≤ 4) (h1 : hq 2 p = tx_sign x) (h2 : v_ac_factOf (hq 2 p) = x) (h : r_ac_add_20 day r l x base (p + 1) hq K) : r_ac_add_20 day r l kz base p hq K := by
  have hb : 104 ≤ hq 2 p ∧ hq 2 p ≤ 122 := by
    rw [h1]
    have h5 : x = 0 ∨ x = 1 ∨ x = 2 ∨ x = 3 ∨ x = 4 := by omega
    rcases h5 with e | e | e | e | e <;> subst e <;> decide
  have e1 : v_ac_letterOf (hq 2 p) = -6 := ac_no (by omega)
  have e0 : ¬ x = -6 := by omega
  refine b_ac_add_20 ⟨fun c => absurd c (by omega), fun _ => ⟨hp, fun c => by unfold qb_in; omega, fun _ c => absurd (h2.symm.trans c) e0, fun y1 y2 y3 hy w1 w2 w3 w4 => ?_⟩⟩
  rw [e1, if_pos rfl] at w1 w2 w3 w4
  rw [h2, if_neg e0] at w1 w3 w4
  rw [w1, w2, w3, w4]
  exact h
def add_row (hq : qb_H) (i l kz s : Int) : qb_H := qb_st (qb_st (qb_st (qb_st hq 6 i l) 7 i kz) 8 i s) 9 i 0
theorem add_cmp {day r l kz base p : Int} {hq : qb_H} {K : qb_H → Prop} (hp : 0 ≤ p ∧ p < 60) (hpn : p < hq 1 1) (hr : 0 ≤ r ∧ r < 15) (hb : 0 ≤ base ∧ base ≤ 105) (h1 : 60 ≤ hq 2 p ∧ hq 2 p ≤ 62) (h : r_ac_add_20 day (r + 1) l kz base (p + 1) (add_row hq (base + r) l kz (hq 2 p)) K) : r_ac_add_20 day r l kz base p hq K := by
  have e1 : v_ac_letterOf (hq 2 p) = -6 := ac_no (by omega)
  have e2 : v_ac_factOf (hq 2 p) = -6 := ac_nof (by omega)
  have e3 : v_ac_isComparer (hq 2 p) = 1 := ac_wi h1
  have e4 : v_ac_isDigit (hq 2 p) = 0 := ac_wo (by omega)
  refine b_ac_add_20 ⟨fun c => absurd c (by omega), fun _ => ⟨hp, fun c => by unfold qb_in; omega, fun _ => fun _ => ⟨fun _ c => absurd e4 c, fun _ => ⟨fun c => absurd c (by omega), fun _ => ⟨by unfold qb_in; omega, by omega, by unfold qb_in; omega⟩⟩⟩, fun y1 y2 y3 hy w1 w2 w3 w4 => ?_⟩⟩
  have e5 : ¬ (1 : Int) = 0 := by decide
  have e6 : ¬ 15 ≤ r := by omega
  rw [e1, if_pos rfl] at w1 w2 w3 w4
  rw [e2, if_pos rfl] at w1 w3 w4
  rw [e3, if_neg e5, if_neg e6] at w1 w4
  rw [w1, w2, w3, w4]
  exact h
theorem add_dig {day r l kz base p : Int} {hq : qb_H} {K : qb_H → Prop} (hp : 0 ≤ p ∧ p < 60) (hpn : p < hq 1 1) (hr : 0 < r ∧ r ≤ 15) (hb : 0 ≤ base ∧ base ≤ 105) (h1 : 48 ≤ hq 2 p ∧ hq 2 p ≤ 57) (hv : 0 ≤ hq 9 (base + r - 1) ∧ hq 9 (base + r - 1) ≤ 999) (h : r_ac_add_20 day r l kz base (p + 1) (qb_st hq 9 (base + r - 1) (hq 9 (base + r - 1) * 10 + hq 2 p - 48)) K) : r_ac_add_20 day r l kz base p hq K := by
  have e1 : v_ac_letterOf (hq 2 p) = -6 := ac_no (by omega)
  have e2 : v_ac_factOf (hq 2 p) = -6 := ac_nof (by omega)
  have e3 : v_ac_isComparer (hq 2 p) = 0 := ac_wo (by omega)
  have e4 : v_ac_isDigit (hq 2 p) = 1 := ac_wi h1
  have e5 : ¬ (1 : Int) = 0 := by decide
  have e6 : ¬ r ≤ 0 := by omega
  refine b_ac_add_20 ⟨fun c => absurd c (by omega), fun _ => ⟨hp, fun c => by unfold qb_in; omega, fun _ => fun _ => ⟨fun _ _ _ => ⟨by unfold qb_in; omega, by unfold qb_in; omega, by omega, by unfold qb_in; omega, by unfold qb_in; omega, by unfold qb_in; omega⟩, fun c => absurd e3 c⟩, fun y1 y2 y3 hy w1 w2 w3 w4 => ?_⟩⟩
  rw [e1, if_pos rfl] at w1 w2 w3 w4
  rw [e2, if_pos rfl] at w1 w3 w4
  rw [e3, if_pos rfl] at w1 w4
  rw [e4, if_neg e5, if_neg e6] at w4
  rw [w1, w2, w3, w4]
  exact h
