/-! grades of an act -/
def gv (lt : Int → Int) (i : Int) : Nat → Int → Int → Int
  | 0, _, n => if i = -1 then n else -6
  | f + 1, r, n => if r = 0 ∨ lt r ≠ lt (r - 1) then (if n = i then lt r else gv lt i f (r + 1) (n + 1)) else gv lt i f (r + 1) n
theorem ac_begins {hp : qb_H} {a r : Int} : (v_ac_beginsGrade a r hp = 0 → ¬ (r = 0 ∨ ac_lt hp a r ≠ ac_lt hp a (r - 1))) ∧ (¬ v_ac_beginsGrade a r hp = 0 → (r = 0 ∨ ac_lt hp a r ≠ ac_lt hp a (r - 1))) := by
  have e3 : ac_lt hp a (r - 1) = hp 6 (a * 15 + r - 1) := by
    unfold ac_lt; congr 1; omega
  unfold v_ac_beginsGrade
  rw [e3]
  unfold ac_lt
  by_cases c : r = 0
  · rw [if_pos c]
    exact ⟨fun h => absurd h (by decide), fun _ => Or.inl c⟩
  · rw [if_neg c]
    by_cases d : hp 6 (a * 15 + r) = hp 6 (a * 15 + r - 1)
    · rw [if_pos d]
      exact ⟨fun _ h => h.elim c (fun z => z d), fun h => absurd rfl h⟩
    · rw [if_neg d]
      exact ⟨fun h => absurd h (by decide), fun _ => Or.inr d⟩
theorem ac_grades_loop {hp : qb_H} {a : Int} (ha : 0 ≤ a ∧ a < 8) (hR : 1 ≤ hp 5 a ∧ hp 5 a ≤ 14) {K : Int → qb_H → Prop} :
    ∀ (f : Nat) (r n : Int), 0 ≤ r → r + f = hp 5 a → (0 ≤ n ∧ n ≤ r) → K (gv (ac_lt hp a) (-1) f r n) hp → r_ac_gradesOn_11 a n r hp K := by
  intro f
  induction f with
  | zero =>
    intro r n h0 h1 h2 hK
    exact b_ac_gradesOn_11 ⟨fun c => absurd c (by omega), fun _ => ⟨ha, fun _ => hK, fun c => absurd (by omega) c⟩⟩
  | succ f ih =>
    intro r n h0 h1 h2 hK
    have hb := ac_begins (hp := hp) (a := a) (r := r)
    refine b_ac_gradesOn_11 ⟨fun c => absurd c (by omega), fun _ => ⟨ha, fun c => absurd c (by omega), fun _ => ⟨?_, fun _ => by unfold qb_in; omega, fun y e => ⟨by unfold qb_in; omega, ?_⟩⟩⟩⟩
    · unfold g_ac_beginsGrade qb_in; omega
    · simp only [gv] at hK
      by_cases c : v_ac_beginsGrade a r hp = 0
      · rw [if_neg (hb.1 c)] at hK
        rw [if_pos c] at e
        rw [e]
        exact ih (r + 1) n (by omega) (by omega) (by omega) hK
      · rw [if_pos (hb.2 c), if_neg (show ¬ n = -1 by omega)] at hK
        rw [if_neg c] at e
        rw [e]
        exact ih (r + 1) (n + 1) (by omega) (by omega) (by omega) hK
theorem ac_grade_loop {hp : qb_H} {a i : Int} (ha : 0 ≤ a ∧ a < 8) (hi : i ≠ -1) (hR : 1 ≤ hp 5 a ∧ hp 5 a ≤ 14) {K : Int → qb_H → Prop} :
    ∀ (f : Nat) (r n : Int), 0 ≤ r → r + f = hp 5 a → (0 ≤ n ∧ n ≤ r) → K (gv (ac_lt hp a) i f r n) hp → r_ac_gradeAt_12 i a n r hp K := by
  intro f
  induction f with
  | zero =>
    intro r n h0 h1 h2 hK
    simp only [gv] at hK
    rw [if_neg hi] at hK
    exact b_ac_gradeAt_12 ⟨fun c => absurd c (by omega), fun _ => ⟨ha, fun _ => hK, fun c => absurd (by omega) c⟩⟩
  | succ f ih =>
    intro r n h0 h1 h2 hK
    have hb := ac_begins (hp := hp) (a := a) (r := r)
    simp only [gv] at hK
    refine b_ac_gradeAt_12 ⟨fun c => absurd c (by omega), fun _ => ⟨ha, fun c => absurd c (by omega), fun _ => ⟨?_, fun c => ⟨by unfold qb_in; omega, ?_⟩, fun c => ⟨fun d => ⟨by unfold qb_in; omega, by unfold qb_in; omega, by omega, ?_⟩, fun d => ⟨by unfold qb_in; omega, by unfold qb_in; omega, ?_⟩⟩⟩⟩⟩
    · unfold g_ac_beginsGrade qb_in; omega
    · rw [if_neg (hb.1 c)] at hK
      exact ih (r + 1) n (by omega) (by omega) (by omega) hK
    · rw [if_pos (hb.2 c), if_pos d] at hK
      exact hK
    · rw [if_pos (hb.2 c), if_neg d] at hK
      exact ih (r + 1) (n + 1) (by omega) (by omega) (by omega) hK
/-- signs that are no letters are passed -/
theorem mg_skip {hp : qb_H} {a i n : Int} (ha : 0 ≤ a ∧ a < 8) (h60 : hp 63 a ≤ 60) {K : Int → qb_H → Prop} : ∀ (j : Nat) (k : Int), 0 ≤ k → k + j ≤ hp 63 a → (∀ l : Nat, l < j → v_m_in (ac_t hp a (k + l)) 65 70 = 0) → r_m_grade_22 i a n (k + j) hp K → r_m_grade_22 i a n k hp K := by
  intro j
  induction j with
  | zero => intro k h0 h1 h2 h; simpa using h
  | succ j ih =>
    intro k h0 h1 h2 h
    have h3 := h2 0 (by omega)
    have e0 : hp 64 (60 * a + k) = ac_t hp a (k + ((0 : Nat) : Int)) := by
      unfold ac_t; congr 1; omega
    refine b_m_grade_22 ⟨fun c => absurd c (by omega), fun _ => ⟨ha, fun c => absurd c (by omega), fun _ => ⟨by unfold qb_in; omega, by unfold qb_in; omega, by omega, fun y e => ?_⟩⟩⟩
    rw [e, e0, h3]
    refine ⟨fun _ => ⟨by unfold qb_in; omega, ih (k + 1) (by omega) (by omega) (fun l hl => ?_) ?_⟩, fun c => absurd rfl c⟩
    · have := h2 (l + 1) (by omega)
      rw [show k + ((l + 1 : Nat) : Int) = k + 1 + l by omega] at this
      exact this
    · rw [show k + ((j + 1 : Nat) : Int) = k + 1 + j by omega] at h
      exact h
theorem mg_loop {hp : qb_H} {a i : Int} (ha : 0 ≤ a ∧ a < 8) (h60 : hp 63 a ≤ 60) {K : Int → qb_H → Prop} :
    ∀ (f : Nat) (r k n : Int), 0 ≤ k → 0 ≤ r → (0 ≤ n ∧ n ≤ k) → tx_to (ac_t hp a) (hp 63 a) (ac_lt hp a) (ac_kd hp a) (ac_cp hp a) (ac_nm hp a) f r k →
      K (gv (ac_lt hp a) i (f - 1) (r + 1) n) hp → r_m_grade_22 i a n k hp K := by
  intro f
  induction f with
  | zero => intro r k n h0 h1 hn h; exact absurd h (by simp [tx_to])
  | succ f ih =>
    intro r k n h0 h1 hn ht hK
    simp only [tx_to] at ht
    obtain ⟨d, ⟨t1, t2, t3, t4, t5, t6, t7⟩, h2⟩ := ht
    simp only [Nat.add_sub_cancel] at hK
    have hkm : k + 2 + d ≤ hp 63 a := by
      rcases h2 with h2 | h2 | h2
      · omega
      · have := tx_lt _ _ _ h2.2.2; omega
      · have := tx_lt _ _ _ h2.2.2.2.2.2; omega
    have hpass : ∀ l : Nat, l < 2 + d → v_m_in (ac_t hp a (k + l)) 65 70 = 0 := by
      intro l hl
      by_cases l0 : l = 0
      · rw [l0, show k + ((0 : Nat) : Int) = k by omega, t2]
        exact (tx_sign_is _ t1).1
      · by_cases l1 : l = 1
        · rw [l1, show k + ((1 : Nat) : Int) = k + 1 by omega, t3]
          exact v_m_in_0 (by omega)
        · have := t6 (l - 2) (by omega)
          rw [show k + 2 + ((l - 2 : Nat) : Int) = k + l by omega] at this
          exact v_m_in_0 (by omega)
    have e7 : k + ((2 + d : Nat) : Int) = k + 2 + d := by omega
    rcases h2 with h2 | h2 | h2
    · refine mg_skip ha h60 (2 + d) k h0 (by omega) hpass ?_
      rw [h2.1] at hK
      simp only [gv] at hK
      refine b_m_grade_22 ⟨fun c => absurd c (by omega), fun _ => ⟨ha, fun _ y e => by rw [e]; exact hK, fun c => absurd (by omega) c⟩⟩
    · obtain ⟨u1, u2, u3⟩ := h2
      have hl2 := tx_lt _ _ _ u3
      obtain ⟨f', rfl⟩ : ∃ f', f = f' + 1 := ⟨f - 1, by omega⟩
      refine mg_skip ha h60 (2 + d + 1) k h0 (by omega) (fun l hl => ?_) ?_
      · by_cases c : l < 2 + d
        · exact hpass l c
        · rw [show k + (l : Int) = k + 2 + d by omega, u1]; exact v_m_in_0 (by decide)
      · rw [show k + ((2 + d + 1 : Nat) : Int) = k + 2 + d + 1 by omega]
        refine ih (r + 1) (k + 2 + d + 1) n (by omega) (by omega) (by omega) u3 ?_
        simp only [gv] at hK
        rw [if_neg (show ¬ (r + 1 = 0 ∨ ac_lt hp a (r + 1) ≠ ac_lt hp a (r + 1 - 1)) by
          rintro (c | c)
          · omega
          · rw [show r + 1 - 1 = r by omega] at c; exact c u2)] at hK
        exact hK
    · obtain ⟨u1, u2, u3, u4, u5, u6⟩ := h2
      have hl2 := tx_lt _ _ _ u6
      obtain ⟨f', rfl⟩ : ∃ f', f = f' + 1 := ⟨f - 1, by omega⟩
      simp only [gv] at hK
      rw [if_pos (show (r + 1 = 0 ∨ ac_lt hp a (r + 1) ≠ ac_lt hp a (r + 1 - 1)) from Or.inr (by rw [show r + 1 - 1 = r by omega]; exact u4))] at hK
      refine mg_skip ha h60 (2 + d + 1) k h0 (by omega) (fun l hl => ?_) ?_
      · by_cases c : l < 2 + d
        · exact hpass l c
        · rw [show k + (l : Int) = k + 2 + d by omega, u1]; exact v_m_in_0 (by decide)
      · rw [show k + ((2 + d + 1 : Nat) : Int) = k + 2 + d + 1 by omega]
        have e3 : hp 64 (60 * a + (k + 2 + d + 1)) = 65 + ac_lt hp a (r + 1) := u2
        refine b_m_grade_22 ⟨fun c => absurd c (by omega), fun _ => ⟨ha, fun c => absurd c (by omega), fun _ => ⟨by unfold qb_in; omega, by unfold qb_in; omega, by omega, fun y e => ?_⟩⟩⟩
        rw [e3] at e
        rw [e, v_m_in_1 (by omega)]
        refine ⟨fun c => absurd c (by decide), fun _ => ⟨fun c => ⟨by unfold qb_in; omega, ?_⟩, fun c => ⟨by unfold qb_in; omega, by unfold qb_in; omega, ?_⟩⟩⟩
        · rw [if_pos c] at hK
          rw [show 65 + ac_lt hp a (r + 1) - 65 = ac_lt hp a (r + 1) by omega]
          exact hK
        · rw [if_neg c] at hK
          refine mg_skip ha h60 1 (k + 2 + d + 1 + 1) (by omega) (by omega) (fun l hl => ?_) ?_
          · rw [show k + 2 + (d : Int) + 1 + 1 + (l : Int) = k + 2 + d + 2 by omega, u3]; exact v_m_in_0 (by decide)
          · rw [show k + 2 + (d : Int) + 1 + 1 + ((1 : Nat) : Int) = k + 2 + d + 3 by omega]
            exact ih (r + 1) (k + 2 + d + 3) (n + 1) (by omega) (by omega) (by omega) u6 hK
/-- GRADE: both answer alike; nothing changes -/
def v_grade (day i : Int) (hp : qb_H) : Int := if v_m_isDay day = 0 then -2 else if v_m_actOn day hp < 0 then (if i = -1 then 0 else -6) else gv (ac_lt hp (v_m_actOn day hp)) i (hp 5 (v_m_actOn day hp)).toNat 0 0
theorem s_q_grade (day i : Int) (hp : qb_H) (K : Int → qb_H → Prop) (hg : qb_iA hp) (hK : K (v_grade day i hp) hp) : c_q_grade day i hp K := by
  have h1 := iA_act hg day
  obtain ⟨h2, h3, h4⟩ := hg
  unfold v_grade at hK
  refine b_q_grade ⟨fun c => ?_, fun c => ?_⟩
  · rw [if_pos (show v_m_isDay day = 0 from c)] at hK
    exact hK
  · rw [if_neg (show ¬ v_m_isDay day = 0 from c)] at hK
    refine ⟨fun ci => b_ac_gradesOn (s_ac_actOn day hp _ ⟨by omega, by omega⟩ ?_), fun ci => b_ac_gradeAt (s_ac_actOn day hp _ ⟨by omega, by omega⟩ ?_)⟩
    · rw [h1.1]
      generalize v_m_actOn day hp = a at h1 hK ⊢
      rcases h1.2 with e | e
      · subst e
        rw [if_pos (by decide), if_pos ci] at hK
        exact b_ac_gradesOn_11 ⟨fun _ => hK, fun c => absurd rfl c⟩
      · obtain ⟨a1, -⟩ := (h4 a e.1 e.2).2
        rw [if_neg (by omega), ci] at hK
        exact ac_grades_loop ⟨e.1, by omega⟩ a1 (hp 5 a).toNat 0 0 (Int.le_refl _) (by omega) (by omega) hK
    · rw [h1.1]
      generalize v_m_actOn day hp = a at h1 hK ⊢
      rcases h1.2 with e | e
      · subst e
        rw [if_pos (by decide), if_neg ci] at hK
        exact b_ac_gradeAt_12 ⟨fun _ => hK, fun c => absurd rfl c⟩
      · obtain ⟨a1, -⟩ := (h4 a e.1 e.2).2
        rw [if_neg (by omega)] at hK
        exact ac_grade_loop ⟨e.1, by omega⟩ ci a1 (hp 5 a).toNat 0 0 (Int.le_refl _) (by omega) (by omega) hK
theorem s_m_grade (day i : Int) (hp : qb_H) (K : Int → qb_H → Prop) (hg : qb_iA hp) (hK : K (v_grade day i hp) hp) : c_m_grade day i hp K := by
  have h1 := (iA_act hg day).2
  obtain ⟨h2, h3, h4⟩ := hg
  unfold v_grade at hK
  refine b_m_grade ⟨fun c => ?_, fun c => s_m_actOn day hp _ h3 ?_⟩
  · rw [if_pos c] at hK
    exact hK
  · rw [if_neg c] at hK
    generalize v_m_actOn day hp = a at h1 hK ⊢
    rcases h1 with e | e
    · subst e
      rw [if_pos (by decide)] at hK
      exact b_m_grade_22 ⟨fun _ y e => by rw [e]; exact hK, fun c => absurd (by decide) c⟩
    · obtain ⟨a1, a2, a3, a4, a5, a6⟩ := (h4 a e.1 e.2).2
      have h8 : 0 ≤ a ∧ a < 8 := ⟨e.1, by omega⟩
      rw [if_neg (show ¬ a < 0 by omega)] at hK
      have hl := tx_lt _ _ _ a6
      obtain ⟨f, hf⟩ : ∃ f : Nat, (hp 5 a).toNat = f + 1 := ⟨(hp 5 a).toNat - 1, by omega⟩
      rw [hf] at hK a6
      simp only [gv] at hK
      rw [if_pos (Or.inl trivial)] at hK
      have e0 : hp 64 (60 * a + 0) = 65 + ac_lt hp a 0 := a4
      refine b_m_grade_22 ⟨fun c => absurd c (by omega), fun _ => ⟨h8, fun c => absurd c (by omega), fun _ => ⟨by unfold qb_in; omega, by unfold qb_in; omega, by omega, fun y e => ?_⟩⟩⟩
      rw [e0] at e
      rw [e, v_m_in_1 (by omega)]
      refine ⟨fun c => absurd c (by decide), fun _ => ⟨fun c => ⟨by unfold qb_in; omega, ?_⟩, fun c => ⟨by unfold qb_in; omega, by unfold qb_in; omega, ?_⟩⟩⟩
      · rw [if_pos c] at hK
        rw [show 65 + ac_lt hp a 0 - 65 = ac_lt hp a 0 by omega]
        exact hK
      · rw [if_neg c] at hK
        refine mg_skip h8 a2 1 (0 + 1) (by omega) (by omega) (fun l hl => ?_) ?_
        · rw [show (0 : Int) + 1 + (l : Int) = 1 by omega, a5]; exact v_m_in_0 (by decide)
        · rw [show (0 : Int) + 1 + ((1 : Nat) : Int) = 2 by omega]
          exact mg_loop h8 a2 (f + 1) 0 2 (0 + 1) (by decide) (by decide) (by decide) a6 hK
