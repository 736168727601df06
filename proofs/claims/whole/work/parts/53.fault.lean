/-! the first fault of a draft -/
def fo_y (x1 s x2 : Int) : Int := if x1 = 0 then (if (v_m_in s 65 70) = 0 then ((-6) : Int) else (if (qb_and (qb_shr x2 (s - 65)) 1) = 0 then (1 : Int) else (-6))) else (if x1 = 1 then (if s = 58 then (2 : Int) else (-6)) else (if x1 = 2 then (if (v_m_isFact s) = 0 then ((-6) : Int) else 3) else (if x1 = 3 then (if s = 60 then (4 : Int) else (if s = 62 then (4 : Int) else (if s = 61 then (4 : Int) else (-6)))) else (if (v_m_in s 48 57) = 0 then (if x1 ≤ 4 then ((-6) : Int) else (if s = 44 then (2 : Int) else (if s = 59 then (if x2 = 63 then ((-6) : Int) else 0) else (-6)))) else (if 8 ≤ x1 then ((-6) : Int) else (x1 + 1))))))
theorem fo_eq (st s mx : Int) (h : 0 ≤ st ∧ st ≤ 8) : fo_y st s mx = (if v_dr_following st s mx = -1 then -6 else v_dr_following st s mx) ∧ (v_dr_following st s mx = -1 ∨ (0 ≤ v_dr_following st s mx ∧ v_dr_following st s mx ≤ 8)) := by
  have hc : st = 0 ∨ st = 1 ∨ st = 2 ∨ st = 3 ∨ st = 4 ∨ (5 ≤ st ∧ st ≤ 8) := by omega
  unfold fo_y v_dr_following
  rcases hc with e | e | e | e | e | e
  · subst e
    simp only [if_true]
    unfold v_dr_isNewLetter v_ac_letterOf v_q_within v_m_in
    by_cases c1 : s < 65
    · simp [c1]
    · by_cases c2 : 70 < s
      · simp [c1, c2]
      · have c3 : ¬ s - 65 = -6 := by omega
        simp only [if_neg c1, if_neg c2, if_neg (show ¬ (1 : Int) = 0 by decide), if_neg c3]
        by_cases c4 : qb_and (qb_shr mx (s - 65)) 1 = 0
        · simp [c4]
        · simp [c4]
  · subst e
    by_cases c : s = 58 <;> simp [c]
  · subst e
    unfold v_m_isFact v_ac_factOf
    by_cases c1 : s = 104
    · simp [c1]
    · by_cases c2 : s = 116
      · simp [c2]
      · by_cases c3 : s = 115
        · simp [c3]
        · by_cases c4 : s = 122
          · simp [c4]
          · by_cases c5 : s = 113
            · simp [c5]
            · simp [c1, c2, c3, c4, c5]
  · subst e
    unfold v_ac_isComparer v_q_within
    by_cases c1 : s < 60
    · have : ¬ s = 60 ∧ ¬ s = 62 ∧ ¬ s = 61 := by omega
      simp [c1, this]
    · by_cases c2 : 62 < s
      · have : ¬ s = 60 ∧ ¬ s = 62 ∧ ¬ s = 61 := by omega
        simp [c1, c2, this]
      · have : s = 60 ∨ s = 62 ∨ s = 61 := by omega
        rcases this with c | c | c <;> simp [c]
  · subst e
    unfold v_ac_isDigit v_q_within v_m_in
    by_cases c1 : s < 48
    · simp [c1]
    · by_cases c2 : 57 < s
      · simp [c1, c2]
      · simp [c1, c2]
  · have e0 : ¬ st = 0 ∧ ¬ st = 1 ∧ ¬ st = 2 ∧ ¬ st = 3 ∧ ¬ st = 4 ∧ ¬ st ≤ 4 := by omega
    simp only [e0, if_false]
    unfold v_dr_behindDigit v_ac_isDigit v_q_within v_m_in
    by_cases c1 : s = 44
    · subst c1; simp
    · by_cases c2 : s = 59
      · subst c2
        by_cases c3 : mx = 63 <;> simp [c3]
      · simp only [c1, c2, if_false]
        by_cases c3 : s < 48
        · simp [c3]
        · by_cases c4 : 57 < s
          · simp [c3, c4]
          · simp only [if_neg c3, if_neg c4, if_neg (show ¬ (1 : Int) = 0 by decide)]
            by_cases c5 : 8 ≤ st
            · simp [c5]
            · simp only [if_neg c5]
              omega
/-- where the fault is, from place p on, so many signs left -/
def fa_v (t : Int → Int) (n : Int) : Nat → Int → Int → Int → Int
  | 0, _, st, _ => if st < 5 then n else -6
  | j + 1, p, st, mx => if v_dr_following st (t p) mx = -1 then p else fa_v t n j (p + 1) (v_dr_following st (t p) mx) (if st = 0 then qb_or mx (qb_shl 1 (v_ac_letterOf (t p))) else mx)
theorem fa_g {st s mx : Int} (h : 0 ≤ st ∧ st ≤ 8) (hs : 33 ≤ s ∧ s ≤ 126) : g_dr_following st s mx ∧ g_ac_letterOf s := by
  have h2 : g_ac_letterOf s := fun _ => by unfold qb_in; omega
  refine ⟨⟨fun _ => h2, fun _ _ _ _ _ _ _ _ _ => by unfold qb_in; omega⟩, h2⟩
theorem dr_loop {hp : qb_H} {n : Nat} (hn : hp 1 1 = n) (hn60 : n ≤ 60) (hs : ∀ k : Int, 0 ≤ k → k < n → 33 ≤ hp 2 k ∧ hp 2 k ≤ 126) {K : Int → qb_H → Prop} : ∀ (j : Nat) (p st mx : Int), 0 ≤ p → p + j = n → (0 ≤ st ∧ st ≤ 8) → K (fa_v (hp 2) n j p st mx) hp → r_dr_firstFault_6 st mx p hp K := by
  intro j
  induction j with
  | zero =>
    intro p st mx h0 h1 h2 hK
    refine b_dr_firstFault_6 ⟨fun _ y e => ?_, fun c => absurd (by omega) c⟩
    rw [e, hn]; exact hK
  | succ j ih =>
    intro p st mx h0 h1 h2 hK
    have hsp := hs p h0 (by omega)
    obtain ⟨g1, g2⟩ := fa_g (mx := mx) h2 hsp
    have hq := (fo_eq st (hp 2 p) mx h2).2
    simp only [fa_v] at hK
    refine b_dr_firstFault_6 ⟨fun c => absurd c (by omega), fun _ => ⟨by omega, g1, fun c => ?_, fun c => ⟨fun _ => g2, ?_⟩⟩⟩
    · rw [if_pos c] at hK; exact hK
    · rw [if_neg c] at hK
      exact ih (p + 1) _ _ (by omega) (by omega) (by omega) hK
theorem mf_loop {hp : qb_H} {n : Nat} (hn : hp 60 0 = n) (hn60 : n ≤ 60) (hs : ∀ k : Int, 0 ≤ k → k < n → 33 ≤ hp 61 k ∧ hp 61 k ≤ 126) {K : Int → qb_H → Prop} : ∀ (j : Nat) (p st mx : Int), 0 ≤ p → p + j = n → (0 ≤ st ∧ st ≤ 8) → K (fa_v (hp 61) n j p st mx) hp → r_m_faultOf_6 st mx p hp K := by
  intro j
  induction j with
  | zero =>
    intro p st mx h0 h1 h2 hK
    refine b_m_faultOf_6 ⟨fun _ y e => ?_, fun c => absurd (by omega) c⟩
    simp only [fa_v] at hK
    rw [e, hn]
    by_cases c : st < 5
    · rw [if_pos c] at hK; rw [if_pos (by omega)]; exact hK
    · rw [if_neg c] at hK; rw [if_neg (by omega)]; exact hK
  | succ j ih =>
    intro p st mx h0 h1 h2 hK
    have hsp := hs p h0 (by omega)
    have hq := fo_eq st (hp 61 p) mx h2
    simp only [fa_v] at hK
    refine b_m_faultOf_6 ⟨fun c => absurd c (by omega), fun _ => ⟨by omega, fun _ => ⟨fun _ => by unfold qb_in; omega, fun _ => by unfold qb_in; omega⟩, fun _ _ _ _ _ _ => by unfold qb_in; omega, fun y1 y2 e1 e2 => ?_⟩⟩
    have e2' : y2 = fo_y st (hp 61 p) mx := e2
    rw [hq.1] at e2'
    refine ⟨fun c => ?_, fun c => ?_⟩
    · have hne : ¬ v_dr_following st (hp 61 p) mx = -1 := fun z => by rw [if_pos z] at e2'; omega
      rw [if_neg hne] at hK e2'
      rw [e2']
      refine ih (p + 1) _ y1 (by omega) (by omega) (by omega) ?_
      have e3 : y1 = (if st = 0 then qb_or mx (qb_shl 1 (v_ac_letterOf (hp 61 p))) else mx) := by
        rw [e1]
        by_cases c0 : st = 0
        · rw [if_pos c0, if_pos c0]
          have e4 : (if v_m_in (hp 61 p) 65 70 = 0 then (-6 : Int) else if qb_and (qb_shr mx (hp 61 p - 65)) 1 = 0 then 1 else -6) = fo_y st (hp 61 p) mx := by
            unfold fo_y; rw [if_pos c0]
          rw [e4, hq.1, if_neg hne]
          have e5 : v_dr_following st (hp 61 p) mx = 1 ∧ v_ac_letterOf (hp 61 p) = hp 61 p - 65 := by
            unfold v_dr_following at hne ⊢
            rw [if_pos c0] at hne ⊢
            by_cases c6 : v_dr_isNewLetter (hp 61 p) mx = 0
            · rw [if_pos c6] at hne; exact absurd rfl hne
            · rw [if_neg c6]
              refine ⟨rfl, ?_⟩
              unfold v_dr_isNewLetter at c6
              unfold v_ac_letterOf at c6 ⊢
              by_cases c7 : v_q_within (hp 61 p) 65 70 = 0
              · rw [if_pos c7, if_pos rfl] at c6; exact absurd rfl c6
              · rw [if_neg c7]
          rw [if_pos e5.1, e5.2]
        · rw [if_neg c0, if_neg c0]
      rw [e3]; exact hK
    · have hne : v_dr_following st (hp 61 p) mx = -1 := by
        apply Classical.byContradiction
        intro z
        rw [if_neg z] at e2'; omega
      rw [if_pos hne] at hK; exact hK
/-- the draft in both -/
def qb_iD (hp : qb_H) : Prop := hp 1 1 = hp 60 0 ∧ (0 ≤ hp 60 0 ∧ hp 60 0 ≤ 60) ∧ ∀ k : Int, 0 ≤ k → k < hp 60 0 → hp 2 k = hp 61 k ∧ 33 ≤ hp 61 k ∧ hp 61 k ≤ 126
def v_fault (hp : qb_H) : Int := fa_v (hp 61) (hp 60 0) (hp 60 0).toNat 0 0 0
theorem fa_cg {t u : Int → Int} {n : Int} : ∀ (j : Nat) (p st mx : Int), (∀ k : Int, p ≤ k → k < p + j → t k = u k) → fa_v t n j p st mx = fa_v u n j p st mx := by
  intro j
  induction j with
  | zero => intro p st mx _; rfl
  | succ j ih =>
    intro p st mx h
    simp only [fa_v]
    rw [h p (Int.le_refl _) (by omega), ih (p + 1) _ _ (fun k a b => h k (by omega) (by omega))]
theorem s_dr_firstFault (hp : qb_H) (K : Int → qb_H → Prop) (hg : qb_iD hp) (hK : K (v_fault hp) hp) : c_dr_firstFault hp K := by
  obtain ⟨h1, h2, h3⟩ := hg
  obtain ⟨n, hn⟩ : ∃ n : Nat, hp 60 0 = n := ⟨_, (Int.toNat_of_nonneg h2.1).symm⟩
  refine b_dr_firstFault (dr_loop (n := n) (by rw [h1, hn]) (by omega) (fun k a b => ?_) n 0 0 0 (by omega) (by omega) (by omega) ?_)
  · have := h3 k a (by omega); omega
  · unfold v_fault at hK
    rw [hn, Int.toNat_natCast] at hK
    rw [fa_cg (u := hp 61) n 0 0 0 (fun k a b => (h3 k a (by omega)).1)]
    exact hK
theorem s_m_faultOf (hp : qb_H) (K : Int → qb_H → Prop) (hg : qb_iD hp) (hK : K (v_fault hp) hp) : c_m_faultOf hp K := by
  obtain ⟨h1, h2, h3⟩ := hg
  obtain ⟨n, hn⟩ : ∃ n : Nat, hp 60 0 = n := ⟨_, (Int.toNat_of_nonneg h2.1).symm⟩
  refine b_m_faultOf (mf_loop (n := n) hn (by omega) (fun k a b => (h3 k a (by omega)).2) n 0 0 0 (by omega) (by omega) (by omega) ?_)
  unfold v_fault at hK
  rw [hn, Int.toNat_natCast] at hK
  exact hK
