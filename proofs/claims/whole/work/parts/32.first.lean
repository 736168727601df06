/-! the reference: the first landing that can be worked, the next hour -/
def mf_first (q h l : Int → Int) (Q H : Int) : Nat → Int
  | 0 => -6
  | k + 1 => if (q k = Q ∧ 0 < l k ∧ h k ≤ H) ∧ (mf_first q h l Q H k < 0 ∨ h k < h (mf_first q h l Q H k)) then k else mf_first q h l Q H k
theorem mf_first_is (q h l : Int → Int) (Q H : Int) : ∀ n : Nat,
    (mf_first q h l Q H n = -6 ∧ ∀ k : Int, 0 ≤ k → k < n → q k = Q → h k ≤ H → l k ≤ 0) ∨
    ((0 ≤ mf_first q h l Q H n ∧ mf_first q h l Q H n < n) ∧ q (mf_first q h l Q H n) = Q ∧ 0 < l (mf_first q h l Q H n) ∧ h (mf_first q h l Q H n) ≤ H ∧
      ∀ k : Int, 0 ≤ k → k < n → q k = Q → h k ≤ H → 0 < l k → h (mf_first q h l Q H n) < h k ∨ (h (mf_first q h l Q H n) = h k ∧ mf_first q h l Q H n ≤ k)) := by
  intro n
  induction n with
  | zero => left; exact ⟨rfl, fun k h0 h1 => by omega⟩
  | succ n ih =>
    simp only [mf_first]
    by_cases c : (q n = Q ∧ 0 < l n ∧ h n ≤ H) ∧ (mf_first q h l Q H n < 0 ∨ h n < h (mf_first q h l Q H n))
    · rw [if_pos c]
      right
      refine ⟨by omega, c.1.1, c.1.2.1, c.1.2.2, fun k h0 h1 hq hh hl => ?_⟩
      by_cases e : k = n
      · subst e; right; exact ⟨rfl, Int.le_refl _⟩
      · rcases ih with ⟨i1, i2⟩ | ⟨i1, i2, i3, i4, i5⟩
        · have := i2 k h0 (by omega) hq hh
          omega
        · have := i5 k h0 (by omega) hq hh hl
          omega
    · rw [if_neg c]
      rcases ih with ⟨i1, i2⟩ | ⟨i1, i2, i3, i4, i5⟩
      · left
        refine ⟨i1, fun k h0 h1 hq hh => ?_⟩
        by_cases e : k = n
        · subst e
          apply Classical.byContradiction
          intro hl
          exact c ⟨⟨hq, by omega, hh⟩, Or.inl (by omega)⟩
        · exact i2 k h0 (by omega) hq hh
      · right
        refine ⟨by omega, i2, i3, i4, fun k h0 h1 hq hh hl => ?_⟩
        by_cases e : k = n
        · subst e
          by_cases e2 : h n < h (mf_first q h l Q H n)
          · exact absurd ⟨⟨hq, hl, hh⟩, Or.inr e2⟩ c
          · omega
        · exact i5 k h0 (by omega) hq hh hl
def v_m_firstOf (x1 x2 : Int) (hp : qb_H) : Int := mf_first (fun k => hp 68 (7 * k + 1)) (fun k => hp 68 (7 * k + 2)) (hp 86) x1 x2 (hp 60 9).toNat
def g_m_firstOf (hp : qb_H) : Prop := 0 ≤ hp 60 9 ∧ hp 60 9 ≤ 30
theorem s_m_firstOf (x1 x2 : Int) (hp : qb_H) (K : Int → qb_H → Prop) (hg : g_m_firstOf hp) (hK : K (v_m_firstOf x1 x2 hp) hp) : c_m_firstOf x1 x2 hp K := by
  obtain ⟨n, hn⟩ : ∃ n : Nat, hp 60 9 = n := ⟨_, (Int.toNat_of_nonneg hg.1).symm⟩
  have hn8 := hg.2
  unfold v_m_firstOf at hK
  rw [hn, Int.toNat_natCast] at hK
  refine b_m_firstOf (qb_up n (fun k i => r_m_firstOf_6 x1 x2 (mf_first (fun k => hp 68 (7 * k + 1)) (fun k => hp 68 (7 * k + 2)) (hp 86) x1 x2 k) i hp K) ?_ ?_)
  · exact b_m_firstOf_6 ⟨fun _ => hK, fun c => absurd hn (by omega)⟩
  · intro k hk ih
    have hr : mf_first (fun k => hp 68 (7 * k + 1)) (fun k => hp 68 (7 * k + 2)) (hp 86) x1 x2 k = -6 ∨ (0 ≤ mf_first (fun k => hp 68 (7 * k + 1)) (fun k => hp 68 (7 * k + 2)) (hp 86) x1 x2 k ∧ mf_first (fun k => hp 68 (7 * k + 1)) (fun k => hp 68 (7 * k + 2)) (hp 86) x1 x2 k < k) := by
      rcases mf_first_is (fun k => hp 68 (7 * k + 1)) (fun k => hp 68 (7 * k + 2)) (hp 86) x1 x2 k with h | h
      · exact Or.inl h.1
      · exact Or.inr h.1
    have e2 : mf_first (fun k => hp 68 (7 * k + 1)) (fun k => hp 68 (7 * k + 2)) (hp 86) x1 x2 (k + 1) = if (hp 68 (7 * k + 1) = x1 ∧ 0 < hp 86 k ∧ hp 68 (7 * k + 2) ≤ x2) ∧ (mf_first (fun k => hp 68 (7 * k + 1)) (fun k => hp 68 (7 * k + 2)) (hp 86) x1 x2 k < 0 ∨ hp 68 (7 * k + 2) < hp 68 (7 * mf_first (fun k => hp 68 (7 * k + 1)) (fun k => hp 68 (7 * k + 2)) (hp 86) x1 x2 k + 2)) then (k : Int) else mf_first (fun k => hp 68 (7 * k + 1)) (fun k => hp 68 (7 * k + 2)) (hp 86) x1 x2 k := rfl
    rw [e2] at ih
    generalize mf_first (fun k => hp 68 (7 * k + 1)) (fun k => hp 68 (7 * k + 2)) (hp 86) x1 x2 k = b at *
    refine b_m_firstOf_6 ⟨fun c => absurd c (by omega), fun _ => ⟨by unfold qb_in; omega, by unfold qb_in; omega, by omega, fun _ => ⟨by omega, fun _ => by unfold qb_in; omega⟩, fun y e => ⟨fun _ _ => by unfold qb_in; omega, fun z f => ⟨by unfold qb_in; omega, ?_⟩⟩⟩⟩
    refine Eq.mp (congrArg (fun z => r_m_firstOf_6 x1 x2 z ((k : Int) + 1) hp K) ?_) ih
    clear ih hK
    subst e; subst f
    by_cases c1 : hp 68 (7 * k + 1) = x1
    · by_cases c2 : hp 86 k ≤ 0
      · simp [c1, c2, show ¬ 0 < hp 86 k by omega]
      · by_cases c3 : x2 < hp 68 (7 * k + 2)
        · simp [c1, c2, c3, show ¬ hp 68 (7 * k + 2) ≤ x2 by omega]
        · by_cases c4 : b < 0
          · simp [c1, c2, c3, c4, show 0 < hp 86 k by omega, show hp 68 (7 * k + 2) ≤ x2 by omega]
          · by_cases c5 : hp 68 (7 * b + 2) ≤ hp 68 (7 * k + 2)
            · simp [c1, c2, c3, c4, c5, show ¬ hp 68 (7 * k + 2) < hp 68 (7 * b + 2) by omega]
            · simp [c1, c2, c3, c4, c5, show 0 < hp 86 k by omega, show hp 68 (7 * k + 2) ≤ x2 by omega, show hp 68 (7 * k + 2) < hp 68 (7 * b + 2) by omega]
    · simp [c1]
def mf_next (q h l : Int → Int) (Q : Int) : Nat → Int
  | 0 => -6
  | k + 1 => if (q k = Q ∧ 0 < l k) ∧ (mf_next q h l Q k < 0 ∨ h k < mf_next q h l Q k) then h k else mf_next q h l Q k
theorem mf_next_is (q h l : Int → Int) (Q : Int) : ∀ n : Nat, (∀ k : Int, 0 ≤ k → k < n → 0 ≤ h k) →
    (mf_next q h l Q n = -6 ∧ ∀ k : Int, 0 ≤ k → k < n → q k = Q → l k ≤ 0) ∨
    ((∃ k : Int, 0 ≤ k ∧ k < n ∧ q k = Q ∧ 0 < l k ∧ mf_next q h l Q n = h k) ∧ ∀ k : Int, 0 ≤ k → k < n → q k = Q → 0 < l k → mf_next q h l Q n ≤ h k) := by
  intro n
  induction n with
  | zero => intro _; left; exact ⟨rfl, fun k h0 h1 => by omega⟩
  | succ n ih =>
    intro hh
    have ih := ih (fun k h0 h1 => hh k h0 (by omega))
    simp only [mf_next]
    by_cases c : (q n = Q ∧ 0 < l n) ∧ (mf_next q h l Q n < 0 ∨ h n < mf_next q h l Q n)
    · rw [if_pos c]
      right
      refine ⟨⟨n, by omega, by omega, c.1.1, c.1.2, rfl⟩, fun k h0 h1 hq hl => ?_⟩
      by_cases e : k = n
      · subst e; exact Int.le_refl _
      · rcases ih with ⟨i1, i2⟩ | ⟨⟨k2, j1, j2, j3, j4, j5⟩, i2⟩
        · have := i2 k h0 (by omega) hq; omega
        · have := i2 k h0 (by omega) hq hl
          have := hh k2 j1 (by omega)
          omega
    · rw [if_neg c]
      rcases ih with ⟨i1, i2⟩ | ⟨⟨k2, j1, j2, j3, j4, j5⟩, i2⟩
      · left
        refine ⟨i1, fun k h0 h1 hq => ?_⟩
        by_cases e : k = n
        · subst e
          apply Classical.byContradiction
          intro hl
          exact c ⟨⟨hq, by omega⟩, Or.inl (by omega)⟩
        · exact i2 k h0 (by omega) hq
      · right
        refine ⟨⟨k2, j1, by omega, j3, j4, j5⟩, fun k h0 h1 hq hl => ?_⟩
        by_cases e : k = n
        · subst e
          by_cases e2 : h n < mf_next q h l Q n
          · exact absurd ⟨⟨hq, hl⟩, Or.inr e2⟩ c
          · omega
        · exact i2 k h0 (by omega) hq hl
def v_m_nextHour (x1 : Int) (hp : qb_H) : Int := mf_next (fun k => hp 68 (7 * k + 1)) (fun k => hp 68 (7 * k + 2)) (hp 86) x1 (hp 60 9).toNat
def g_m_nextHour (hp : qb_H) : Prop := 0 ≤ hp 60 9 ∧ hp 60 9 ≤ 30
theorem s_m_nextHour (x1 : Int) (hp : qb_H) (K : Int → qb_H → Prop) (hg : g_m_nextHour hp) (hK : K (v_m_nextHour x1 hp) hp) : c_m_nextHour x1 hp K := by
  obtain ⟨n, hn⟩ : ∃ n : Nat, hp 60 9 = n := ⟨_, (Int.toNat_of_nonneg hg.1).symm⟩
  have hn8 := hg.2
  unfold v_m_nextHour at hK
  rw [hn, Int.toNat_natCast] at hK
  refine b_m_nextHour (qb_up n (fun k i => r_m_nextHour_5 x1 (mf_next (fun k => hp 68 (7 * k + 1)) (fun k => hp 68 (7 * k + 2)) (hp 86) x1 k) i hp K) ?_ ?_)
  · exact b_m_nextHour_5 ⟨fun _ => hK, fun c => absurd hn (by omega)⟩
  · intro k hk ih
    have e2 : mf_next (fun k => hp 68 (7 * k + 1)) (fun k => hp 68 (7 * k + 2)) (hp 86) x1 (k + 1) = if (hp 68 (7 * k + 1) = x1 ∧ 0 < hp 86 k) ∧ (mf_next (fun k => hp 68 (7 * k + 1)) (fun k => hp 68 (7 * k + 2)) (hp 86) x1 k < 0 ∨ hp 68 (7 * k + 2) < mf_next (fun k => hp 68 (7 * k + 1)) (fun k => hp 68 (7 * k + 2)) (hp 86) x1 k) then hp 68 (7 * k + 2) else mf_next (fun k => hp 68 (7 * k + 1)) (fun k => hp 68 (7 * k + 2)) (hp 86) x1 k := rfl
    rw [e2] at ih
    generalize mf_next (fun k => hp 68 (7 * k + 1)) (fun k => hp 68 (7 * k + 2)) (hp 86) x1 k = b at *
    refine b_m_nextHour_5 ⟨fun c => absurd c (by omega), fun _ => ⟨by unfold qb_in; omega, by unfold qb_in; omega, by omega, fun _ => by omega, fun y e => ⟨fun _ => ⟨fun _ => by unfold qb_in; omega, fun _ => by unfold qb_in; omega⟩, fun z f => ⟨by unfold qb_in; omega, ?_⟩⟩⟩⟩
    refine Eq.mp (congrArg (fun z => r_m_nextHour_5 x1 z ((k : Int) + 1) hp K) ?_) ih
    clear ih hK
    subst e; subst f
    by_cases c1 : hp 68 (7 * k + 1) = x1
    · by_cases c2 : hp 86 k ≤ 0
      · simp [c1, c2, show ¬ 0 < hp 86 k by omega]
      · by_cases c4 : b < 0
        · simp [c1, c2, c4, show 0 < hp 86 k by omega]
        · by_cases c5 : b ≤ hp 68 (7 * k + 2)
          · simp [c1, c2, c4, c5, show ¬ hp 68 (7 * k + 2) < b by omega]
          · simp [c1, c2, c4, c5, show 0 < hp 86 k by omega, show hp 68 (7 * k + 2) < b by omega]
    · simp [c1]
