/-! loops that count or add -/
def v_la_waiting (hp : qb_H) : Int := qb_sum (fun k => if hp 13 k = -1 then 1 else 0) (hp 11 13).toNat
def g_la_waiting (hp : qb_H) : Prop := 0 ≤ hp 11 13 ∧ hp 11 13 ≤ 30
theorem s_la_waiting (hp : qb_H) (K : Int → qb_H → Prop) (hg : g_la_waiting hp) (hK : K (v_la_waiting hp) hp) : c_la_waiting hp K := by
  obtain ⟨n, hn⟩ : ∃ n : Nat, hp 11 13 = n := ⟨_, (Int.toNat_of_nonneg hg.1).symm⟩
  have hn8 := hg.2
  unfold v_la_waiting at hK
  rw [hn, Int.toNat_natCast] at hK
  refine b_la_waiting (qb_up n (fun k i => r_la_waiting_4 (qb_sum (fun k => if hp 13 k = -1 then 1 else 0) k) i hp K) ?_ ?_)
  · exact b_la_waiting_4 ⟨fun _ => hK, fun c => absurd hn (by omega)⟩
  · intro k hk ih
    have hr := qb_sum_in (f := fun k => if hp 13 k = -1 then 1 else 0) (lo := 0) (hi := 1) k (fun j _ => by split <;> omega)
    refine b_la_waiting_4 ⟨fun c => absurd c (by omega), fun _ => ⟨by omega, fun _ => by unfold qb_in; omega, fun y e => ?_⟩⟩
    subst e
    simp only [qb_sum] at ih
    grind
def v_m_waiting (hp : qb_H) : Int := qb_sum (fun k => if hp 68 (7 * k + 1) < 0 then 1 else 0) (hp 60 9).toNat
def g_m_waiting (hp : qb_H) : Prop := 0 ≤ hp 60 9 ∧ hp 60 9 ≤ 30
theorem s_m_waiting (hp : qb_H) (K : Int → qb_H → Prop) (hg : g_m_waiting hp) (hK : K (v_m_waiting hp) hp) : c_m_waiting hp K := by
  obtain ⟨n, hn⟩ : ∃ n : Nat, hp 60 9 = n := ⟨_, (Int.toNat_of_nonneg hg.1).symm⟩
  have hn8 := hg.2
  unfold v_m_waiting at hK
  rw [hn, Int.toNat_natCast] at hK
  refine b_m_waiting (qb_up n (fun k i => r_m_waiting_4 (qb_sum (fun k => if hp 68 (7 * k + 1) < 0 then 1 else 0) k) i hp K) ?_ ?_)
  · exact b_m_waiting_4 ⟨fun _ => hK, fun c => absurd hn (by omega)⟩
  · intro k hk ih
    have hr := qb_sum_in (f := fun k => if hp 68 (7 * k + 1) < 0 then 1 else 0) (lo := 0) (hi := 1) k (fun j _ => by split <;> omega)
    refine b_m_waiting_4 ⟨fun c => absurd c (by omega), fun _ => ⟨by unfold qb_in; omega, by unfold qb_in; omega, by omega, fun y e => ⟨?_, by unfold qb_in; omega, ?_⟩⟩⟩
    · have hy : 0 ≤ y ∧ y ≤ 1 := by subst e; split <;> omega
      unfold qb_in; omega
    · subst e
      simp only [qb_sum] at ih
      grind
/-- the landings of the class, as far as their loops need it -/
def qb_gL (hp : qb_H) : Prop := (0 ≤ hp 11 13 ∧ hp 11 13 ≤ 30) ∧ ∀ k : Int, 0 ≤ k → k < hp 11 13 → (0 ≤ hp 12 k ∧ hp 12 k ≤ 9) ∧ (-1 ≤ hp 13 k ∧ hp 13 k ≤ 3) ∧ (0 ≤ hp 14 k ∧ hp 14 k ≤ 2000) ∧ (1 ≤ hp 15 k ∧ hp 15 k ≤ 20000) ∧ (1 ≤ hp 16 k ∧ hp 16 k ≤ 9)
def v_la_fishOf (x1 x2 : Int) (hp : qb_H) : Int := qb_sum (fun k => if hp 12 k = x1 ∧ hp 13 k = x2 then hp 15 k else 0) (hp 11 13).toNat
def g_la_fishOf (hp : qb_H) : Prop := qb_gL hp
theorem s_la_fishOf (x1 x2 : Int) (hp : qb_H) (K : Int → qb_H → Prop) (hg : g_la_fishOf hp) (hK : K (v_la_fishOf x1 x2 hp) hp) : c_la_fishOf x1 x2 hp K := by
  obtain ⟨⟨h0, h30⟩, hl⟩ := hg
  obtain ⟨n, hn⟩ : ∃ n : Nat, hp 11 13 = n := ⟨_, (Int.toNat_of_nonneg h0).symm⟩
  unfold v_la_fishOf at hK
  rw [hn, Int.toNat_natCast] at hK
  refine b_la_fishOf (qb_up n (fun k i => r_la_fishOf_5 x1 x2 (qb_sum (fun k => if hp 12 k = x1 ∧ hp 13 k = x2 then hp 15 k else 0) k) i hp K) ?_ ?_)
  · exact b_la_fishOf_5 ⟨fun _ => hK, fun c => absurd hn (by omega)⟩
  · intro k hk ih
    have hr := qb_sum_in (f := fun k => if hp 12 k = x1 ∧ hp 13 k = x2 then hp 15 k else 0) (lo := 0) (hi := 20000) k (fun j hj => by
      have := hl j (by omega) (by omega)
      split <;> omega)
    have hk2 := hl k (by omega) (by omega)
    refine b_la_fishOf_5 ⟨fun c => absurd c (by omega), fun _ => ⟨by omega, fun _ _ => by unfold qb_in; omega, fun y e => ?_⟩⟩
    subst e
    simp only [qb_sum] at ih
    grind
def v_la_spoiltAt (x1 : Int) (hp : qb_H) : Int := qb_sum (fun k => if hp 13 k = x1 then v_la_spoiltOf k hp else 0) (hp 11 13).toNat
def g_la_spoiltAt (hp : qb_H) : Prop := qb_gL hp ∧ ∀ k : Int, 0 ≤ k → k < hp 11 13 → 0 ≤ hp 19 k ∧ hp 19 k ≤ hp 15 k
theorem s_la_spoiltAt (x1 : Int) (hp : qb_H) (K : Int → qb_H → Prop) (hg : g_la_spoiltAt hp) (hK : K (v_la_spoiltAt x1 hp) hp) : c_la_spoiltAt x1 hp K := by
  obtain ⟨⟨⟨h0, h30⟩, hl⟩, hw⟩ := hg
  obtain ⟨n, hn⟩ : ∃ n : Nat, hp 11 13 = n := ⟨_, (Int.toNat_of_nonneg h0).symm⟩
  unfold v_la_spoiltAt at hK
  rw [hn, Int.toNat_natCast] at hK
  refine b_la_spoiltAt (qb_up n (fun k i => r_la_spoiltAt_4 x1 (qb_sum (fun k => if hp 13 k = x1 then v_la_spoiltOf k hp else 0) k) i hp K) ?_ ?_)
  · exact b_la_spoiltAt_4 ⟨fun _ => hK, fun c => absurd hn (by omega)⟩
  · intro k hk ih
    have hr := qb_sum_in (f := fun k => if hp 13 k = x1 then v_la_spoiltOf k hp else 0) (lo := 0) (hi := 20000) k (fun j hj => by
      have h1 := hl j (by omega) (by omega)
      have h2 := hw j (by omega) (by omega)
      unfold v_la_spoiltOf
      split
      · split <;> omega
      · omega)
    have hk2 := hl k (by omega) (by omega)
    have hk3 := hw k (by omega) (by omega)
    refine b_la_spoiltAt_4 ⟨fun c => absurd c (by omega), fun _ => ⟨by omega, fun _ => ⟨⟨by omega, fun _ => by unfold qb_in; omega⟩, ?_⟩, ?_⟩⟩
    · have hv : 0 ≤ v_la_spoiltOf k hp ∧ v_la_spoiltOf k hp ≤ 20000 := by
        unfold v_la_spoiltOf
        split <;> omega
      unfold qb_in
      omega
    · simp only [qb_sum] at ih
      split
      · rename_i c; rw [if_pos c] at ih; exact ih
      · rename_i c; rw [if_neg c, Int.add_zero] at ih; exact ih
