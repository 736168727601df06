/-! OPENED -/
def cb : Nat → Nat → Nat
  | _, 0 => 1
  | 0, _ + 1 => 0
  | n + 1, j + 1 => cb n j + cb n (j + 1)
theorem cb_n0 (n : Nat) : cb n 0 = 1 := by cases n <;> rfl
theorem cb_s (n j : Nat) : cb (n + 1) (j + 1) = cb n j + cb n (j + 1) := rfl
theorem cb_0 : ∀ n j : Nat, n < j → cb n j = 0 := by
  intro n
  induction n with
  | zero => intro j h
            cases j with
            | zero => omega
            | succ j => rfl
  | succ n ih =>
    intro j h
    cases j with
    | zero => omega
    | succ j => rw [cb_s, ih j (by omega), ih (j + 1) (by omega)]
theorem cb_nn : ∀ n : Nat, cb n n = 1 := by
  intro n
  induction n with
  | zero => rfl
  | succ n ih => rw [cb_s, ih, cb_0 n (n + 1) (by omega)]
theorem cb_pos : ∀ n j : Nat, j ≤ n → 0 < cb n j := by
  intro n
  induction n with
  | zero => intro j h
            have : j = 0 := by omega
            rw [this]; decide
  | succ n ih =>
    intro j h
    cases j with
    | zero => rw [cb_n0]; decide
    | succ j =>
      rw [cb_s]
      have := ih j (by omega)
      omega
theorem cb_le : ∀ n j : Nat, cb n j ≤ 2 ^ n := by
  intro n
  induction n with
  | zero => intro j
            cases j with
            | zero => decide
            | succ j => exact Nat.zero_le _
  | succ n ih =>
    intro j
    rw [Nat.pow_succ]
    cases j with
    | zero =>
      rw [cb_n0]
      have : 0 < 2 ^ n := Nat.pow_pos (by decide)
      omega
    | succ j =>
      rw [cb_s]
      have h1 := ih j
      have h2 := ih (j + 1)
      omega
theorem cb_ab : ∀ n j : Nat, (j + 1) * cb (n + 1) (j + 1) = (n + 1) * cb n j := by
  intro n
  induction n with
  | zero => intro j
            cases j with
            | zero => rfl
            | succ j => rw [cb_s, cb_0 0 (j + 1) (by omega), cb_0 0 (j + 1 + 1) (by omega)]; omega
  | succ n ih =>
    intro j
    cases j with
    | zero =>
      have h1 := ih 0
      rw [cb_s, Nat.mul_add, h1, cb_n0, cb_n0]
      omega
    | succ j =>
      have h1 := ih j
      have h2 := ih (j + 1)
      rw [cb_s (n + 1) (j + 1), Nat.mul_add, h2]
      have e1 : (j + 1 + 1) * cb (n + 1) (j + 1) = (j + 1) * cb (n + 1) (j + 1) + cb (n + 1) (j + 1) := by rw [Nat.add_mul (j + 1) 1, Nat.one_mul]
      have e2 : (n + 1 + 1) * cb (n + 1) (j + 1) = (n + 1) * cb (n + 1) (j + 1) + cb (n + 1) (j + 1) := by rw [Nat.add_mul (n + 1) 1, Nat.one_mul]
      have e3 : (n + 1) * cb (n + 1) (j + 1) = (n + 1) * cb n j + (n + 1) * cb n (j + 1) := by rw [cb_s n j, Nat.mul_add]
      rw [e1, h1, e2, e3]
      omega
theorem cb_st {n j : Nat} (h : j ≤ n) : (j + 1) * cb n (j + 1) = (n - j) * cb n j := by
  have h1 := cb_ab n j
  rw [cb_s, Nat.mul_add] at h1
  have e1 : (n + 1) * cb n j = (j + 1) * cb n j + (n - j) * cb n j := by
    rw [← Nat.add_mul]; congr 1; omega
  omega
def fac : Nat → Nat
  | 0 => 1
  | n + 1 => (n + 1) * fac n
theorem fac_pos : ∀ n : Nat, 0 < fac n := by
  intro n
  induction n with
  | zero => decide
  | succ n ih => exact Nat.mul_pos (by omega) ih
theorem cb_fac : ∀ j n : Nat, cb (n + j) j * (fac j * fac n) = fac (n + j) := by
  intro j
  induction j with
  | zero => intro n; rw [cb_n0]; show 1 * (1 * fac n) = fac n; omega
  | succ j ih =>
    intro n
    have h := ih n
    have a := cb_ab (n + j) j
    show cb (n + j + 1) (j + 1) * ((j + 1) * fac j * fac n) = (n + j + 1) * fac (n + j)
    rw [← h]
    calc cb (n + j + 1) (j + 1) * ((j + 1) * fac j * fac n) = ((j + 1) * cb (n + j + 1) (j + 1)) * (fac j * fac n) := by
          rw [Nat.mul_assoc (j + 1), ← Nat.mul_assoc (cb (n + j + 1) (j + 1)), Nat.mul_comm (cb (n + j + 1) (j + 1))]
      _ = (n + j + 1) * cb (n + j) j * (fac j * fac n) := by rw [a]
      _ = _ := by rw [Nat.mul_assoc]
theorem cb_tri {n j d : Nat} (hj : j ≤ n) (hd : d ≤ n) : cb n j * cb (n - j) d = cb n d * cb (n - d) j := by
  by_cases c : j + d ≤ n
  · obtain ⟨m, hm⟩ : ∃ m, n = m + d + j := ⟨n - d - j, by omega⟩
    have e1 : n - j = m + d := by omega
    have e2 : n - d = m + j := by omega
    have e3 : m + d + j = m + j + d := by omega
    rw [e1, e2]
    have f1 := cb_fac j (m + d)
    have f2 := cb_fac d m
    have f3 := cb_fac d (m + j)
    have f4 := cb_fac j m
    rw [← hm] at f1
    rw [← e3, ← hm] at f3
    have hpos : 0 < fac j * (fac d * fac m) := Nat.mul_pos (fac_pos j) (Nat.mul_pos (fac_pos d) (fac_pos m))
    refine Nat.eq_of_mul_eq_mul_right hpos ?_
    have l : cb n j * cb (m + d) d * (fac j * (fac d * fac m)) = fac n := by
      rw [← f1, ← f2]
      simp only [Nat.mul_assoc, Nat.mul_left_comm, Nat.mul_comm]
    have r : cb n d * cb (m + j) j * (fac j * (fac d * fac m)) = fac n := by
      rw [← f3, ← f4]
      simp only [Nat.mul_assoc, Nat.mul_left_comm, Nat.mul_comm]
    rw [l, r]
  · rw [cb_0 (n - j) d (by omega), cb_0 (n - d) j (by omega)]; rfl
theorem cb_le30 {n j : Nat} (h : n ≤ 30) : cb n j ≤ 1073741824 := Nat.le_trans (cb_le n j) (Nat.le_trans (Nat.pow_le_pow_right (by decide) h) (by decide))
theorem iv_div {a b c d : Nat} (hc : 0 < c) (h : c * d = a * b) : ((a : Int) * (b : Int)) / (c : Int) = (d : Int) := by
  have : (a : Int) * (b : Int) = (c : Int) * (d : Int) := by rw [← Int.natCast_mul, ← Int.natCast_mul, h]
  rw [this]
  exact Int.mul_ediv_cancel_left _ (by omega)
theorem mul_in {a b : Nat} (ha : a ≤ 1073741824) (hb : b ≤ 100) : qb_inL ((a : Int) * (b : Int)) ∧ 0 ≤ (a : Int) * (b : Int) := by
  have h : a * b ≤ 1073741824 * 100 := Nat.mul_le_mul ha hb
  have e : (a : Int) * (b : Int) = ((a * b : Nat) : Int) := by rw [Int.natCast_mul]
  rw [e]
  unfold qb_inL
  omega
theorem s_q_choose {hp : qb_H} {n j : Nat} (hn : n ≤ 30) (hj : j ≤ 30) {K : Int → qb_H → Prop} (hK : K (cb n j) hp) : c_q_choose n j hp K := by
  refine b_q_choose ⟨fun c => ?_, fun c => ?_⟩
  · obtain ⟨m, hm⟩ : ∃ m, n = m + j := ⟨n - j, by omega⟩
    have key : ∀ (d t : Nat), t + d = j → r_q_choose_12 n j (cb (m + t) t) ((t : Int) + 1) hp K := by
      intro d
      induction d with
      | zero =>
        intro t ht
        have e : t = j := by omega
        subst e
        rw [hm] at hK
        exact b_q_choose_12 ⟨fun _ => hK, fun z => absurd (by omega) z⟩
      | succ d ih =>
        intro t ht
        have i := ih (t + 1) (by omega)
        have e1 : (n : Int) - (j : Int) + ((t : Int) + 1) = ((m + t + 1 : Nat) : Int) := by omega
        have a := cb_ab (m + t) t
        have dv : ((cb (m + t) t : Nat) : Int) * ((m + t + 1 : Nat) : Int) / ((t + 1 : Nat) : Int) = ((cb (m + t + 1) (t + 1) : Nat) : Int) := iv_div (by omega) (by rw [a, Nat.mul_comm])
        have hl := cb_le30 (n := m + t) (j := t) (by omega)
        have mi := mul_in (a := cb (m + t) t) (b := m + t + 1) hl (by omega)
        refine b_q_choose_12 ⟨fun z => absurd z (by omega), fun _ => ?_⟩
        rw [e1]
        have e2 : (t : Int) + 1 = ((t + 1 : Nat) : Int) := by omega
        rw [e2, dv]
        exact ⟨by unfold qb_in; omega, by unfold qb_in; omega, mi.1, mi.2, by omega, by unfold qb_in; omega, i⟩
    have := key j 0 (by omega)
    rw [cb_n0] at this
    exact this
  · rw [cb_0 n j (by omega)] at hK
    exact hK
theorem s_m_choose {hp : qb_H} {n j : Nat} (hn : n ≤ 30) (hj : j ≤ 30) {K : Int → qb_H → Prop} (hK : K (cb n j) hp) : c_m_choose n j hp K := by
  refine b_m_choose (fun y ey => ?_)
  by_cases c : (j : Int) ≤ n
  · rw [if_pos c] at ey
    have key : ∀ (d t : Nat), t + d = j → r_m_choose_14 n j (cb n t) t hp K := by
      intro d
      induction d with
      | zero =>
        intro t ht
        have e : t = j := by omega
        subst e
        exact b_m_choose_14 ⟨fun _ => hK, fun z => absurd (Int.le_refl _) z⟩
      | succ d ih =>
        intro t ht
        have i := ih (t + 1) (by omega)
        have hp0 := cb_pos n t (by omega)
        have e1 : (n : Int) - (t : Int) = ((n - t : Nat) : Int) := by omega
        have a := cb_st (n := n) (j := t) (by omega)
        have dv : ((cb n t : Nat) : Int) * ((n - t : Nat) : Int) / ((t + 1 : Nat) : Int) = ((cb n (t + 1) : Nat) : Int) := iv_div (by omega) (by rw [a, Nat.mul_comm])
        have hl := cb_le30 (n := n) (j := t) hn
        have mi := mul_in (a := cb n t) (b := n - t) hl (by omega)
        have hcmp : ¬ qb_cmp ((cb n t : Nat) : Int) 0 ≤ 0 := by
          unfold qb_cmp
          rw [if_pos (by omega)]; decide
        refine b_m_choose_14 ⟨fun z => absurd z (by omega), fun _ => ⟨fun z => absurd z hcmp, fun _ => ?_⟩⟩
        rw [e1]
        have e2 : (t : Int) + 1 = ((t + 1 : Nat) : Int) := by omega
        rw [e2, dv]
        exact ⟨by unfold qb_in; omega, mi.1, by unfold qb_in; omega, mi.2, by omega, i⟩
    have := key j 0 (by omega)
    rw [cb_n0] at this
    rw [ey]
    exact this
  · rw [if_neg c] at ey
    rw [cb_0 n j (by omega)] at hK
    rw [ey]
    by_cases d : (j : Int) ≤ 0
    · exact b_m_choose_14 ⟨fun _ => hK, fun z => absurd d z⟩
    · exact b_m_choose_14 ⟨fun z => absurd z d, fun _ => ⟨fun _ => hK, fun z => absurd (by decide) z⟩⟩
theorem open_eq {n d r j : Nat} (hj : j ≤ n) (hd : d ≤ n) : 100 * cb (n - j) d ≤ r * cb n d ↔ 100 * cb (n - d) j ≤ r * cb n j := by
  have t := cb_tri hj hd
  have p1 := cb_pos n j hj
  have p2 := cb_pos n d hd
  have a1 : 100 * cb (n - j) d * cb n j = 100 * cb (n - d) j * cb n d := by
    rw [Nat.mul_assoc, Nat.mul_comm (cb (n - j) d), t, Nat.mul_assoc, Nat.mul_comm (cb n d)]
  have a2 : r * cb n d * cb n j = r * cb n j * cb n d := by
    rw [Nat.mul_assoc, Nat.mul_comm (cb n d), ← Nat.mul_assoc]
  rw [← Nat.mul_le_mul_right_iff p1, a1, a2, Nat.mul_le_mul_right_iff p2]
theorem cmp_le {x y : Nat} : 0 < qb_cmp (x : Int) (y : Int) ↔ y < x := by
  unfold qb_cmp
  by_cases c : (y : Int) < x
  · rw [if_pos c]; exact ⟨fun _ => by omega, fun _ => by decide⟩
  · rw [if_neg c]
    by_cases d : (x : Int) = y
    · rw [if_pos d]; exact ⟨fun z => absurd z (by decide), fun z => by omega⟩
    · rw [if_neg d]; exact ⟨fun z => absurd z (by decide), fun z => by omega⟩
theorem open_ok (x1 x2 x3 : Int) (hp : qb_H) (K : Int → Int → qb_H → Prop) (hK : ∀ v : Int, K v v hp) : c_q_open x1 x2 x3 hp (fun v hp1 => c_m_open x1 x2 x3 hp1 (fun w hp2 => K v w hp2)) := by
  refine b_q_open ⟨fun c => b_m_open ⟨fun _ => hK _, fun z => absurd c z⟩, fun c => ⟨fun d => b_m_open ⟨fun z => absurd z c, fun _ => ⟨fun _ => hK _, fun z => absurd d z⟩⟩, fun d => ⟨fun e => b_m_open ⟨fun z => absurd z c, fun _ => ⟨fun z => absurd z d, fun _ => ⟨fun _ => hK _, fun z => absurd e z⟩⟩⟩, fun e => ?_⟩⟩⟩
  have hx1 : 1 ≤ x1 ∧ x1 ≤ 30 := by
    rcases v_in_c (x := x1) (a := 1) (b := 30) with z | z
    · exact absurd z.1 c
    · exact z.2
  have hx2 : 1 ≤ x2 ∧ x2 ≤ x1 := by
    rcases v_in_c (x := x2) (a := 1) (b := x1) with z | z
    · exact absurd z.1 d
    · exact z.2
  have hx3 : 0 ≤ x3 ∧ x3 ≤ 99 := by
    rcases v_in_c (x := x3) (a := 0) (b := 99) with z | z
    · exact absurd z.1 e
    · exact z.2
  obtain ⟨n, hn⟩ : ∃ n : Nat, x1 = n := ⟨_, (Int.toNat_of_nonneg (by omega)).symm⟩
  obtain ⟨b, hb⟩ : ∃ b : Nat, x2 = b := ⟨_, (Int.toNat_of_nonneg (by omega)).symm⟩
  obtain ⟨r, hr⟩ : ∃ r : Nat, x3 = r := ⟨_, (Int.toNat_of_nonneg (by omega)).symm⟩
  subst hn; subst hb; subst hr
  have hm : ∀ v : Nat, 1 ≤ v → v ≤ n → (∀ k : Nat, 1 ≤ k → k < v → ¬ 100 * cb (n - k) b ≤ r * cb n b) → (v < n → 100 * cb (n - v) b ≤ r * cb n b) → c_m_open n b r hp (fun w hp2 => K v w hp2) := by
    intro v v1 v2 h1 h2
    have e1 : (n : Int) - (b : Int) = ((n - b : Nat) : Int) := by omega
    have stp : ∀ k : Nat, k ≤ v → (v = k → r_m_open_35 n b r k hp (fun w hp2 => K v w hp2)) ∧ (k < v → r_m_open_35 n b r ((k : Int) + 1) hp (fun w hp2 => K v w hp2) → r_m_open_35 n b r k hp (fun w hp2 => K v w hp2)) := by
      intro k hkv
      have hl := cb_le30 (n := n - b) (j := k) (by omega)
      have hl2 := cb_le30 (n := n) (j := k) (by omega)
      have mi := mul_in (a := cb (n - b) k) (b := 100) hl (by omega)
      have mi2 := mul_in (a := cb n k) (b := r) hl2 (by omega)
      have c1 : ((cb (n - b) k : Nat) : Int) * 100 = ((100 * cb (n - b) k : Nat) : Int) := by omega
      have c2 : (r : Int) * ((cb n k : Nat) : Int) = ((r * cb n k : Nat) : Int) := by rw [Int.natCast_mul]
      have q2 : qb_inL (((r * cb n k : Nat) : Int)) := by
        rw [Nat.mul_comm, Int.natCast_mul]; exact mi2.1
      have q1 : qb_inL (((100 * cb (n - b) k : Nat) : Int)) := by
        rw [← c1]; exact mi.1
      have hq := open_eq (n := n) (d := b) (r := r) (j := k) (by omega) (by omega)
      refine ⟨fun ek => ?_, fun hk i => ?_⟩
      · refine b_m_open_35 ⟨by unfold qb_in; omega, ?_⟩
        rw [e1]
        refine s_m_choose (by omega) (by omega) ?_
        rw [c1]
        refine ⟨q1, s_m_choose (by omega) (by omega) ?_⟩
        rw [c2]
        have hQ : 100 * cb (n - b) k ≤ r * cb n k := by
          by_cases z : v < n
          · have := h2 z
            rw [ek] at this
            exact hq.1 this
          · rw [cb_0 (n - b) k (by omega)]; omega
        have hc : qb_cmp ((100 * cb (n - b) k : Nat) : Int) ((r * cb n k : Nat) : Int) ≤ 0 := by
          have : ¬ 0 < qb_cmp ((100 * cb (n - b) k : Nat) : Int) ((r * cb n k : Nat) : Int) := fun z => by
            have := cmp_le.1 z; omega
          omega
        refine ⟨q2, fun _ => ?_, fun z => absurd hc z⟩
        rw [← ek]
        exact hK _
      · refine b_m_open_35 ⟨by unfold qb_in; omega, ?_⟩
        rw [e1]
        refine s_m_choose (by omega) (by omega) ?_
        rw [c1]
        refine ⟨q1, s_m_choose (by omega) (by omega) ?_⟩
        rw [c2]
        have hQ : r * cb n k < 100 * cb (n - b) k := by
          by_cases z : k = 0
          · rw [z, cb_n0, cb_n0]; omega
          · have := h1 k (by omega) hk
            rw [hq] at this
            omega
        have hc : ¬ qb_cmp ((100 * cb (n - b) k : Nat) : Int) ((r * cb n k : Nat) : Int) ≤ 0 := by
          have := (cmp_le (x := 100 * cb (n - b) k) (y := r * cb n k)).2 hQ
          omega
        exact ⟨q2, fun z => absurd z hc, fun _ => ⟨by unfold qb_in; omega, i⟩⟩
    have key : ∀ (f k : Nat), k + f = v → r_m_open_35 n b r k hp (fun w hp2 => K v w hp2) := by
      intro f
      induction f with
      | zero => intro k hk; exact (stp k (by omega)).1 (by omega)
      | succ f ih =>
        intro k hk
        have i := ih (k + 1) (by omega)
        rw [Int.natCast_succ] at i
        exact (stp k (by omega)).2 (by omega) i
    exact b_m_open ⟨fun z => absurd z c, fun _ => ⟨fun z => absurd z d, fun _ => ⟨fun z => absurd z e, fun _ => key v 0 (by omega)⟩⟩⟩
  have hqk : ∀ (f t : Nat), t + f = n → 1 ≤ t → (∀ k : Nat, 1 ≤ k → k < t → ¬ 100 * cb (n - k) b ≤ r * cb n b) → r_q_open_42 n b r (cb n b) t hp (fun v hp1 => c_m_open n b r hp1 (fun w hp2 => K v w hp2)) := by
    intro f
    induction f with
    | zero =>
      intro t ht t1 h
      have et : t = n := by omega
      rw [et] at h
      exact b_q_open_42 ⟨fun _ => hm n (by omega) (Nat.le_refl n) h (fun z => by omega), fun z => absurd (by omega) z⟩
    | succ f ih =>
      intro t ht t1 h
      have e1 : (n : Int) - (t : Int) = ((n - t : Nat) : Int) := by omega
      have hl := cb_le30 (n := n - t) (j := b) (by omega)
      have hl2 := cb_le30 (n := n) (j := b) (by omega)
      have mi := mul_in (a := cb (n - t) b) (b := 100) hl (by omega)
      have mi2 := mul_in (a := cb n b) (b := r) hl2 (by omega)
      have c1 : 100 * ((cb (n - t) b : Nat) : Int) = ((100 * cb (n - t) b : Nat) : Int) := by omega
      have c2 : (r : Int) * ((cb n b : Nat) : Int) = ((r * cb n b : Nat) : Int) := by rw [Int.natCast_mul]
      have q2 : qb_inL (((r * cb n b : Nat) : Int)) := by
        rw [Nat.mul_comm, Int.natCast_mul]; exact mi2.1
      have q1 : qb_inL (((100 * cb (n - t) b : Nat) : Int)) := by
        rw [← c1, Int.mul_comm]; exact mi.1
      refine b_q_open_42 ⟨fun z => absurd z (by omega), fun _ => ⟨by unfold qb_in; omega, ?_⟩⟩
      rw [e1]
      refine s_q_choose (by omega) (by omega) ?_
      rw [c1, c2]
      refine ⟨q1, q2, fun z => ⟨by unfold qb_in; omega, ?_⟩, fun z => ?_⟩
      · have hz := cmp_le.1 z
        have := ih (t + 1) (by omega) (by omega) (fun k k1 k2 => by
          by_cases ek : k = t
          · rw [ek]; omega
          · exact h k k1 (by omega))
        rw [Int.natCast_succ] at this
        exact this
      · refine hm t t1 (by omega) h (fun _ => ?_)
        have : ¬ r * cb n b < 100 * cb (n - t) b := fun q => z (cmp_le.2 q)
        omega
  exact s_q_choose (by omega) (by omega) (hqk (n - 1) 1 (by omega) (by omega) (fun k k1 k2 => by omega))
