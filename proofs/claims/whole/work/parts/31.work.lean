/-! the class works its quays -/
/-- the class's landings, quays and rules as they stand between two calls -/
def qb_iL (hp : qb_H) (n : Nat) : Prop :=
  hp 11 13 = n ∧ n ≤ 30 ∧
  (∀ p : Nat, p < n → 0 ≤ hp 17 p ∧ hp 17 p < n) ∧
  (∀ k : Int, 0 ≤ k → k < n → (0 ≤ hp 12 k ∧ hp 12 k ≤ 9) ∧ (-1 ≤ hp 13 k ∧ hp 13 k ≤ 3) ∧ (0 ≤ hp 14 k ∧ hp 14 k ≤ 2000) ∧ (1 ≤ hp 15 k ∧ hp 15 k ≤ 20000) ∧ (1 ≤ hp 16 k ∧ hp 16 k ≤ 9)) ∧
  (∀ p q : Nat, p < q → q < n → hp 14 (hp 17 p) < hp 14 (hp 17 q) ∨ (hp 14 (hp 17 p) = hp 14 (hp 17 q) ∧ hp 17 p < hp 17 q)) ∧
  (∀ F : Int → Int, qb_sum (fun p => F (hp 17 p)) n = qb_sum F n) ∧
  (∀ q : Int, 0 ≤ q → q < 4 → (1 ≤ hp 21 q ∧ hp 21 q ≤ 9) ∧ (1 ≤ hp 22 q ∧ hp 22 q ≤ 2000)) ∧
  ((1 ≤ hp 10 0 ∧ hp 10 0 ≤ 72) ∧ (100 ≤ hp 10 1 ∧ hp 10 1 ≤ 1500) ∧ (1 ≤ hp 10 2 ∧ hp 10 2 ≤ 100) ∧ (0 ≤ hp 10 3 ∧ hp 10 3 ≤ 50) ∧ (500 ≤ hp 10 4 ∧ hp 10 4 ≤ 1500) ∧ (0 ≤ hp 10 5 ∧ hp 10 5 ≤ 100) ∧ (0 ≤ hp 10 6 ∧ hp 10 6 ≤ 100))
/-- the sums tell that every number stands in the order -/
theorem qb_onto {o : Int → Int} {n : Nat} (h : ∀ F : Int → Int, qb_sum (fun p => F (o p)) n = qb_sum F n) (k : Int) (h0 : 0 ≤ k) (h1 : k < n) : ∃ p : Nat, p < n ∧ o p = k := by
  have h2 := h (fun x => if x = k then 1 else 0)
  apply Classical.byContradiction
  intro hno
  have h3 : qb_sum (fun p => if o p = k then 1 else 0) n = 0 := by
    have := qb_sum_cg (f := fun p => if o p = k then 1 else 0) (g := fun _ => 0) n (fun p hp => by
      rw [if_neg (fun e => hno ⟨p, hp, e⟩)])
    rw [this, qb_sum_0]
  have h4 : ∀ m : Nat, k < m → 0 < qb_sum (fun x => if x = k then 1 else 0) m := by
    intro m
    induction m with
    | zero => intro hm; omega
    | succ m ih =>
      intro hm
      have h5 := (qb_sum_in (f := fun x => if x = k then 1 else 0) (lo := 0) (hi := 1) m (fun j _ => by split <;> omega)).1
      simp only [qb_sum]
      by_cases e : (m : Int) = k
      · rw [if_pos e]; omega
      · have := ih (by omega)
        rw [if_neg e]; omega
  have := h4 n h1
  rw [← h2] at this
  omega
def qb_gq (hp : qb_H) (Q : Int) : sc_G := (hp 17, hp 14, hp 15, fun k => decide (hp 13 k = Q), hp 21 Q * hp 22 Q, hp 10 0)
theorem qb_pace {hp : qb_H} {n : Nat} (h : qb_iL hp n) {Q : Int} (h0 : 0 ≤ Q) (h1 : Q < 4) : 1 ≤ hp 21 Q * hp 22 Q ∧ hp 21 Q * hp 22 Q ≤ 18000 := by
  obtain ⟨-, -, -, -, -, -, hq, -⟩ := h
  have hq := hq Q h0 h1
  have a1 := Int.mul_le_mul hq.1.1 hq.2.1 (by omega) (by omega)
  have a2 := Int.mul_le_mul hq.1.2 hq.2.2 (by omega) (by omega)
  omega
theorem qb_sok {hp : qb_H} {n : Nat} (h : qb_iL hp n) {Q : Int} (h0 : 0 ≤ Q) (h1 : Q < 4) : sc_ok (qb_gq hp Q) n := by
  have hpc := qb_pace h h0 h1
  obtain ⟨e1, e2, e3, e4, e5, e6, e7, e8⟩ := h
  exact ⟨e3, fun k a b => ⟨(e4 k a b).2.2.1, (e4 k a b).2.2.2.1⟩, e5, fun k a b => qb_onto e6 k a b, hpc, e8.1⟩
def hw_0 (hp : qb_H) : Nat → qb_H
  | 0 => hp
  | q + 1 => qb_st (qb_st (hw_0 hp q) 23 q 0) 24 q 0
def hw_1 (S : Int) (hp : qb_H) : Nat → qb_H
  | 0 => hp
  | p + 1 => if hw_1 S hp p 13 (hw_1 S hp p 17 p) = -1 then hw_1 S hp p else h_la_workOne (hw_1 S hp p 17 p) (hw_1 S hp p 13 (hw_1 S hp p 17 p)) S (hw_1 S hp p)
def h_la_work (S : Int) (hp : qb_H) : qb_H := hw_1 S (hw_0 hp 4) (hp 11 13).toNat
theorem hw_0_ne (hp : qb_H) (c : Nat) (h1 : c ≠ 23) (h2 : c ≠ 24) : ∀ q : Nat, hw_0 hp q c = hp c := by
  intro q
  induction q with
  | zero => rfl
  | succ q ih => simp only [hw_0]; rw [qb_st_ne h2, qb_st_ne h1, ih]
theorem hw_1_ne (S : Int) (hp : qb_H) (c : Nat) (h1 : c ≠ 18) (h2 : c ≠ 19) (h3 : c ≠ 20) (h4 : c ≠ 23) (h5 : c ≠ 24) : ∀ p : Nat, hw_1 S hp p c = hp c := by
  intro p
  induction p with
  | zero => rfl
  | succ p ih =>
    simp only [hw_1]
    split
    · exact ih
    · rw [hn_la_workOne _ _ _ _ c h1 h2 h3 h4 h5, ih]
theorem hn_la_work (S : Int) (hp : qb_H) (c : Nat) (h18 : c ≠ 18) (h19 : c ≠ 19) (h20 : c ≠ 20) (h23 : c ≠ 23) (h24 : c ≠ 24) : h_la_work S hp c = hp c := by
  unfold h_la_work
  rw [hw_1_ne S _ c h18 h19 h20 h23 h24, hw_0_ne hp c h23 h24]
theorem hw_0_z (hp : qb_H) : ∀ (q : Nat) (Q : Int), 0 ≤ Q → Q < q → hw_0 hp q 23 Q = 0 ∧ hw_0 hp q 24 Q = 0 := by
  intro q
  induction q with
  | zero => intro Q h0 h1; omega
  | succ q ih =>
    intro Q h0 h1
    have h2 := fun h => ih Q h0 h
    simp only [hw_0]
    by_cases e : Q = q
    · subst e; simp [qb_st]
    · have := h2 (by omega)
      simp [qb_st, e, this]
/-- a landing is worked -/
theorem qb_w1 (k Q S : Int) (hp : qb_H) :
    h_la_workOne k Q S hp 23 Q = max (hp 23 Q) (hp 14 k * (hp 21 Q * hp 22 Q)) + max 0 (min (hp 15 k) ((hp 14 k + S) * (hp 21 Q * hp 22 Q) - max (hp 23 Q) (hp 14 k * (hp 21 Q * hp 22 Q)))) ∧
    h_la_workOne k Q S hp 24 Q = hp 24 Q + max 0 (min (hp 15 k) ((hp 14 k + S) * (hp 21 Q * hp 22 Q) - max (hp 23 Q) (hp 14 k * (hp 21 Q * hp 22 Q)))) ∧
    h_la_workOne k Q S hp 18 k = max (hp 23 Q) (hp 14 k * (hp 21 Q * hp 22 Q)) ∧
    h_la_workOne k Q S hp 19 k = max 0 (min (hp 15 k) ((hp 14 k + S) * (hp 21 Q * hp 22 Q) - max (hp 23 Q) (hp 14 k * (hp 21 Q * hp 22 Q)))) ∧
    h_la_workOne k Q S hp 20 k = hp 24 Q ∧
    (∀ Q', Q' ≠ Q → h_la_workOne k Q S hp 23 Q' = hp 23 Q' ∧ h_la_workOne k Q S hp 24 Q' = hp 24 Q') ∧
    (∀ j, j ≠ k → h_la_workOne k Q S hp 18 j = hp 18 j ∧ h_la_workOne k Q S hp 19 j = hp 19 j ∧ h_la_workOne k Q S hp 20 j = hp 20 j) := by
  refine ⟨?_, ?_, ?_, ?_, ?_, ?_, ?_⟩
  all_goals simp +contextual [h_la_workOne, qb_st, v_la_startOf, v_la_workedFrom, v_la_paceAt]
/-- what stands behind p landings -/
theorem hw_1_is {hp : qb_H} {n : Nat} (hI : qb_iL hp n) : ∀ p : Nat, p ≤ n →
    (∀ Q : Int, 0 ≤ Q → Q < 4 → hw_1 (hp 10 0) (hw_0 hp 4) p 23 Q = sc_R (qb_gq hp Q) p ∧ hw_1 (hp 10 0) (hw_0 hp 4) p 24 Q = sc_T (qb_gq hp Q) p) ∧
    (∀ (p1 : Nat) (Q : Int), p1 < p → 0 ≤ Q → hp 13 (hp 17 p1) = Q → hw_1 (hp 10 0) (hw_0 hp 4) p 18 (hp 17 p1) = sc_S (qb_gq hp Q) p1 ∧ hw_1 (hp 10 0) (hw_0 hp 4) p 19 (hp 17 p1) = sc_W (qb_gq hp Q) p1 ∧ hw_1 (hp 10 0) (hw_0 hp 4) p 20 (hp 17 p1) = sc_T (qb_gq hp Q) p1) := by
  intro p
  induction p with
  | zero =>
    intro _
    refine ⟨fun Q h0 h1 => ?_, fun p1 Q h => by omega⟩
    exact hw_0_z hp 4 Q h0 (by omega)
  | succ p ih =>
    intro hp1
    obtain ⟨ih1, ih2⟩ := ih (by omega)
    have hne : ∀ c : Nat, c ≠ 18 → c ≠ 19 → c ≠ 20 → c ≠ 23 → c ≠ 24 → hw_1 (hp 10 0) (hw_0 hp 4) p c = hp c := fun c h1 h2 h3 h4 h5 => by
      rw [hw_1_ne _ _ c h1 h2 h3 h4 h5, hw_0_ne hp c h4 h5]
    have e13 := hne 13 (by decide) (by decide) (by decide) (by decide) (by decide)
    have e17 := hne 17 (by decide) (by decide) (by decide) (by decide) (by decide)
    have e14 := hne 14 (by decide) (by decide) (by decide) (by decide) (by decide)
    have e15 := hne 15 (by decide) (by decide) (by decide) (by decide) (by decide)
    have e21 := hne 21 (by decide) (by decide) (by decide) (by decide) (by decide)
    have e22 := hne 22 (by decide) (by decide) (by decide) (by decide) (by decide)
    have hok := hI
    obtain ⟨f1, f2, f3, f4, f5, f6, f7, f8⟩ := hI
    have hko := f3 p (by omega)
    have hkq := (f4 (hp 17 p) hko.1 hko.2).2.1
    have hinj : ∀ p1 : Nat, p1 < p → hp 17 p1 ≠ hp 17 p := fun p1 h e => by
      have := f5 p1 p h (by omega)
      rw [e] at this
      omega
    simp only [hw_1]
    rw [e13, e17]
    by_cases hq : hp 13 (hp 17 p) = -1
    · rw [if_pos hq]
      refine ⟨fun Q h0 h1 => ?_, fun p1 Q h h0 h1 => ?_⟩
      · have ha : ¬ sc_a (qb_gq hp Q) (sc_o (qb_gq hp Q) p) = true := by
          show ¬ decide (hp 13 (hp 17 p) = Q) = true
          simp only [decide_eq_true_eq]; omega
        rw [sc_R2 ha, sc_T2 ha]
        exact ih1 Q h0 h1
      · by_cases e : p1 = p
        · subst e; omega
        · exact ih2 p1 Q (by omega) h0 h1
    · rw [if_neg hq]
      have hw := qb_w1 (hp 17 p) (hp 13 (hp 17 p)) (hp 10 0) (hw_1 (hp 10 0) (hw_0 hp 4) p)
      obtain ⟨w1, w2, w3, w4, w5, w6, w7⟩ := hw
      simp only [e14, e15, e21, e22] at w1 w2 w3 w4
      have ihq := ih1 (hp 13 (hp 17 p)) (by omega) (by omega)
      rw [ihq.1] at w1 w2 w3 w4
      rw [ihq.2] at w2 w5
      refine ⟨fun Q h0 h1 => ?_, fun p1 Q h h0 h1 => ?_⟩
      · by_cases e : Q = hp 13 (hp 17 p)
        · subst e
          have ha : sc_a (qb_gq hp (hp 13 (hp 17 p))) (sc_o (qb_gq hp (hp 13 (hp 17 p))) p) = true := by
            show decide (hp 13 (hp 17 p) = hp 13 (hp 17 p)) = true
            simp
          rw [sc_R1 ha, sc_T1 ha, w1, w2]
          exact ⟨rfl, rfl⟩
        · have ha : ¬ sc_a (qb_gq hp Q) (sc_o (qb_gq hp Q) p) = true := by
            show ¬ decide (hp 13 (hp 17 p) = Q) = true
            simp only [decide_eq_true_eq]; omega
          rw [sc_R2 ha, sc_T2 ha, (w6 Q e).1, (w6 Q e).2]
          exact ih1 Q h0 h1
      · by_cases e : p1 = p
        · subst e; subst h1
          rw [w3, w4, w5]
          exact ⟨rfl, rfl, rfl⟩
        · have hp1' : p1 < p := by omega
          obtain ⟨z1, z2, z3⟩ := w7 (hp 17 p1) (hinj p1 hp1')
          rw [z1, z2, z3]
          exact ih2 p1 Q hp1' h0 h1
/-- the class works: each landing's start, worked fish, what lay before it; each quay's total -/
theorem qb_worked {hp : qb_H} {n : Nat} (hI : qb_iL hp n) :
    (∀ Q : Int, 0 ≤ Q → Q < 4 → h_la_work (hp 10 0) hp 24 Q = sc_T (qb_gq hp Q) n) ∧
    (∀ (p : Nat) (Q : Int), p < n → 0 ≤ Q → hp 13 (hp 17 p) = Q → h_la_work (hp 10 0) hp 18 (hp 17 p) = sc_S (qb_gq hp Q) p ∧ h_la_work (hp 10 0) hp 19 (hp 17 p) = sc_W (qb_gq hp Q) p ∧ h_la_work (hp 10 0) hp 20 (hp 17 p) = sc_T (qb_gq hp Q) p) := by
  have h := hw_1_is hI n (Nat.le_refl n)
  unfold h_la_work
  rw [hI.1, Int.toNat_natCast]
  exact ⟨fun Q h0 h1 => (h.1 Q h0 h1).2, fun p Q h0 h1 h2 => h.2 p Q h0 h1 h2⟩
def g_la_work (S : Int) (hp : qb_H) : Prop := S = hp 10 0 ∧ ∃ n, qb_iL hp n
theorem s_la_work (x1 : Int) (hp : qb_H) (K : qb_H → Prop) (hg : g_la_work x1 hp) (hK : K (h_la_work x1 hp)) : c_la_work x1 hp K := by
  obtain ⟨rfl, n, hI⟩ := hg
  have hn := hI.1
  have h30 := hI.2.1
  have hz : ∀ c : Nat, c ≠ 23 → c ≠ 24 → hw_0 hp 4 c = hp c := fun c h1 h2 => hw_0_ne hp c h1 h2 4
  have hend : r_la_work_29 (hp 10 0) 0 (hw_0 hp 4) K := by
    refine qb_up n (fun k i => r_la_work_29 (hp 10 0) i (hw_1 (hp 10 0) (hw_0 hp 4) k) K) ?_ ?_
    · have e : hw_1 (hp 10 0) (hw_0 hp 4) n = h_la_work (hp 10 0) hp := by unfold h_la_work; rw [hn, Int.toNat_natCast]
      rw [e]
      refine b_la_work_29 ⟨fun _ => hK, fun c => absurd c ?_⟩
      rw [hn_la_work _ _ 11 (by decide) (by decide) (by decide) (by decide) (by decide), hn]
      omega
    · intro k hk ih
      have hne : ∀ c : Nat, c ≠ 18 → c ≠ 19 → c ≠ 20 → c ≠ 23 → c ≠ 24 → hw_1 (hp 10 0) (hw_0 hp 4) k c = hp c := fun c h1 h2 h3 h4 h5 => by
        rw [hw_1_ne _ _ c h1 h2 h3 h4 h5, hz c h4 h5]
      have e11 := hne 11 (by decide) (by decide) (by decide) (by decide) (by decide)
      have e13 := hne 13 (by decide) (by decide) (by decide) (by decide) (by decide)
      have e17 := hne 17 (by decide) (by decide) (by decide) (by decide) (by decide)
      have e14 := hne 14 (by decide) (by decide) (by decide) (by decide) (by decide)
      have e15 := hne 15 (by decide) (by decide) (by decide) (by decide) (by decide)
      have e21 := hne 21 (by decide) (by decide) (by decide) (by decide) (by decide)
      have e22 := hne 22 (by decide) (by decide) (by decide) (by decide) (by decide)
      have hko := hI.2.2.1 k hk
      have hkf := hI.2.2.2.1 (hp 17 k) hko.1 hko.2
      have his := (hw_1_is hI k (by omega)).1
      refine b_la_work_29 ⟨fun c => absurd c (by rw [e11, hn]; omega), fun _ => ⟨by omega, by rw [e17]; omega, fun hq => ?_, ?_⟩⟩
      · rw [e13, e17] at hq ⊢
        have hQ0 : 0 ≤ hp 13 (hp 17 k) := by omega
        have hQ4 : hp 13 (hp 17 k) < 4 := by omega
        obtain ⟨i1, i2⟩ := his (hp 13 (hp 17 k)) hQ0 hQ4
        have hok := qb_sok hI hQ0 hQ4
        have hpc := qb_pace hI hQ0 hQ4
        have b1 := sc_Rb hok (p := k) (by omega)
        have b2 := sc_Sb hok (p := k) hk
        have b3 := sc_Tb hok k (by omega)
        have b0 := sc_R0 (qb_gq hp (hp 13 (hp 17 k))) k
        have b4 := sc_Wf hok (p := k) hk
        have b5 := sc_W0 (qb_gq hp (hp 13 (hp 17 k))) k
        have b6 := sc_Rb hok (p := k + 1) (by omega)
        have hrules := hI.2.2.2.2.2.2.2
        have m1 := sc_mle hok (x := hp 14 (hp 17 k)) (y := 2072) (by omega)
        have m2 := sc_mle hok (x := hp 14 (hp 17 k) + hp 10 0) (y := 2072) (by omega)
        have m3 := sc_mle hok (x := 0) (y := hp 14 (hp 17 k)) (by omega)
        have m4 := sc_mle hok (x := 0) (y := hp 14 (hp 17 k) + hp 10 0) (by omega)
        have p1 : sc_p (qb_gq hp (hp 13 (hp 17 k))) = hp 21 (hp 13 (hp 17 k)) * hp 22 (hp 13 (hp 17 k)) := rfl
        rw [p1] at b1 b2 b6 m1 m2 m3 m4
        have s1 : sc_S (qb_gq hp (hp 13 (hp 17 k))) k = max (sc_R (qb_gq hp (hp 13 (hp 17 k))) k) (hp 14 (hp 17 k) * (hp 21 (hp 13 (hp 17 k)) * hp 22 (hp 13 (hp 17 k)))) := rfl
        have s2 : sc_W (qb_gq hp (hp 13 (hp 17 k))) k = max 0 (min (hp 15 (hp 17 k)) ((hp 14 (hp 17 k) + hp 10 0) * (hp 21 (hp 13 (hp 17 k)) * hp 22 (hp 13 (hp 17 k))) - max (sc_R (qb_gq hp (hp 13 (hp 17 k))) k) (hp 14 (hp 17 k) * (hp 21 (hp 13 (hp 17 k)) * hp 22 (hp 13 (hp 17 k)))))) := rfl
        have s3 : sc_f (qb_gq hp (hp 13 (hp 17 k))) (sc_o (qb_gq hp (hp 13 (hp 17 k))) k) = hp 15 (hp 17 k) := rfl
        rw [s3] at b4
        unfold g_la_workOne g_la_startOf g_la_workedFrom v_la_startOf v_la_workedFrom g_la_paceAt v_la_paceAt qb_in
        simp only [qb_st_ne (show (14 : Nat) ≠ 18 by decide), qb_st_ne (show (15 : Nat) ≠ 18 by decide), qb_st_ne (show (21 : Nat) ≠ 18 by decide), qb_st_ne (show (22 : Nat) ≠ 18 by decide), e14, e15, e21, e22, i1, i2]
        clear ih his hok hne hz i1 i2 hK
        generalize hp 21 (hp 13 (hp 17 k)) * hp 22 (hp 13 (hp 17 k)) = pc at *
        refine ⟨by omega, ⟨by omega, by omega, by omega⟩, by omega, ⟨by omega, by omega, by omega, by omega, by omega⟩, by omega, by omega⟩
      · rw [e13, e17]
        have e : hw_1 (hp 10 0) (hw_0 hp 4) (k + 1) = if hp 13 (hp 17 k) = -1 then hw_1 (hp 10 0) (hw_0 hp 4) k else h_la_workOne (hp 17 k) (hp 13 (hp 17 k)) (hp 10 0) (hw_1 (hp 10 0) (hw_0 hp 4) k) := by
          simp only [hw_1]; rw [e13, e17]
        rw [e] at ih
        exact ih
  refine b_la_work (qb_up 4 (fun k i => r_la_work_2 (hp 10 0) i (hw_0 hp k) K) ?_ ?_)
  · exact b_la_work_2 ⟨fun _ => hend, fun c => absurd c (by omega)⟩
  · intro k hk ih
    exact b_la_work_2 ⟨fun c => absurd c (by omega), fun _ => ⟨by omega, ih⟩⟩
