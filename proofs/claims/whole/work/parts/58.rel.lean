/-! landings, quays and rules in both -/
def qb_iB (hp : qb_H) (n : Nat) : Prop :=
  qb_iL hp n ∧ hp 60 9 = n ∧
  (∀ k : Int, 0 ≤ k → k < n → hp 68 (7 * k) = hp 12 k ∧ hp 68 (7 * k + 1) = hp 13 k ∧ hp 68 (7 * k + 2) = hp 14 k ∧ hp 68 (7 * k + 3) = hp 15 k ∧ hp 68 (7 * k + 4) = hp 16 k) ∧
  (∀ q : Int, 0 ≤ q → q < 4 → hp 65 q = hp 21 q ∧ hp 66 q = hp 22 q) ∧
  (∀ j : Int, 0 ≤ j → j < 7 → hp 67 j = hp 10 j)
/-- only what is laid anew by each call has changed -/
def kS (hp hq : qb_H) : Prop :=
  (∀ c : Nat, c ∉ [18, 19, 20, 23, 24, 25, 31, 34, 35, 50, 51, 52, 53, 57, 58, 59, 83, 84, 85, 86, 87, 88] → c ≠ 60 → c ≠ 68 → c ≠ 32 → hq c = hp c) ∧
  (∀ j : Int, j ∉ [29, 30, 31, 32, 33, 38, 39, 40, 41, 42, 43, 44, 45, 46, 47] → hq 60 j = hp 60 j) ∧
  (∀ k i : Int, 0 ≤ i → i < 5 → hq 68 (7 * k + i) = hp 68 (7 * k + i)) ∧
  (∀ j : Int, j ≠ 5 → hq 32 j = hp 32 j) ∧ (∀ j : Int, 1764 ≤ j → hq 59 j = hp 59 j)
theorem kS.rf {hp : qb_H} : kS hp hp := ⟨fun _ _ _ _ _ => rfl, fun _ _ => rfl, fun _ _ _ _ => rfl, fun _ _ => rfl, fun _ _ => rfl⟩
theorem kS.tr {x y z : qb_H} (h : kS x y) (h' : kS y z) : kS x z := ⟨fun c h1 h2 h3 h4 => (h'.1 c h1 h2 h3 h4).trans (h.1 c h1 h2 h3 h4), fun j h1 => (h'.2.1 j h1).trans (h.2.1 j h1), fun k i h1 h2 => (h'.2.2.1 k i h1 h2).trans (h.2.2.1 k i h1 h2), fun j h1 => (h'.2.2.2.1 j h1).trans (h.2.2.2.1 j h1), fun j h1 => (h'.2.2.2.2 j h1).trans (h.2.2.2.2 j h1)⟩
theorem iL_go {hp hq : qb_H} {n : Nat} (h : qb_iL hp n) (hc : ∀ c : Nat, 10 ≤ c → c ≤ 22 → c ≠ 18 → c ≠ 19 → c ≠ 20 → hq c = hp c) : qb_iL hq n := by
  unfold qb_iL at h ⊢
  rw [hc 10 (by decide) (by decide) (by decide) (by decide) (by decide), hc 11 (by decide) (by decide) (by decide) (by decide) (by decide), hc 12 (by decide) (by decide) (by decide) (by decide) (by decide), hc 13 (by decide) (by decide) (by decide) (by decide) (by decide), hc 14 (by decide) (by decide) (by decide) (by decide) (by decide), hc 15 (by decide) (by decide) (by decide) (by decide) (by decide), hc 16 (by decide) (by decide) (by decide) (by decide) (by decide), hc 17 (by decide) (by decide) (by decide) (by decide) (by decide), hc 21 (by decide) (by decide) (by decide) (by decide) (by decide), hc 22 (by decide) (by decide) (by decide) (by decide) (by decide)]
  exact h
theorem iB_go {hp hq : qb_H} {n : Nat} (h : qb_iB hp n) (hc : ∀ c : Nat, 10 ≤ c → c ≤ 22 → c ≠ 18 → c ≠ 19 → c ≠ 20 → hq c = hp c) (h65 : hq 65 = hp 65) (h66 : hq 66 = hp 66) (h67 : hq 67 = hp 67) (h60 : hq 60 9 = hp 60 9) (h68 : ∀ k i : Int, 0 ≤ i → i < 5 → hq 68 (7 * k + i) = hp 68 (7 * k + i)) : qb_iB hq n := by
  obtain ⟨h1, h2, h3, h4, h5⟩ := h
  refine ⟨iL_go h1 hc, by rw [h60]; exact h2, fun k k0 k1 => ?_, ?_, ?_⟩
  · have e0 := h68 k 0 (by decide) (by decide)
    rw [Int.add_zero] at e0
    rw [e0, h68 k 1 (by decide) (by decide), h68 k 2 (by decide) (by decide), h68 k 3 (by decide) (by decide), h68 k 4 (by decide) (by decide), hc 12 (by decide) (by decide) (by decide) (by decide) (by decide), hc 13 (by decide) (by decide) (by decide) (by decide) (by decide), hc 14 (by decide) (by decide) (by decide) (by decide) (by decide), hc 15 (by decide) (by decide) (by decide) (by decide) (by decide), hc 16 (by decide) (by decide) (by decide) (by decide) (by decide)]
    exact h3 k k0 k1
  · rw [h65, h66, hc 21 (by decide) (by decide) (by decide) (by decide) (by decide), hc 22 (by decide) (by decide) (by decide) (by decide) (by decide)]
    exact h4
  · rw [h67, hc 10 (by decide) (by decide) (by decide) (by decide) (by decide)]
    exact h5
theorem iB_kS {hp hq : qb_H} {n : Nat} (h : qb_iB hp n) (hk : kS hp hq) : qb_iB hq n := by
  refine iB_go h (fun c c1 c2 c3 c4 c5 => hk.1 c ?_ (by omega) (by omega) (by omega)) (hk.1 65 (by decide) (by decide) (by decide) (by decide)) (hk.1 66 (by decide) (by decide) (by decide) (by decide)) (hk.1 67 (by decide) (by decide) (by decide) (by decide)) (hk.2.1 9 (by decide)) hk.2.2.1
  intro hm
  simp at hm
  omega
theorem iB_gq {hp hq : qb_H} (hc : ∀ c : Nat, 10 ≤ c → c ≤ 22 → c ≠ 18 → c ≠ 19 → c ≠ 20 → hq c = hp c) (Q : Int) : qb_gq hq Q = qb_gq hp Q := by
  unfold qb_gq
  rw [hc 17 (by decide) (by decide) (by decide) (by decide) (by decide), hc 14 (by decide) (by decide) (by decide) (by decide) (by decide), hc 15 (by decide) (by decide) (by decide) (by decide) (by decide), hc 13 (by decide) (by decide) (by decide) (by decide) (by decide), hc 21 (by decide) (by decide) (by decide) (by decide) (by decide), hc 22 (by decide) (by decide) (by decide) (by decide) (by decide), hc 10 (by decide) (by decide) (by decide) (by decide) (by decide)]
theorem kS_c {hp hq : qb_H} (hk : kS hp hq) : ∀ c : Nat, 10 ≤ c → c ≤ 22 → c ≠ 18 → c ≠ 19 → c ≠ 20 → hq c = hp c := fun c c1 c2 c3 c4 c5 => hk.1 c (by simp; omega) (by omega) (by omega) (by omega)
theorem kS_gq {hp hq : qb_H} (hk : kS hp hq) (Q : Int) : qb_gq hq Q = qb_gq hp Q := iB_gq (kS_c hk) Q
/-- the reference's quay is the class's schedule -/
theorem iB_mg {hp : qb_H} {n : Nat} (h : qb_iB hp n) {Q : Int} (h0 : 0 ≤ Q) (h1 : Q < 4) : qb_mg hp (qb_gq hp Q) n Q := by
  obtain ⟨b1, b2, b3, b4, b5⟩ := h
  refine ⟨b2, b1.2.1, qb_sok b1 h0 h1, ⟨h0, h1⟩, fun k k0 k1 => ?_, ?_, ?_⟩
  · obtain ⟨c0, c1, c2, c3, c4⟩ := b3 k k0 k1
    rw [c1, c2, c3]
    refine ⟨rfl, rfl, ?_⟩
    show hp 13 k = Q ↔ decide (hp 13 k = Q) = true
    exact decide_eq_true_iff.symm
  · rw [(b4 Q h0 h1).1, (b4 Q h0 h1).2]; rfl
  · rw [b5 0 (by decide) (by decide)]; rfl
theorem mi_kS {hp hq : qb_H} (h : mi_fr hp hq) : kS hp hq := by
  obtain ⟨h1, h2, h3⟩ := h
  refine ⟨fun c c1 c2 c3 c4 => ?_, fun j hj => ?_, h3, fun j _ => by rw [h1 32 (by decide) (by decide) (by decide) (by decide) (by decide) (by decide)], fun j _ => by rw [h1 59 (by decide) (by decide) (by decide) (by decide) (by decide) (by decide)]⟩
  · simp at c1
    exact h1 c c2 c3 (by omega) (by omega) (by omega) (by omega)
  · simp at hj
    exact h2 j (by omega) (by omega) (by omega)
theorem tb_kS {hp hq : qb_H} (h : tb_fr hp hq) : kS hp hq := by
  obtain ⟨h1, h2⟩ := h
  refine ⟨fun c c1 c2 c3 c4 => h1 c c2, fun j hj => ?_, fun k i _ _ => by rw [h1 68 (by decide)], fun j _ => by rw [h1 32 (by decide)], fun j _ => by rw [h1 59 (by decide)]⟩
  simp at hj
  exact h2 j (by omega) (by omega) (by omega) (by omega) (by omega) (by omega)
/-- the class has worked -/
theorem wk_ok {hp : qb_H} {n : Nat} (h : qb_iB hp n) {K : qb_H → Prop} (hK : ∀ hq : qb_H, kS hp hq → (∀ Q : Int, 0 ≤ Q → Q < 4 → qb_wk hq n Q) → (∀ c : Nat, 60 ≤ c → hq c = hp c) → K hq) : c_q_work hp K := by
  refine b_q_work (s_la_work (hp 10 0) hp _ ⟨rfl, n, h.1⟩ ?_)
  have hn := fun c h1 h2 h3 h4 h5 => hn_la_work (hp 10 0) hp c h1 h2 h3 h4 h5
  have hw := qb_worked h.1
  have hc : ∀ c : Nat, 10 ≤ c → c ≤ 22 → c ≠ 18 → c ≠ 19 → c ≠ 20 → h_la_work (hp 10 0) hp c = hp c := fun c c1 c2 c3 c4 c5 => hn c c3 c4 c5 (by omega) (by omega)
  refine hK _ ⟨fun c c1 c2 c3 c4 => ?_, fun j hj => ?_, fun k i _ _ => ?_, fun j _ => ?_, fun j _ => ?_⟩ (fun Q h0 h1 => ⟨?_, fun p hp1 hq => ?_⟩) (fun c hc60 => hn c (by omega) (by omega) (by omega) (by omega) (by omega))
  · simp at c1
    exact hn c (by omega) (by omega) (by omega) (by omega) (by omega)
  · rw [hn 60 (by decide) (by decide) (by decide) (by decide) (by decide)]
  · rw [hn 68 (by decide) (by decide) (by decide) (by decide) (by decide)]
  · rw [hn 32 (by decide) (by decide) (by decide) (by decide) (by decide)]
  · rw [hn 59 (by decide) (by decide) (by decide) (by decide) (by decide)]
  · rw [iB_gq hc]; exact hw.1 Q h0 h1
  · rw [iB_gq hc]
    rw [hc 17 (by decide) (by decide) (by decide) (by decide) (by decide)] at hq ⊢
    rw [hc 13 (by decide) (by decide) (by decide) (by decide) (by decide)] at hq
    exact hw.2 p Q hp1 h0 hq
