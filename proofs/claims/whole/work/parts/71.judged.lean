/-! JUDGED BARRELS in both: JUDGE, ABSOLVE, CAUSE -/
abbrev jh (hp : qb_H) (kz c : Int) : Prop := hp 70 (4 * kz + c / 10) = c % 10
def jr (hp : qb_H) (kz : Int) : Int := hp 70 (4 * kz + 3)
def qb_iJ (hp : qb_H) : Prop := hp 32 4 = hp 60 13 ∧ (0 ≤ hp 60 13 ∧ hp 60 13 ≤ 24) ∧
  (∀ c : Int, 0 ≤ c → c < 30 → ∃ m : Nat, hp 33 c = m ∧ m < 16777216 ∧ ∀ kz : Nat, m.testBit kz = true ↔ ((kz : Int) < hp 60 13 ∧ jh hp kz c)) ∧
  (∃ r : Nat, hp 32 3 = r ∧ r < 16777216 ∧ ∀ kz : Nat, r.testBit kz = true ↔ ((kz : Int) < hp 60 13 ∧ jr hp kz = 1)) ∧
  ∀ kz : Int, 0 ≤ kz → kz < hp 60 13 → (jr hp kz = 0 ∨ jr hp kz = 1)
theorem iJ_go {hp hq : qb_H} (h : qb_iJ hp) (h3 : hq 32 3 = hp 32 3) (h4 : hq 32 4 = hp 32 4) (h33 : hq 33 = hp 33) (h70 : hq 70 = hp 70) (h13 : hq 60 13 = hp 60 13) : qb_iJ hq := by
  unfold qb_iJ jh jr at h ⊢
  rw [h3, h4, h33, h70, h13]
  exact h
theorem iJ_kS {hp hq : qb_H} (h : qb_iJ hp) (hk : kS hp hq) : qb_iJ hq :=
  iJ_go h (hk.2.2.2.1 3 (by decide)) (hk.2.2.2.1 4 (by decide)) (hk.1 33 (by decide) (by decide) (by decide) (by decide)) (hk.1 70 (by decide) (by decide) (by decide) (by decide)) (hk.2.1 13 (by decide))
theorem ju_add_is (x1 x2 x3 x4 : Int) (hp : qb_H) (h1 : 0 ≤ x1 ∧ x1 ≤ 9) (h2 : 0 ≤ x2 ∧ x2 ≤ 9) (h3 : 0 ≤ x3 ∧ x3 ≤ 9) :
    (∀ c : Nat, c ≠ 32 → c ≠ 33 → h_ju_add x1 x2 x3 x4 hp c = hp c) ∧
    (∀ c : Int, h_ju_add x1 x2 x3 x4 hp 33 c = if c = x1 ∨ c = 10 + x2 ∨ c = 20 + x3 then qb_or (hp 33 c) (qb_shl 1 (hp 32 4)) else hp 33 c) ∧
    h_ju_add x1 x2 x3 x4 hp 32 3 = (if x4 = 0 then hp 32 3 else qb_or (hp 32 3) (qb_shl 1 (hp 32 4))) ∧ h_ju_add x1 x2 x3 x4 hp 32 4 = hp 32 4 + 1 ∧ v_ju_add x1 x2 x3 x4 hp = hp 32 4 + 1 := by
  have e1 : ¬ (10 + x2 = x1) := by omega
  have e2 : ¬ (20 + x3 = 10 + x2) := by omega
  have e3 : ¬ (20 + x3 = x1) := by omega
  unfold h_ju_add v_ju_add
  rw [if_neg e1, if_neg e2, if_neg e3]
  generalize qb_shl 1 (hp 32 4) = w
  by_cases c4 : x4 = 0
  · rw [if_pos c4, if_pos c4]
    refine ⟨fun c n1 n2 => ?_, fun c => ?_, ?_, ?_, ?_⟩
    · rw [qb_st_ne n1, qb_st_ne n2, qb_st_ne n2, qb_st_ne n2]
    · rw [qb_st_ne (by decide)]
      by_cases d3 : c = 20 + x3
      · rw [if_pos (Or.inr (Or.inr d3)), d3]; simp [qb_st]
      · by_cases d2 : c = 10 + x2
        · rw [if_pos (Or.inr (Or.inl d2)), d2]
          have : ¬ (10 + x2 = 20 + x3) := by omega
          simp [qb_st, this]
        · by_cases d1 : c = x1
          · rw [if_pos (Or.inl d1), d1]
            have t1 : ¬ (x1 = 20 + x3) := by omega
            have t2 : ¬ (x1 = 10 + x2) := by omega
            simp [qb_st, t1, t2]
          · rw [if_neg (by omega)]
            simp [qb_st, d1, d2, d3]
    · simp [qb_st]
    · simp [qb_st]
    · simp [qb_st]
  · rw [if_neg c4, if_neg c4]
    refine ⟨fun c n1 n2 => ?_, fun c => ?_, ?_, ?_, ?_⟩
    · rw [qb_st_ne n1, qb_st_ne n1, qb_st_ne n2, qb_st_ne n2, qb_st_ne n2]
    · rw [qb_st_ne (by decide), qb_st_ne (by decide)]
      by_cases d3 : c = 20 + x3
      · rw [if_pos (Or.inr (Or.inr d3)), d3]; simp [qb_st]
      · by_cases d2 : c = 10 + x2
        · rw [if_pos (Or.inr (Or.inl d2)), d2]
          have : ¬ (10 + x2 = 20 + x3) := by omega
          simp [qb_st, this]
        · by_cases d1 : c = x1
          · rw [if_pos (Or.inl d1), d1]
            have t1 : ¬ (x1 = 20 + x3) := by omega
            have t2 : ¬ (x1 = 10 + x2) := by omega
            simp [qb_st, t1, t2]
          · rw [if_neg (by omega)]
            simp [qb_st, d1, d2, d3]
    · simp [qb_st]
    · simp [qb_st]
    · simp [qb_st]
theorem or_put {m n : Nat} (hm : m < 16777216) (hn : n < 24) : ∃ z : Nat, qb_or m (qb_shl 1 n) = z ∧ z < 16777216 ∧ ∀ kz : Nat, z.testBit kz = true ↔ (m.testBit kz = true ∨ kz = n) := by
  have hs := bt_shl (k := n) (by omega)
  have h1 : 2 ^ n < 2 ^ 24 := Nat.pow_lt_pow_right (by decide) hn
  have h2 : m ||| 2 ^ n < 2 ^ 24 := Nat.or_lt_two_pow hm h1
  refine ⟨m ||| 2 ^ n, ?_, h2, fun kz => ?_⟩
  · rw [hs.1]; exact (bt_or (by omega) hs.2).1
  · rw [bt_put, Bool.or_eq_true, decide_eq_true_iff]
    exact ⟨fun h => h.imp id Eq.symm, fun h => h.imp id Eq.symm⟩
theorem judge_ok (x1 x2 x3 x4 : Int) (hp : qb_H) (K : Int → Int → qb_H → Prop) (hJ : qb_iJ hp) (hK : ∀ (v : Int) (hq : qb_H), qb_iJ hq → kp [32, 33, 70] [13] hp hq → K v v hq) : c_q_judge x1 x2 x3 x4 hp (fun v hp1 => c_m_judge x1 x2 x3 x4 hp1 (fun w hp2 => K v w hp2)) := by
  have hJ2 := hJ
  obtain ⟨j1, j2, j3, ⟨r, j4, j5, j6⟩, j7⟩ := hJ
  refine b_q_judge ⟨fun c => b_m_judge ⟨fun _ => hK _ hp hJ2 kp.rf, fun c2 => absurd c c2⟩, fun c => ⟨fun d => b_m_judge ⟨fun z => absurd z c, fun _ => ⟨fun _ => hK _ hp hJ2 kp.rf, fun c2 => absurd d c2⟩⟩, fun d => ⟨fun f => b_m_judge ⟨fun z => absurd z c, fun _ => ⟨fun z => absurd z d, fun _ => ⟨fun _ => hK _ hp hJ2 kp.rf, fun c2 => absurd f c2⟩⟩⟩, fun f => ⟨fun g => ?_, fun g => b_m_judge ⟨fun z => absurd z c, fun _ => ⟨fun z => absurd z d, fun _ => ⟨fun z => absurd z f, fun _ => ⟨fun _ => hK _ hp hJ2 kp.rf, fun c2 => absurd (by omega) c2⟩⟩⟩⟩⟩⟩⟩⟩
  have h1 : 0 ≤ x1 ∧ x1 ≤ 9 := by
    rcases v_in_c (x := x1) (a := 0) (b := 9) with z | z
    · exact absurd z.1 c
    · exact z.2
  have h2 : 0 ≤ x2 ∧ x2 ≤ 9 := by
    rcases v_in_c (x := x2) (a := 0) (b := 9) with z | z
    · exact absurd z.1 d
    · exact z.2
  have h3 : 0 ≤ x3 ∧ x3 ≤ 9 := by
    rcases v_in_c (x := x3) (a := 0) (b := 9) with z | z
    · exact absurd z.1 f
    · exact z.2
  obtain ⟨a1, a2, a3, a4, a5⟩ := ju_add_is x1 x2 x3 x4 hp h1 h2 h3
  obtain ⟨n, hn⟩ : ∃ n : Nat, hp 60 13 = n := ⟨_, (Int.toNat_of_nonneg j2.1).symm⟩
  refine ⟨?_, ?_⟩
  · have : g_ju_add x1 x2 x3 x4 hp ↔ ((0 ≤ x1 ∧ x1 < 30) ∧ (qb_in (10 + x2)) ∧ (0 ≤ (10 + x2) ∧ (10 + x2) < 30) ∧ (qb_in (20 + x3)) ∧ (0 ≤ (20 + x3) ∧ (20 + x3) < 30) ∧ qb_in (v_ju_add x1 x2 x3 x4 hp)) := Iff.rfl
    rw [this, a5]
    exact ⟨by omega, by unfold qb_in; omega, by omega, by unfold qb_in; omega, by omega, by unfold qb_in; omega⟩
  · rw [a5]
    generalize h_ju_add x1 x2 x3 x4 hp = hr at a1 a2 a3 a4 ⊢
    have e60 : hr 60 = hp 60 := a1 60 (by decide) (by decide)
    have e70 : hr 70 = hp 70 := a1 70 (by decide) (by decide)
    refine b_m_judge ⟨fun z => absurd z c, fun _ => ⟨fun z => absurd z d, fun _ => ⟨fun z => absurd z f, fun _ => ⟨fun z => absurd z (by rw [e60]; omega), fun _ => ?_⟩⟩⟩⟩
    rw [e60, hn]
    refine ⟨by unfold qb_in; omega, by omega, by omega, by omega, by omega, by unfold qb_in; omega, ?_⟩
    rw [j1, hn]
    have q13 : qb_st (qb_st (qb_st (qb_st (qb_st hr 70 (4 * (n : Int)) x1) 70 (4 * (n : Int) + 1) x2) 70 (4 * (n : Int) + 2) x3) 70 (4 * (n : Int) + 3) (if x4 = 0 then (0 : Int) else 1)) 60 13 ((n : Int) + 1) 60 13 = n + 1 := by simp [qb_st]
    have q60 : ∀ j : Int, j ≠ 13 → qb_st (qb_st (qb_st (qb_st (qb_st hr 70 (4 * (n : Int)) x1) 70 (4 * (n : Int) + 1) x2) 70 (4 * (n : Int) + 2) x3) 70 (4 * (n : Int) + 3) (if x4 = 0 then (0 : Int) else 1)) 60 13 ((n : Int) + 1) 60 j = hp 60 j := fun j hj => by
      rw [← e60]; simp [qb_st, hj]
    have qc : ∀ c : Nat, c ≠ 60 → c ≠ 70 → qb_st (qb_st (qb_st (qb_st (qb_st hr 70 (4 * (n : Int)) x1) 70 (4 * (n : Int) + 1) x2) 70 (4 * (n : Int) + 2) x3) 70 (4 * (n : Int) + 3) (if x4 = 0 then (0 : Int) else 1)) 60 13 ((n : Int) + 1) c = hr c := fun c c1 c2 => by
      rw [qb_st_ne c1, qb_st_ne c2, qb_st_ne c2, qb_st_ne c2, qb_st_ne c2]
    have q70 : ∀ i : Int, qb_st (qb_st (qb_st (qb_st (qb_st hr 70 (4 * (n : Int)) x1) 70 (4 * (n : Int) + 1) x2) 70 (4 * (n : Int) + 2) x3) 70 (4 * (n : Int) + 3) (if x4 = 0 then (0 : Int) else 1)) 60 13 ((n : Int) + 1) 70 i = if i = 4 * (n : Int) + 3 then (if x4 = 0 then (0 : Int) else 1) else if i = 4 * (n : Int) + 2 then x3 else if i = 4 * (n : Int) + 1 then x2 else if i = 4 * (n : Int) then x1 else hp 70 i := fun i => by
      rw [← e70]; simp [qb_st]
    generalize qb_st (qb_st (qb_st (qb_st (qb_st hr 70 (4 * (n : Int)) x1) 70 (4 * (n : Int) + 1) x2) 70 (4 * (n : Int) + 2) x3) 70 (4 * (n : Int) + 3) (if x4 = 0 then (0 : Int) else 1)) 60 13 ((n : Int) + 1) = hq at q13 q60 qc q70 ⊢
    have old : ∀ i : Int, i < 4 * (n : Int) → hq 70 i = hp 70 i := fun i hi => by
      rw [q70, if_neg (by omega), if_neg (by omega), if_neg (by omega), if_neg (by omega)]
    have hjr : jr hq n = (if x4 = 0 then 0 else 1) := by
      unfold jr; rw [q70, if_pos rfl]
    have hjr2 : ∀ kz : Int, kz < n → jr hq kz = jr hp kz := fun kz hk => by unfold jr; exact old _ (by omega)
    have hjh2 : ∀ kz cz : Int, kz < n → 0 ≤ cz → cz < 30 → (jh hq kz cz ↔ jh hp kz cz) := fun kz cz hk c0 c1 => by
      unfold jh; rw [old _ (by omega)]
    have hjh : ∀ cz : Int, 0 ≤ cz → cz < 30 → (jh hq n cz ↔ (cz = x1 ∨ cz = 10 + x2 ∨ cz = 20 + x3)) := fun cz c0 c1 => by
      unfold jh
      have h3 : cz / 10 = 0 ∨ cz / 10 = 1 ∨ cz / 10 = 2 := by omega
      rcases h3 with h3 | h3 | h3
      · rw [h3, q70, if_neg (by omega), if_neg (by omega), if_neg (by omega), if_pos (by omega)]; omega
      · rw [h3, q70, if_neg (by omega), if_neg (by omega), if_pos (by omega)]; omega
      · rw [h3, q70, if_neg (by omega), if_pos (by omega)]; omega
    refine hK _ hq ⟨?_, ?_, fun cz c0 c1 => ?_, ?_, fun kz k0 k1 => ?_⟩ ⟨fun cz hc c60 => ?_, fun j hj => ?_⟩
    · rw [qc 32 (by decide) (by decide), a4, q13, j1, hn]
    · rw [q13]; omega
    · obtain ⟨m, m1, m2, m3⟩ := j3 cz c0 c1
      rw [qc 33 (by decide) (by decide), a2, q13]
      by_cases cc : cz = x1 ∨ cz = 10 + x2 ∨ cz = 20 + x3
      · rw [if_pos cc, m1, j1, hn]
        obtain ⟨z, z1, z2, z3⟩ := or_put (n := n) m2 (by omega)
        refine ⟨z, z1, z2, fun kz => ?_⟩
        rw [z3, m3]
        constructor
        · rintro (⟨b1, b2⟩ | b1)
          · exact ⟨by omega, (hjh2 kz cz (by omega) c0 c1).2 b2⟩
          · exact ⟨by omega, by rw [b1]; exact (hjh cz c0 c1).2 cc⟩
        · rintro ⟨b1, b2⟩
          by_cases e : kz = n
          · exact Or.inr e
          · exact Or.inl ⟨by omega, (hjh2 kz cz (by omega) c0 c1).1 b2⟩
      · rw [if_neg cc]
        refine ⟨m, m1, m2, fun kz => ?_⟩
        rw [m3]
        constructor
        · rintro ⟨b1, b2⟩
          exact ⟨by omega, (hjh2 kz cz (by omega) c0 c1).2 b2⟩
        · rintro ⟨b1, b2⟩
          by_cases e : kz = n
          · rw [e] at b2; exact absurd ((hjh cz c0 c1).1 b2) cc
          · exact ⟨by omega, (hjh2 kz cz (by omega) c0 c1).1 b2⟩
    · rw [qc 32 (by decide) (by decide), a3, q13]
      by_cases cc : x4 = 0
      · rw [if_pos cc]
        refine ⟨r, j4, j5, fun kz => ?_⟩
        rw [j6]
        constructor
        · rintro ⟨b1, b2⟩
          exact ⟨by omega, by rw [hjr2 kz (by omega)]; exact b2⟩
        · rintro ⟨b1, b2⟩
          by_cases e : kz = n
          · rw [e, hjr, if_pos cc] at b2; exact absurd b2 (by decide)
          · exact ⟨by omega, by rw [← hjr2 kz (by omega)]; exact b2⟩
      · rw [if_neg cc, j4, j1, hn]
        obtain ⟨z, z1, z2, z3⟩ := or_put (n := n) j5 (by omega)
        refine ⟨z, z1, z2, fun kz => ?_⟩
        rw [z3, j6]
        constructor
        · rintro (⟨b1, b2⟩ | b1)
          · exact ⟨by omega, by rw [hjr2 kz (by omega)]; exact b2⟩
          · exact ⟨by omega, by rw [b1, hjr, if_neg cc]⟩
        · rintro ⟨b1, b2⟩
          by_cases e : kz = n
          · exact Or.inr e
          · exact Or.inl ⟨by omega, by rw [← hjr2 kz (by omega)]; exact b2⟩
    · rw [q13] at k1
      by_cases e : kz = n
      · rw [e, hjr]
        by_cases cc : x4 = 0
        · rw [if_pos cc]; exact Or.inl rfl
        · rw [if_neg cc]; exact Or.inr rfl
      · rw [hjr2 kz (by omega)]
        exact j7 kz k0 (by omega)
    · have hn' : cz ≠ 32 ∧ cz ≠ 33 ∧ cz ≠ 70 := by simpa using hc
      rw [qc cz c60 hn'.2.2]
      exact a1 cz hn'.1 hn'.2.1
    · have hn' : j ≠ 13 := by simpa using hj
      exact q60 j hn'
theorem absolve_ok (hp : qb_H) (K : Int → Int → qb_H → Prop) (hJ : qb_iJ hp) (hK : ∀ (v : Int) (hq : qb_H), qb_iJ hq → kp [32, 33, 70] [13] hp hq → K v v hq) : c_q_absolve hp (fun v hp1 => c_m_absolve hp1 (fun w hp2 => K v w hp2)) := by
  obtain ⟨j1, j2, j3, ⟨r, j4, j5, j6⟩, j7⟩ := hJ
  have key : ∀ hq : qb_H, (∀ c : Nat, c ≠ 33 → hq c = hp c) → (∀ c : Int, 0 ≤ c → c < (0 : Nat) → hq 33 c = 0) → r_ju_clear_7 (hp 32 4) 0 hq (fun v hp1 => c_m_absolve hp1 (fun w hp2 => K v w hp2)) := by
    refine qb_up 30 (fun k x => ∀ hq : qb_H, (∀ c : Nat, c ≠ 33 → hq c = hp c) → (∀ c : Int, 0 ≤ c → c < k → hq 33 c = 0) → r_ju_clear_7 (hp 32 4) x hq (fun v hp1 => c_m_absolve hp1 (fun w hp2 => K v w hp2))) ?_ ?_
    · intro hq h1 h2
      refine b_ju_clear_7 ⟨fun _ => b_m_absolve ?_, fun c => absurd (by decide) c⟩
      have e60 : qb_st (qb_st hq 32 3 0) 32 4 0 60 13 = hp 32 4 := by
        rw [qb_st_ne (by decide), qb_st_ne (by decide), h1 60 (by decide), j1]
      rw [e60]
      have z13 : qb_st (qb_st (qb_st hq 32 3 0) 32 4 0) 60 13 0 60 13 = 0 := by simp [qb_st]
      have z3 : qb_st (qb_st (qb_st hq 32 3 0) 32 4 0) 60 13 0 32 3 = 0 := by simp [qb_st]
      have z4 : qb_st (qb_st (qb_st hq 32 3 0) 32 4 0) 60 13 0 32 4 = 0 := by simp [qb_st]
      have z33 : qb_st (qb_st (qb_st hq 32 3 0) 32 4 0) 60 13 0 33 = hq 33 := by rw [qb_st_ne (by decide), qb_st_ne (by decide), qb_st_ne (by decide)]
      refine hK _ _ ⟨by rw [z13, z4], by rw [z13]; decide, fun c c0 c1 => ⟨0, by rw [z33]; exact h2 c c0 c1, by decide, fun kz => ?_⟩, ⟨0, by rw [z3]; rfl, by decide, fun kz => ?_⟩, fun kz k0 k1 => by rw [z13] at k1; omega⟩ ⟨fun c hc c60 => ?_, fun j hj => ?_⟩
      · rw [z13, Nat.zero_testBit]
        exact ⟨fun z => absurd z (by decide), fun z => absurd z.1 (by omega)⟩
      · rw [z13, Nat.zero_testBit]
        exact ⟨fun z => absurd z (by decide), fun z => absurd z.1 (by omega)⟩
      · have hn' : c ≠ 32 ∧ c ≠ 33 ∧ c ≠ 70 := by simpa using hc
        rw [qb_st_ne c60, qb_st_ne hn'.1, qb_st_ne hn'.1]
        exact h1 c hn'.2.1
      · have hn' : j ≠ 13 := by simpa using hj
        have := congrFun (h1 60 (by decide)) j
        simp [qb_st, hn', this]
    · intro k hk ih hq h1 h2
      refine b_ju_clear_7 ⟨fun c => absurd c (by omega), fun _ => ⟨by omega, ih _ (fun c hc => by rw [qb_st_ne hc]; exact h1 c hc) (fun c c0 c1 => ?_)⟩⟩
      by_cases e : c = k
      · rw [e]; simp [qb_st]
      · have := h2 c c0 (by omega)
        simp [qb_st, e, this]
  exact b_q_absolve (b_ju_clear (key hp (fun _ _ => rfl) (fun c c0 c1 => by omega)))
def jn (hp : qb_H) (c : Int) (n : Nat) : Int := qb_sum (fun kz => if v_m_hasCause kz c hp = 0 then 0 else (if hp 70 (4 * kz + 3) = 1 then 1 else 0)) n
def jo (hp : qb_H) (c : Int) : Nat → Int
  | 0 => 0
  | kz + 1 => if jo hp c kz = 0 then (if v_m_hasCause kz c hp = 0 then (0 : Int) else (if hp 70 (4 * (kz : Int) + 3) = 0 then (1 : Int) else 0)) else 1
def jm (hp : qb_H) (c : Int) : Int := if jn hp c (hp 60 13).toNat < 2 then 0 else if jo hp c (hp 60 13).toNat = 0 then 1 else 0
theorem jo_0 {hp : qb_H} {c : Int} : ∀ n : Nat, jo hp c n = 0 ↔ ∀ kz : Nat, kz < n → jh hp kz c → jr hp kz ≠ 0 := by
  intro n
  induction n with
  | zero => exact ⟨fun _ kz h => by omega, fun _ => rfl⟩
  | succ n ih =>
    have hv : v_m_hasCause n c hp = if jh hp n c then 1 else 0 := rfl
    simp only [jo]
    constructor
    · intro h kz hk hh hr
      by_cases e : jo hp c n = 0
      · rw [if_pos e] at h
        by_cases e2 : kz = n
        · subst e2
          rw [hv, if_pos hh, if_neg (by decide)] at h
          have : hp 70 (4 * (kz : Int) + 3) = 0 := hr
          rw [if_pos this] at h
          exact absurd h (by decide)
        · exact (ih.1 e) kz (by omega) hh hr
      · rw [if_neg e] at h; exact absurd h (by decide)
    · intro h
      have e := ih.2 (fun kz hk => h kz (by omega))
      rw [if_pos e]
      by_cases e2 : jh hp n c
      · rw [hv, if_pos e2, if_neg (by decide)]
        have : ¬ hp 70 (4 * (n : Int) + 3) = 0 := h n (by omega) e2
        rw [if_neg this]
      · rw [hv, if_neg e2, if_pos rfl]
theorem jn_in {hp : qb_H} {c : Int} (n : Nat) : 0 ≤ jn hp c n ∧ jn hp c n ≤ n := by
  have := qb_sum_in (f := fun kz => if v_m_hasCause kz c hp = 0 then 0 else (if hp 70 (4 * kz + 3) = 1 then 1 else 0)) (lo := 0) (hi := 1) n (fun k _ => by
    show 0 ≤ (if v_m_hasCause k c hp = 0 then (0 : Int) else (if hp 70 (4 * (k : Int) + 3) = 1 then 1 else 0)) ∧ (if v_m_hasCause k c hp = 0 then (0 : Int) else (if hp 70 (4 * (k : Int) + 3) = 1 then 1 else 0)) ≤ 1
    split
    · decide
    · split <;> decide)
  unfold jn
  omega
theorem has_g {kz c : Int} (hk : 0 ≤ kz ∧ kz < 24) (hc : 0 ≤ c ∧ c < 30) : g_m_hasCause kz c := by
  unfold g_m_hasCause qb_in
  omega
theorem s_m_mayBe {hp : qb_H} (hJ : qb_iJ hp) {c : Int} (hc : 0 ≤ c ∧ c < 30) {K : Int → qb_H → Prop} (hK : K (jm hp c) hp) : c_m_mayBe c hp K := by
  obtain ⟨n, hn⟩ : ∃ n : Nat, hp 60 13 = n := ⟨_, (Int.toNat_of_nonneg hJ.2.1.1).symm⟩
  have hn24 := hJ.2.1.2
  unfold jm at hK
  rw [hn, Int.toNat_natCast] at hK
  refine b_m_mayBe (qb_up n (fun k x => r_m_mayBe_7 c (jn hp c k) (jo hp c k) x hp K) ?_ ?_)
  · exact b_m_mayBe_7 ⟨fun _ y ey => by rw [ey]; exact hK, fun z => absurd hn (by omega)⟩
  · intro k hk ih
    have hg := has_g (kz := (k : Int)) (by omega) hc
    have hr := jn_in (hp := hp) (c := c) k
    have hr2 := jn_in (hp := hp) (c := c) (k + 1)
    have e : jn hp c (k + 1) = jn hp c k + (if v_m_hasCause k c hp = 0 then 0 else (if hp 70 (4 * (k : Int) + 3) = 1 then 1 else 0)) := rfl
    have e2 : jo hp c (k + 1) = if jo hp c k = 0 then (if v_m_hasCause k c hp = 0 then (0 : Int) else (if hp 70 (4 * (k : Int) + 3) = 0 then (1 : Int) else 0)) else 1 := rfl
    refine b_m_mayBe_7 ⟨fun z => absurd z (by omega), fun _ => ⟨hg, fun _ => ⟨by unfold qb_in; omega, by unfold qb_in; omega, by omega⟩, ?_, fun _ _ => ⟨by unfold qb_in; omega, by unfold qb_in; omega, by omega⟩, by unfold qb_in; omega, ?_⟩⟩
    · rw [← e]; unfold qb_in; omega
    · rw [← e, ← e2]; exact ih
theorem ju_mayBe_is {hp : qb_H} (hJ : qb_iJ hp) {c : Int} (hc : 0 ≤ c ∧ c < 30) : g_ju_mayBe c hp ∧ v_ju_mayBe c hp = jm hp c := by
  obtain ⟨j1, j2, j3, ⟨r, j4, j5, j6⟩, j7⟩ := hJ
  obtain ⟨m, m1, m2, m3⟩ := j3 c hc.1 hc.2
  obtain ⟨n, hn⟩ : ∃ n : Nat, hp 60 13 = n := ⟨_, (Int.toNat_of_nonneg j2.1).symm⟩
  obtain ⟨z, z1, z2, z3⟩ := nand_is (a := m) (r := r) (by omega) (by omega)
  obtain ⟨b1, b2⟩ := bitCount_is m2
  have hz : (z : Int) = 0 ↔ jo hp c n = 0 := by
    rw [jo_0]
    constructor
    · intro h kz hk hh hr
      have e := z3 kz
      have hz0 : z = 0 := by omega
      rw [hz0, Nat.zero_testBit] at e
      have t1 : m.testBit kz = true := (m3 kz).2 ⟨by omega, hh⟩
      have t2 : r.testBit kz = false := by
        rcases h : r.testBit kz with _ | _
        · rfl
        · have := ((j6 kz).1 h).2
          omega
      rw [t1, t2] at e
      exact absurd e (by decide)
    · intro h
      have : z = 0 := by
        refine Nat.eq_of_testBit_eq (fun kz => ?_)
        rw [z3, Nat.zero_testBit]
        rcases t1 : m.testBit kz with _ | _
        · rfl
        · have t := (m3 kz).1 t1
          have hne := h kz (by omega) t.2
          have t2 : r.testBit kz = true := (j6 kz).2 ⟨t.1, (j7 kz (by omega) t.1).resolve_left hne⟩
          rw [t2]; rfl
      rw [this]; rfl
  have hsum : jo hp c n = 0 → bts m 24 = jn hp c n := by
    intro h
    have h0 := (jo_0 n).1 h
    have e : bts m 24 = bts m n := by
      unfold bts
      refine qb_sum_tail (by omega) (fun kz k1 k2 => ?_)
      rw [Int.toNat_natCast, if_neg (fun t => by have := ((m3 kz).1 t).1; omega)]
    rw [e]
    refine qb_sum_cg n (fun kz hk => ?_)
    have hv : v_m_hasCause kz c hp = if jh hp kz c then 1 else 0 := rfl
    show (if m.testBit ((kz : Int)).toNat = true then (1 : Int) else 0) = (if v_m_hasCause kz c hp = 0 then 0 else (if hp 70 (4 * (kz : Int) + 3) = 1 then 1 else 0))
    rw [Int.toNat_natCast, hv]
    by_cases t : jh hp kz c
    · have t1 : m.testBit kz = true := (m3 kz).2 ⟨by omega, t⟩
      have hne := h0 kz hk t
      have t2 : hp 70 (4 * (kz : Int) + 3) = 1 := (j7 kz (by omega) (by omega)).resolve_left hne
      rw [if_pos t1, if_pos t, if_neg (by decide), if_pos t2]
    · rw [if_neg (fun q => t ((m3 kz).1 q).2), if_neg t, if_pos rfl]
  unfold g_ju_mayBe v_ju_mayBe jm
  rw [hn, Int.toNat_natCast, m1, j4, z1]
  refine ⟨⟨hc, fun _ => b1⟩, ?_⟩
  by_cases d : jo hp c n = 0
  · rw [if_pos (hz.2 d), if_pos d, b2, hsum d]
  · rw [if_neg (fun q => d (hz.1 q)), if_neg d]
    split <;> rfl
theorem jm_01 (hp : qb_H) (c : Int) : jm hp c = 0 ∨ jm hp c = 1 := by
  unfold jm
  split
  · exact Or.inl rfl
  · split
    · exact Or.inr rfl
    · exact Or.inl rfl
theorem cause_ok (c : Int) (hp : qb_H) (K : Int → Int → qb_H → Prop) (hJ : qb_iJ hp) (hK : ∀ v : Int, K v v hp) : c_q_cause c hp (fun v hp1 => c_m_cause c hp1 (fun w hp2 => K v w hp2)) := by
  refine b_q_cause ⟨fun d => b_m_cause ⟨fun _ => hK _, fun z => absurd d z⟩, fun d => ?_⟩
  have hc : 0 ≤ c ∧ c < 30 := by
    rcases v_in_c (x := c) (a := 0) (b := 29) with z | z
    · exact absurd z.1 d
    · omega
  obtain ⟨g1, g2⟩ := ju_mayBe_is hJ hc
  rw [g2]
  exact ⟨g1, b_m_cause ⟨fun z => absurd z d, fun _ => s_m_mayBe hJ hc (fun y ey => by rw [ey]; exact hK _)⟩⟩
