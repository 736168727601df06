/-! SETTLE -/
theorem settle_ok {hp : qb_H} {n : Nat} (hB : qb_iB hp n) (hw5 : wr hp n ≤ 5) {K : Int → Int → qb_H → Prop} (hK : ∀ (v : Int) (hq : qb_H), qb_iB hq n → wr hq n ≤ 5 → kp [13, 50, 51, 52, 53, 68, 83, 84, 85, 86, 87] [33, 38, 39, 45, 46, 47] hp hq → K v v hq) : c_q_settle hp (fun v hp1 => c_m_settle hp1 (fun w hp2 => K v w hp2)) := by
  have hn := hB.1.1
  have hn30 := hB.1.2.1
  obtain ⟨m, hm⟩ : ∃ m : Nat, wr hp n = m := ⟨_, (Int.toNat_of_nonneg (wr_in n).1).symm⟩
  have hm5 : m ≤ 5 := by omega
  have hp4 := pw4 hm5
  refine b_q_settle (s_sp_plan hB hm hm5 (fun hq best q1 q2 q3 q4 q5 q6 => ?_))
  have hbl := q5.1
  have key : ∀ (d t : Nat) (hs : qb_H), t + d = m → (∀ c : Nat, c ≠ 13 → hs c = hq c) → (∀ k : Nat, k < n → hp 13 k = -1 → wr hp k < t → hs 13 k = ((dg m best (wr hp k).toNat : Nat) : Int)) → (∀ k : Int, ¬ (0 ≤ k ∧ k < n ∧ hp 13 k = -1) → hs 13 k = hp 13 k) → (∀ hs : qb_H, (∀ c : Nat, c ≠ 13 → hs c = hq c) → (∀ k : Nat, k < n → hp 13 k = -1 → hs 13 k = ((dg m best (wr hp k).toNat : Nat) : Int)) → (∀ k : Int, ¬ (0 ≤ k ∧ k < n ∧ hp 13 k = -1) → hs 13 k = hp 13 k) → c_m_settle hs (fun w hp2 => K m w hp2)) → r_q_settle_19 t hs (fun v hp1 => c_m_settle hp1 (fun w hp2 => K v w hp2)) := by
    intro d
    induction d with
    | zero =>
      intro t hs ht s1 s2 s3 hfin
      have et : t = m := by omega
      subst et
      have e50 : hs 50 3 = t := by rw [s1 50 (by decide)]; exact q2
      refine b_q_settle_19 ⟨fun _ => ?_, fun z => absurd (by rw [e50]; exact Int.le_refl _) z⟩
      rw [e50]
      exact hfin hs s1 (fun k hk hkw => s2 k hk hkw (by have := wr_lt (hp := hp) hk hkw; omega)) s3
    | succ d ih =>
      intro t hs ht s1 s2 s3 hfin
      have e50 : hs 50 3 = m := by rw [s1 50 (by decide)]; exact q2
      obtain ⟨k, k1, k2, k3⟩ := wr_onto (hp := hp) n (t : Int) (by omega) (by omega)
      have e52 : hs 52 (t : Int) = k := by rw [s1 52 (by decide), ← k3]; exact q6 k k1 k2
      have hv : v_sp_quayOf t hs = ((dg m best t : Nat) : Int) := by
        unfold v_sp_quayOf v_sp_digit
        rw [e50, s1 50 (by decide), q4]
        exact dig_is hm5 (by omega) (by omega)
      refine b_q_settle_19 ⟨fun z => absurd z (by rw [e50]; omega), fun _ => ⟨by omega, ?_, ?_⟩⟩
      · unfold g_sp_quayOf g_sp_digit
        rw [e50]
        exact ⟨by unfold qb_in; omega, by unfold qb_in; omega, by unfold qb_in; omega⟩
      · rw [e52, hv]
        have := ih (t + 1) (qb_st hs 13 k ((dg m best t : Nat) : Int)) (by omega) (fun c hc => by rw [qb_st_ne hc]; exact s1 c hc) (fun kz hk hkw hle => ?_) (fun kz hkz => ?_) hfin
        · rw [Int.natCast_succ] at this
          exact ⟨by omega, this⟩
        · by_cases e : kz = k
          · rw [e, k3]
            have : (t : Int).toNat = t := by omega
            rw [this]; simp [qb_st]
          · have hne : ¬ (kz : Int) = k := by omega
            have hwne : wr hp kz ≠ t := fun q => e (wr_inj hkw k2 (by rw [q, k3]))
            rw [← s2 kz hk hkw (by omega)]; simp [qb_st, hne]
        · have : ¬ kz = (k : Int) := fun e => hkz (by rw [e]; exact ⟨by omega, by omega, k2⟩)
          rw [← s3 kz hkz]; simp [qb_st, this]
  refine key m 0 hq (by omega) (fun _ _ => rfl) (fun k hk hkw hle => by have := wr_in (hp := hp) k; omega) (fun k _ => by rw [q1 13 (by decide) (by decide) (by decide) (by decide)]) (fun hs s1 s2 s3 => ?_)
  have h60 : ∀ c : Nat, 60 ≤ c → hs c = hp c := fun c hc => (s1 c (by omega)).trans (q1 c (by omega) (by omega) (by omega) (by omega))
  refine b_m_settle (s_m_laySpread hB hm hm5 h60 (fun hu b2 u1 u2 u3 u4 u5 u6 => ?_))
  have eb := am_u u6 q5
  subst eb
  rw [u5]
  have hF : FS hp hs n hu := ⟨u1, u2.1, u2.2.1, fun k i i0 i1 _ => u2.2.2 k i i0 i1, fun k _ => u2.2.2 k 1 (by decide) (by decide)⟩
  refine s_m_leadAll hB hm hm5 hF u3 (fun hz z1 z2 z3 => ?_)
  obtain ⟨f1, f2, f3, f4, f5⟩ := z2
  have e47 : hz 60 47 = m := by rw [z1 60 (by decide)]; exact u3.1
  rw [e47]
  have hlow : ∀ c : Nat, c < 60 → c ≠ 13 → c ≠ 50 → c ≠ 51 → c ≠ 52 → c ≠ 53 → hz c = hp c := fun c c0 c1 c2 c3 c4 c5 => (f1 c c0).trans ((s1 c c1).trans (q1 c c2 c3 c4 c5))
  have e13 : ∀ k : Int, hz 13 k = hs 13 k := fun k => by rw [f1 13 (by decide)]
  have h13 : ∀ k : Int, 0 ≤ k → k < n → (hp 13 k = -1 ∧ hz 13 k = ((dg m b2 (wr hp k.toNat).toNat : Nat) : Int)) ∨ (¬ hp 13 k = -1 ∧ hz 13 k = hp 13 k) := by
    intro k k0 k1
    have ek : (k.toNat : Int) = k := by omega
    rw [e13]
    by_cases w : hp 13 k = -1
    · have := s2 k.toNat (by omega) (by rw [ek]; exact w)
      rw [ek] at this
      exact Or.inl ⟨w, this⟩
    · exact Or.inr ⟨w, s3 k (fun z => w z.2.2)⟩
  have hL : qb_iL hz n := by
    obtain ⟨l1, l2, l3, l4, l5, l6, l7, l8⟩ := hB.1
    unfold qb_iL
    rw [hlow 11 (by decide) (by decide) (by decide) (by decide) (by decide) (by decide), hlow 17 (by decide) (by decide) (by decide) (by decide) (by decide) (by decide), hlow 12 (by decide) (by decide) (by decide) (by decide) (by decide) (by decide), hlow 14 (by decide) (by decide) (by decide) (by decide) (by decide) (by decide), hlow 15 (by decide) (by decide) (by decide) (by decide) (by decide) (by decide), hlow 16 (by decide) (by decide) (by decide) (by decide) (by decide) (by decide), hlow 21 (by decide) (by decide) (by decide) (by decide) (by decide) (by decide), hlow 22 (by decide) (by decide) (by decide) (by decide) (by decide) (by decide), hlow 10 (by decide) (by decide) (by decide) (by decide) (by decide) (by decide)]
    refine ⟨l1, l2, l3, fun k k0 k1 => ?_, l5, l6, l7, l8⟩
    obtain ⟨r1, r2, r3⟩ := l4 k k0 k1
    refine ⟨r1, ?_, r3⟩
    rcases h13 k k0 k1 with ⟨-, w⟩ | ⟨-, w⟩
    · have := dg_lt m b2 (wr hp k.toNat).toNat
      rw [w]; omega
    · rw [w]; exact r2
  refine hK _ hz ⟨hL, ?_, fun k k0 k1 => ?_, fun q a b => ?_, fun j a b => ?_⟩ ?_ ⟨fun c hc c60 => ?_, fun j hj => ?_⟩
  · rw [f3 9 (by decide) (by decide) (by decide) (by decide) (by decide) (by decide)]; exact hB.2.1
  · obtain ⟨c0, c1, c2, c3, c4⟩ := hB.2.2.1 k k0 k1
    have g0 := f4 k 0 (by decide) (by decide) (by decide)
    rw [Int.add_zero] at g0
    rw [g0, f4 k 2 (by decide) (by decide) (by decide), f4 k 3 (by decide) (by decide) (by decide), f4 k 4 (by decide) (by decide) (by decide), hlow 12 (by decide) (by decide) (by decide) (by decide) (by decide) (by decide), hlow 14 (by decide) (by decide) (by decide) (by decide) (by decide) (by decide), hlow 15 (by decide) (by decide) (by decide) (by decide) (by decide) (by decide), hlow 16 (by decide) (by decide) (by decide) (by decide) (by decide) (by decide)]
    refine ⟨c0, ?_, c2, c3, c4⟩
    rcases h13 k k0 k1 with ⟨w1, w⟩ | ⟨w1, w⟩
    · have ek : (k.toNat : Int) = k := by omega
      have := z3 k.toNat (by omega) (by rw [ek]; exact w1)
      rw [ek] at this
      rw [w, this]
    · rw [w, f5 k (fun z => w1 z.2.2)]; exact c1
  · rw [f2 65 (by decide) (by decide) (by decide) (by decide) (by decide) (by decide) (by decide), f2 66 (by decide) (by decide) (by decide) (by decide) (by decide) (by decide) (by decide), hlow 21 (by decide) (by decide) (by decide) (by decide) (by decide) (by decide), hlow 22 (by decide) (by decide) (by decide) (by decide) (by decide) (by decide)]
    exact hB.2.2.2.1 q a b
  · rw [f2 67 (by decide) (by decide) (by decide) (by decide) (by decide) (by decide) (by decide), hlow 10 (by decide) (by decide) (by decide) (by decide) (by decide) (by decide)]
    exact hB.2.2.2.2 j a b
  · have : ∀ k : Nat, k ≤ n → wr hz k = 0 := by
      intro k
      induction k with
      | zero => intro _; rfl
      | succ k ih =>
        intro hk
        rw [wr_no (fun w => ?_)]
        · exact ih (by omega)
        · rcases h13 k (by omega) (by omega) with ⟨-, z⟩ | ⟨z1, z⟩
          · rw [z] at w; omega
          · rw [z] at w; exact z1 w
    rw [this n (Nat.le_refl n)]; decide
  · have hn' : c ≠ 13 ∧ c ≠ 50 ∧ c ≠ 51 ∧ c ≠ 52 ∧ c ≠ 53 ∧ c ≠ 68 ∧ c ≠ 83 ∧ c ≠ 84 ∧ c ≠ 85 ∧ c ≠ 86 ∧ c ≠ 87 := by simpa using hc
    obtain ⟨n1, n2, n3, n4, n5, n6, n7, n8, n9, n10, n11⟩ := hn'
    by_cases e : c < 60
    · exact hlow c e n1 n2 n3 n4 n5
    · exact f2 c (by omega) n6 n7 n8 n9 n10 n11
  · have hn' : j ≠ 33 ∧ j ≠ 38 ∧ j ≠ 39 ∧ j ≠ 45 ∧ j ≠ 46 ∧ j ≠ 47 := by simpa using hj
    exact f3 j hn'.1 hn'.2.1 hn'.2.2.1 hn'.2.2.2.1 hn'.2.2.2.2.1 hn'.2.2.2.2.2
