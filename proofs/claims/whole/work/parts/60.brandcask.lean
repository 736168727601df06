/-! the class's brand of the cask -/
theorem kS_60 {hp : qb_H} {j v : Int} (hj : j ∈ [29, 30, 31, 32, 33, 38, 39, 40, 41, 42, 43, 44, 45, 46, 47]) : kS hp (qb_st hp 60 j v) := by
  refine ⟨fun c _ c2 _ _ => qb_st_ne c2, fun i hi => ?_, fun k i _ _ => by rw [qb_st_ne (by decide)], fun i _ => by rw [qb_st_ne (by decide)], fun i _ => by rw [qb_st_ne (by decide)]⟩
  have : ¬ i = j := fun e => hi (by rw [e]; exact hj)
  simp [qb_st, this]
theorem kS_one {hp hq : qb_H} {b : Nat} (hb : b ∈ [18, 19, 20, 23, 24, 25, 31, 34, 35, 50, 51, 52, 53, 57, 58, 83, 84, 85, 86, 87, 88]) (h : ∀ c : Nat, c ≠ b → hq c = hp c) : kS hp hq := by
  simp at hb
  refine ⟨fun c h1 h2 h3 h4 => h c (fun e => h1 ?_), fun i _ => by rw [h 60 (by omega)], fun k i _ _ => by rw [h 68 (by omega)], fun i _ => by rw [h 32 (by omega)], fun i _ => by rw [h 59 (by omega)]⟩
  rw [e]; simp; omega
theorem s_q_brandOfCask (day : Int) (hs : qb_H) {n : Nat} (hB : qb_iB hs n) (hA : qb_iA hs) (hS : qb_iS hs) (K : Int → qb_H → Prop)
    (hK : ∀ hq : qb_H, (∀ c : Nat, c ≠ 31 → hq c = hs c) → K (bb hs (hs 25 0) (hs 25 2) (hs 25 3) (hs 25 4) day) hq) : c_q_brandOfCask day hs K := by
  have hr := hB.1.2.2.2.2.2.2.2
  have hk2 : kS hs (qb_st (qb_st hs 31 0 (hs 25 3)) 31 1 (v_q_tiers (qb_st hs 31 0 (hs 25 3)))) := kS_one (b := 31) (by decide) (fun c hc => by rw [qb_st_ne hc, qb_st_ne hc])
  have hsalt : v_salt (hs 25 0) 3 (hs 25 2) (qb_st (qb_st hs 31 0 (hs 25 3)) 31 1 (v_q_tiers (qb_st hs 31 0 (hs 25 3)))) = v_salt (hs 25 0) 3 (hs 25 2) hs := by
    unfold v_salt v_sfind
    rw [qb_st_ne (by decide), qb_st_ne (by decide), qb_st_ne (by decide), qb_st_ne (by decide)]
  have ht : v_q_tiers (qb_st hs 31 0 (hs 25 3)) = hs 67 1 / hs 67 2 := by
    unfold v_q_tiers
    rw [qb_st_ne (by decide), hB.2.2.2.2 1 (by decide) (by decide), hB.2.2.2.2 2 (by decide) (by decide)]
  refine b_q_brandOfCask ⟨?_, s_sa_muchAt _ _ _ _ (iS_kS hS hk2) ?_⟩
  · unfold g_q_tiers
    rw [qb_st_ne (by decide)]
    omega
  · rw [hsalt, ht]
    have hc31 : ∀ c : Nat, c ≠ 31 → qb_st (qb_st (qb_st (qb_st (qb_st hs 31 0 (hs 25 3)) 31 1 (hs 67 1 / hs 67 2)) 31 2 (v_salt (hs 25 0) 3 (hs 25 2) hs)) 31 3 (qb_st (qb_st hs 31 0 (hs 25 3)) 31 1 (hs 67 1 / hs 67 2) 25 4)) 31 4 (qb_st (qb_st hs 31 0 (hs 25 3)) 31 1 (hs 67 1 / hs 67 2) 25 0) c = hs c := fun c hc => by
      rw [qb_st_ne hc, qb_st_ne hc, qb_st_ne hc, qb_st_ne hc, qb_st_ne hc]
    have hf : ∀ x : Int, 0 ≤ x → x ≤ 4 → qb_st (qb_st (qb_st (qb_st (qb_st hs 31 0 (hs 25 3)) 31 1 (hs 67 1 / hs 67 2)) 31 2 (v_salt (hs 25 0) 3 (hs 25 2) hs)) 31 3 (qb_st (qb_st hs 31 0 (hs 25 3)) 31 1 (hs 67 1 / hs 67 2) 25 4)) 31 4 (qb_st (qb_st hs 31 0 (hs 25 3)) 31 1 (hs 67 1 / hs 67 2) 25 0) 31 x = bf hs (hs 25 0) (hs 25 2) (hs 25 3) (hs 25 4) x := by
      intro x x0 x1
      have hx : x = 0 ∨ x = 1 ∨ x = 2 ∨ x = 3 ∨ x = 4 := by omega
      rcases hx with e | e | e | e | e <;> subst e <;> simp [qb_st, bf]
    generalize qb_st (qb_st (qb_st (qb_st (qb_st hs 31 0 (hs 25 3)) 31 1 (hs 67 1 / hs 67 2)) 31 2 (v_salt (hs 25 0) 3 (hs 25 2) hs)) 31 3 (qb_st (qb_st hs 31 0 (hs 25 3)) 31 1 (hs 67 1 / hs 67 2) 25 4)) 31 4 (qb_st (qb_st hs 31 0 (hs 25 3)) 31 1 (hs 67 1 / hs 67 2) 25 0) = hq at hc31 hf ⊢
    have hkq : kS hs hq := kS_one (b := 31) (by decide) hc31
    refine s_ac_brandOn day hq _ (iA_kS hA hkq) ?_
    have e1 : v_ac_brandOn day hq = bb hs (hs 25 0) (hs 25 2) (hs 25 3) (hs 25 4) day := by
      have h1 := iA_act (iA_kS hA hkq) day
      have h2 := iA_act hA day
      have e0 : v_m_actOn day hq = v_m_actOn day hs := by
        unfold v_m_actOn
        rw [hc31 62 (by decide), hc31 60 (by decide)]
      unfold v_ac_brandOn bb
      rw [h1.1, e0]
      unfold ac_lt ac_kd ac_cp ac_nm
      rw [hc31 5 (by decide), hc31 6 (by decide), hc31 7 (by decide), hc31 8 (by decide), hc31 9 (by decide)]
      by_cases c : v_m_actOn day hs < 0
      · rw [if_pos c, if_pos c]
      · rw [if_neg c, if_neg c]
        have ha := (hA.2.2 (v_m_actOn day hs) (by omega) (by omega)).2
        exact bv_cg _ _ _ _ _ _ hf _ _ _ (fun i c1 c2 => tx_kd _ _ _ ha.2.2.2.2.2 i c1 c2)
    rw [e1]
    exact hK hq hc31
