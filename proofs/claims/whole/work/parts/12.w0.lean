/-! walks by program -/
def c_ju_clear (hp : qb_H) (K : Int → qb_H → Prop) : Prop := qb_R mX6_clear 0 0 qb_sh 0 [qb_a 32, none, none] [] hp (qb_I qb_sh K)
def r_ju_clear_7 (x1 : Int) (x2 : Int) (hp : qb_H) (K : Int → qb_H → Prop) : Prop := qb_R mX6_clear 0 0 qb_sh 7 [qb_a 32, qb_i x1, qb_i x2] [] hp (qb_I qb_sh K)
theorem b_ju_clear {hp : qb_H} {K : Int → qb_H → Prop} (h : r_ju_clear_7 (hp 32 4) 0 hp K) : c_ju_clear hp K := by
  unfold c_ju_clear
  refine qb_aloadn (pc' := 1) (i := 0) dX6_clear_0 rfl rfl rfl ?_
  refine qb_geti (pc' := 4) (v := (hp 32 4)) dX6_clear_1 rfl qf_X6_21 qb_s32 rfl rfl ?_
  refine qb_istoren (pc' := 5) (i := 1) (L' := [qb_a 32, qb_i (hp 32 4), none]) dX6_clear_4 rfl rfl (Nat.le_of_ble_eq_true rfl) rfl rfl ?_
  refine qb_iconst (pc' := 6) dX6_clear_5 rfl rfl ?_
  refine qb_istoren (pc' := 7) (i := 2) (L' := [qb_a 32, qb_i (hp 32 4), qb_i 0]) dX6_clear_6 rfl rfl (Nat.le_of_ble_eq_true rfl) rfl rfl ?_
  refine qb_cut (L' := [qb_a 32, qb_i (hp 32 4), qb_i 0]) [true, true, true] rfl ?_
  exact h
theorem b_ju_clear_7 {x1 x2 : Int} {hp : qb_H} {K : Int → qb_H → Prop} (h : (30 ≤ x2 → K x1 (qb_st (qb_st hp 32 3 0) 32 4 0)) ∧ (¬ 30 ≤ x2 → (0 ≤ x2 ∧ x2 < 30) ∧ r_ju_clear_7 x1 (x2 + 1) (qb_st hp 33 x2 0) K)) : r_ju_clear_7 x1 x2 hp K := by
  unfold r_ju_clear_7
  refine qb_iloadn (pc' := 8) (i := 2) dX6_clear_7 rfl rfl rfl ?_
  refine qb_bipush (pc' := 10) dX6_clear_8 rfl rfl rfl ?_
  refine qb_cge (tgt := 26) (pc' := 13) dX6_clear_10 rfl rfl (fun c1 => ?_) (fun c1 => ?_)
  · have h := h.1 c1
    refine qb_aloadn (pc' := 27) (i := 0) dX6_clear_26 rfl rfl rfl ?_
    refine qb_iconst (pc' := 28) dX6_clear_27 rfl rfl ?_
    refine qb_puti (pc' := 31) (hp' := (qb_st hp 32 3 0)) dX6_clear_28 rfl qf_X6_25 (Or.inl rfl) qb_s32 rfl rfl ?_
    refine qb_aloadn (pc' := 32) (i := 0) dX6_clear_31 rfl rfl rfl ?_
    refine qb_iconst (pc' := 33) dX6_clear_32 rfl rfl ?_
    refine qb_puti (pc' := 36) (hp' := (qb_st (qb_st hp 32 3 0) 32 4 0)) dX6_clear_33 rfl qf_X6_21 (Or.inl rfl) qb_s32 rfl rfl ?_
    refine qb_iloadn (pc' := 37) (i := 1) dX6_clear_36 rfl rfl rfl ?_
    exact qb_reti dX6_clear_37 rfl h
  · have h := h.2 c1
    refine qb_aloadn (pc' := 14) (i := 0) dX6_clear_13 rfl rfl rfl ?_
    refine qb_geta (pc' := 17) dX6_clear_14 rfl qf_X6_9 qb_s32 rfl ?_
    refine qb_iloadn (pc' := 18) (i := 2) dX6_clear_17 rfl rfl rfl ?_
    refine qb_iconst (pc' := 19) dX6_clear_18 rfl rfl ?_
    obtain ⟨g1, h⟩ := h
    refine qb_iast (pc' := 20) dX6_clear_19 rfl qb_s33 g1.1 g1.2 ?_
    refine qb_iinc (pc' := 23) (L' := [qb_a 32, qb_i x1, qb_i (x2 + 1)]) dX6_clear_20 rfl rfl (qb_ina g1 (by decide)) (Nat.le_of_ble_eq_true rfl) rfl rfl ?_
    refine qb_goto (tgt := 7) dX6_clear_23 rfl ?_
    refine qb_cut (L' := [qb_a 32, qb_i x1, qb_i (x2 + 1)]) [true, true, true] rfl ?_
    exact h
def c_q_absolve (hp : qb_H) (K : Int → qb_H → Prop) : Prop := qb_R mX10_absolve 0 0 qb_sh 0 [qb_a 0] [] hp (qb_I qb_sh K)
theorem b_q_absolve {hp : qb_H} {K : Int → qb_H → Prop} (h : c_ju_clear hp (fun v2 hp2 => K v2 hp2)) : c_q_absolve hp K := by
  unfold c_q_absolve
  refine qb_aloadn (pc' := 1) (i := 0) dX10_absolve_0 rfl rfl rfl ?_
  refine qb_geta (pc' := 4) dX10_absolve_1 rfl qf_X10_54 qb_s0 rfl ?_
  refine qb_callVi (pc' := 7) (b := 32) (as := []) (rest := []) dX10_absolve_4 rfl qe_mX10_absolve_mX6_clear rfl rfl qb_s32 rfl rfl (Nat.le_of_ble_eq_true rfl) (Nat.le_of_ble_eq_true rfl) ⟨rfl, rfl⟩ h (fun v2 hp2 h => ?_)
  exact qb_reti dX10_absolve_7 rfl h
def c_q_within (x0 : Int) (x1 : Int) (x2 : Int) (hp : qb_H) (K : Int → qb_H → Prop) : Prop := qb_R mX10_within 0 0 qb_sh 0 [qb_i x0, qb_i x1, qb_i x2] [] hp (qb_I qb_sh K)
theorem b_q_within {x0 x1 x2 : Int} {hp : qb_H} {K : Int → qb_H → Prop} (h : K (if x0 < x1 then (0 : Int) else (if x2 < x0 then (0 : Int) else 1)) hp) : c_q_within x0 x1 x2 hp K := by
  unfold c_q_within
  refine qb_iloadn (pc' := 1) (i := 0) dX10_within_0 rfl rfl rfl ?_
  refine qb_iloadn (pc' := 2) (i := 1) dX10_within_1 rfl rfl rfl ?_
  have k5 : qb_R mX10_within 0 0 qb_sh 15 [none, none, none] [.inl (if x0 < x1 then (0 : Int) else (if x2 < x0 then (0 : Int) else 1))] hp (qb_I qb_sh K) := by
    exact qb_retz dX10_within_15 rfl (by (repeat' split) <;> first | exact Or.inl rfl | exact Or.inr rfl) h
  refine qb_clt (tgt := 14) (pc' := 5) dX10_within_2 rfl rfl (fun c5 => ?_) (fun c5 => ?_)
  · refine qb_iconst (pc' := 15) dX10_within_14 rfl rfl ?_
    refine qb_cut (L' := [none, none, none]) [false, false, false] rfl ?_
    simpa only [if_pos c5] using k5
  · refine qb_iloadn (pc' := 6) (i := 0) dX10_within_5 rfl rfl rfl ?_
    refine qb_iloadn (pc' := 7) (i := 2) dX10_within_6 rfl rfl rfl ?_
    have k6 : qb_R mX10_within 0 0 qb_sh 15 [none, none, none] [.inl (if x2 < x0 then (0 : Int) else 1)] hp (qb_I qb_sh K) := by
      refine qb_cut (L' := [none, none, none]) [false, false, false] rfl ?_
      simpa only [if_neg c5] using k5
    refine qb_cgt (tgt := 14) (pc' := 10) dX10_within_7 rfl rfl (fun c7 => ?_) (fun c7 => ?_)
    · refine qb_iconst (pc' := 15) dX10_within_14 rfl rfl ?_
      refine qb_cut (L' := [none, none, none]) [false, false, false] rfl ?_
      simpa only [if_pos c7] using k6
    · refine qb_iconst (pc' := 11) dX10_within_10 rfl rfl ?_
      refine qb_goto (tgt := 15) dX10_within_11 rfl ?_
      refine qb_cut (L' := [none, none, none]) [false, false, false] rfl ?_
      simpa only [if_neg c7] using k6
def v_q_within (x0 : Int) (x1 : Int) (x2 : Int) : Int := (if x0 < x1 then (0 : Int) else (if x2 < x0 then (0 : Int) else 1))
theorem vb_q_within (x0 : Int) (x1 : Int) (x2 : Int) : v_q_within x0 x1 x2 = 0 ∨ v_q_within x0 x1 x2 = 1 := by
  unfold v_q_within
  (repeat' split) <;> first | exact Or.inl rfl | exact Or.inr rfl
theorem s_q_within (x0 : Int) (x1 : Int) (x2 : Int) (hp : qb_H) (K : Int → qb_H → Prop) (hg : True) (hK : K (v_q_within x0 x1 x2) hp) : c_q_within x0 x1 x2 hp K := by
  refine b_q_within ?_
  unfold v_q_within at hK
  exact hK
def c_q_isQuay (x0 : Int) (hp : qb_H) (K : Int → qb_H → Prop) : Prop := qb_R mX10_isQuay 0 0 qb_sh 0 [qb_i x0] [] hp (qb_I qb_sh K)
theorem b_q_isQuay {x0 : Int} {hp : qb_H} {K : Int → qb_H → Prop} (h : K (v_q_within x0 0 3) hp) : c_q_isQuay x0 hp K := by
  unfold c_q_isQuay
  refine qb_iloadn (pc' := 1) (i := 0) dX10_isQuay_0 rfl rfl rfl ?_
  refine qb_iconst (pc' := 2) dX10_isQuay_1 rfl rfl ?_
  refine qb_iconst (pc' := 3) dX10_isQuay_2 rfl rfl ?_
  refine qb_callSi (pc' := 6) (as := [.inl x0, .inl 0, .inl 3]) (rest := []) dX10_isQuay_3 rfl qe_mX10_isQuay_mX10_within rfl rfl rfl (Nat.le_of_ble_eq_true rfl) (Nat.le_of_ble_eq_true rfl) ⟨rfl, rfl⟩ (K := fun vz hpz => (v_q_within x0 0 3) = vz ∧ hp = hpz) (s_q_within x0 0 3 hp _ trivial ⟨rfl, rfl⟩) (fun vz hpz ez => ?_)
  obtain ⟨ez1, ez2⟩ := ez
  subst ez1
  subst ez2
  exact qb_retz dX10_isQuay_6 rfl (by (repeat' split) <;> first | exact Or.inl rfl | exact Or.inr rfl | apply vb_q_within) h
def v_q_isQuay (x0 : Int) : Int := (v_q_within x0 0 3)
theorem vb_q_isQuay (x0 : Int) : v_q_isQuay x0 = 0 ∨ v_q_isQuay x0 = 1 := by
  unfold v_q_isQuay
  (repeat' split) <;> first | exact Or.inl rfl | exact Or.inr rfl | apply vb_q_within
theorem s_q_isQuay (x0 : Int) (hp : qb_H) (K : Int → qb_H → Prop) (hg : True) (hK : K (v_q_isQuay x0) hp) : c_q_isQuay x0 hp K := by
  refine b_q_isQuay ?_
  unfold v_q_isQuay at hK
  exact hK
def c_q_isDay (x0 : Int) (hp : qb_H) (K : Int → qb_H → Prop) : Prop := qb_R mX10_isDay 0 0 qb_sh 0 [qb_i x0] [] hp (qb_I qb_sh K)
theorem b_q_isDay {x0 : Int} {hp : qb_H} {K : Int → qb_H → Prop} (h : K (v_q_within x0 0 400) hp) : c_q_isDay x0 hp K := by
  unfold c_q_isDay
  refine qb_iloadn (pc' := 1) (i := 0) dX10_isDay_0 rfl rfl rfl ?_
  refine qb_iconst (pc' := 2) dX10_isDay_1 rfl rfl ?_
  refine qb_sipush (pc' := 5) dX10_isDay_2 rfl rfl rfl ?_
  refine qb_callSi (pc' := 8) (as := [.inl x0, .inl 0, .inl 400]) (rest := []) dX10_isDay_5 rfl qe_mX10_isDay_mX10_within rfl rfl rfl (Nat.le_of_ble_eq_true rfl) (Nat.le_of_ble_eq_true rfl) ⟨rfl, rfl⟩ (K := fun vz hpz => (v_q_within x0 0 400) = vz ∧ hp = hpz) (s_q_within x0 0 400 hp _ trivial ⟨rfl, rfl⟩) (fun vz hpz ez => ?_)
  obtain ⟨ez1, ez2⟩ := ez
  subst ez1
  subst ez2
  exact qb_retz dX10_isDay_8 rfl (by (repeat' split) <;> first | exact Or.inl rfl | exact Or.inr rfl | apply vb_q_within) h
def v_q_isDay (x0 : Int) : Int := (v_q_within x0 0 400)
theorem vb_q_isDay (x0 : Int) : v_q_isDay x0 = 0 ∨ v_q_isDay x0 = 1 := by
  unfold v_q_isDay
  (repeat' split) <;> first | exact Or.inl rfl | exact Or.inr rfl | apply vb_q_within
theorem s_q_isDay (x0 : Int) (hp : qb_H) (K : Int → qb_H → Prop) (hg : True) (hK : K (v_q_isDay x0) hp) : c_q_isDay x0 hp K := by
  refine b_q_isDay ?_
  unfold v_q_isDay at hK
  exact hK
def c_la_paceAt (x1 : Int) (hp : qb_H) (K : Int → qb_H → Prop) : Prop := qb_R mX7_paceAt 0 0 qb_sh 0 [qb_a 11, qb_i x1] [] hp (qb_I qb_sh K)
theorem b_la_paceAt {x1 : Int} {hp : qb_H} {K : Int → qb_H → Prop} (h : (0 ≤ x1 ∧ x1 < 4) ∧ (qb_in ((hp 21 x1) * (hp 22 x1))) ∧ K ((hp 21 x1) * (hp 22 x1)) hp) : c_la_paceAt x1 hp K := by
  unfold c_la_paceAt
  refine qb_aloadn (pc' := 1) (i := 0) dX7_paceAt_0 rfl rfl rfl ?_
  refine qb_geta (pc' := 4) dX7_paceAt_1 rfl qf_X7_39 qb_s11 rfl ?_
  refine qb_iloadn (pc' := 5) (i := 1) dX7_paceAt_4 rfl rfl rfl ?_
  obtain ⟨g9, h⟩ := h
  refine qb_iald (pc' := 6) (v := (hp 21 x1)) dX7_paceAt_5 rfl qb_s21 g9.1 g9.2 rfl ?_
  refine qb_aloadn (pc' := 7) (i := 0) dX7_paceAt_6 rfl rfl rfl ?_
  refine qb_geta (pc' := 10) dX7_paceAt_7 rfl qf_X7_42 qb_s11 rfl ?_
  refine qb_iloadn (pc' := 11) (i := 1) dX7_paceAt_10 rfl rfl rfl ?_
  refine qb_iald (pc' := 12) (v := (hp 22 x1)) dX7_paceAt_11 rfl qb_s22 g9.1 g9.2 rfl ?_
  obtain ⟨g10, h⟩ := h
  refine qb_imul (pc' := 13) dX7_paceAt_12 rfl g10 ?_
  exact qb_reti dX7_paceAt_13 rfl h
def v_la_paceAt (x1 : Int) (hp : qb_H) : Int := ((hp 21 x1) * (hp 22 x1))
def g_la_paceAt (x1 : Int) (hp : qb_H) : Prop := (0 ≤ x1 ∧ x1 < 4) ∧ qb_in ((hp 21 x1) * (hp 22 x1))
theorem s_la_paceAt (x1 : Int) (hp : qb_H) (K : Int → qb_H → Prop) (hg : g_la_paceAt x1 hp) (hK : K (v_la_paceAt x1 hp) hp) : c_la_paceAt x1 hp K := by
  refine b_la_paceAt ?_
  unfold g_la_paceAt at hg
  unfold v_la_paceAt at hK
  refine ⟨hg.1, ?_⟩
  have hg := hg.2
  refine ⟨hg, ?_⟩
  exact hK
def c_la_startOf (x1 : Int) (x2 : Int) (x3 : Int) (hp : qb_H) (K : Int → qb_H → Prop) : Prop := qb_R mX7_startOf 0 0 qb_sh 0 [qb_a 11, qb_i x1, qb_i x2, qb_i x3] [] hp (qb_I qb_sh K)
theorem b_la_startOf {x1 x2 x3 : Int} {hp : qb_H} {K : Int → qb_H → Prop} (h : (0 ≤ x1 ∧ x1 < 30) ∧ (g_la_paceAt x2 hp) ∧ (qb_in ((hp 14 x1) * (v_la_paceAt x2 hp))) ∧ K (max x3 ((hp 14 x1) * (v_la_paceAt x2 hp))) hp) : c_la_startOf x1 x2 x3 hp K := by
  unfold c_la_startOf
  refine qb_iloadn (pc' := 1) (i := 3) dX7_startOf_0 rfl rfl rfl ?_
  refine qb_aloadn (pc' := 2) (i := 0) dX7_startOf_1 rfl rfl rfl ?_
  refine qb_geta (pc' := 5) dX7_startOf_2 rfl qf_X7_18 qb_s11 rfl ?_
  refine qb_iloadn (pc' := 6) (i := 1) dX7_startOf_5 rfl rfl rfl ?_
  obtain ⟨g13, h⟩ := h
  refine qb_iald (pc' := 7) (v := (hp 14 x1)) dX7_startOf_6 rfl qb_s14 g13.1 g13.2 rfl ?_
  refine qb_aloadn (pc' := 8) (i := 0) dX7_startOf_7 rfl rfl rfl ?_
  refine qb_iloadn (pc' := 9) (i := 2) dX7_startOf_8 rfl rfl rfl ?_
  obtain ⟨g14, h⟩ := h
  refine qb_callVi (pc' := 12) (b := 11) (as := [.inl x2]) (rest := [.inl (hp 14 x1), .inl x3]) dX7_startOf_9 rfl qe_mX7_startOf_mX7_paceAt rfl rfl qb_s11 rfl rfl (Nat.le_of_ble_eq_true rfl) (Nat.le_of_ble_eq_true rfl) ⟨rfl, rfl⟩ (K := fun vz hpz => (v_la_paceAt x2 hp) = vz ∧ hp = hpz) (s_la_paceAt x2 hp _ g14 ⟨rfl, rfl⟩) (fun vz hpz ez => ?_)
  obtain ⟨ez1, ez2⟩ := ez
  subst ez1
  subst ez2
  obtain ⟨g15, h⟩ := h
  refine qb_imul (pc' := 13) dX7_startOf_12 rfl g15 ?_
  refine qb_mmax (pc' := 16) dX7_startOf_13 rfl qlk_X7_71 ⟨Nat.le_of_ble_eq_true rfl, Nat.le_of_ble_eq_true rfl, Nat.zero_le _, Nat.zero_le _⟩ ?_
  exact qb_reti dX7_startOf_16 rfl h
def v_la_startOf (x1 : Int) (x2 : Int) (x3 : Int) (hp : qb_H) : Int := (max x3 ((hp 14 x1) * (v_la_paceAt x2 hp)))
def g_la_startOf (x1 : Int) (x2 : Int) (x3 : Int) (hp : qb_H) : Prop := (0 ≤ x1 ∧ x1 < 30) ∧ (g_la_paceAt x2 hp) ∧ qb_in ((hp 14 x1) * (v_la_paceAt x2 hp))
theorem s_la_startOf (x1 : Int) (x2 : Int) (x3 : Int) (hp : qb_H) (K : Int → qb_H → Prop) (hg : g_la_startOf x1 x2 x3 hp) (hK : K (v_la_startOf x1 x2 x3 hp) hp) : c_la_startOf x1 x2 x3 hp K := by
  refine b_la_startOf ?_
  unfold g_la_startOf at hg
  unfold v_la_startOf at hK
  refine ⟨hg.1, ?_⟩
  have hg := hg.2
  refine ⟨hg.1, ?_⟩
  have hg := hg.2
  refine ⟨hg, ?_⟩
  exact hK
def c_la_workedFrom (x1 : Int) (x2 : Int) (x3 : Int) (x4 : Int) (hp : qb_H) (K : Int → qb_H → Prop) : Prop := qb_R mX7_workedFrom 0 0 qb_sh 0 [qb_a 11, qb_i x1, qb_i x2, qb_i x3, qb_i x4, none] [] hp (qb_I qb_sh K)
theorem b_la_workedFrom {x1 x2 x3 x4 : Int} {hp : qb_H} {K : Int → qb_H → Prop} (h : (0 ≤ x2 ∧ x2 < 30) ∧ (qb_in ((hp 14 x2) + x4)) ∧ (g_la_paceAt x3 hp) ∧ (qb_in (((hp 14 x2) + x4) * (v_la_paceAt x3 hp))) ∧ (qb_in ((((hp 14 x2) + x4) * (v_la_paceAt x3 hp)) - x1)) ∧ K (max 0 (min (hp 15 x2) ((((hp 14 x2) + x4) * (v_la_paceAt x3 hp)) - x1))) hp) : c_la_workedFrom x1 x2 x3 x4 hp K := by
  unfold c_la_workedFrom
  refine qb_aloadn (pc' := 1) (i := 0) dX7_workedFrom_0 rfl rfl rfl ?_
  refine qb_geta (pc' := 4) dX7_workedFrom_1 rfl qf_X7_18 qb_s11 rfl ?_
  refine qb_iloadn (pc' := 5) (i := 2) dX7_workedFrom_4 rfl rfl rfl ?_
  obtain ⟨g23, h⟩ := h
  refine qb_iald (pc' := 6) (v := (hp 14 x2)) dX7_workedFrom_5 rfl qb_s14 g23.1 g23.2 rfl ?_
  refine qb_iload (pc' := 8) dX7_workedFrom_6 rfl rfl ?_
  obtain ⟨g24, h⟩ := h
  refine qb_iadd (pc' := 9) dX7_workedFrom_8 rfl g24 ?_
  refine qb_aloadn (pc' := 10) (i := 0) dX7_workedFrom_9 rfl rfl rfl ?_
  refine qb_iloadn (pc' := 11) (i := 3) dX7_workedFrom_10 rfl rfl rfl ?_
  obtain ⟨g25, h⟩ := h
  refine qb_callVi (pc' := 14) (b := 11) (as := [.inl x3]) (rest := [.inl ((hp 14 x2) + x4)]) dX7_workedFrom_11 rfl qe_mX7_workedFrom_mX7_paceAt rfl rfl qb_s11 rfl rfl (Nat.le_of_ble_eq_true rfl) (Nat.le_of_ble_eq_true rfl) ⟨rfl, rfl⟩ (K := fun vz hpz => (v_la_paceAt x3 hp) = vz ∧ hp = hpz) (s_la_paceAt x3 hp _ g25 ⟨rfl, rfl⟩) (fun vz hpz ez => ?_)
  obtain ⟨ez1, ez2⟩ := ez
  subst ez1
  subst ez2
  obtain ⟨g26, h⟩ := h
  refine qb_imul (pc' := 15) dX7_workedFrom_14 rfl g26 ?_
  refine qb_iloadn (pc' := 16) (i := 1) dX7_workedFrom_15 rfl rfl rfl ?_
  obtain ⟨g27, h⟩ := h
  refine qb_isub (pc' := 17) dX7_workedFrom_16 rfl g27 ?_
  refine qb_istore (pc' := 19) (L' := [qb_a 11, qb_i x1, qb_i x2, qb_i x3, qb_i x4, qb_i ((((hp 14 x2) + x4) * (v_la_paceAt x3 hp)) - x1)]) dX7_workedFrom_17 rfl (Nat.le_of_ble_eq_true rfl) rfl rfl ?_
  refine qb_iconst (pc' := 20) dX7_workedFrom_19 rfl rfl ?_
  refine qb_aloadn (pc' := 21) (i := 0) dX7_workedFrom_20 rfl rfl rfl ?_
  refine qb_geta (pc' := 24) dX7_workedFrom_21 rfl qf_X7_21 qb_s11 rfl ?_
  refine qb_iloadn (pc' := 25) (i := 2) dX7_workedFrom_24 rfl rfl rfl ?_
  refine qb_iald (pc' := 26) (v := (hp 15 x2)) dX7_workedFrom_25 rfl qb_s15 g23.1 g23.2 rfl ?_
  refine qb_iload (pc' := 28) dX7_workedFrom_26 rfl rfl ?_
  refine qb_mmin (pc' := 31) dX7_workedFrom_28 rfl qlk_X7_77 ⟨Nat.le_of_ble_eq_true rfl, Nat.le_of_ble_eq_true rfl, Nat.zero_le _, Nat.zero_le _⟩ ?_
  refine qb_mmax (pc' := 34) dX7_workedFrom_31 rfl qlk_X7_71 ⟨Nat.le_of_ble_eq_true rfl, Nat.le_of_ble_eq_true rfl, Nat.zero_le _, Nat.zero_le _⟩ ?_
  exact qb_reti dX7_workedFrom_34 rfl h
def v_la_workedFrom (x1 : Int) (x2 : Int) (x3 : Int) (x4 : Int) (hp : qb_H) : Int := (max 0 (min (hp 15 x2) ((((hp 14 x2) + x4) * (v_la_paceAt x3 hp)) - x1)))
def g_la_workedFrom (x1 : Int) (x2 : Int) (x3 : Int) (x4 : Int) (hp : qb_H) : Prop := (0 ≤ x2 ∧ x2 < 30) ∧ (qb_in ((hp 14 x2) + x4)) ∧ (g_la_paceAt x3 hp) ∧ (qb_in (((hp 14 x2) + x4) * (v_la_paceAt x3 hp))) ∧ qb_in ((((hp 14 x2) + x4) * (v_la_paceAt x3 hp)) - x1)
theorem s_la_workedFrom (x1 : Int) (x2 : Int) (x3 : Int) (x4 : Int) (hp : qb_H) (K : Int → qb_H → Prop) (hg : g_la_workedFrom x1 x2 x3 x4 hp) (hK : K (v_la_workedFrom x1 x2 x3 x4 hp) hp) : c_la_workedFrom x1 x2 x3 x4 hp K := by
  refine b_la_workedFrom ?_
  unfold g_la_workedFrom at hg
  unfold v_la_workedFrom at hK
  refine ⟨hg.1, ?_⟩
  have hg := hg.2
  refine ⟨hg.1, ?_⟩
  have hg := hg.2
  refine ⟨hg.1, ?_⟩
  have hg := hg.2
  refine ⟨hg.1, ?_⟩
  have hg := hg.2
  refine ⟨hg, ?_⟩
  exact hK
def c_la_workOne (x1 : Int) (x2 : Int) (x3 : Int) (hp : qb_H) (K : qb_H → Prop) : Prop := qb_R mX7_workOne 0 0 qb_sh 0 [qb_a 11, qb_i x1, qb_i x2, qb_i x3] [] hp (qb_U qb_sh K)
theorem b_la_workOne {x1 x2 x3 : Int} {hp : qb_H} {K : qb_H → Prop} (h : (0 ≤ x2 ∧ x2 < 4) ∧ (g_la_startOf x1 x2 (hp 23 x2) hp) ∧ (0 ≤ x1 ∧ x1 < 30) ∧ (g_la_workedFrom (v_la_startOf x1 x2 (hp 23 x2) hp) x1 x2 x3 (qb_st hp 18 x1 (v_la_startOf x1 x2 (hp 23 x2) hp))) ∧ (qb_in ((v_la_startOf x1 x2 (hp 23 x2) hp) + (v_la_workedFrom (v_la_startOf x1 x2 (hp 23 x2) hp) x1 x2 x3 (qb_st hp 18 x1 (v_la_startOf x1 x2 (hp 23 x2) hp))))) ∧ (qb_in ((hp 24 x2) + (v_la_workedFrom (v_la_startOf x1 x2 (hp 23 x2) hp) x1 x2 x3 (qb_st hp 18 x1 (v_la_startOf x1 x2 (hp 23 x2) hp))))) ∧ K (qb_st (qb_st (qb_st (qb_st (qb_st hp 18 x1 (v_la_startOf x1 x2 (hp 23 x2) hp)) 19 x1 (v_la_workedFrom (v_la_startOf x1 x2 (hp 23 x2) hp) x1 x2 x3 (qb_st hp 18 x1 (v_la_startOf x1 x2 (hp 23 x2) hp)))) 20 x1 (hp 24 x2)) 23 x2 ((v_la_startOf x1 x2 (hp 23 x2) hp) + (v_la_workedFrom (v_la_startOf x1 x2 (hp 23 x2) hp) x1 x2 x3 (qb_st hp 18 x1 (v_la_startOf x1 x2 (hp 23 x2) hp))))) 24 x2 ((hp 24 x2) + (v_la_workedFrom (v_la_startOf x1 x2 (hp 23 x2) hp) x1 x2 x3 (qb_st hp 18 x1 (v_la_startOf x1 x2 (hp 23 x2) hp)))))) : c_la_workOne x1 x2 x3 hp K := by
  unfold c_la_workOne
  refine qb_aloadn (pc' := 1) (i := 0) dX7_workOne_0 rfl rfl rfl ?_
  refine qb_geta (pc' := 4) dX7_workOne_1 rfl qf_X7_30 qb_s11 rfl ?_
  refine qb_iloadn (pc' := 5) (i := 1) dX7_workOne_4 rfl rfl rfl ?_
  refine qb_aloadn (pc' := 6) (i := 0) dX7_workOne_5 rfl rfl rfl ?_
  refine qb_iloadn (pc' := 7) (i := 1) dX7_workOne_6 rfl rfl rfl ?_
  refine qb_iloadn (pc' := 8) (i := 2) dX7_workOne_7 rfl rfl rfl ?_
  refine qb_aloadn (pc' := 9) (i := 0) dX7_workOne_8 rfl rfl rfl ?_
  refine qb_geta (pc' := 12) dX7_workOne_9 rfl qf_X7_45 qb_s11 rfl ?_
  refine qb_iloadn (pc' := 13) (i := 2) dX7_workOne_12 rfl rfl rfl ?_
  obtain ⟨g31, h⟩ := h
  refine qb_iald (pc' := 14) (v := (hp 23 x2)) dX7_workOne_13 rfl qb_s23 g31.1 g31.2 rfl ?_
  obtain ⟨g32, h⟩ := h
  refine qb_callVi (pc' := 17) (b := 11) (as := [.inl x1, .inl x2, .inl (hp 23 x2)]) (rest := [.inl x1, .inr (.inl 18)]) dX7_workOne_14 rfl qe_mX7_workOne_mX7_startOf rfl rfl qb_s11 rfl rfl (Nat.le_of_ble_eq_true rfl) (Nat.le_of_ble_eq_true rfl) ⟨rfl, rfl⟩ (K := fun vz hpz => (v_la_startOf x1 x2 (hp 23 x2) hp) = vz ∧ hp = hpz) (s_la_startOf x1 x2 (hp 23 x2) hp _ g32 ⟨rfl, rfl⟩) (fun vz hpz ez => ?_)
  obtain ⟨ez1, ez2⟩ := ez
  subst ez1
  subst ez2
  obtain ⟨g33, h⟩ := h
  refine qb_iast (pc' := 18) dX7_workOne_17 rfl qb_s18 g33.1 g33.2 ?_
  refine qb_aloadn (pc' := 19) (i := 0) dX7_workOne_18 rfl rfl rfl ?_
  refine qb_geta (pc' := 22) dX7_workOne_19 rfl qf_X7_33 qb_s11 rfl ?_
  refine qb_iloadn (pc' := 23) (i := 1) dX7_workOne_22 rfl rfl rfl ?_
  refine qb_aloadn (pc' := 24) (i := 0) dX7_workOne_23 rfl rfl rfl ?_
  refine qb_aloadn (pc' := 25) (i := 0) dX7_workOne_24 rfl rfl rfl ?_
  refine qb_geta (pc' := 28) dX7_workOne_25 rfl qf_X7_30 qb_s11 rfl ?_
  refine qb_iloadn (pc' := 29) (i := 1) dX7_workOne_28 rfl rfl rfl ?_
  refine qb_iald (pc' := 30) (v := (v_la_startOf x1 x2 (hp 23 x2) hp)) dX7_workOne_29 rfl qb_s18 g33.1 g33.2 qb_rds ?_
  refine qb_iloadn (pc' := 31) (i := 1) dX7_workOne_30 rfl rfl rfl ?_
  refine qb_iloadn (pc' := 32) (i := 2) dX7_workOne_31 rfl rfl rfl ?_
  refine qb_iloadn (pc' := 33) (i := 3) dX7_workOne_32 rfl rfl rfl ?_
  obtain ⟨g34, h⟩ := h
  refine qb_callVi (pc' := 36) (b := 11) (as := [.inl (v_la_startOf x1 x2 (hp 23 x2) hp), .inl x1, .inl x2, .inl x3]) (rest := [.inl x1, .inr (.inl 19)]) dX7_workOne_33 rfl qe_mX7_workOne_mX7_workedFrom rfl rfl qb_s11 rfl rfl (Nat.le_of_ble_eq_true rfl) (Nat.le_of_ble_eq_true rfl) ⟨rfl, rfl⟩ (K := fun vz hpz => (v_la_workedFrom (v_la_startOf x1 x2 (hp 23 x2) hp) x1 x2 x3 (qb_st hp 18 x1 (v_la_startOf x1 x2 (hp 23 x2) hp))) = vz ∧ (qb_st hp 18 x1 (v_la_startOf x1 x2 (hp 23 x2) hp)) = hpz) (s_la_workedFrom (v_la_startOf x1 x2 (hp 23 x2) hp) x1 x2 x3 (qb_st hp 18 x1 (v_la_startOf x1 x2 (hp 23 x2) hp)) _ g34 ⟨rfl, rfl⟩) (fun vz hpz ez => ?_)
  obtain ⟨ez1, ez2⟩ := ez
  subst ez1
  subst ez2
  refine qb_iast (pc' := 37) dX7_workOne_36 rfl qb_s19 g33.1 g33.2 ?_
  refine qb_aloadn (pc' := 38) (i := 0) dX7_workOne_37 rfl rfl rfl ?_
  refine qb_geta (pc' := 41) dX7_workOne_38 rfl qf_X7_36 qb_s11 rfl ?_
  refine qb_iloadn (pc' := 42) (i := 1) dX7_workOne_41 rfl rfl rfl ?_
  refine qb_aloadn (pc' := 43) (i := 0) dX7_workOne_42 rfl rfl rfl ?_
  refine qb_geta (pc' := 46) dX7_workOne_43 rfl qf_X7_48 qb_s11 rfl ?_
  refine qb_iloadn (pc' := 47) (i := 2) dX7_workOne_46 rfl rfl rfl ?_
  refine qb_iald (pc' := 48) (v := (hp 24 x2)) dX7_workOne_47 rfl qb_s24 g31.1 g31.2 (qb_rdn rfl (qb_rdn rfl rfl)) ?_
  refine qb_iast (pc' := 49) dX7_workOne_48 rfl qb_s20 g33.1 g33.2 ?_
  refine qb_aloadn (pc' := 50) (i := 0) dX7_workOne_49 rfl rfl rfl ?_
  refine qb_geta (pc' := 53) dX7_workOne_50 rfl qf_X7_45 qb_s11 rfl ?_
  refine qb_iloadn (pc' := 54) (i := 2) dX7_workOne_53 rfl rfl rfl ?_
  refine qb_aloadn (pc' := 55) (i := 0) dX7_workOne_54 rfl rfl rfl ?_
  refine qb_geta (pc' := 58) dX7_workOne_55 rfl qf_X7_30 qb_s11 rfl ?_
  refine qb_iloadn (pc' := 59) (i := 1) dX7_workOne_58 rfl rfl rfl ?_
  refine qb_iald (pc' := 60) (v := (v_la_startOf x1 x2 (hp 23 x2) hp)) dX7_workOne_59 rfl qb_s18 g33.1 g33.2 (qb_rdn rfl (qb_rdn rfl qb_rds)) ?_
  refine qb_aloadn (pc' := 61) (i := 0) dX7_workOne_60 rfl rfl rfl ?_
  refine qb_geta (pc' := 64) dX7_workOne_61 rfl qf_X7_33 qb_s11 rfl ?_
  refine qb_iloadn (pc' := 65) (i := 1) dX7_workOne_64 rfl rfl rfl ?_
  refine qb_iald (pc' := 66) (v := (v_la_workedFrom (v_la_startOf x1 x2 (hp 23 x2) hp) x1 x2 x3 (qb_st hp 18 x1 (v_la_startOf x1 x2 (hp 23 x2) hp)))) dX7_workOne_65 rfl qb_s19 g33.1 g33.2 (qb_rdn rfl qb_rds) ?_
  obtain ⟨g35, h⟩ := h
  refine qb_iadd (pc' := 67) dX7_workOne_66 rfl g35 ?_
  refine qb_iast (pc' := 68) dX7_workOne_67 rfl qb_s23 g31.1 g31.2 ?_
  refine qb_aloadn (pc' := 69) (i := 0) dX7_workOne_68 rfl rfl rfl ?_
  refine qb_geta (pc' := 72) dX7_workOne_69 rfl qf_X7_48 qb_s11 rfl ?_
  refine qb_iloadn (pc' := 73) (i := 2) dX7_workOne_72 rfl rfl rfl ?_
  refine qb_dup2 (pc' := 74) dX7_workOne_73 rfl rfl rfl ?_
  refine qb_iald (pc' := 75) (v := (hp 24 x2)) dX7_workOne_74 rfl qb_s24 g31.1 g31.2 (qb_rdn rfl (qb_rdn rfl (qb_rdn rfl (qb_rdn rfl rfl)))) ?_
  refine qb_aloadn (pc' := 76) (i := 0) dX7_workOne_75 rfl rfl rfl ?_
  refine qb_geta (pc' := 79) dX7_workOne_76 rfl qf_X7_33 qb_s11 rfl ?_
  refine qb_iloadn (pc' := 80) (i := 1) dX7_workOne_79 rfl rfl rfl ?_
  refine qb_iald (pc' := 81) (v := (v_la_workedFrom (v_la_startOf x1 x2 (hp 23 x2) hp) x1 x2 x3 (qb_st hp 18 x1 (v_la_startOf x1 x2 (hp 23 x2) hp)))) dX7_workOne_80 rfl qb_s19 g33.1 g33.2 (qb_rdn rfl (qb_rdn rfl qb_rds)) ?_
  obtain ⟨g36, h⟩ := h
  refine qb_iadd (pc' := 82) dX7_workOne_81 rfl g36 ?_
  refine qb_iast (pc' := 83) dX7_workOne_82 rfl qb_s24 g31.1 g31.2 ?_
  exact qb_retv dX7_workOne_83 rfl h
def h_la_workOne (x1 : Int) (x2 : Int) (x3 : Int) (hp : qb_H) : qb_H := (qb_st (qb_st (qb_st (qb_st (qb_st hp 18 x1 (v_la_startOf x1 x2 (hp 23 x2) hp)) 19 x1 (v_la_workedFrom (v_la_startOf x1 x2 (hp 23 x2) hp) x1 x2 x3 (qb_st hp 18 x1 (v_la_startOf x1 x2 (hp 23 x2) hp)))) 20 x1 (hp 24 x2)) 23 x2 ((v_la_startOf x1 x2 (hp 23 x2) hp) + (v_la_workedFrom (v_la_startOf x1 x2 (hp 23 x2) hp) x1 x2 x3 (qb_st hp 18 x1 (v_la_startOf x1 x2 (hp 23 x2) hp))))) 24 x2 ((hp 24 x2) + (v_la_workedFrom (v_la_startOf x1 x2 (hp 23 x2) hp) x1 x2 x3 (qb_st hp 18 x1 (v_la_startOf x1 x2 (hp 23 x2) hp)))))
theorem hn_la_workOne (x1 : Int) (x2 : Int) (x3 : Int) (hp : qb_H) (c : Nat) (h18 : c ≠ 18) (h19 : c ≠ 19) (h20 : c ≠ 20) (h23 : c ≠ 23) (h24 : c ≠ 24) : h_la_workOne x1 x2 x3 hp c = hp c := by
  unfold h_la_workOne
  (repeat' split) <;> simp only [qb_st_ne, qb_cpy_ne, ne_eq, not_false_eq_true, h18, h19, h20, h23, h24, ]
def g_la_workOne (x1 : Int) (x2 : Int) (x3 : Int) (hp : qb_H) : Prop := (0 ≤ x2 ∧ x2 < 4) ∧ (g_la_startOf x1 x2 (hp 23 x2) hp) ∧ (0 ≤ x1 ∧ x1 < 30) ∧ (g_la_workedFrom (v_la_startOf x1 x2 (hp 23 x2) hp) x1 x2 x3 (qb_st hp 18 x1 (v_la_startOf x1 x2 (hp 23 x2) hp))) ∧ (qb_in ((v_la_startOf x1 x2 (hp 23 x2) hp) + (v_la_workedFrom (v_la_startOf x1 x2 (hp 23 x2) hp) x1 x2 x3 (qb_st hp 18 x1 (v_la_startOf x1 x2 (hp 23 x2) hp))))) ∧ qb_in ((hp 24 x2) + (v_la_workedFrom (v_la_startOf x1 x2 (hp 23 x2) hp) x1 x2 x3 (qb_st hp 18 x1 (v_la_startOf x1 x2 (hp 23 x2) hp))))
theorem s_la_workOne (x1 : Int) (x2 : Int) (x3 : Int) (hp : qb_H) (K : qb_H → Prop) (hg : g_la_workOne x1 x2 x3 hp) (hK : K (h_la_workOne x1 x2 x3 hp)) : c_la_workOne x1 x2 x3 hp K := by
  refine b_la_workOne ?_
  unfold g_la_workOne at hg
  unfold h_la_workOne at hK
  refine ⟨hg.1, ?_⟩
  have hg := hg.2
  refine ⟨hg.1, ?_⟩
  have hg := hg.2
  refine ⟨hg.1, ?_⟩
  have hg := hg.2
  refine ⟨hg.1, ?_⟩
  have hg := hg.2
  refine ⟨hg.1, ?_⟩
  have hg := hg.2
  refine ⟨hg, ?_⟩
  exact hK
def c_la_work (x1 : Int) (hp : qb_H) (K : qb_H → Prop) : Prop := qb_R mX7_work 0 0 qb_sh 0 [qb_a 11, qb_i x1, none, none] [] hp (qb_U qb_sh K)
def r_la_work_2 (x1 : Int) (x2 : Int) (hp : qb_H) (K : qb_H → Prop) : Prop := qb_R mX7_work 0 0 qb_sh 2 [qb_a 11, qb_i x1, qb_i x2, none] [] hp (qb_U qb_sh K)
def r_la_work_29 (x1 : Int) (x2 : Int) (hp : qb_H) (K : qb_H → Prop) : Prop := qb_R mX7_work 0 0 qb_sh 29 [qb_a 11, qb_i x1, qb_i x2, none] [] hp (qb_U qb_sh K)
theorem b_la_work {x1 : Int} {hp : qb_H} {K : qb_H → Prop} (h : r_la_work_2 x1 0 hp K) : c_la_work x1 hp K := by
  unfold c_la_work
  refine qb_iconst (pc' := 1) dX7_work_0 rfl rfl ?_
  refine qb_istoren (pc' := 2) (i := 2) (L' := [qb_a 11, qb_i x1, qb_i 0, none]) dX7_work_1 rfl rfl (Nat.le_of_ble_eq_true rfl) rfl rfl ?_
  refine qb_cut (L' := [qb_a 11, qb_i x1, qb_i 0, none]) [true, true, true, false] rfl ?_
  exact h
theorem b_la_work_2 {x1 x2 : Int} {hp : qb_H} {K : qb_H → Prop} (h : (4 ≤ x2 → r_la_work_29 x1 0 hp K) ∧ (¬ 4 ≤ x2 → (0 ≤ x2 ∧ x2 < 4) ∧ r_la_work_2 x1 (x2 + 1) (qb_st (qb_st hp 23 x2 0) 24 x2 0) K)) : r_la_work_2 x1 x2 hp K := by
  unfold r_la_work_2
  refine qb_iloadn (pc' := 3) (i := 2) dX7_work_2 rfl rfl rfl ?_
  refine qb_iconst (pc' := 4) dX7_work_3 rfl rfl ?_
  refine qb_cge (tgt := 27) (pc' := 7) dX7_work_4 rfl rfl (fun c11 => ?_) (fun c11 => ?_)
  · have h := h.1 c11
    refine qb_iconst (pc' := 28) dX7_work_27 rfl rfl ?_
    refine qb_istoren (pc' := 29) (i := 2) (L' := [qb_a 11, qb_i x1, qb_i 0, none]) dX7_work_28 rfl rfl (Nat.le_of_ble_eq_true rfl) rfl rfl ?_
    refine qb_cut (L' := [qb_a 11, qb_i x1, qb_i 0, none]) [true, true, true, false] rfl ?_
    exact h
  · have h := h.2 c11
    refine qb_aloadn (pc' := 8) (i := 0) dX7_work_7 rfl rfl rfl ?_
    refine qb_geta (pc' := 11) dX7_work_8 rfl qf_X7_45 qb_s11 rfl ?_
    refine qb_iloadn (pc' := 12) (i := 2) dX7_work_11 rfl rfl rfl ?_
    refine qb_iconst (pc' := 13) dX7_work_12 rfl rfl ?_
    obtain ⟨g2, h⟩ := h
    refine qb_iast (pc' := 14) dX7_work_13 rfl qb_s23 g2.1 g2.2 ?_
    refine qb_aloadn (pc' := 15) (i := 0) dX7_work_14 rfl rfl rfl ?_
    refine qb_geta (pc' := 18) dX7_work_15 rfl qf_X7_48 qb_s11 rfl ?_
    refine qb_iloadn (pc' := 19) (i := 2) dX7_work_18 rfl rfl rfl ?_
    refine qb_iconst (pc' := 20) dX7_work_19 rfl rfl ?_
    refine qb_iast (pc' := 21) dX7_work_20 rfl qb_s24 g2.1 g2.2 ?_
    refine qb_iinc (pc' := 24) (L' := [qb_a 11, qb_i x1, qb_i (x2 + 1), none]) dX7_work_21 rfl rfl (qb_ina g2 (by decide)) (Nat.le_of_ble_eq_true rfl) rfl rfl ?_
    refine qb_goto (tgt := 2) dX7_work_24 rfl ?_
    refine qb_cut (L' := [qb_a 11, qb_i x1, qb_i (x2 + 1), none]) [true, true, true, false] rfl ?_
    exact h
theorem b_la_work_29 {x1 x2 : Int} {hp : qb_H} {K : qb_H → Prop} (h : ((hp 11 13) ≤ x2 → K hp) ∧ (¬ (hp 11 13) ≤ x2 → (0 ≤ x2 ∧ x2 < 30) ∧ (0 ≤ (hp 17 x2) ∧ (hp 17 x2) < 30) ∧ (¬ (hp 13 (hp 17 x2)) = (-1) → g_la_workOne (hp 17 x2) (hp 13 (hp 17 x2)) x1 hp) ∧ r_la_work_29 x1 (x2 + 1) (if (hp 13 (hp 17 x2)) = (-1) then hp else (h_la_workOne (hp 17 x2) (hp 13 (hp 17 x2)) x1 hp)) K)) : r_la_work_29 x1 x2 hp K := by
  unfold r_la_work_29
  refine qb_iloadn (pc' := 30) (i := 2) dX7_work_29 rfl rfl rfl ?_
  refine qb_aloadn (pc' := 31) (i := 0) dX7_work_30 rfl rfl rfl ?_
  refine qb_geti (pc' := 34) (v := (hp 11 13)) dX7_work_31 rfl qf_X7_51 qb_s11 rfl rfl ?_
  refine qb_cge (tgt := 72) (pc' := 37) dX7_work_34 rfl rfl (fun c12 => ?_) (fun c12 => ?_)
  · have h := h.1 c12
    exact qb_retv dX7_work_72 rfl h
  · have h := h.2 c12
    refine qb_aloadn (pc' := 38) (i := 0) dX7_work_37 rfl rfl rfl ?_
    refine qb_geta (pc' := 41) dX7_work_38 rfl qf_X7_27 qb_s11 rfl ?_
    refine qb_iloadn (pc' := 42) (i := 2) dX7_work_41 rfl rfl rfl ?_
    obtain ⟨g3, h⟩ := h
    refine qb_iald (pc' := 43) (v := (hp 17 x2)) dX7_work_42 rfl qb_s17 g3.1 g3.2 rfl ?_
    refine qb_istoren (pc' := 44) (i := 3) (L' := [qb_a 11, qb_i x1, qb_i x2, qb_i (hp 17 x2)]) dX7_work_43 rfl rfl (Nat.le_of_ble_eq_true rfl) rfl rfl ?_
    refine qb_aloadn (pc' := 45) (i := 0) dX7_work_44 rfl rfl rfl ?_
    refine qb_geta (pc' := 48) dX7_work_45 rfl qf_X7_15 qb_s11 rfl ?_
    refine qb_iloadn (pc' := 49) (i := 3) dX7_work_48 rfl rfl rfl ?_
    obtain ⟨g4, h⟩ := h
    refine qb_iald (pc' := 50) (v := (hp 13 (hp 17 x2))) dX7_work_49 rfl qb_s13 g4.1 g4.2 rfl ?_
    refine qb_iconst (pc' := 51) dX7_work_50 rfl rfl ?_
    obtain ⟨gb, h⟩ := h
    have k7 : qb_R mX7_work 0 0 qb_sh 66 [qb_a 11, qb_i x1, qb_i x2, none] [] (if (hp 13 (hp 17 x2)) = (-1) then hp else (h_la_workOne (hp 17 x2) (hp 13 (hp 17 x2)) x1 hp)) (qb_U qb_sh K) := by
      refine qb_iinc (pc' := 69) (L' := [qb_a 11, qb_i x1, qb_i (x2 + 1), none]) dX7_work_66 rfl rfl (qb_ina g3 (by decide)) (Nat.le_of_ble_eq_true rfl) rfl rfl ?_
      refine qb_goto (tgt := 29) dX7_work_69 rfl ?_
      refine qb_cut (L' := [qb_a 11, qb_i x1, qb_i (x2 + 1), none]) [true, true, true, false] rfl ?_
      exact h
    refine qb_ceq (tgt := 66) (pc' := 54) dX7_work_51 rfl rfl (fun c13 => ?_) (fun c13 => ?_)
    · refine qb_cut (L' := [qb_a 11, qb_i x1, qb_i x2, none]) [true, true, true, false] rfl ?_
      simpa only [if_pos c13] using k7
    · have h := gb c13
      refine qb_aloadn (pc' := 55) (i := 0) dX7_work_54 rfl rfl rfl ?_
      refine qb_iloadn (pc' := 56) (i := 3) dX7_work_55 rfl rfl rfl ?_
      refine qb_aloadn (pc' := 57) (i := 0) dX7_work_56 rfl rfl rfl ?_
      refine qb_geta (pc' := 60) dX7_work_57 rfl qf_X7_15 qb_s11 rfl ?_
      refine qb_iloadn (pc' := 61) (i := 3) dX7_work_60 rfl rfl rfl ?_
      refine qb_iald (pc' := 62) (v := (hp 13 (hp 17 x2))) dX7_work_61 rfl qb_s13 g4.1 g4.2 rfl ?_
      refine qb_iloadn (pc' := 63) (i := 1) dX7_work_62 rfl rfl rfl ?_
      have g38 := h
      refine qb_callVu (pc' := 66) (b := 11) (as := [.inl (hp 17 x2), .inl (hp 13 (hp 17 x2)), .inl x1]) (rest := []) dX7_work_63 rfl qe_mX7_work_mX7_workOne rfl rfl qb_s11 rfl rfl (Nat.le_of_ble_eq_true rfl) (Nat.le_of_ble_eq_true rfl) ⟨rfl, rfl⟩ (K := fun hpz => (h_la_workOne (hp 17 x2) (hp 13 (hp 17 x2)) x1 hp) = hpz) (s_la_workOne (hp 17 x2) (hp 13 (hp 17 x2)) x1 hp _ g38 rfl) (fun hpz ez => ?_)
      subst ez
      refine qb_cut (L' := [qb_a 11, qb_i x1, qb_i x2, none]) [true, true, true, false] rfl ?_
      simpa only [if_neg c13] using k7
def c_q_work (hp : qb_H) (K : qb_H → Prop) : Prop := qb_R mX10_work 0 0 qb_sh 0 [qb_a 0] [] hp (qb_U qb_sh K)
theorem b_q_work {hp : qb_H} {K : qb_H → Prop} (h : c_la_work (hp 10 0) hp (fun hp4 => K hp4)) : c_q_work hp K := by
  unfold c_q_work
  refine qb_aloadn (pc' := 1) (i := 0) dX10_work_0 rfl rfl rfl ?_
  refine qb_geta (pc' := 4) dX10_work_1 rfl qf_X10_30 qb_s0 rfl ?_
  refine qb_aloadn (pc' := 5) (i := 0) dX10_work_4 rfl rfl rfl ?_
  refine qb_geta (pc' := 8) dX10_work_5 rfl qf_X10_23 qb_s0 rfl ?_
  refine qb_iconst (pc' := 9) dX10_work_8 rfl rfl ?_
  refine qb_iald (pc' := 10) (v := (hp 10 0)) dX10_work_9 rfl qb_s10 (by decide) (by decide) rfl ?_
  refine qb_callVu (pc' := 13) (b := 11) (as := [.inl (hp 10 0)]) (rest := []) dX10_work_10 rfl qe_mX10_work_mX7_work rfl rfl qb_s11 rfl rfl (Nat.le_of_ble_eq_true rfl) (Nat.le_of_ble_eq_true rfl) ⟨rfl, rfl⟩ h (fun hp4 h => ?_)
  exact qb_retv dX10_work_13 rfl h
def c_bo_agreedAt (x1 : Int) (x2 : Int) (x3 : Int) (hp : qb_H) (K : Int → qb_H → Prop) : Prop := qb_R mX1_agreedAt 0 0 qb_sh 0 [qb_a 36, qb_i x1, qb_i x2, qb_i x3] [] hp (qb_I qb_sh K)
theorem b_bo_agreedAt {x1 x2 x3 : Int} {hp : qb_H} {K : Int → qb_H → Prop} (h : (0 ≤ x1 ∧ x1 < 10) ∧ ((hp 37 x1) = x2 → qb_in ((hp 38 x1) * x3)) ∧ K (if (hp 37 x1) = x2 then ((hp 38 x1) * x3) else 0) hp) : c_bo_agreedAt x1 x2 x3 hp K := by
  unfold c_bo_agreedAt
  refine qb_aloadn (pc' := 1) (i := 0) dX1_agreedAt_0 rfl rfl rfl ?_
  refine qb_geta (pc' := 4) dX1_agreedAt_1 rfl qf_X1_9 qb_s36 rfl ?_
  refine qb_iloadn (pc' := 5) (i := 1) dX1_agreedAt_4 rfl rfl rfl ?_
  obtain ⟨g42, h⟩ := h
  refine qb_iald (pc' := 6) (v := (hp 37 x1)) dX1_agreedAt_5 rfl qb_s37 g42.1 g42.2 rfl ?_
  refine qb_iloadn (pc' := 7) (i := 2) dX1_agreedAt_6 rfl rfl rfl ?_
  obtain ⟨ga, h⟩ := h
  have k9 : qb_R mX1_agreedAt 0 0 qb_sh 22 [none, none, none, none] [.inl (if (hp 37 x1) = x2 then ((hp 38 x1) * x3) else 0)] hp (qb_I qb_sh K) := by
    exact qb_reti dX1_agreedAt_22 rfl h
  refine qb_cne (tgt := 21) (pc' := 10) dX1_agreedAt_7 rfl rfl (fun c17 => ?_) (fun c17 => ?_)
  · refine qb_iconst (pc' := 22) dX1_agreedAt_21 rfl rfl ?_
    refine qb_cut (L' := [none, none, none, none]) [false, false, false, false] rfl ?_
    simpa only [if_neg c17] using k9
  · have h := ga c17
    refine qb_aloadn (pc' := 11) (i := 0) dX1_agreedAt_10 rfl rfl rfl ?_
    refine qb_geta (pc' := 14) dX1_agreedAt_11 rfl qf_X1_15 qb_s36 rfl ?_
    refine qb_iloadn (pc' := 15) (i := 1) dX1_agreedAt_14 rfl rfl rfl ?_
    refine qb_iald (pc' := 16) (v := (hp 38 x1)) dX1_agreedAt_15 rfl qb_s38 g42.1 g42.2 rfl ?_
    refine qb_iloadn (pc' := 17) (i := 3) dX1_agreedAt_16 rfl rfl rfl ?_
    have g44 := h
    refine qb_imul (pc' := 18) dX1_agreedAt_17 rfl g44 ?_
    refine qb_goto (tgt := 22) dX1_agreedAt_18 rfl ?_
    refine qb_cut (L' := [none, none, none, none]) [false, false, false, false] rfl ?_
    simpa only [if_pos c17] using k9
def v_bo_agreedAt (x1 : Int) (x2 : Int) (x3 : Int) (hp : qb_H) : Int := (if (hp 37 x1) = x2 then ((hp 38 x1) * x3) else 0)
def g_bo_agreedAt (x1 : Int) (x2 : Int) (x3 : Int) (hp : qb_H) : Prop := (0 ≤ x1 ∧ x1 < 10) ∧ ((hp 37 x1) = x2 → qb_in ((hp 38 x1) * x3))
theorem s_bo_agreedAt (x1 : Int) (x2 : Int) (x3 : Int) (hp : qb_H) (K : Int → qb_H → Prop) (hg : g_bo_agreedAt x1 x2 x3 hp) (hK : K (v_bo_agreedAt x1 x2 x3 hp) hp) : c_bo_agreedAt x1 x2 x3 hp K := by
  refine b_bo_agreedAt ?_
  unfold g_bo_agreedAt at hg
  unfold v_bo_agreedAt at hK
  refine ⟨hg.1, ?_⟩
  have hg := hg.2
  refine ⟨hg, ?_⟩
  exact hK
def c_fc_find_f (x1 : Int) (x2 : Int) (x3 : Int) (x4 : Int) (hp : qb_H) (K : Int → qb_H → Prop) : Prop := qb_R mX5_find 0 0 qb_sh 0 [qb_a 40, qb_i x1, qb_i x2, qb_i x3, qb_i x4, none, none, none] [] hp (qb_I qb_sh K)
def r_fc_find_f_7 (x1 : Int) (x2 : Int) (x3 : Int) (x4 : Int) (x5 : Int) (x6 : Int) (hp : qb_H) (K : Int → qb_H → Prop) : Prop := qb_R mX5_find 0 0 qb_sh 7 [qb_a 40, qb_i x1, qb_i x2, qb_i x3, qb_i x4, qb_i x5, qb_i x6, none] [] hp (qb_I qb_sh K)
theorem b_fc_find_f {x1 x2 x3 x4 : Int} {hp : qb_H} {K : Int → qb_H → Prop} (h : r_fc_find_f_7 x1 x2 x3 x4 (-6) 0 hp K) : c_fc_find_f x1 x2 x3 x4 hp K := by
  unfold c_fc_find_f
  refine qb_bipush (pc' := 2) dX5_find_0 rfl rfl rfl ?_
  refine qb_istore (pc' := 4) (L' := [qb_a 40, qb_i x1, qb_i x2, qb_i x3, qb_i x4, qb_i (-6), none, none]) dX5_find_2 rfl (Nat.le_of_ble_eq_true rfl) rfl rfl ?_
  refine qb_iconst (pc' := 5) dX5_find_4 rfl rfl ?_
  refine qb_istore (pc' := 7) (L' := [qb_a 40, qb_i x1, qb_i x2, qb_i x3, qb_i x4, qb_i (-6), qb_i 0, none]) dX5_find_5 rfl (Nat.le_of_ble_eq_true rfl) rfl rfl ?_
  refine qb_cut (L' := [qb_a 40, qb_i x1, qb_i x2, qb_i x3, qb_i x4, qb_i (-6), qb_i 0, none]) [true, true, true, true, true, true, true, false] rfl ?_
  exact h
theorem b_fc_find_f_7 {x1 x2 x3 x4 x5 x6 : Int} {hp : qb_H} {K : Int → qb_H → Prop} (h : ((hp 40 4) ≤ x6 → (¬ x5 = (-6) → 0 ≤ x5 ∧ x5 < 60) ∧ (∀ (y6 : Int), y6 = (if x5 = (-6) then x4 else (hp 43 x5)) → K y6 hp)) ∧ (¬ (hp 40 4) ≤ x6 → (0 ≤ x6 ∧ x6 < 60) ∧ (∀ (y7 : Int), y7 = (if (hp 41 x6) = x1 then (if x3 < (hp 44 x6) then (0 : Int) else (if x2 < (hp 42 x6) then (0 : Int) else 1)) else 0) → (¬ y7 = 0 → (¬ x5 = (-6) → 0 ≤ x5 ∧ x5 < 60)) ∧ (∀ (y8 : Int), y8 = (if y7 = 0 then x5 else (if x5 = (-6) then x6 else (if (hp 42 x6) < (hp 42 x5) then x5 else x6))) → r_fc_find_f_7 x1 x2 x3 x4 y8 (x6 + 1) hp K)))) : r_fc_find_f_7 x1 x2 x3 x4 x5 x6 hp K := by
  unfold r_fc_find_f_7
  refine qb_iload (pc' := 9) dX5_find_7 rfl rfl ?_
  refine qb_aloadn (pc' := 10) (i := 0) dX5_find_9 rfl rfl rfl ?_
  refine qb_geti (pc' := 13) (v := (hp 40 4)) dX5_find_10 rfl qf_X5_24 qb_s40 rfl rfl ?_
  refine qb_cge (tgt := 95) (pc' := 16) dX5_find_13 rfl rfl (fun c21 => ?_) (fun c21 => ?_)
  · have h := h.1 c21
    refine qb_iload (pc' := 97) dX5_find_95 rfl rfl ?_
    refine qb_bipush (pc' := 99) dX5_find_97 rfl rfl rfl ?_
    obtain ⟨gb, h⟩ := h
    have k10 : ∀ (y6 : Int), y6 = (if x5 = (-6) then x4 else (hp 43 x5)) → qb_R mX5_find 0 0 qb_sh 114 [none, none, none, none, none, none, none, none] [.inl y6] hp (qb_I qb_sh K) := by
      intro y6 ey6
      have h := h y6 ey6
      exact qb_reti dX5_find_114 rfl h
    refine qb_cne (tgt := 107) (pc' := 102) dX5_find_99 rfl rfl (fun c22 => ?_) (fun c22 => ?_)
    · have h := gb c22
      refine qb_aloadn (pc' := 108) (i := 0) dX5_find_107 rfl rfl rfl ?_
      refine qb_geta (pc' := 111) dX5_find_108 rfl qf_X5_18 qb_s40 rfl ?_
      refine qb_iload (pc' := 113) dX5_find_111 rfl rfl ?_
      have g57 := h
      refine qb_iald (pc' := 114) (v := (hp 43 x5)) dX5_find_113 rfl qb_s43 g57.1 g57.2 rfl ?_
      refine qb_cut (L' := [none, none, none, none, none, none, none, none]) [false, false, false, false, false, false, false, false] rfl ?_
      exact k10 _ (if_neg c22).symm
    · refine qb_iload (pc' := 104) dX5_find_102 rfl rfl ?_
      refine qb_goto (tgt := 114) dX5_find_104 rfl ?_
      refine qb_cut (L' := [none, none, none, none, none, none, none, none]) [false, false, false, false, false, false, false, false] rfl ?_
      exact k10 _ (if_pos c22).symm
  · have h := h.2 c21
    refine qb_aloadn (pc' := 17) (i := 0) dX5_find_16 rfl rfl rfl ?_
    refine qb_geta (pc' := 20) dX5_find_17 rfl qf_X5_9 qb_s40 rfl ?_
    refine qb_iload (pc' := 22) dX5_find_20 rfl rfl ?_
    obtain ⟨g58, h⟩ := h
    refine qb_iald (pc' := 23) (v := (hp 41 x6)) dX5_find_22 rfl qb_s41 g58.1 g58.2 rfl ?_
    refine qb_iloadn (pc' := 24) (i := 1) dX5_find_23 rfl rfl rfl ?_
    have k14 : ∀ (y7 : Int), y7 = (if (hp 41 x6) = x1 then (if x3 < (hp 44 x6) then (0 : Int) else (if x2 < (hp 42 x6) then (0 : Int) else 1)) else 0) → qb_R mX5_find 0 0 qb_sh 54 [qb_a 40, qb_i x1, qb_i x2, qb_i x3, qb_i x4, qb_i x5, qb_i x6, none] [.inl y7] hp (qb_I qb_sh K) := by
      intro y7 ey7
      have h := h y7 ey7
      refine qb_istore (pc' := 56) (L' := [qb_a 40, qb_i x1, qb_i x2, qb_i x3, qb_i x4, qb_i x5, qb_i x6, qb_i y7]) dX5_find_54 rfl (Nat.le_of_ble_eq_true rfl) rfl rfl ?_
      refine qb_iload (pc' := 58) dX5_find_56 rfl rfl ?_
      obtain ⟨gb, h⟩ := h
      have k21 : ∀ (y8 : Int), y8 = (if y7 = 0 then x5 else (if x5 = (-6) then x6 else (if (hp 42 x6) < (hp 42 x5) then x5 else x6))) → qb_R mX5_find 0 0 qb_sh 89 [qb_a 40, qb_i x1, qb_i x2, qb_i x3, qb_i x4, qb_i y8, qb_i x6, none] [] hp (qb_I qb_sh K) := by
        intro y8 ey8
        have h := h y8 ey8
        refine qb_iinc (pc' := 92) (L' := [qb_a 40, qb_i x1, qb_i x2, qb_i x3, qb_i x4, qb_i y8, qb_i (x6 + 1), none]) dX5_find_89 rfl rfl (qb_ina g58 (by decide)) (Nat.le_of_ble_eq_true rfl) rfl rfl ?_
        refine qb_goto (tgt := 7) dX5_find_92 rfl ?_
        refine qb_cut (L' := [qb_a 40, qb_i x1, qb_i x2, qb_i x3, qb_i x4, qb_i y8, qb_i (x6 + 1), none]) [true, true, true, true, true, true, true, false] rfl ?_
        exact h
      refine qb_feq (tgt := 89) (pc' := 61) dX5_find_58 rfl rfl (fun c30 => ?_) (fun c30 => ?_)
      · refine qb_cut (L' := [qb_a 40, qb_i x1, qb_i x2, qb_i x3, qb_i x4, qb_i x5, qb_i x6, none]) [true, true, true, true, true, true, true, false] rfl ?_
        exact k21 _ (if_pos c30).symm
      · have h := gb c30
        refine qb_iload (pc' := 63) dX5_find_61 rfl rfl ?_
        refine qb_bipush (pc' := 65) dX5_find_63 rfl rfl rfl ?_
        have gb := h
        have k23 : qb_R mX5_find 0 0 qb_sh 89 [qb_a 40, qb_i x1, qb_i x2, qb_i x3, qb_i x4, qb_i (if x5 = (-6) then x6 else (if (hp 42 x6) < (hp 42 x5) then x5 else x6)), qb_i x6, none] [] hp (qb_I qb_sh K) := by
          refine qb_cut (L' := [qb_a 40, qb_i x1, qb_i x2, qb_i x3, qb_i x4, qb_i (if x5 = (-6) then x6 else (if (hp 42 x6) < (hp 42 x5) then x5 else x6)), qb_i x6, none]) [true, true, true, true, true, true, true, false] rfl ?_
          exact k21 _ (if_neg c30).symm
        refine qb_ceq (tgt := 85) (pc' := 68) dX5_find_65 rfl rfl (fun c34 => ?_) (fun c34 => ?_)
        · refine qb_iload (pc' := 87) dX5_find_85 rfl rfl ?_
          refine qb_istore (pc' := 89) (L' := [qb_a 40, qb_i x1, qb_i x2, qb_i x3, qb_i x4, qb_i x6, qb_i x6, qb_i y7]) dX5_find_87 rfl (Nat.le_of_ble_eq_true rfl) rfl rfl ?_
          refine qb_cut (L' := [qb_a 40, qb_i x1, qb_i x2, qb_i x3, qb_i x4, qb_i x6, qb_i x6, none]) [true, true, true, true, true, true, true, false] rfl ?_
          simpa only [if_pos c34] using k23
        · have h := gb c34
          refine qb_aloadn (pc' := 69) (i := 0) dX5_find_68 rfl rfl rfl ?_
          refine qb_geta (pc' := 72) dX5_find_69 rfl qf_X5_15 qb_s40 rfl ?_
          refine qb_iload (pc' := 74) dX5_find_72 rfl rfl ?_
          refine qb_iald (pc' := 75) (v := (hp 42 x6)) dX5_find_74 rfl qb_s42 g58.1 g58.2 rfl ?_
          refine qb_aloadn (pc' := 76) (i := 0) dX5_find_75 rfl rfl rfl ?_
          refine qb_geta (pc' := 79) dX5_find_76 rfl qf_X5_15 qb_s40 rfl ?_
          refine qb_iload (pc' := 81) dX5_find_79 rfl rfl ?_
          have g62 := h
          refine qb_iald (pc' := 82) (v := (hp 42 x5)) dX5_find_81 rfl qb_s42 g62.1 g62.2 rfl ?_
          have k24 : qb_R mX5_find 0 0 qb_sh 89 [qb_a 40, qb_i x1, qb_i x2, qb_i x3, qb_i x4, qb_i (if (hp 42 x6) < (hp 42 x5) then x5 else x6), qb_i x6, none] [] hp (qb_I qb_sh K) := by
            refine qb_cut (L' := [qb_a 40, qb_i x1, qb_i x2, qb_i x3, qb_i x4, qb_i (if (hp 42 x6) < (hp 42 x5) then x5 else x6), qb_i x6, none]) [true, true, true, true, true, true, true, false] rfl ?_
            simpa only [if_neg c34] using k23
          refine qb_clt (tgt := 89) (pc' := 85) dX5_find_82 rfl rfl (fun c36 => ?_) (fun c36 => ?_)
          · refine qb_cut (L' := [qb_a 40, qb_i x1, qb_i x2, qb_i x3, qb_i x4, qb_i x5, qb_i x6, none]) [true, true, true, true, true, true, true, false] rfl ?_
            simpa only [if_pos c36] using k24
          · refine qb_iload (pc' := 87) dX5_find_85 rfl rfl ?_
            refine qb_istore (pc' := 89) (L' := [qb_a 40, qb_i x1, qb_i x2, qb_i x3, qb_i x4, qb_i x6, qb_i x6, qb_i y7]) dX5_find_87 rfl (Nat.le_of_ble_eq_true rfl) rfl rfl ?_
            refine qb_cut (L' := [qb_a 40, qb_i x1, qb_i x2, qb_i x3, qb_i x4, qb_i x6, qb_i x6, none]) [true, true, true, true, true, true, true, false] rfl ?_
            simpa only [if_neg c36] using k24
    refine qb_cne (tgt := 53) (pc' := 27) dX5_find_24 rfl rfl (fun c23 => ?_) (fun c23 => ?_)
    · refine qb_iconst (pc' := 54) dX5_find_53 rfl rfl ?_
      refine qb_cut (L' := [qb_a 40, qb_i x1, qb_i x2, qb_i x3, qb_i x4, qb_i x5, qb_i x6, none]) [true, true, true, true, true, true, true, false] rfl ?_
      exact k14 _ (if_neg c23).symm
    · refine qb_aloadn (pc' := 28) (i := 0) dX5_find_27 rfl rfl rfl ?_
      refine qb_geta (pc' := 31) dX5_find_28 rfl qf_X5_21 qb_s40 rfl ?_
      refine qb_iload (pc' := 33) dX5_find_31 rfl rfl ?_
      refine qb_iald (pc' := 34) (v := (hp 44 x6)) dX5_find_33 rfl qb_s44 g58.1 g58.2 rfl ?_
      refine qb_iloadn (pc' := 35) (i := 3) dX5_find_34 rfl rfl rfl ?_
      have k16 : qb_R mX5_find 0 0 qb_sh 54 [qb_a 40, qb_i x1, qb_i x2, qb_i x3, qb_i x4, qb_i x5, qb_i x6, none] [.inl (if x3 < (hp 44 x6) then (0 : Int) else (if x2 < (hp 42 x6) then (0 : Int) else 1))] hp (qb_I qb_sh K) := by
        refine qb_cut (L' := [qb_a 40, qb_i x1, qb_i x2, qb_i x3, qb_i x4, qb_i x5, qb_i x6, none]) [true, true, true, true, true, true, true, false] rfl ?_
        exact k14 _ (if_pos c23).symm
      refine qb_cgt (tgt := 53) (pc' := 38) dX5_find_35 rfl rfl (fun c27 => ?_) (fun c27 => ?_)
      · refine qb_iconst (pc' := 54) dX5_find_53 rfl rfl ?_
        refine qb_cut (L' := [qb_a 40, qb_i x1, qb_i x2, qb_i x3, qb_i x4, qb_i x5, qb_i x6, none]) [true, true, true, true, true, true, true, false] rfl ?_
        simpa only [if_pos c27] using k16
      · refine qb_aloadn (pc' := 39) (i := 0) dX5_find_38 rfl rfl rfl ?_
        refine qb_geta (pc' := 42) dX5_find_39 rfl qf_X5_15 qb_s40 rfl ?_
        refine qb_iload (pc' := 44) dX5_find_42 rfl rfl ?_
        refine qb_iald (pc' := 45) (v := (hp 42 x6)) dX5_find_44 rfl qb_s42 g58.1 g58.2 rfl ?_
        refine qb_iloadn (pc' := 46) (i := 2) dX5_find_45 rfl rfl rfl ?_
        have k17 : qb_R mX5_find 0 0 qb_sh 54 [qb_a 40, qb_i x1, qb_i x2, qb_i x3, qb_i x4, qb_i x5, qb_i x6, none] [.inl (if x2 < (hp 42 x6) then (0 : Int) else 1)] hp (qb_I qb_sh K) := by
          refine qb_cut (L' := [qb_a 40, qb_i x1, qb_i x2, qb_i x3, qb_i x4, qb_i x5, qb_i x6, none]) [true, true, true, true, true, true, true, false] rfl ?_
          simpa only [if_neg c27] using k16
        refine qb_cgt (tgt := 53) (pc' := 49) dX5_find_46 rfl rfl (fun c29 => ?_) (fun c29 => ?_)
        · refine qb_iconst (pc' := 54) dX5_find_53 rfl rfl ?_
          refine qb_cut (L' := [qb_a 40, qb_i x1, qb_i x2, qb_i x3, qb_i x4, qb_i x5, qb_i x6, none]) [true, true, true, true, true, true, true, false] rfl ?_
          simpa only [if_pos c29] using k17
        · refine qb_iconst (pc' := 50) dX5_find_49 rfl rfl ?_
          refine qb_goto (tgt := 54) dX5_find_50 rfl ?_
          refine qb_cut (L' := [qb_a 40, qb_i x1, qb_i x2, qb_i x3, qb_i x4, qb_i x5, qb_i x6, none]) [true, true, true, true, true, true, true, false] rfl ?_
          simpa only [if_neg c29] using k17
def c_q_freePrice (x1 : Int) (x2 : Int) (hp : qb_H) (K : Int → qb_H → Prop) : Prop := qb_R mX10_freePrice 0 0 qb_sh 0 [qb_a 0, qb_i x1, qb_i x2] [] hp (qb_I qb_sh K)
theorem b_q_freePrice {x1 x2 : Int} {hp : qb_H} {K : Int → qb_H → Prop} (h : c_fc_find_f 0 x1 x2 10 hp (fun v10 hp10 => K v10 hp10)) : c_q_freePrice x1 x2 hp K := by
  unfold c_q_freePrice
  refine qb_aloadn (pc' := 1) (i := 0) dX10_freePrice_0 rfl rfl rfl ?_
  refine qb_geta (pc' := 4) dX10_freePrice_1 rfl qf_X10_68 qb_s0 rfl ?_
  refine qb_iconst (pc' := 5) dX10_freePrice_4 rfl rfl ?_
  refine qb_iloadn (pc' := 6) (i := 1) dX10_freePrice_5 rfl rfl rfl ?_
  refine qb_iloadn (pc' := 7) (i := 2) dX10_freePrice_6 rfl rfl rfl ?_
  refine qb_bipush (pc' := 9) dX10_freePrice_7 rfl rfl rfl ?_
  refine qb_callVi (pc' := 12) (b := 40) (as := [.inl 0, .inl x1, .inl x2, .inl 10]) (rest := []) dX10_freePrice_9 rfl qe_mX10_freePrice_mX5_find rfl rfl qb_s40 rfl rfl (Nat.le_of_ble_eq_true rfl) (Nat.le_of_ble_eq_true rfl) ⟨rfl, rfl⟩ h (fun v10 hp10 h => ?_)
  exact qb_reti dX10_freePrice_12 rfl h
def c_q_costOf (x1 : Int) (x2 : Int) (x3 : Int) (x4 : Int) (hp : qb_H) (K : Int → qb_H → Prop) : Prop := qb_R mX10_costOf 0 0 qb_sh 0 [qb_a 0, qb_i x1, qb_i x2, qb_i x3, qb_i x4, none, none, none, none, none, none, none] [] hp (qb_I qb_sh K)
def r_q_costOf_18 (x1 : Int) (x2 : Int) (x3 : Int) (x5 : Int) (x6 : Int) (x7 : Int) (x8 : Int) (hp : qb_H) (K : Int → qb_H → Prop) : Prop := qb_R mX10_costOf 0 0 qb_sh 18 [qb_a 0, qb_i x1, qb_i x2, qb_i x3, none, qb_i x5, qb_i x6, qb_i x7, qb_i x8, none, none, none] [] hp (qb_I qb_sh K)
theorem b_q_costOf {x1 x2 x3 x4 : Int} {hp : qb_H} {K : Int → qb_H → Prop} (h : r_q_costOf_18 x1 x2 x3 (hp 10 4) x4 0 0 hp K) : c_q_costOf x1 x2 x3 x4 hp K := by
  unfold c_q_costOf
  refine qb_aloadn (pc' := 1) (i := 0) dX10_costOf_0 rfl rfl rfl ?_
  refine qb_geta (pc' := 4) dX10_costOf_1 rfl qf_X10_23 qb_s0 rfl ?_
  refine qb_iconst (pc' := 5) dX10_costOf_4 rfl rfl ?_
  refine qb_iald (pc' := 6) (v := (hp 10 4)) dX10_costOf_5 rfl qb_s10 (by decide) (by decide) rfl ?_
  refine qb_istore (pc' := 8) (L' := [qb_a 0, qb_i x1, qb_i x2, qb_i x3, qb_i x4, qb_i (hp 10 4), none, none, none, none, none, none]) dX10_costOf_6 rfl (Nat.le_of_ble_eq_true rfl) rfl rfl ?_
  refine qb_iload (pc' := 10) dX10_costOf_8 rfl rfl ?_
  refine qb_istore (pc' := 12) (L' := [qb_a 0, qb_i x1, qb_i x2, qb_i x3, qb_i x4, qb_i (hp 10 4), qb_i x4, none, none, none, none, none]) dX10_costOf_10 rfl (Nat.le_of_ble_eq_true rfl) rfl rfl ?_
  refine qb_iconst (pc' := 13) dX10_costOf_12 rfl rfl ?_
  refine qb_istore (pc' := 15) (L' := [qb_a 0, qb_i x1, qb_i x2, qb_i x3, qb_i x4, qb_i (hp 10 4), qb_i x4, qb_i 0, none, none, none, none]) dX10_costOf_13 rfl (Nat.le_of_ble_eq_true rfl) rfl rfl ?_
  refine qb_iconst (pc' := 16) dX10_costOf_15 rfl rfl ?_
  refine qb_istore (pc' := 18) (L' := [qb_a 0, qb_i x1, qb_i x2, qb_i x3, qb_i x4, qb_i (hp 10 4), qb_i x4, qb_i 0, qb_i 0, none, none, none]) dX10_costOf_16 rfl (Nat.le_of_ble_eq_true rfl) rfl rfl ?_
  refine qb_cut (L' := [qb_a 0, qb_i x1, qb_i x2, qb_i x3, none, qb_i (hp 10 4), qb_i x4, qb_i 0, qb_i 0, none, none, none]) [true, true, true, true, false, true, true, true, true, false, false, false] rfl ?_
  exact h
theorem b_q_costOf_18 {x1 x2 x3 x5 x6 x7 x8 : Int} {hp : qb_H} {K : Int → qb_H → Prop} (h : ((hp 11 13) ≤ x8 → K x7 hp) ∧ (¬ (hp 11 13) ≤ x8 → (0 ≤ x8 ∧ x8 < 30) ∧ (0 ≤ (hp 17 x8) ∧ (hp 17 x8) < 30) ∧ (((hp 12 (hp 17 x8)) = x1 → ((hp 13 (hp 17 x8)) = x2 → (qb_in (x6 - (min x6 (hp 15 (hp 17 x8))))) ∧ (0 ≤ x1 ∧ x1 < 10) ∧ (qb_in ((min x6 (hp 15 (hp 17 x8))) * (hp 39 x1))) ∧ (0 ≤ ((min x6 (hp 15 (hp 17 x8))) * (hp 39 x1))) ∧ (0 < x5) ∧ (qb_in (x7 + (((min x6 (hp 15 (hp 17 x8))) * (hp 39 x1)) / x5))) ∧ (qb_in ((hp 15 (hp 17 x8)) - (min x6 (hp 15 (hp 17 x8))))) ∧ (0 ≤ (hp 14 (hp 17 x8))) ∧ c_q_freePrice ((hp 14 (hp 17 x8)) / 24) x3 hp (fun v11 hp11 => (qb_in (((hp 15 (hp 17 x8)) - (min x6 (hp 15 (hp 17 x8)))) * v11)) ∧ (0 ≤ (((hp 15 (hp 17 x8)) - (min x6 (hp 15 (hp 17 x8)))) * v11)) ∧ (qb_in ((x7 + (((min x6 (hp 15 (hp 17 x8))) * (hp 39 x1)) / x5)) + ((((hp 15 (hp 17 x8)) - (min x6 (hp 15 (hp 17 x8)))) * v11) / x5))) ∧ r_q_costOf_18 x1 x2 x3 x5 (x6 - (min x6 (hp 15 (hp 17 x8)))) ((x7 + (((min x6 (hp 15 (hp 17 x8))) * (hp 39 x1)) / x5)) + ((((hp 15 (hp 17 x8)) - (min x6 (hp 15 (hp 17 x8)))) * v11) / x5)) (x8 + 1) hp11 K)) ∧ (¬ (hp 13 (hp 17 x8)) = x2 → r_q_costOf_18 x1 x2 x3 x5 x6 x7 (x8 + 1) hp K)) ∧ (¬ (hp 12 (hp 17 x8)) = x1 → r_q_costOf_18 x1 x2 x3 x5 x6 x7 (x8 + 1) hp K)))) : r_q_costOf_18 x1 x2 x3 x5 x6 x7 x8 hp K := by
  unfold r_q_costOf_18
  refine qb_iload (pc' := 20) dX10_costOf_18 rfl rfl ?_
  refine qb_aloadn (pc' := 21) (i := 0) dX10_costOf_20 rfl rfl rfl ?_
  refine qb_geta (pc' := 24) dX10_costOf_21 rfl qf_X10_30 qb_s0 rfl ?_
  refine qb_geti (pc' := 27) (v := (hp 11 13)) dX10_costOf_24 rfl qf_X10_160 qb_s11 rfl rfl ?_
  refine qb_cge (tgt := 164) (pc' := 30) dX10_costOf_27 rfl rfl (fun c18 => ?_) (fun c18 => ?_)
  · have h := h.1 c18
    refine qb_iload (pc' := 166) dX10_costOf_164 rfl rfl ?_
    exact qb_reti dX10_costOf_166 rfl h
  · have h := h.2 c18
    refine qb_aloadn (pc' := 31) (i := 0) dX10_costOf_30 rfl rfl rfl ?_
    refine qb_geta (pc' := 34) dX10_costOf_31 rfl qf_X10_30 qb_s0 rfl ?_
    refine qb_geta (pc' := 37) dX10_costOf_34 rfl qf_X10_347 qb_s11 rfl ?_
    refine qb_iload (pc' := 39) dX10_costOf_37 rfl rfl ?_
    obtain ⟨g46, h⟩ := h
    refine qb_iald (pc' := 40) (v := (hp 17 x8)) dX10_costOf_39 rfl qb_s17 g46.1 g46.2 rfl ?_
    refine qb_istore (pc' := 42) (L' := [qb_a 0, qb_i x1, qb_i x2, qb_i x3, none, qb_i x5, qb_i x6, qb_i x7, qb_i x8, qb_i (hp 17 x8), none, none]) dX10_costOf_40 rfl (Nat.le_of_ble_eq_true rfl) rfl rfl ?_
    refine qb_aloadn (pc' := 43) (i := 0) dX10_costOf_42 rfl rfl rfl ?_
    refine qb_geta (pc' := 46) dX10_costOf_43 rfl qf_X10_30 qb_s0 rfl ?_
    refine qb_geta (pc' := 49) dX10_costOf_46 rfl qf_X10_173 qb_s11 rfl ?_
    refine qb_iload (pc' := 51) dX10_costOf_49 rfl rfl ?_
    obtain ⟨g47, h⟩ := h
    refine qb_iald (pc' := 52) (v := (hp 12 (hp 17 x8))) dX10_costOf_51 rfl qb_s12 g47.1 g47.2 rfl ?_
    refine qb_iloadn (pc' := 53) (i := 1) dX10_costOf_52 rfl rfl rfl ?_
    refine qb_cne (tgt := 158) (pc' := 56) dX10_costOf_53 rfl rfl (fun c19 => ?_) (fun c19 => ?_)
    · have h := h.2 c19
      refine qb_iinc (pc' := 161) (L' := [qb_a 0, qb_i x1, qb_i x2, qb_i x3, none, qb_i x5, qb_i x6, qb_i x7, qb_i (x8 + 1), qb_i (hp 17 x8), none, none]) dX10_costOf_158 rfl rfl (qb_ina g46 (by decide)) (Nat.le_of_ble_eq_true rfl) rfl rfl ?_
      refine qb_goto (tgt := 18) dX10_costOf_161 rfl ?_
      refine qb_cut (L' := [qb_a 0, qb_i x1, qb_i x2, qb_i x3, none, qb_i x5, qb_i x6, qb_i x7, qb_i (x8 + 1), none, none, none]) [true, true, true, true, false, true, true, true, true, false, false, false] rfl ?_
      exact h
    · have h := h.1 c19
      refine qb_aloadn (pc' := 57) (i := 0) dX10_costOf_56 rfl rfl rfl ?_
      refine qb_geta (pc' := 60) dX10_costOf_57 rfl qf_X10_30 qb_s0 rfl ?_
      refine qb_geta (pc' := 63) dX10_costOf_60 rfl qf_X10_170 qb_s11 rfl ?_
      refine qb_iload (pc' := 65) dX10_costOf_63 rfl rfl ?_
      refine qb_iald (pc' := 66) (v := (hp 13 (hp 17 x8))) dX10_costOf_65 rfl qb_s13 g47.1 g47.2 rfl ?_
      refine qb_iloadn (pc' := 67) (i := 2) dX10_costOf_66 rfl rfl rfl ?_
      refine qb_cne (tgt := 158) (pc' := 70) dX10_costOf_67 rfl rfl (fun c37 => ?_) (fun c37 => ?_)
      · have h := h.2 c37
        refine qb_iinc (pc' := 161) (L' := [qb_a 0, qb_i x1, qb_i x2, qb_i x3, none, qb_i x5, qb_i x6, qb_i x7, qb_i (x8 + 1), qb_i (hp 17 x8), none, none]) dX10_costOf_158 rfl rfl (qb_ina g46 (by decide)) (Nat.le_of_ble_eq_true rfl) rfl rfl ?_
        refine qb_goto (tgt := 18) dX10_costOf_161 rfl ?_
        refine qb_cut (L' := [qb_a 0, qb_i x1, qb_i x2, qb_i x3, none, qb_i x5, qb_i x6, qb_i x7, qb_i (x8 + 1), none, none, none]) [true, true, true, true, false, true, true, true, true, false, false, false] rfl ?_
        exact h
      · have h := h.1 c37
        refine qb_iload (pc' := 72) dX10_costOf_70 rfl rfl ?_
        refine qb_aloadn (pc' := 73) (i := 0) dX10_costOf_72 rfl rfl rfl ?_
        refine qb_geta (pc' := 76) dX10_costOf_73 rfl qf_X10_30 qb_s0 rfl ?_
        refine qb_geta (pc' := 79) dX10_costOf_76 rfl qf_X10_178 qb_s11 rfl ?_
        refine qb_iload (pc' := 81) dX10_costOf_79 rfl rfl ?_
        refine qb_iald (pc' := 82) (v := (hp 15 (hp 17 x8))) dX10_costOf_81 rfl qb_s15 g47.1 g47.2 rfl ?_
        refine qb_mmin (pc' := 85) dX10_costOf_82 rfl qlk_X10_350 ⟨Nat.le_of_ble_eq_true rfl, Nat.le_of_ble_eq_true rfl, Nat.zero_le _, Nat.zero_le _⟩ ?_
        refine qb_istore (pc' := 87) (L' := [qb_a 0, qb_i x1, qb_i x2, qb_i x3, none, qb_i x5, qb_i x6, qb_i x7, qb_i x8, qb_i (hp 17 x8), qb_i (min x6 (hp 15 (hp 17 x8))), none]) dX10_costOf_85 rfl (Nat.le_of_ble_eq_true rfl) rfl rfl ?_
        refine qb_iload (pc' := 89) dX10_costOf_87 rfl rfl ?_
        refine qb_iload (pc' := 91) dX10_costOf_89 rfl rfl ?_
        obtain ⟨g79, h⟩ := h
        refine qb_isub (pc' := 92) dX10_costOf_91 rfl g79 ?_
        refine qb_istore (pc' := 94) (L' := [qb_a 0, qb_i x1, qb_i x2, qb_i x3, none, qb_i x5, qb_i (x6 - (min x6 (hp 15 (hp 17 x8)))), qb_i x7, qb_i x8, qb_i (hp 17 x8), qb_i (min x6 (hp 15 (hp 17 x8))), none]) dX10_costOf_92 rfl (Nat.le_of_ble_eq_true rfl) rfl rfl ?_
        refine qb_iload (pc' := 96) dX10_costOf_94 rfl rfl ?_
        refine qb_iload (pc' := 98) dX10_costOf_96 rfl rfl ?_
        refine qb_aloadn (pc' := 99) (i := 0) dX10_costOf_98 rfl rfl rfl ?_
        refine qb_geta (pc' := 102) dX10_costOf_99 rfl qf_X10_61 qb_s0 rfl ?_
        refine qb_geta (pc' := 105) dX10_costOf_102 rfl qf_X10_355 qb_s36 rfl ?_
        refine qb_iloadn (pc' := 106) (i := 1) dX10_costOf_105 rfl rfl rfl ?_
        obtain ⟨g80, h⟩ := h
        refine qb_iald (pc' := 107) (v := (hp 39 x1)) dX10_costOf_106 rfl qb_s39 g80.1 g80.2 rfl ?_
        obtain ⟨g81, h⟩ := h
        refine qb_imul (pc' := 108) dX10_costOf_107 rfl g81 ?_
        refine qb_iload (pc' := 110) dX10_costOf_108 rfl rfl ?_
        obtain ⟨g82, h⟩ := h
        obtain ⟨g83, h⟩ := h
        refine qb_idiv (pc' := 111) dX10_costOf_110 rfl g82 g83 ?_
        obtain ⟨g84, h⟩ := h
        refine qb_iadd (pc' := 112) dX10_costOf_111 rfl g84 ?_
        refine qb_istore (pc' := 114) (L' := [qb_a 0, qb_i x1, qb_i x2, qb_i x3, none, qb_i x5, qb_i (x6 - (min x6 (hp 15 (hp 17 x8)))), qb_i (x7 + (((min x6 (hp 15 (hp 17 x8))) * (hp 39 x1)) / x5)), qb_i x8, qb_i (hp 17 x8), qb_i (min x6 (hp 15 (hp 17 x8))), none]) dX10_costOf_112 rfl (Nat.le_of_ble_eq_true rfl) rfl rfl ?_
        refine qb_aloadn (pc' := 115) (i := 0) dX10_costOf_114 rfl rfl rfl ?_
        refine qb_geta (pc' := 118) dX10_costOf_115 rfl qf_X10_30 qb_s0 rfl ?_
        refine qb_geta (pc' := 121) dX10_costOf_118 rfl qf_X10_178 qb_s11 rfl ?_
        refine qb_iload (pc' := 123) dX10_costOf_121 rfl rfl ?_
        refine qb_iald (pc' := 124) (v := (hp 15 (hp 17 x8))) dX10_costOf_123 rfl qb_s15 g47.1 g47.2 rfl ?_
        refine qb_iload (pc' := 126) dX10_costOf_124 rfl rfl ?_
        obtain ⟨g85, h⟩ := h
        refine qb_isub (pc' := 127) dX10_costOf_126 rfl g85 ?_
        refine qb_istore (pc' := 129) (L' := [qb_a 0, qb_i x1, qb_i x2, qb_i x3, none, qb_i x5, qb_i (x6 - (min x6 (hp 15 (hp 17 x8)))), qb_i (x7 + (((min x6 (hp 15 (hp 17 x8))) * (hp 39 x1)) / x5)), qb_i x8, qb_i (hp 17 x8), qb_i (min x6 (hp 15 (hp 17 x8))), qb_i ((hp 15 (hp 17 x8)) - (min x6 (hp 15 (hp 17 x8))))]) dX10_costOf_127 rfl (Nat.le_of_ble_eq_true rfl) rfl rfl ?_
        refine qb_iload (pc' := 131) dX10_costOf_129 rfl rfl ?_
        refine qb_iload (pc' := 133) dX10_costOf_131 rfl rfl ?_
        refine qb_aloadn (pc' := 134) (i := 0) dX10_costOf_133 rfl rfl rfl ?_
        refine qb_aloadn (pc' := 135) (i := 0) dX10_costOf_134 rfl rfl rfl ?_
        refine qb_geta (pc' := 138) dX10_costOf_135 rfl qf_X10_30 qb_s0 rfl ?_
        refine qb_geta (pc' := 141) dX10_costOf_138 rfl qf_X10_175 qb_s11 rfl ?_
        refine qb_iload (pc' := 143) dX10_costOf_141 rfl rfl ?_
        refine qb_iald (pc' := 144) (v := (hp 14 (hp 17 x8))) dX10_costOf_143 rfl qb_s14 g47.1 g47.2 rfl ?_
        refine qb_bipush (pc' := 146) dX10_costOf_144 rfl rfl rfl ?_
        obtain ⟨g86, h⟩ := h
        refine qb_idiv (pc' := 147) dX10_costOf_146 rfl g86 (by decide) ?_
        refine qb_iloadn (pc' := 148) (i := 3) dX10_costOf_147 rfl rfl rfl ?_
        refine qb_callVi (pc' := 151) (b := 0) (as := [.inl ((hp 14 (hp 17 x8)) / 24), .inl x3]) (rest := [.inl ((hp 15 (hp 17 x8)) - (min x6 (hp 15 (hp 17 x8)))), .inl (x7 + (((min x6 (hp 15 (hp 17 x8))) * (hp 39 x1)) / x5))]) dX10_costOf_148 rfl qe_mX10_costOf_mX10_freePrice rfl rfl qb_s0 rfl rfl (Nat.le_of_ble_eq_true rfl) (Nat.le_of_ble_eq_true rfl) ⟨rfl, rfl⟩ h (fun v11 hp11 h => ?_)
        obtain ⟨g87, h⟩ := h
        refine qb_imul (pc' := 152) dX10_costOf_151 rfl g87 ?_
        refine qb_iload (pc' := 154) dX10_costOf_152 rfl rfl ?_
        obtain ⟨g88, h⟩ := h
        refine qb_idiv (pc' := 155) dX10_costOf_154 rfl g88 g83 ?_
        obtain ⟨g89, h⟩ := h
        refine qb_iadd (pc' := 156) dX10_costOf_155 rfl g89 ?_
        refine qb_istore (pc' := 158) (L' := [qb_a 0, qb_i x1, qb_i x2, qb_i x3, none, qb_i x5, qb_i (x6 - (min x6 (hp 15 (hp 17 x8)))), qb_i ((x7 + (((min x6 (hp 15 (hp 17 x8))) * (hp 39 x1)) / x5)) + ((((hp 15 (hp 17 x8)) - (min x6 (hp 15 (hp 17 x8)))) * v11) / x5)), qb_i x8, qb_i (hp 17 x8), qb_i (min x6 (hp 15 (hp 17 x8))), qb_i ((hp 15 (hp 17 x8)) - (min x6 (hp 15 (hp 17 x8))))]) dX10_costOf_156 rfl (Nat.le_of_ble_eq_true rfl) rfl rfl ?_
        refine qb_iinc (pc' := 161) (L' := [qb_a 0, qb_i x1, qb_i x2, qb_i x3, none, qb_i x5, qb_i (x6 - (min x6 (hp 15 (hp 17 x8)))), qb_i ((x7 + (((min x6 (hp 15 (hp 17 x8))) * (hp 39 x1)) / x5)) + ((((hp 15 (hp 17 x8)) - (min x6 (hp 15 (hp 17 x8)))) * v11) / x5)), qb_i (x8 + 1), qb_i (hp 17 x8), qb_i (min x6 (hp 15 (hp 17 x8))), qb_i ((hp 15 (hp 17 x8)) - (min x6 (hp 15 (hp 17 x8))))]) dX10_costOf_158 rfl rfl (qb_ina g46 (by decide)) (Nat.le_of_ble_eq_true rfl) rfl rfl ?_
        refine qb_goto (tgt := 18) dX10_costOf_161 rfl ?_
        refine qb_cut (L' := [qb_a 0, qb_i x1, qb_i x2, qb_i x3, none, qb_i x5, qb_i (x6 - (min x6 (hp 15 (hp 17 x8)))), qb_i ((x7 + (((min x6 (hp 15 (hp 17 x8))) * (hp 39 x1)) / x5)) + ((((hp 15 (hp 17 x8)) - (min x6 (hp 15 (hp 17 x8)))) * v11) / x5)), qb_i (x8 + 1), none, none, none]) [true, true, true, true, false, true, true, true, true, false, false, false] rfl ?_
        exact h
def c_q_costsAt (x1 : Int) (x2 : Int) (hp : qb_H) (K : Int → qb_H → Prop) : Prop := qb_R mX10_costsAt 0 0 qb_sh 0 [qb_a 0, qb_i x1, qb_i x2, none, none] [] hp (qb_I qb_sh K)
def r_q_costsAt_5 (x1 : Int) (x2 : Int) (x3 : Int) (x4 : Int) (hp : qb_H) (K : Int → qb_H → Prop) : Prop := qb_R mX10_costsAt 0 0 qb_sh 5 [qb_a 0, qb_i x1, qb_i x2, qb_i x3, qb_i x4] [] hp (qb_I qb_sh K)
theorem b_q_costsAt {x1 x2 : Int} {hp : qb_H} {K : Int → qb_H → Prop} (h : r_q_costsAt_5 x1 x2 0 0 hp K) : c_q_costsAt x1 x2 hp K := by
  unfold c_q_costsAt
  refine qb_iconst (pc' := 1) dX10_costsAt_0 rfl rfl ?_
  refine qb_istoren (pc' := 2) (i := 3) (L' := [qb_a 0, qb_i x1, qb_i x2, qb_i 0, none]) dX10_costsAt_1 rfl rfl (Nat.le_of_ble_eq_true rfl) rfl rfl ?_
  refine qb_iconst (pc' := 3) dX10_costsAt_2 rfl rfl ?_
  refine qb_istore (pc' := 5) (L' := [qb_a 0, qb_i x1, qb_i x2, qb_i 0, qb_i 0]) dX10_costsAt_3 rfl (Nat.le_of_ble_eq_true rfl) rfl rfl ?_
  refine qb_cut (L' := [qb_a 0, qb_i x1, qb_i x2, qb_i 0, qb_i 0]) [true, true, true, true, true] rfl ?_
  exact h
theorem b_q_costsAt_5 {x1 x2 x3 x4 : Int} {hp : qb_H} {K : Int → qb_H → Prop} (h : (10 ≤ x4 → K x3 hp) ∧ (¬ 10 ≤ x4 → (g_bo_agreedAt x4 x1 (hp 10 4) hp) ∧ c_q_costOf x4 x1 x2 (v_bo_agreedAt x4 x1 (hp 10 4) hp) hp (fun v12 hp12 => (qb_in (x3 + v12)) ∧ (qb_in (x4 + 1)) ∧ r_q_costsAt_5 x1 x2 (x3 + v12) (x4 + 1) hp12 K))) : r_q_costsAt_5 x1 x2 x3 x4 hp K := by
  unfold r_q_costsAt_5
  refine qb_iload (pc' := 7) dX10_costsAt_5 rfl rfl ?_
  refine qb_bipush (pc' := 9) dX10_costsAt_7 rfl rfl rfl ?_
  refine qb_cge (tgt := 45) (pc' := 12) dX10_costsAt_9 rfl rfl (fun c15 => ?_) (fun c15 => ?_)
  · have h := h.1 c15
    refine qb_iloadn (pc' := 46) (i := 3) dX10_costsAt_45 rfl rfl rfl ?_
    exact qb_reti dX10_costsAt_46 rfl h
  · have h := h.2 c15
    refine qb_iloadn (pc' := 13) (i := 3) dX10_costsAt_12 rfl rfl rfl ?_
    refine qb_aloadn (pc' := 14) (i := 0) dX10_costsAt_13 rfl rfl rfl ?_
    refine qb_iload (pc' := 16) dX10_costsAt_14 rfl rfl ?_
    refine qb_iloadn (pc' := 17) (i := 1) dX10_costsAt_16 rfl rfl rfl ?_
    refine qb_iloadn (pc' := 18) (i := 2) dX10_costsAt_17 rfl rfl rfl ?_
    refine qb_aloadn (pc' := 19) (i := 0) dX10_costsAt_18 rfl rfl rfl ?_
    refine qb_geta (pc' := 22) dX10_costsAt_19 rfl qf_X10_61 qb_s0 rfl ?_
    refine qb_iload (pc' := 24) dX10_costsAt_22 rfl rfl ?_
    refine qb_iloadn (pc' := 25) (i := 1) dX10_costsAt_24 rfl rfl rfl ?_
    refine qb_aloadn (pc' := 26) (i := 0) dX10_costsAt_25 rfl rfl rfl ?_
    refine qb_geta (pc' := 29) dX10_costsAt_26 rfl qf_X10_23 qb_s0 rfl ?_
    refine qb_iconst (pc' := 30) dX10_costsAt_29 rfl rfl ?_
    refine qb_iald (pc' := 31) (v := (hp 10 4)) dX10_costsAt_30 rfl qb_s10 (by decide) (by decide) rfl ?_
    obtain ⟨g45, h⟩ := h
    refine qb_callVi (pc' := 34) (b := 36) (as := [.inl x4, .inl x1, .inl (hp 10 4)]) (rest := [.inl x2, .inl x1, .inl x4, .inr (.inl 0), .inl x3]) dX10_costsAt_31 rfl qe_mX10_costsAt_mX1_agreedAt rfl rfl qb_s36 rfl rfl (Nat.le_of_ble_eq_true rfl) (Nat.le_of_ble_eq_true rfl) ⟨rfl, rfl⟩ (K := fun vz hpz => (v_bo_agreedAt x4 x1 (hp 10 4) hp) = vz ∧ hp = hpz) (s_bo_agreedAt x4 x1 (hp 10 4) hp _ g45 ⟨rfl, rfl⟩) (fun vz hpz ez => ?_)
    obtain ⟨ez1, ez2⟩ := ez
    subst ez1
    subst ez2
    refine qb_callVi (pc' := 37) (b := 0) (as := [.inl x4, .inl x1, .inl x2, .inl (v_bo_agreedAt x4 x1 (hp 10 4) hp)]) (rest := [.inl x3]) dX10_costsAt_34 rfl qe_mX10_costsAt_mX10_costOf rfl rfl qb_s0 rfl rfl (Nat.le_of_ble_eq_true rfl) (Nat.le_of_ble_eq_true rfl) ⟨rfl, rfl⟩ h (fun v12 hp12 h => ?_)
    obtain ⟨g90, h⟩ := h
    refine qb_iadd (pc' := 38) dX10_costsAt_37 rfl g90 ?_
    refine qb_istoren (pc' := 39) (i := 3) (L' := [qb_a 0, qb_i x1, qb_i x2, qb_i (x3 + v12), qb_i x4]) dX10_costsAt_38 rfl rfl (Nat.le_of_ble_eq_true rfl) rfl rfl ?_
    obtain ⟨g91, h⟩ := h
    refine qb_iinc (pc' := 42) (L' := [qb_a 0, qb_i x1, qb_i x2, qb_i (x3 + v12), qb_i (x4 + 1)]) dX10_costsAt_39 rfl rfl g91 (Nat.le_of_ble_eq_true rfl) rfl rfl ?_
    refine qb_goto (tgt := 5) dX10_costsAt_42 rfl ?_
    refine qb_cut (L' := [qb_a 0, qb_i x1, qb_i x2, qb_i (x3 + v12), qb_i (x4 + 1)]) [true, true, true, true, true] rfl ?_
    exact h
def c_q_barrelsAt (x1 : Int) (hp : qb_H) (K : Int → qb_H → Prop) : Prop := qb_R mX10_barrelsAt 0 0 qb_sh 0 [qb_a 0, qb_i x1] [] hp (qb_I qb_sh K)
theorem b_q_barrelsAt {x1 : Int} {hp : qb_H} {K : Int → qb_H → Prop} (h : (0 ≤ x1 ∧ x1 < 4) ∧ (0 ≤ (hp 24 x1)) ∧ (0 < (hp 10 1)) ∧ K ((hp 24 x1) / (hp 10 1)) hp) : c_q_barrelsAt x1 hp K := by
  unfold c_q_barrelsAt
  refine qb_aloadn (pc' := 1) (i := 0) dX10_barrelsAt_0 rfl rfl rfl ?_
  refine qb_geta (pc' := 4) dX10_barrelsAt_1 rfl qf_X10_30 qb_s0 rfl ?_
  refine qb_geta (pc' := 7) dX10_barrelsAt_4 rfl qf_X10_260 qb_s11 rfl ?_
  refine qb_iloadn (pc' := 8) (i := 1) dX10_barrelsAt_7 rfl rfl rfl ?_
  obtain ⟨g95, h⟩ := h
  refine qb_iald (pc' := 9) (v := (hp 24 x1)) dX10_barrelsAt_8 rfl qb_s24 g95.1 g95.2 rfl ?_
  refine qb_aloadn (pc' := 10) (i := 0) dX10_barrelsAt_9 rfl rfl rfl ?_
  refine qb_geta (pc' := 13) dX10_barrelsAt_10 rfl qf_X10_23 qb_s0 rfl ?_
  refine qb_iconst (pc' := 14) dX10_barrelsAt_13 rfl rfl ?_
  refine qb_iald (pc' := 15) (v := (hp 10 1)) dX10_barrelsAt_14 rfl qb_s10 (by decide) (by decide) rfl ?_
  obtain ⟨g96, h⟩ := h
  obtain ⟨g97, h⟩ := h
  refine qb_idiv (pc' := 16) dX10_barrelsAt_15 rfl g96 g97 ?_
  exact qb_reti dX10_barrelsAt_16 rfl h
def v_q_barrelsAt (x1 : Int) (hp : qb_H) : Int := ((hp 24 x1) / (hp 10 1))
def g_q_barrelsAt (x1 : Int) (hp : qb_H) : Prop := (0 ≤ x1 ∧ x1 < 4) ∧ (0 ≤ (hp 24 x1)) ∧ 0 < (hp 10 1)
theorem s_q_barrelsAt (x1 : Int) (hp : qb_H) (K : Int → qb_H → Prop) (hg : g_q_barrelsAt x1 hp) (hK : K (v_q_barrelsAt x1 hp) hp) : c_q_barrelsAt x1 hp K := by
  refine b_q_barrelsAt ?_
  unfold g_q_barrelsAt at hg
  unfold v_q_barrelsAt at hK
  refine ⟨hg.1, ?_⟩
  have hg := hg.2
  refine ⟨hg.1, ?_⟩
  have hg := hg.2
  refine ⟨hg, ?_⟩
  exact hK
def c_q_wagesAt (x1 : Int) (hp : qb_H) (K : Int → qb_H → Prop) : Prop := qb_R mX10_wagesAt 0 0 qb_sh 0 [qb_a 0, qb_i x1] [] hp (qb_I qb_sh K)
theorem b_q_wagesAt {x1 : Int} {hp : qb_H} {K : Int → qb_H → Prop} (h : (g_q_barrelsAt x1 hp) ∧ (qb_in ((hp 10 5) * (v_q_barrelsAt x1 hp))) ∧ K ((hp 10 5) * (v_q_barrelsAt x1 hp)) hp) : c_q_wagesAt x1 hp K := by
  unfold c_q_wagesAt
  refine qb_aloadn (pc' := 1) (i := 0) dX10_wagesAt_0 rfl rfl rfl ?_
  refine qb_geta (pc' := 4) dX10_wagesAt_1 rfl qf_X10_23 qb_s0 rfl ?_
  refine qb_iconst (pc' := 5) dX10_wagesAt_4 rfl rfl ?_
  refine qb_iald (pc' := 6) (v := (hp 10 5)) dX10_wagesAt_5 rfl qb_s10 (by decide) (by decide) rfl ?_
  refine qb_aloadn (pc' := 7) (i := 0) dX10_wagesAt_6 rfl rfl rfl ?_
  refine qb_iloadn (pc' := 8) (i := 1) dX10_wagesAt_7 rfl rfl rfl ?_
  obtain ⟨g100, h⟩ := h
  refine qb_callVi (pc' := 11) (b := 0) (as := [.inl x1]) (rest := [.inl (hp 10 5)]) dX10_wagesAt_8 rfl qe_mX10_wagesAt_mX10_barrelsAt rfl rfl qb_s0 rfl rfl (Nat.le_of_ble_eq_true rfl) (Nat.le_of_ble_eq_true rfl) ⟨rfl, rfl⟩ (K := fun vz hpz => (v_q_barrelsAt x1 hp) = vz ∧ hp = hpz) (s_q_barrelsAt x1 hp _ g100 ⟨rfl, rfl⟩) (fun vz hpz ez => ?_)
  obtain ⟨ez1, ez2⟩ := ez
  subst ez1
  subst ez2
  obtain ⟨g101, h⟩ := h
  refine qb_imul (pc' := 12) dX10_wagesAt_11 rfl g101 ?_
  exact qb_reti dX10_wagesAt_12 rfl h
def v_q_wagesAt (x1 : Int) (hp : qb_H) : Int := ((hp 10 5) * (v_q_barrelsAt x1 hp))
def g_q_wagesAt (x1 : Int) (hp : qb_H) : Prop := (g_q_barrelsAt x1 hp) ∧ qb_in ((hp 10 5) * (v_q_barrelsAt x1 hp))
theorem s_q_wagesAt (x1 : Int) (hp : qb_H) (K : Int → qb_H → Prop) (hg : g_q_wagesAt x1 hp) (hK : K (v_q_wagesAt x1 hp) hp) : c_q_wagesAt x1 hp K := by
  refine b_q_wagesAt ?_
  unfold g_q_wagesAt at hg
  unfold v_q_wagesAt at hK
  refine ⟨hg.1, ?_⟩
  have hg := hg.2
  refine ⟨hg, ?_⟩
  exact hK
def c_ck_start (x1 : Int) (hp : qb_H) (K : qb_H → Prop) : Prop := qb_R mX2_start 0 0 qb_sh 0 [qb_a 25, qb_i x1] [] hp (qb_U qb_sh K)
theorem b_ck_start {x1 : Int} {hp : qb_H} {K : qb_H → Prop} (h : K (qb_st (qb_st (qb_st hp 25 0 x1) 25 1 0) 25 2 (-6))) : c_ck_start x1 hp K := by
  unfold c_ck_start
  refine qb_aloadn (pc' := 1) (i := 0) dX2_start_0 rfl rfl rfl ?_
  refine qb_iloadn (pc' := 2) (i := 1) dX2_start_1 rfl rfl rfl ?_
  refine qb_puti (pc' := 5) (hp' := (qb_st hp 25 0 x1)) dX2_start_2 rfl qf_X2_9 (Or.inl rfl) qb_s25 rfl rfl ?_
  refine qb_aloadn (pc' := 6) (i := 0) dX2_start_5 rfl rfl rfl ?_
  refine qb_iconst (pc' := 7) dX2_start_6 rfl rfl ?_
  refine qb_puti (pc' := 10) (hp' := (qb_st (qb_st hp 25 0 x1) 25 1 0)) dX2_start_7 rfl qf_X2_15 (Or.inl rfl) qb_s25 rfl rfl ?_
  refine qb_aloadn (pc' := 11) (i := 0) dX2_start_10 rfl rfl rfl ?_
  refine qb_bipush (pc' := 13) dX2_start_11 rfl rfl rfl ?_
  refine qb_puti (pc' := 16) (hp' := (qb_st (qb_st (qb_st hp 25 0 x1) 25 1 0) 25 2 (-6))) dX2_start_13 rfl qf_X2_18 (Or.inl rfl) qb_s25 rfl rfl ?_
  exact qb_retv dX2_start_16 rfl h
def h_ck_start (x1 : Int) (hp : qb_H) : qb_H := (qb_st (qb_st (qb_st hp 25 0 x1) 25 1 0) 25 2 (-6))
theorem hn_ck_start (x1 : Int) (hp : qb_H) (c : Nat) (h25 : c ≠ 25) : h_ck_start x1 hp c = hp c := by
  unfold h_ck_start
  (repeat' split) <;> simp only [qb_st_ne, qb_cpy_ne, ne_eq, not_false_eq_true, h25, ]
theorem s_ck_start (x1 : Int) (hp : qb_H) (K : qb_H → Prop) (hg : True) (hK : K (h_ck_start x1 hp)) : c_ck_start x1 hp K := by
  refine b_ck_start ?_
  unfold h_ck_start at hK
  exact hK
def c_ck_empty (hp : qb_H) (K : qb_H → Prop) : Prop := qb_R mX2_empty 0 0 qb_sh 0 [qb_a 25] [] hp (qb_U qb_sh K)
theorem b_ck_empty {hp : qb_H} {K : qb_H → Prop} (h : K (qb_st (qb_st (qb_st (qb_st (qb_st (qb_st (qb_st hp 25 7 (hp 25 2)) 25 8 (hp 25 3)) 25 9 (hp 25 4)) 25 2 0) 25 3 0) 25 4 9) 25 5 0)) : c_ck_empty hp K := by
  unfold c_ck_empty
  refine qb_aloadn (pc' := 1) (i := 0) dX2_empty_0 rfl rfl rfl ?_
  refine qb_aloadn (pc' := 2) (i := 0) dX2_empty_1 rfl rfl rfl ?_
  refine qb_geti (pc' := 5) (v := (hp 25 2)) dX2_empty_2 rfl qf_X2_18 qb_s25 rfl rfl ?_
  refine qb_puti (pc' := 8) (hp' := (qb_st hp 25 7 (hp 25 2))) dX2_empty_5 rfl qf_X2_21 (Or.inl rfl) qb_s25 rfl rfl ?_
  refine qb_aloadn (pc' := 9) (i := 0) dX2_empty_8 rfl rfl rfl ?_
  refine qb_aloadn (pc' := 10) (i := 0) dX2_empty_9 rfl rfl rfl ?_
  refine qb_geti (pc' := 13) (v := (hp 25 3)) dX2_empty_10 rfl qf_X2_24 qb_s25 rfl (qb_rdl (by decide) rfl) ?_
  refine qb_puti (pc' := 16) (hp' := (qb_st (qb_st hp 25 7 (hp 25 2)) 25 8 (hp 25 3))) dX2_empty_13 rfl qf_X2_27 (Or.inl rfl) qb_s25 rfl rfl ?_
  refine qb_aloadn (pc' := 17) (i := 0) dX2_empty_16 rfl rfl rfl ?_
  refine qb_aloadn (pc' := 18) (i := 0) dX2_empty_17 rfl rfl rfl ?_
  refine qb_geti (pc' := 21) (v := (hp 25 4)) dX2_empty_18 rfl qf_X2_30 qb_s25 rfl (qb_rdl (by decide) (qb_rdl (by decide) rfl)) ?_
  refine qb_puti (pc' := 24) (hp' := (qb_st (qb_st (qb_st hp 25 7 (hp 25 2)) 25 8 (hp 25 3)) 25 9 (hp 25 4))) dX2_empty_21 rfl qf_X2_33 (Or.inl rfl) qb_s25 rfl rfl ?_
  refine qb_aloadn (pc' := 25) (i := 0) dX2_empty_24 rfl rfl rfl ?_
  refine qb_iconst (pc' := 26) dX2_empty_25 rfl rfl ?_
  refine qb_puti (pc' := 29) (hp' := (qb_st (qb_st (qb_st (qb_st hp 25 7 (hp 25 2)) 25 8 (hp 25 3)) 25 9 (hp 25 4)) 25 2 0)) dX2_empty_26 rfl qf_X2_18 (Or.inl rfl) qb_s25 rfl rfl ?_
  refine qb_aloadn (pc' := 30) (i := 0) dX2_empty_29 rfl rfl rfl ?_
  refine qb_iconst (pc' := 31) dX2_empty_30 rfl rfl ?_
  refine qb_puti (pc' := 34) (hp' := (qb_st (qb_st (qb_st (qb_st (qb_st hp 25 7 (hp 25 2)) 25 8 (hp 25 3)) 25 9 (hp 25 4)) 25 2 0) 25 3 0)) dX2_empty_31 rfl qf_X2_24 (Or.inl rfl) qb_s25 rfl rfl ?_
  refine qb_aloadn (pc' := 35) (i := 0) dX2_empty_34 rfl rfl rfl ?_
  refine qb_bipush (pc' := 37) dX2_empty_35 rfl rfl rfl ?_
  refine qb_puti (pc' := 40) (hp' := (qb_st (qb_st (qb_st (qb_st (qb_st (qb_st hp 25 7 (hp 25 2)) 25 8 (hp 25 3)) 25 9 (hp 25 4)) 25 2 0) 25 3 0) 25 4 9)) dX2_empty_37 rfl qf_X2_30 (Or.inl rfl) qb_s25 rfl rfl ?_
  refine qb_aloadn (pc' := 41) (i := 0) dX2_empty_40 rfl rfl rfl ?_
  refine qb_iconst (pc' := 42) dX2_empty_41 rfl rfl ?_
  refine qb_puti (pc' := 45) (hp' := (qb_st (qb_st (qb_st (qb_st (qb_st (qb_st (qb_st hp 25 7 (hp 25 2)) 25 8 (hp 25 3)) 25 9 (hp 25 4)) 25 2 0) 25 3 0) 25 4 9) 25 5 0)) dX2_empty_42 rfl qf_X2_36 (Or.inl rfl) qb_s25 rfl rfl ?_
  exact qb_retv dX2_empty_45 rfl h
def h_ck_empty (hp : qb_H) : qb_H := (qb_st (qb_st (qb_st (qb_st (qb_st (qb_st (qb_st hp 25 7 (hp 25 2)) 25 8 (hp 25 3)) 25 9 (hp 25 4)) 25 2 0) 25 3 0) 25 4 9) 25 5 0)
theorem hn_ck_empty (hp : qb_H) (c : Nat) (h25 : c ≠ 25) : h_ck_empty hp c = hp c := by
  unfold h_ck_empty
  (repeat' split) <;> simp only [qb_st_ne, qb_cpy_ne, ne_eq, not_false_eq_true, h25, ]
theorem s_ck_empty (hp : qb_H) (K : qb_H → Prop) (hg : True) (hK : K (h_ck_empty hp)) : c_ck_empty hp K := by
  refine b_ck_empty ?_
  unfold h_ck_empty at hK
  exact hK
def c_ck_compare (hp : qb_H) (K : qb_H → Prop) : Prop := qb_R mX2_compare 0 0 qb_sh 0 [qb_a 25] [] hp (qb_U qb_sh K)
theorem b_ck_compare {hp : qb_H} {K : qb_H → Prop} (h : ((if (hp 25 2) = (hp 25 7) then (if (hp 25 3) = (hp 25 8) then (if (hp 25 4) = (hp 25 9) then (1 : Int) else 0) else 0) else 0) = 0 ∨ (if (hp 25 2) = (hp 25 7) then (if (hp 25 3) = (hp 25 8) then (if (hp 25 4) = (hp 25 9) then (1 : Int) else 0) else 0) else 0) = 1) ∧ K (qb_st hp 25 6 (if (hp 25 2) = (hp 25 7) then (if (hp 25 3) = (hp 25 8) then (if (hp 25 4) = (hp 25 9) then (1 : Int) else 0) else 0) else 0))) : c_ck_compare hp K := by
  unfold c_ck_compare
  refine qb_aloadn (pc' := 1) (i := 0) dX2_compare_0 rfl rfl rfl ?_
  refine qb_aloadn (pc' := 2) (i := 0) dX2_compare_1 rfl rfl rfl ?_
  refine qb_geti (pc' := 5) (v := (hp 25 2)) dX2_compare_2 rfl qf_X2_18 qb_s25 rfl rfl ?_
  refine qb_aloadn (pc' := 6) (i := 0) dX2_compare_5 rfl rfl rfl ?_
  refine qb_geti (pc' := 9) (v := (hp 25 7)) dX2_compare_6 rfl qf_X2_21 qb_s25 rfl rfl ?_
  have k35 : qb_R mX2_compare 0 0 qb_sh 39 [none] [.inl (if (hp 25 2) = (hp 25 7) then (if (hp 25 3) = (hp 25 8) then (if (hp 25 4) = (hp 25 9) then (1 : Int) else 0) else 0) else 0), .inr (.inl 25)] hp (qb_U qb_sh K) := by
    obtain ⟨g112, h⟩ := h
    refine qb_puti (pc' := 42) (hp' := (qb_st hp 25 6 (if (hp 25 2) = (hp 25 7) then (if (hp 25 3) = (hp 25 8) then (if (hp 25 4) = (hp 25 9) then (1 : Int) else 0) else 0) else 0))) dX2_compare_39 rfl qf_X2_48 (Or.inr ⟨rfl, g112⟩) qb_s25 rfl rfl ?_
    exact qb_retv dX2_compare_42 rfl h
  refine qb_cne (tgt := 38) (pc' := 12) dX2_compare_9 rfl rfl (fun c49 => ?_) (fun c49 => ?_)
  · refine qb_iconst (pc' := 39) dX2_compare_38 rfl rfl ?_
    refine qb_cut (L' := [none]) [false] rfl ?_
    simpa only [if_neg c49] using k35
  · refine qb_aloadn (pc' := 13) (i := 0) dX2_compare_12 rfl rfl rfl ?_
    refine qb_geti (pc' := 16) (v := (hp 25 3)) dX2_compare_13 rfl qf_X2_24 qb_s25 rfl rfl ?_
    refine qb_aloadn (pc' := 17) (i := 0) dX2_compare_16 rfl rfl rfl ?_
    refine qb_geti (pc' := 20) (v := (hp 25 8)) dX2_compare_17 rfl qf_X2_27 qb_s25 rfl rfl ?_
    have k37 : qb_R mX2_compare 0 0 qb_sh 39 [none] [.inl (if (hp 25 3) = (hp 25 8) then (if (hp 25 4) = (hp 25 9) then (1 : Int) else 0) else 0), .inr (.inl 25)] hp (qb_U qb_sh K) := by
      refine qb_cut (L' := [none]) [false] rfl ?_
      simpa only [if_pos c49] using k35
    refine qb_cne (tgt := 38) (pc' := 23) dX2_compare_20 rfl rfl (fun c53 => ?_) (fun c53 => ?_)
    · refine qb_iconst (pc' := 39) dX2_compare_38 rfl rfl ?_
      refine qb_cut (L' := [none]) [false] rfl ?_
      simpa only [if_neg c53] using k37
    · refine qb_aloadn (pc' := 24) (i := 0) dX2_compare_23 rfl rfl rfl ?_
      refine qb_geti (pc' := 27) (v := (hp 25 4)) dX2_compare_24 rfl qf_X2_30 qb_s25 rfl rfl ?_
      refine qb_aloadn (pc' := 28) (i := 0) dX2_compare_27 rfl rfl rfl ?_
      refine qb_geti (pc' := 31) (v := (hp 25 9)) dX2_compare_28 rfl qf_X2_33 qb_s25 rfl rfl ?_
      have k38 : qb_R mX2_compare 0 0 qb_sh 39 [none] [.inl (if (hp 25 4) = (hp 25 9) then (1 : Int) else 0), .inr (.inl 25)] hp (qb_U qb_sh K) := by
        refine qb_cut (L' := [none]) [false] rfl ?_
        simpa only [if_pos c53] using k37
      refine qb_cne (tgt := 38) (pc' := 34) dX2_compare_31 rfl rfl (fun c55 => ?_) (fun c55 => ?_)
      · refine qb_iconst (pc' := 39) dX2_compare_38 rfl rfl ?_
        refine qb_cut (L' := [none]) [false] rfl ?_
        simpa only [if_neg c55] using k38
      · refine qb_iconst (pc' := 35) dX2_compare_34 rfl rfl ?_
        refine qb_goto (tgt := 39) dX2_compare_35 rfl ?_
        refine qb_cut (L' := [none]) [false] rfl ?_
        simpa only [if_pos c55] using k38
def h_ck_compare (hp : qb_H) : qb_H := (qb_st hp 25 6 (if (hp 25 2) = (hp 25 7) then (if (hp 25 3) = (hp 25 8) then (if (hp 25 4) = (hp 25 9) then (1 : Int) else 0) else 0) else 0))
theorem hn_ck_compare (hp : qb_H) (c : Nat) (h25 : c ≠ 25) : h_ck_compare hp c = hp c := by
  unfold h_ck_compare
  (repeat' split) <;> simp only [qb_st_ne, qb_cpy_ne, ne_eq, not_false_eq_true, h25, ]
def g_ck_compare (hp : qb_H) : Prop := ((if (hp 25 2) = (hp 25 7) then (if (hp 25 3) = (hp 25 8) then (if (hp 25 4) = (hp 25 9) then (1 : Int) else 0) else 0) else 0) = 0 ∨ (if (hp 25 2) = (hp 25 7) then (if (hp 25 3) = (hp 25 8) then (if (hp 25 4) = (hp 25 9) then (1 : Int) else 0) else 0) else 0) = 1)
theorem s_ck_compare (hp : qb_H) (K : qb_H → Prop) (hg : g_ck_compare hp) (hK : K (h_ck_compare hp)) : c_ck_compare hp K := by
  refine b_ck_compare ?_
  unfold g_ck_compare at hg
  unfold h_ck_compare at hK
  refine ⟨hg, ?_⟩
  exact hK
def c_ck_take (x1 : Int) (x2 : Int) (x3 : Int) (hp : qb_H) (K : qb_H → Prop) : Prop := qb_R mX2_take 0 0 qb_sh 0 [qb_a 25, qb_i x1, qb_i x2, qb_i x3] [] hp (qb_U qb_sh K)
theorem b_ck_take {x1 x2 x3 : Int} {hp : qb_H} {K : qb_H → Prop} (h : (qb_in ((hp 25 5) + 1)) ∧ K (qb_st (qb_st (qb_st (qb_st hp 25 2 x1) 25 3 (max (hp 25 3) x2)) 25 4 (min (hp 25 4) x3)) 25 5 ((hp 25 5) + 1))) : c_ck_take x1 x2 x3 hp K := by
  unfold c_ck_take
  refine qb_aloadn (pc' := 1) (i := 0) dX2_take_0 rfl rfl rfl ?_
  refine qb_iloadn (pc' := 2) (i := 1) dX2_take_1 rfl rfl rfl ?_
  refine qb_puti (pc' := 5) (hp' := (qb_st hp 25 2 x1)) dX2_take_2 rfl qf_X2_18 (Or.inl rfl) qb_s25 rfl rfl ?_
  refine qb_aloadn (pc' := 6) (i := 0) dX2_take_5 rfl rfl rfl ?_
  refine qb_aloadn (pc' := 7) (i := 0) dX2_take_6 rfl rfl rfl ?_
  refine qb_geti (pc' := 10) (v := (hp 25 3)) dX2_take_7 rfl qf_X2_24 qb_s25 rfl (qb_rdl (by decide) rfl) ?_
  refine qb_iloadn (pc' := 11) (i := 2) dX2_take_10 rfl rfl rfl ?_
  refine qb_mmax (pc' := 14) dX2_take_11 rfl qlk_X2_39 ⟨Nat.le_of_ble_eq_true rfl, Nat.le_of_ble_eq_true rfl, Nat.zero_le _, Nat.zero_le _⟩ ?_
  refine qb_puti (pc' := 17) (hp' := (qb_st (qb_st hp 25 2 x1) 25 3 (max (hp 25 3) x2))) dX2_take_14 rfl qf_X2_24 (Or.inl rfl) qb_s25 rfl rfl ?_
  refine qb_aloadn (pc' := 18) (i := 0) dX2_take_17 rfl rfl rfl ?_
  refine qb_aloadn (pc' := 19) (i := 0) dX2_take_18 rfl rfl rfl ?_
  refine qb_geti (pc' := 22) (v := (hp 25 4)) dX2_take_19 rfl qf_X2_30 qb_s25 rfl (qb_rdl (by decide) (qb_rdl (by decide) rfl)) ?_
  refine qb_iloadn (pc' := 23) (i := 3) dX2_take_22 rfl rfl rfl ?_
  refine qb_mmin (pc' := 26) dX2_take_23 rfl qlk_X2_45 ⟨Nat.le_of_ble_eq_true rfl, Nat.le_of_ble_eq_true rfl, Nat.zero_le _, Nat.zero_le _⟩ ?_
  refine qb_puti (pc' := 29) (hp' := (qb_st (qb_st (qb_st hp 25 2 x1) 25 3 (max (hp 25 3) x2)) 25 4 (min (hp 25 4) x3))) dX2_take_26 rfl qf_X2_30 (Or.inl rfl) qb_s25 rfl rfl ?_
  refine qb_aloadn (pc' := 30) (i := 0) dX2_take_29 rfl rfl rfl ?_
  refine qb_dup (pc' := 31) dX2_take_30 rfl rfl ?_
  refine qb_geti (pc' := 34) (v := (hp 25 5)) dX2_take_31 rfl qf_X2_36 qb_s25 rfl (qb_rdl (by decide) (qb_rdl (by decide) (qb_rdl (by decide) rfl))) ?_
  refine qb_iconst (pc' := 35) dX2_take_34 rfl rfl ?_
  obtain ⟨g124, h⟩ := h
  refine qb_iadd (pc' := 36) dX2_take_35 rfl g124 ?_
  refine qb_puti (pc' := 39) (hp' := (qb_st (qb_st (qb_st (qb_st hp 25 2 x1) 25 3 (max (hp 25 3) x2)) 25 4 (min (hp 25 4) x3)) 25 5 ((hp 25 5) + 1))) dX2_take_36 rfl qf_X2_36 (Or.inl rfl) qb_s25 rfl rfl ?_
  exact qb_retv dX2_take_39 rfl h
def h_ck_take (x1 : Int) (x2 : Int) (x3 : Int) (hp : qb_H) : qb_H := (qb_st (qb_st (qb_st (qb_st hp 25 2 x1) 25 3 (max (hp 25 3) x2)) 25 4 (min (hp 25 4) x3)) 25 5 ((hp 25 5) + 1))
theorem hn_ck_take (x1 : Int) (x2 : Int) (x3 : Int) (hp : qb_H) (c : Nat) (h25 : c ≠ 25) : h_ck_take x1 x2 x3 hp c = hp c := by
  unfold h_ck_take
  (repeat' split) <;> simp only [qb_st_ne, qb_cpy_ne, ne_eq, not_false_eq_true, h25, ]
def g_ck_take (x1 : Int) (x2 : Int) (x3 : Int) (hp : qb_H) : Prop := qb_in ((hp 25 5) + 1)
theorem s_ck_take (x1 : Int) (x2 : Int) (x3 : Int) (hp : qb_H) (K : qb_H → Prop) (hg : g_ck_take x1 x2 x3 hp) (hK : K (h_ck_take x1 x2 x3 hp)) : c_ck_take x1 x2 x3 hp K := by
  refine b_ck_take ?_
  unfold g_ck_take at hg
  unfold h_ck_take at hK
  refine ⟨hg, ?_⟩
  exact hK
def c_la_measure (x2 : Int) (x3 : Int) (hp : qb_H) (K : qb_H → Prop) : Prop := qb_R mX7_measure 0 0 qb_sh 0 [qb_a 11, qb_a 25, qb_i x2, qb_i x3, none, none, none, none, none, none, none] [] hp (qb_U qb_sh K)
def r_la_measure_31 (x4 : Int) (x5 : Int) (x6 : Int) (x7 : Int) (hp : qb_H) (K : qb_H → Prop) : Prop := qb_R mX7_measure 0 0 qb_sh 31 [qb_a 11, qb_a 25, none, none, qb_i x4, qb_i x5, qb_i x6, qb_i x7, none, none, none] [] hp (qb_U qb_sh K)
theorem b_la_measure {x2 x3 : Int} {hp : qb_H} {K : qb_H → Prop} (h : (qb_in (x2 * x3)) ∧ (qb_in ((x2 * x3) + x3)) ∧ (∀ (y15 : Int), y15 = ((x2 * x3) + x3) → (g_la_paceAt (hp 25 0) hp) ∧ (∀ (y16 : Int), y16 = (v_la_paceAt (hp 25 0) hp) → (∀ (y17 : Int), y17 = ((h_ck_empty hp) 25 1) → r_la_measure_31 (x2 * x3) y15 y16 y17 (h_ck_empty hp) K)))) : c_la_measure x2 x3 hp K := by
  unfold c_la_measure
  refine qb_iloadn (pc' := 1) (i := 2) dX7_measure_0 rfl rfl rfl ?_
  refine qb_iloadn (pc' := 2) (i := 3) dX7_measure_1 rfl rfl rfl ?_
  obtain ⟨g108, h⟩ := h
  refine qb_imul (pc' := 3) dX7_measure_2 rfl g108 ?_
  refine qb_istore (pc' := 5) (L' := [qb_a 11, qb_a 25, qb_i x2, qb_i x3, qb_i (x2 * x3), none, none, none, none, none, none]) dX7_measure_3 rfl (Nat.le_of_ble_eq_true rfl) rfl rfl ?_
  refine qb_iload (pc' := 7) dX7_measure_5 rfl rfl ?_
  refine qb_iloadn (pc' := 8) (i := 3) dX7_measure_7 rfl rfl rfl ?_
  obtain ⟨g109, h⟩ := h
  refine qb_iadd (pc' := 9) dX7_measure_8 rfl g109 ?_
  refine qb_istorey (pc' := 11) (Lf := fun y15 => [qb_a 11, qb_a 25, qb_i x2, qb_i x3, qb_i (x2 * x3), qb_i y15, none, none, none, none, none]) dX7_measure_9 rfl (Nat.le_of_ble_eq_true rfl) rfl (fun _ => rfl) (fun y15 ey15 => ?_)
  have h := h y15 ey15
  refine qb_aloadn (pc' := 12) (i := 0) dX7_measure_11 rfl rfl rfl ?_
  refine qb_aloadn (pc' := 13) (i := 1) dX7_measure_12 rfl rfl rfl ?_
  refine qb_geti (pc' := 16) (v := (hp 25 0)) dX7_measure_13 rfl qf_X7_83 qb_s25 rfl rfl ?_
  obtain ⟨g110, h⟩ := h
  refine qb_callVi (pc' := 19) (b := 11) (as := [.inl (hp 25 0)]) (rest := []) dX7_measure_16 rfl qe_mX7_measure_mX7_paceAt rfl rfl qb_s11 rfl rfl (Nat.le_of_ble_eq_true rfl) (Nat.le_of_ble_eq_true rfl) ⟨rfl, rfl⟩ (K := fun vz hpz => (v_la_paceAt (hp 25 0) hp) = vz ∧ hp = hpz) (s_la_paceAt (hp 25 0) hp _ g110 ⟨rfl, rfl⟩) (fun vz hpz ez => ?_)
  obtain ⟨ez1, ez2⟩ := ez
  subst ez1
  subst ez2
  refine qb_istorey (pc' := 21) (Lf := fun y16 => [qb_a 11, qb_a 25, qb_i x2, qb_i x3, qb_i (x2 * x3), qb_i y15, qb_i y16, none, none, none, none]) dX7_measure_19 rfl (Nat.le_of_ble_eq_true rfl) rfl (fun _ => rfl) (fun y16 ey16 => ?_)
  have h := h y16 ey16
  refine qb_aloadn (pc' := 22) (i := 1) dX7_measure_21 rfl rfl rfl ?_
  refine qb_callVu (pc' := 25) (b := 25) (as := []) (rest := []) dX7_measure_22 rfl qe_mX7_measure_mX2_empty rfl rfl qb_s25 rfl rfl (Nat.le_of_ble_eq_true rfl) (Nat.le_of_ble_eq_true rfl) ⟨rfl, rfl⟩ (K := fun hpz => (h_ck_empty hp) = hpz) (s_ck_empty  hp _ trivial rfl) (fun hpz ez => ?_)
  subst ez
  refine qb_aloadn (pc' := 26) (i := 1) dX7_measure_25 rfl rfl rfl ?_
  refine qb_geti (pc' := 29) (v := ((h_ck_empty hp) 25 1)) dX7_measure_26 rfl qf_X7_91 qb_s25 rfl rfl ?_
  refine qb_istorey (pc' := 31) (Lf := fun y17 => [qb_a 11, qb_a 25, qb_i x2, qb_i x3, qb_i (x2 * x3), qb_i y15, qb_i y16, qb_i y17, none, none, none]) dX7_measure_29 rfl (Nat.le_of_ble_eq_true rfl) rfl (fun _ => rfl) (fun y17 ey17 => ?_)
  have h := h y17 ey17
  refine qb_cut (L' := [qb_a 11, qb_a 25, none, none, qb_i (x2 * x3), qb_i y15, qb_i y16, qb_i y17, none, none, none]) [true, true, false, false, true, true, true, true, false, false, false] rfl ?_
  exact h
theorem b_la_measure_31 {x4 x5 x6 x7 : Int} {hp : qb_H} {K : qb_H → Prop} (h : ((hp 11 13) ≤ x7 → (g_ck_compare hp) ∧ K (h_ck_compare hp)) ∧ (¬ (hp 11 13) ≤ x7 → (0 ≤ x7 ∧ x7 < 30) ∧ (0 ≤ (hp 17 x7) ∧ (hp 17 x7) < 30) ∧ (((hp 13 (hp 17 x7)) = (hp 25 0) → ((hp 20 (hp 17 x7)) < x5 → (qb_in ((hp 20 (hp 17 x7)) + (hp 19 (hp 17 x7)))) ∧ (¬ (min x5 ((hp 20 (hp 17 x7)) + (hp 19 (hp 17 x7)))) ≤ (max x4 (hp 20 (hp 17 x7))) → (qb_in ((hp 18 (hp 17 x7)) + (min x5 ((hp 20 (hp 17 x7)) + (hp 19 (hp 17 x7)))))) ∧ (qb_in (((hp 18 (hp 17 x7)) + (min x5 ((hp 20 (hp 17 x7)) + (hp 19 (hp 17 x7))))) - 1)) ∧ (qb_in ((((hp 18 (hp 17 x7)) + (min x5 ((hp 20 (hp 17 x7)) + (hp 19 (hp 17 x7))))) - 1) - (hp 20 (hp 17 x7)))) ∧ (0 ≤ ((((hp 18 (hp 17 x7)) + (min x5 ((hp 20 (hp 17 x7)) + (hp 19 (hp 17 x7))))) - 1) - (hp 20 (hp 17 x7)))) ∧ (0 < x6) ∧ (qb_in ((((((hp 18 (hp 17 x7)) + (min x5 ((hp 20 (hp 17 x7)) + (hp 19 (hp 17 x7))))) - 1) - (hp 20 (hp 17 x7))) / x6) - (hp 14 (hp 17 x7)))) ∧ g_ck_take (((((hp 18 (hp 17 x7)) + (min x5 ((hp 20 (hp 17 x7)) + (hp 19 (hp 17 x7))))) - 1) - (hp 20 (hp 17 x7))) / x6) ((((((hp 18 (hp 17 x7)) + (min x5 ((hp 20 (hp 17 x7)) + (hp 19 (hp 17 x7))))) - 1) - (hp 20 (hp 17 x7))) / x6) - (hp 14 (hp 17 x7))) (hp 16 (hp 17 x7)) hp) ∧ r_la_measure_31 x4 x5 x6 (x7 + 1) (if (min x5 ((hp 20 (hp 17 x7)) + (hp 19 (hp 17 x7)))) ≤ (max x4 (hp 20 (hp 17 x7))) then hp else (qb_st (h_ck_take (((((hp 18 (hp 17 x7)) + (min x5 ((hp 20 (hp 17 x7)) + (hp 19 (hp 17 x7))))) - 1) - (hp 20 (hp 17 x7))) / x6) ((((((hp 18 (hp 17 x7)) + (min x5 ((hp 20 (hp 17 x7)) + (hp 19 (hp 17 x7))))) - 1) - (hp 20 (hp 17 x7))) / x6) - (hp 14 (hp 17 x7))) (hp 16 (hp 17 x7)) hp) 25 1 x7)) K) ∧ (¬ (hp 20 (hp 17 x7)) < x5 → (g_ck_compare hp) ∧ K (h_ck_compare hp))) ∧ (¬ (hp 13 (hp 17 x7)) = (hp 25 0) → r_la_measure_31 x4 x5 x6 (x7 + 1) hp K)))) : r_la_measure_31 x4 x5 x6 x7 hp K := by
  unfold r_la_measure_31
  refine qb_iload (pc' := 33) dX7_measure_31 rfl rfl ?_
  refine qb_aloadn (pc' := 34) (i := 0) dX7_measure_33 rfl rfl rfl ?_
  refine qb_geti (pc' := 37) (v := (hp 11 13)) dX7_measure_34 rfl qf_X7_51 qb_s11 rfl rfl ?_
  refine qb_cge (tgt := 177) (pc' := 40) dX7_measure_37 rfl rfl (fun c41 => ?_) (fun c41 => ?_)
  · have h := h.1 c41
    refine qb_aloadn (pc' := 178) (i := 1) dX7_measure_177 rfl rfl rfl ?_
    obtain ⟨g113, h⟩ := h
    refine qb_callVu (pc' := 181) (b := 25) (as := []) (rest := []) dX7_measure_178 rfl qe_mX7_measure_mX2_compare rfl rfl qb_s25 rfl rfl (Nat.le_of_ble_eq_true rfl) (Nat.le_of_ble_eq_true rfl) ⟨rfl, rfl⟩ (K := fun hpz => (h_ck_compare hp) = hpz) (s_ck_compare  hp _ g113 rfl) (fun hpz ez => ?_)
    subst ez
    exact qb_retv dX7_measure_181 rfl h
  · have h := h.2 c41
    refine qb_aloadn (pc' := 41) (i := 0) dX7_measure_40 rfl rfl rfl ?_
    refine qb_geta (pc' := 44) dX7_measure_41 rfl qf_X7_27 qb_s11 rfl ?_
    refine qb_iload (pc' := 46) dX7_measure_44 rfl rfl ?_
    obtain ⟨g114, h⟩ := h
    refine qb_iald (pc' := 47) (v := (hp 17 x7)) dX7_measure_46 rfl qb_s17 g114.1 g114.2 rfl ?_
    refine qb_istore (pc' := 49) (L' := [qb_a 11, qb_a 25, none, none, qb_i x4, qb_i x5, qb_i x6, qb_i x7, qb_i (hp 17 x7), none, none]) dX7_measure_47 rfl (Nat.le_of_ble_eq_true rfl) rfl rfl ?_
    refine qb_aloadn (pc' := 50) (i := 0) dX7_measure_49 rfl rfl rfl ?_
    refine qb_geta (pc' := 53) dX7_measure_50 rfl qf_X7_15 qb_s11 rfl ?_
    refine qb_iload (pc' := 55) dX7_measure_53 rfl rfl ?_
    obtain ⟨g115, h⟩ := h
    refine qb_iald (pc' := 56) (v := (hp 13 (hp 17 x7))) dX7_measure_55 rfl qb_s13 g115.1 g115.2 rfl ?_
    refine qb_aloadn (pc' := 57) (i := 1) dX7_measure_56 rfl rfl rfl ?_
    refine qb_geti (pc' := 60) (v := (hp 25 0)) dX7_measure_57 rfl qf_X7_83 qb_s25 rfl rfl ?_
    refine qb_cne (tgt := 171) (pc' := 63) dX7_measure_60 rfl rfl (fun c56 => ?_) (fun c56 => ?_)
    · have h := h.2 c56
      refine qb_iinc (pc' := 174) (L' := [qb_a 11, qb_a 25, none, none, qb_i x4, qb_i x5, qb_i x6, qb_i (x7 + 1), qb_i (hp 17 x7), none, none]) dX7_measure_171 rfl rfl (qb_ina g114 (by decide)) (Nat.le_of_ble_eq_true rfl) rfl rfl ?_
      refine qb_goto (tgt := 31) dX7_measure_174 rfl ?_
      refine qb_cut (L' := [qb_a 11, qb_a 25, none, none, qb_i x4, qb_i x5, qb_i x6, qb_i (x7 + 1), none, none, none]) [true, true, false, false, true, true, true, true, false, false, false] rfl ?_
      exact h
    · have h := h.1 c56
      refine qb_aloadn (pc' := 64) (i := 0) dX7_measure_63 rfl rfl rfl ?_
      refine qb_geta (pc' := 67) dX7_measure_64 rfl qf_X7_36 qb_s11 rfl ?_
      refine qb_iload (pc' := 69) dX7_measure_67 rfl rfl ?_
      refine qb_iald (pc' := 70) (v := (hp 20 (hp 17 x7))) dX7_measure_69 rfl qb_s20 g115.1 g115.2 rfl ?_
      refine qb_iload (pc' := 72) dX7_measure_70 rfl rfl ?_
      refine qb_clt (tgt := 78) (pc' := 75) dX7_measure_72 rfl rfl (fun c57 => ?_) (fun c57 => ?_)
      · have h := h.1 c57
        refine qb_iload (pc' := 80) dX7_measure_78 rfl rfl ?_
        refine qb_aloadn (pc' := 81) (i := 0) dX7_measure_80 rfl rfl rfl ?_
        refine qb_geta (pc' := 84) dX7_measure_81 rfl qf_X7_36 qb_s11 rfl ?_
        refine qb_iload (pc' := 86) dX7_measure_84 rfl rfl ?_
        refine qb_iald (pc' := 87) (v := (hp 20 (hp 17 x7))) dX7_measure_86 rfl qb_s20 g115.1 g115.2 rfl ?_
        refine qb_aloadn (pc' := 88) (i := 0) dX7_measure_87 rfl rfl rfl ?_
        refine qb_geta (pc' := 91) dX7_measure_88 rfl qf_X7_33 qb_s11 rfl ?_
        refine qb_iload (pc' := 93) dX7_measure_91 rfl rfl ?_
        refine qb_iald (pc' := 94) (v := (hp 19 (hp 17 x7))) dX7_measure_93 rfl qb_s19 g115.1 g115.2 rfl ?_
        obtain ⟨g116, h⟩ := h
        refine qb_iadd (pc' := 95) dX7_measure_94 rfl g116 ?_
        refine qb_mmin (pc' := 98) dX7_measure_95 rfl qlk_X7_77 ⟨Nat.le_of_ble_eq_true rfl, Nat.le_of_ble_eq_true rfl, Nat.zero_le _, Nat.zero_le _⟩ ?_
        refine qb_istore (pc' := 100) (L' := [qb_a 11, qb_a 25, none, none, qb_i x4, qb_i x5, qb_i x6, qb_i x7, qb_i (hp 17 x7), qb_i (min x5 ((hp 20 (hp 17 x7)) + (hp 19 (hp 17 x7)))), none]) dX7_measure_98 rfl (Nat.le_of_ble_eq_true rfl) rfl rfl ?_
        refine qb_iload (pc' := 102) dX7_measure_100 rfl rfl ?_
        refine qb_aloadn (pc' := 103) (i := 0) dX7_measure_102 rfl rfl rfl ?_
        refine qb_geta (pc' := 106) dX7_measure_103 rfl qf_X7_36 qb_s11 rfl ?_
        refine qb_iload (pc' := 108) dX7_measure_106 rfl rfl ?_
        refine qb_iald (pc' := 109) (v := (hp 20 (hp 17 x7))) dX7_measure_108 rfl qb_s20 g115.1 g115.2 rfl ?_
        refine qb_mmax (pc' := 112) dX7_measure_109 rfl qlk_X7_71 ⟨Nat.le_of_ble_eq_true rfl, Nat.le_of_ble_eq_true rfl, Nat.zero_le _, Nat.zero_le _⟩ ?_
        refine qb_iload (pc' := 114) dX7_measure_112 rfl rfl ?_
        obtain ⟨gb, h⟩ := h
        have k39 : qb_R mX7_measure 0 0 qb_sh 171 [qb_a 11, qb_a 25, none, none, qb_i x4, qb_i x5, qb_i x6, qb_i x7, none, none, none] [] (if (min x5 ((hp 20 (hp 17 x7)) + (hp 19 (hp 17 x7)))) ≤ (max x4 (hp 20 (hp 17 x7))) then hp else (qb_st (h_ck_take (((((hp 18 (hp 17 x7)) + (min x5 ((hp 20 (hp 17 x7)) + (hp 19 (hp 17 x7))))) - 1) - (hp 20 (hp 17 x7))) / x6) ((((((hp 18 (hp 17 x7)) + (min x5 ((hp 20 (hp 17 x7)) + (hp 19 (hp 17 x7))))) - 1) - (hp 20 (hp 17 x7))) / x6) - (hp 14 (hp 17 x7))) (hp 16 (hp 17 x7)) hp) 25 1 x7)) (qb_U qb_sh K) := by
          refine qb_iinc (pc' := 174) (L' := [qb_a 11, qb_a 25, none, none, qb_i x4, qb_i x5, qb_i x6, qb_i (x7 + 1), none, none, none]) dX7_measure_171 rfl rfl (qb_ina g114 (by decide)) (Nat.le_of_ble_eq_true rfl) rfl rfl ?_
          refine qb_goto (tgt := 31) dX7_measure_174 rfl ?_
          refine qb_cut (L' := [qb_a 11, qb_a 25, none, none, qb_i x4, qb_i x5, qb_i x6, qb_i (x7 + 1), none, none, none]) [true, true, false, false, true, true, true, true, false, false, false] rfl ?_
          exact h
        refine qb_cge (tgt := 171) (pc' := 117) dX7_measure_114 rfl rfl (fun c58 => ?_) (fun c58 => ?_)
        · refine qb_cut (L' := [qb_a 11, qb_a 25, none, none, qb_i x4, qb_i x5, qb_i x6, qb_i x7, none, none, none]) [true, true, false, false, true, true, true, true, false, false, false] rfl ?_
          simpa only [if_pos c58] using k39
        · have h := gb c58
          refine qb_aloadn (pc' := 118) (i := 0) dX7_measure_117 rfl rfl rfl ?_
          refine qb_geta (pc' := 121) dX7_measure_118 rfl qf_X7_30 qb_s11 rfl ?_
          refine qb_iload (pc' := 123) dX7_measure_121 rfl rfl ?_
          refine qb_iald (pc' := 124) (v := (hp 18 (hp 17 x7))) dX7_measure_123 rfl qb_s18 g115.1 g115.2 rfl ?_
          refine qb_iload (pc' := 126) dX7_measure_124 rfl rfl ?_
          obtain ⟨g126, h⟩ := h
          refine qb_iadd (pc' := 127) dX7_measure_126 rfl g126 ?_
          refine qb_iconst (pc' := 128) dX7_measure_127 rfl rfl ?_
          obtain ⟨g127, h⟩ := h
          refine qb_isub (pc' := 129) dX7_measure_128 rfl g127 ?_
          refine qb_aloadn (pc' := 130) (i := 0) dX7_measure_129 rfl rfl rfl ?_
          refine qb_geta (pc' := 133) dX7_measure_130 rfl qf_X7_36 qb_s11 rfl ?_
          refine qb_iload (pc' := 135) dX7_measure_133 rfl rfl ?_
          refine qb_iald (pc' := 136) (v := (hp 20 (hp 17 x7))) dX7_measure_135 rfl qb_s20 g115.1 g115.2 rfl ?_
          obtain ⟨g128, h⟩ := h
          refine qb_isub (pc' := 137) dX7_measure_136 rfl g128 ?_
          refine qb_iload (pc' := 139) dX7_measure_137 rfl rfl ?_
          obtain ⟨g129, h⟩ := h
          obtain ⟨g130, h⟩ := h
          refine qb_idiv (pc' := 140) dX7_measure_139 rfl g129 g130 ?_
          refine qb_istore (pc' := 142) (L' := [qb_a 11, qb_a 25, none, none, qb_i x4, qb_i x5, qb_i x6, qb_i x7, qb_i (hp 17 x7), qb_i (min x5 ((hp 20 (hp 17 x7)) + (hp 19 (hp 17 x7)))), qb_i (((((hp 18 (hp 17 x7)) + (min x5 ((hp 20 (hp 17 x7)) + (hp 19 (hp 17 x7))))) - 1) - (hp 20 (hp 17 x7))) / x6)]) dX7_measure_140 rfl (Nat.le_of_ble_eq_true rfl) rfl rfl ?_
          refine qb_aloadn (pc' := 143) (i := 1) dX7_measure_142 rfl rfl rfl ?_
          refine qb_iload (pc' := 145) dX7_measure_143 rfl rfl ?_
          refine qb_iload (pc' := 147) dX7_measure_145 rfl rfl ?_
          refine qb_aloadn (pc' := 148) (i := 0) dX7_measure_147 rfl rfl rfl ?_
          refine qb_geta (pc' := 151) dX7_measure_148 rfl qf_X7_18 qb_s11 rfl ?_
          refine qb_iload (pc' := 153) dX7_measure_151 rfl rfl ?_
          refine qb_iald (pc' := 154) (v := (hp 14 (hp 17 x7))) dX7_measure_153 rfl qb_s14 g115.1 g115.2 rfl ?_
          obtain ⟨g131, h⟩ := h
          refine qb_isub (pc' := 155) dX7_measure_154 rfl g131 ?_
          refine qb_aloadn (pc' := 156) (i := 0) dX7_measure_155 rfl rfl rfl ?_
          refine qb_geta (pc' := 159) dX7_measure_156 rfl qf_X7_24 qb_s11 rfl ?_
          refine qb_iload (pc' := 161) dX7_measure_159 rfl rfl ?_
          refine qb_iald (pc' := 162) (v := (hp 16 (hp 17 x7))) dX7_measure_161 rfl qb_s16 g115.1 g115.2 rfl ?_
          have g132 := h
          refine qb_callVu (pc' := 165) (b := 25) (as := [.inl (((((hp 18 (hp 17 x7)) + (min x5 ((hp 20 (hp 17 x7)) + (hp 19 (hp 17 x7))))) - 1) - (hp 20 (hp 17 x7))) / x6), .inl ((((((hp 18 (hp 17 x7)) + (min x5 ((hp 20 (hp 17 x7)) + (hp 19 (hp 17 x7))))) - 1) - (hp 20 (hp 17 x7))) / x6) - (hp 14 (hp 17 x7))), .inl (hp 16 (hp 17 x7))]) (rest := []) dX7_measure_162 rfl qe_mX7_measure_mX2_take rfl rfl qb_s25 rfl rfl (Nat.le_of_ble_eq_true rfl) (Nat.le_of_ble_eq_true rfl) ⟨rfl, rfl⟩ (K := fun hpz => (h_ck_take (((((hp 18 (hp 17 x7)) + (min x5 ((hp 20 (hp 17 x7)) + (hp 19 (hp 17 x7))))) - 1) - (hp 20 (hp 17 x7))) / x6) ((((((hp 18 (hp 17 x7)) + (min x5 ((hp 20 (hp 17 x7)) + (hp 19 (hp 17 x7))))) - 1) - (hp 20 (hp 17 x7))) / x6) - (hp 14 (hp 17 x7))) (hp 16 (hp 17 x7)) hp) = hpz) (s_ck_take (((((hp 18 (hp 17 x7)) + (min x5 ((hp 20 (hp 17 x7)) + (hp 19 (hp 17 x7))))) - 1) - (hp 20 (hp 17 x7))) / x6) ((((((hp 18 (hp 17 x7)) + (min x5 ((hp 20 (hp 17 x7)) + (hp 19 (hp 17 x7))))) - 1) - (hp 20 (hp 17 x7))) / x6) - (hp 14 (hp 17 x7))) (hp 16 (hp 17 x7)) hp _ g132 rfl) (fun hpz ez => ?_)
          subst ez
          refine qb_aloadn (pc' := 166) (i := 1) dX7_measure_165 rfl rfl rfl ?_
          refine qb_iload (pc' := 168) dX7_measure_166 rfl rfl ?_
          refine qb_puti (pc' := 171) (hp' := (qb_st (h_ck_take (((((hp 18 (hp 17 x7)) + (min x5 ((hp 20 (hp 17 x7)) + (hp 19 (hp 17 x7))))) - 1) - (hp 20 (hp 17 x7))) / x6) ((((((hp 18 (hp 17 x7)) + (min x5 ((hp 20 (hp 17 x7)) + (hp 19 (hp 17 x7))))) - 1) - (hp 20 (hp 17 x7))) / x6) - (hp 14 (hp 17 x7))) (hp 16 (hp 17 x7)) hp) 25 1 x7)) dX7_measure_168 rfl qf_X7_91 (Or.inl rfl) qb_s25 rfl rfl ?_
          refine qb_cut (L' := [qb_a 11, qb_a 25, none, none, qb_i x4, qb_i x5, qb_i x6, qb_i x7, none, none, none]) [true, true, false, false, true, true, true, true, false, false, false] rfl ?_
          simpa only [if_neg c58] using k39
      · have h := h.2 c57
        refine qb_goto (tgt := 177) dX7_measure_75 rfl ?_
        refine qb_aloadn (pc' := 178) (i := 1) dX7_measure_177 rfl rfl rfl ?_
        obtain ⟨g133, h⟩ := h
        refine qb_callVu (pc' := 181) (b := 25) (as := []) (rest := []) dX7_measure_178 rfl qe_mX7_measure_mX2_compare rfl rfl qb_s25 rfl rfl (Nat.le_of_ble_eq_true rfl) (Nat.le_of_ble_eq_true rfl) ⟨rfl, rfl⟩ (K := fun hpz => (h_ck_compare hp) = hpz) (s_ck_compare  hp _ g133 rfl) (fun hpz ez => ?_)
        subst ez
        exact qb_retv dX7_measure_181 rfl h
def c_q_tiers (hp : qb_H) (K : Int → qb_H → Prop) : Prop := qb_R mX10_tiers 0 0 qb_sh 0 [qb_a 0] [] hp (qb_I qb_sh K)
theorem b_q_tiers {hp : qb_H} {K : Int → qb_H → Prop} (h : (0 ≤ (hp 10 1)) ∧ (0 < (hp 10 2)) ∧ K ((hp 10 1) / (hp 10 2)) hp) : c_q_tiers hp K := by
  unfold c_q_tiers
  refine qb_aloadn (pc' := 1) (i := 0) dX10_tiers_0 rfl rfl rfl ?_
  refine qb_geta (pc' := 4) dX10_tiers_1 rfl qf_X10_23 qb_s0 rfl ?_
  refine qb_iconst (pc' := 5) dX10_tiers_4 rfl rfl ?_
  refine qb_iald (pc' := 6) (v := (hp 10 1)) dX10_tiers_5 rfl qb_s10 (by decide) (by decide) rfl ?_
  refine qb_aloadn (pc' := 7) (i := 0) dX10_tiers_6 rfl rfl rfl ?_
  refine qb_geta (pc' := 10) dX10_tiers_7 rfl qf_X10_23 qb_s0 rfl ?_
  refine qb_iconst (pc' := 11) dX10_tiers_10 rfl rfl ?_
  refine qb_iald (pc' := 12) (v := (hp 10 2)) dX10_tiers_11 rfl qb_s10 (by decide) (by decide) rfl ?_
  obtain ⟨g137, h⟩ := h
  obtain ⟨g138, h⟩ := h
  refine qb_idiv (pc' := 13) dX10_tiers_12 rfl g137 g138 ?_
  exact qb_reti dX10_tiers_13 rfl h
def v_q_tiers (hp : qb_H) : Int := ((hp 10 1) / (hp 10 2))
def g_q_tiers (hp : qb_H) : Prop := (0 ≤ (hp 10 1)) ∧ 0 < (hp 10 2)
theorem s_q_tiers (hp : qb_H) (K : Int → qb_H → Prop) (hg : g_q_tiers hp) (hK : K (v_q_tiers hp) hp) : c_q_tiers hp K := by
  refine b_q_tiers ?_
  unfold g_q_tiers at hg
  unfold v_q_tiers at hK
  refine ⟨hg.1, ?_⟩
  have hg := hg.2
  refine ⟨hg, ?_⟩
  exact hK
def c_sa_find (x1 : Int) (x2 : Int) (hp : qb_H) (K : Int → qb_H → Prop) : Prop := qb_R mX8_find 0 0 qb_sh 0 [qb_a 26, qb_i x1, qb_i x2, none, none, none] [] hp (qb_I qb_sh K)
def r_sa_find_6 (x1 : Int) (x2 : Int) (x3 : Int) (x4 : Int) (hp : qb_H) (K : Int → qb_H → Prop) : Prop := qb_R mX8_find 0 0 qb_sh 6 [qb_a 26, qb_i x1, qb_i x2, qb_i x3, qb_i x4, none] [] hp (qb_I qb_sh K)
theorem b_sa_find {x1 x2 : Int} {hp : qb_H} {K : Int → qb_H → Prop} (h : r_sa_find_6 x1 x2 (-6) 0 hp K) : c_sa_find x1 x2 hp K := by
  unfold c_sa_find
  refine qb_bipush (pc' := 2) dX8_find_0 rfl rfl rfl ?_
  refine qb_istoren (pc' := 3) (i := 3) (L' := [qb_a 26, qb_i x1, qb_i x2, qb_i (-6), none, none]) dX8_find_2 rfl rfl (Nat.le_of_ble_eq_true rfl) rfl rfl ?_
  refine qb_iconst (pc' := 4) dX8_find_3 rfl rfl ?_
  refine qb_istore (pc' := 6) (L' := [qb_a 26, qb_i x1, qb_i x2, qb_i (-6), qb_i 0, none]) dX8_find_4 rfl (Nat.le_of_ble_eq_true rfl) rfl rfl ?_
  refine qb_cut (L' := [qb_a 26, qb_i x1, qb_i x2, qb_i (-6), qb_i 0, none]) [true, true, true, true, true, false] rfl ?_
  exact h
theorem b_sa_find_6 {x1 x2 x3 x4 : Int} {hp : qb_H} {K : Int → qb_H → Prop} (h : ((hp 26 4) ≤ x4 → K x3 hp) ∧ (¬ (hp 26 4) ≤ x4 → (0 ≤ x4 ∧ x4 < 12) ∧ (∀ (y19 : Int), y19 = (if (hp 27 x4) = x1 then (if x2 < (hp 28 x4) then (0 : Int) else 1) else 0) → (¬ y19 = 0 → (¬ x3 = (-6) → 0 ≤ x3 ∧ x3 < 12)) ∧ (∀ (y20 : Int), y20 = (if y19 = 0 then x3 else (if x3 = (-6) then x4 else (if (hp 28 x4) < (hp 28 x3) then x3 else x4))) → r_sa_find_6 x1 x2 y20 (x4 + 1) hp K)))) : r_sa_find_6 x1 x2 x3 x4 hp K := by
  unfold r_sa_find_6
  refine qb_iload (pc' := 8) dX8_find_6 rfl rfl ?_
  refine qb_aloadn (pc' := 9) (i := 0) dX8_find_8 rfl rfl rfl ?_
  refine qb_geti (pc' := 12) (v := (hp 26 4)) dX8_find_9 rfl qf_X8_24 qb_s26 rfl rfl ?_
  refine qb_cge (tgt := 80) (pc' := 15) dX8_find_12 rfl rfl (fun c61 => ?_) (fun c61 => ?_)
  · have h := h.1 c61
    refine qb_iloadn (pc' := 81) (i := 3) dX8_find_80 rfl rfl rfl ?_
    exact qb_reti dX8_find_81 rfl h
  · have h := h.2 c61
    refine qb_aloadn (pc' := 16) (i := 0) dX8_find_15 rfl rfl rfl ?_
    refine qb_geta (pc' := 19) dX8_find_16 rfl qf_X8_9 qb_s26 rfl ?_
    refine qb_iload (pc' := 21) dX8_find_19 rfl rfl ?_
    obtain ⟨g140, h⟩ := h
    refine qb_iald (pc' := 22) (v := (hp 27 x4)) dX8_find_21 rfl qb_s27 g140.1 g140.2 rfl ?_
    refine qb_iloadn (pc' := 23) (i := 1) dX8_find_22 rfl rfl rfl ?_
    have k41 : ∀ (y19 : Int), y19 = (if (hp 27 x4) = x1 then (if x2 < (hp 28 x4) then (0 : Int) else 1) else 0) → qb_R mX8_find 0 0 qb_sh 42 [qb_a 26, qb_i x1, qb_i x2, qb_i x3, qb_i x4, none] [.inl y19] hp (qb_I qb_sh K) := by
      intro y19 ey19
      have h := h y19 ey19
      refine qb_istore (pc' := 44) (L' := [qb_a 26, qb_i x1, qb_i x2, qb_i x3, qb_i x4, qb_i y19]) dX8_find_42 rfl (Nat.le_of_ble_eq_true rfl) rfl rfl ?_
      refine qb_iload (pc' := 46) dX8_find_44 rfl rfl ?_
      obtain ⟨gb, h⟩ := h
      have k46 : ∀ (y20 : Int), y20 = (if y19 = 0 then x3 else (if x3 = (-6) then x4 else (if (hp 28 x4) < (hp 28 x3) then x3 else x4))) → qb_R mX8_find 0 0 qb_sh 74 [qb_a 26, qb_i x1, qb_i x2, qb_i y20, qb_i x4, none] [] hp (qb_I qb_sh K) := by
        intro y20 ey20
        have h := h y20 ey20
        refine qb_iinc (pc' := 77) (L' := [qb_a 26, qb_i x1, qb_i x2, qb_i y20, qb_i (x4 + 1), none]) dX8_find_74 rfl rfl (qb_ina g140 (by decide)) (Nat.le_of_ble_eq_true rfl) rfl rfl ?_
        refine qb_goto (tgt := 6) dX8_find_77 rfl ?_
        refine qb_cut (L' := [qb_a 26, qb_i x1, qb_i x2, qb_i y20, qb_i (x4 + 1), none]) [true, true, true, true, true, false] rfl ?_
        exact h
      refine qb_feq (tgt := 74) (pc' := 49) dX8_find_46 rfl rfl (fun c65 => ?_) (fun c65 => ?_)
      · refine qb_cut (L' := [qb_a 26, qb_i x1, qb_i x2, qb_i x3, qb_i x4, none]) [true, true, true, true, true, false] rfl ?_
        exact k46 _ (if_pos c65).symm
      · have h := gb c65
        refine qb_iloadn (pc' := 50) (i := 3) dX8_find_49 rfl rfl rfl ?_
        refine qb_bipush (pc' := 52) dX8_find_50 rfl rfl rfl ?_
        have gb := h
        have k48 : qb_R mX8_find 0 0 qb_sh 74 [qb_a 26, qb_i x1, qb_i x2, qb_i (if x3 = (-6) then x4 else (if (hp 28 x4) < (hp 28 x3) then x3 else x4)), qb_i x4, none] [] hp (qb_I qb_sh K) := by
          refine qb_cut (L' := [qb_a 26, qb_i x1, qb_i x2, qb_i (if x3 = (-6) then x4 else (if (hp 28 x4) < (hp 28 x3) then x3 else x4)), qb_i x4, none]) [true, true, true, true, true, false] rfl ?_
          exact k46 _ (if_neg c65).symm
        refine qb_ceq (tgt := 71) (pc' := 55) dX8_find_52 rfl rfl (fun c69 => ?_) (fun c69 => ?_)
        · refine qb_iload (pc' := 73) dX8_find_71 rfl rfl ?_
          refine qb_istoren (pc' := 74) (i := 3) (L' := [qb_a 26, qb_i x1, qb_i x2, qb_i x4, qb_i x4, qb_i y19]) dX8_find_73 rfl rfl (Nat.le_of_ble_eq_true rfl) rfl rfl ?_
          refine qb_cut (L' := [qb_a 26, qb_i x1, qb_i x2, qb_i x4, qb_i x4, none]) [true, true, true, true, true, false] rfl ?_
          simpa only [if_pos c69] using k48
        · have h := gb c69
          refine qb_aloadn (pc' := 56) (i := 0) dX8_find_55 rfl rfl rfl ?_
          refine qb_geta (pc' := 59) dX8_find_56 rfl qf_X8_15 qb_s26 rfl ?_
          refine qb_iload (pc' := 61) dX8_find_59 rfl rfl ?_
          refine qb_iald (pc' := 62) (v := (hp 28 x4)) dX8_find_61 rfl qb_s28 g140.1 g140.2 rfl ?_
          refine qb_aloadn (pc' := 63) (i := 0) dX8_find_62 rfl rfl rfl ?_
          refine qb_geta (pc' := 66) dX8_find_63 rfl qf_X8_15 qb_s26 rfl ?_
          refine qb_iloadn (pc' := 67) (i := 3) dX8_find_66 rfl rfl rfl ?_
          have g144 := h
          refine qb_iald (pc' := 68) (v := (hp 28 x3)) dX8_find_67 rfl qb_s28 g144.1 g144.2 rfl ?_
          have k49 : qb_R mX8_find 0 0 qb_sh 74 [qb_a 26, qb_i x1, qb_i x2, qb_i (if (hp 28 x4) < (hp 28 x3) then x3 else x4), qb_i x4, none] [] hp (qb_I qb_sh K) := by
            refine qb_cut (L' := [qb_a 26, qb_i x1, qb_i x2, qb_i (if (hp 28 x4) < (hp 28 x3) then x3 else x4), qb_i x4, none]) [true, true, true, true, true, false] rfl ?_
            simpa only [if_neg c69] using k48
          refine qb_clt (tgt := 74) (pc' := 71) dX8_find_68 rfl rfl (fun c71 => ?_) (fun c71 => ?_)
          · refine qb_cut (L' := [qb_a 26, qb_i x1, qb_i x2, qb_i x3, qb_i x4, none]) [true, true, true, true, true, false] rfl ?_
            simpa only [if_pos c71] using k49
          · refine qb_iload (pc' := 73) dX8_find_71 rfl rfl ?_
            refine qb_istoren (pc' := 74) (i := 3) (L' := [qb_a 26, qb_i x1, qb_i x2, qb_i x4, qb_i x4, qb_i y19]) dX8_find_73 rfl rfl (Nat.le_of_ble_eq_true rfl) rfl rfl ?_
            refine qb_cut (L' := [qb_a 26, qb_i x1, qb_i x2, qb_i x4, qb_i x4, none]) [true, true, true, true, true, false] rfl ?_
            simpa only [if_neg c71] using k49
    refine qb_cne (tgt := 41) (pc' := 26) dX8_find_23 rfl rfl (fun c62 => ?_) (fun c62 => ?_)
    · refine qb_iconst (pc' := 42) dX8_find_41 rfl rfl ?_
      refine qb_cut (L' := [qb_a 26, qb_i x1, qb_i x2, qb_i x3, qb_i x4, none]) [true, true, true, true, true, false] rfl ?_
      exact k41 _ (if_neg c62).symm
    · refine qb_aloadn (pc' := 27) (i := 0) dX8_find_26 rfl rfl rfl ?_
      refine qb_geta (pc' := 30) dX8_find_27 rfl qf_X8_15 qb_s26 rfl ?_
      refine qb_iload (pc' := 32) dX8_find_30 rfl rfl ?_
      refine qb_iald (pc' := 33) (v := (hp 28 x4)) dX8_find_32 rfl qb_s28 g140.1 g140.2 rfl ?_
      refine qb_iloadn (pc' := 34) (i := 2) dX8_find_33 rfl rfl rfl ?_
      have k42 : qb_R mX8_find 0 0 qb_sh 42 [qb_a 26, qb_i x1, qb_i x2, qb_i x3, qb_i x4, none] [.inl (if x2 < (hp 28 x4) then (0 : Int) else 1)] hp (qb_I qb_sh K) := by
        refine qb_cut (L' := [qb_a 26, qb_i x1, qb_i x2, qb_i x3, qb_i x4, none]) [true, true, true, true, true, false] rfl ?_
        exact k41 _ (if_pos c62).symm
      refine qb_cgt (tgt := 41) (pc' := 37) dX8_find_34 rfl rfl (fun c64 => ?_) (fun c64 => ?_)
      · refine qb_iconst (pc' := 42) dX8_find_41 rfl rfl ?_
        refine qb_cut (L' := [qb_a 26, qb_i x1, qb_i x2, qb_i x3, qb_i x4, none]) [true, true, true, true, true, false] rfl ?_
        simpa only [if_pos c64] using k42
      · refine qb_iconst (pc' := 38) dX8_find_37 rfl rfl ?_
        refine qb_goto (tgt := 42) dX8_find_38 rfl ?_
        refine qb_cut (L' := [qb_a 26, qb_i x1, qb_i x2, qb_i x3, qb_i x4, none]) [true, true, true, true, true, false] rfl ?_
        simpa only [if_neg c64] using k42
def c_sa_muchAt (x1 : Int) (x2 : Int) (hp : qb_H) (K : Int → qb_H → Prop) : Prop := qb_R mX8_muchAt 0 0 qb_sh 0 [qb_a 26, qb_i x1, qb_i x2, none] [] hp (qb_I qb_sh K)
theorem b_sa_muchAt {x1 x2 : Int} {hp : qb_H} {K : Int → qb_H → Prop} (h : c_sa_find x1 x2 hp (fun v22 hp22 => (¬ v22 = (-6) → 0 ≤ v22 ∧ v22 < 12) ∧ (∀ (y23 : Int), y23 = (if v22 = (-6) then (50 : Int) else (hp22 30 v22)) → K y23 hp22))) : c_sa_muchAt x1 x2 hp K := by
  unfold c_sa_muchAt
  refine qb_aloadn (pc' := 1) (i := 0) dX8_muchAt_0 rfl rfl rfl ?_
  refine qb_iloadn (pc' := 2) (i := 1) dX8_muchAt_1 rfl rfl rfl ?_
  refine qb_iloadn (pc' := 3) (i := 2) dX8_muchAt_2 rfl rfl rfl ?_
  refine qb_callVi (pc' := 6) (b := 26) (as := [.inl x1, .inl x2]) (rest := []) dX8_muchAt_3 rfl qe_mX8_muchAt_mX8_find rfl rfl qb_s26 rfl rfl (Nat.le_of_ble_eq_true rfl) (Nat.le_of_ble_eq_true rfl) ⟨rfl, rfl⟩ h (fun v22 hp22 h => ?_)
  refine qb_istoren (pc' := 7) (i := 3) (L' := [qb_a 26, qb_i x1, qb_i x2, qb_i v22]) dX8_muchAt_6 rfl rfl (Nat.le_of_ble_eq_true rfl) rfl rfl ?_
  refine qb_iloadn (pc' := 8) (i := 3) dX8_muchAt_7 rfl rfl rfl ?_
  refine qb_bipush (pc' := 10) dX8_muchAt_8 rfl rfl rfl ?_
  obtain ⟨gb, h⟩ := h
  have k51 : ∀ (y23 : Int), y23 = (if v22 = (-6) then (50 : Int) else (hp22 30 v22)) → qb_R mX8_muchAt 0 0 qb_sh 24 [none, none, none, none] [.inl y23] hp22 (qb_I qb_sh K) := by
    intro y23 ey23
    have h := h y23 ey23
    exact qb_reti dX8_muchAt_24 rfl h
  refine qb_cne (tgt := 18) (pc' := 13) dX8_muchAt_10 rfl rfl (fun c73 => ?_) (fun c73 => ?_)
  · have h := gb c73
    refine qb_aloadn (pc' := 19) (i := 0) dX8_muchAt_18 rfl rfl rfl ?_
    refine qb_geta (pc' := 22) dX8_muchAt_19 rfl qf_X8_21 qb_s26 rfl ?_
    refine qb_iloadn (pc' := 23) (i := 3) dX8_muchAt_22 rfl rfl rfl ?_
    have g148 := h
    refine qb_iald (pc' := 24) (v := (hp22 30 v22)) dX8_muchAt_23 rfl qb_s30 g148.1 g148.2 rfl ?_
    refine qb_cut (L' := [none, none, none, none]) [false, false, false, false] rfl ?_
    exact k51 _ (if_neg c73).symm
  · refine qb_bipush (pc' := 15) dX8_muchAt_13 rfl rfl rfl ?_
    refine qb_goto (tgt := 24) dX8_muchAt_15 rfl ?_
    refine qb_cut (L' := [none, none, none, none]) [false, false, false, false] rfl ?_
    exact k51 _ (if_pos c73).symm
def c_ac_actOn (x1 : Int) (hp : qb_H) (K : Int → qb_H → Prop) : Prop := qb_R mX0_actOn 0 0 qb_sh 0 [qb_a 3, qb_i x1, none, none] [] hp (qb_I qb_sh K)
def r_ac_actOn_5 (x1 : Int) (x2 : Int) (x3 : Int) (hp : qb_H) (K : Int → qb_H → Prop) : Prop := qb_R mX0_actOn 0 0 qb_sh 5 [qb_a 3, qb_i x1, qb_i x2, qb_i x3] [] hp (qb_I qb_sh K)
theorem b_ac_actOn {x1 : Int} {hp : qb_H} {K : Int → qb_H → Prop} (h : r_ac_actOn_5 x1 (-6) 0 hp K) : c_ac_actOn x1 hp K := by
  unfold c_ac_actOn
  refine qb_bipush (pc' := 2) dX0_actOn_0 rfl rfl rfl ?_
  refine qb_istoren (pc' := 3) (i := 2) (L' := [qb_a 3, qb_i x1, qb_i (-6), none]) dX0_actOn_2 rfl rfl (Nat.le_of_ble_eq_true rfl) rfl rfl ?_
  refine qb_iconst (pc' := 4) dX0_actOn_3 rfl rfl ?_
  refine qb_istoren (pc' := 5) (i := 3) (L' := [qb_a 3, qb_i x1, qb_i (-6), qb_i 0]) dX0_actOn_4 rfl rfl (Nat.le_of_ble_eq_true rfl) rfl rfl ?_
  refine qb_cut (L' := [qb_a 3, qb_i x1, qb_i (-6), qb_i 0]) [true, true, true, true] rfl ?_
  exact h
theorem b_ac_actOn_5 {x1 x2 x3 : Int} {hp : qb_H} {K : Int → qb_H → Prop} (h : ((hp 3 6) ≤ x3 → K x2 hp) ∧ (¬ (hp 3 6) ≤ x3 → (0 ≤ x3 ∧ x3 < 8) ∧ (¬ x1 < (hp 4 x3) → (¬ x2 = (-6) → 0 ≤ x2 ∧ x2 < 8)) ∧ (∀ (y25 : Int), y25 = (if x1 < (hp 4 x3) then x2 else (if x2 = (-6) then x3 else (if (hp 4 x3) < (hp 4 x2) then x2 else x3))) → r_ac_actOn_5 x1 y25 (x3 + 1) hp K))) : r_ac_actOn_5 x1 x2 x3 hp K := by
  unfold r_ac_actOn_5
  refine qb_iloadn (pc' := 6) (i := 3) dX0_actOn_5 rfl rfl rfl ?_
  refine qb_aloadn (pc' := 7) (i := 0) dX0_actOn_6 rfl rfl rfl ?_
  refine qb_geti (pc' := 10) (v := (hp 3 6)) dX0_actOn_7 rfl qf_X0_34 qb_s3 rfl rfl ?_
  refine qb_cge (tgt := 52) (pc' := 13) dX0_actOn_10 rfl rfl (fun c74 => ?_) (fun c74 => ?_)
  · have h := h.1 c74
    refine qb_iloadn (pc' := 53) (i := 2) dX0_actOn_52 rfl rfl rfl ?_
    exact qb_reti dX0_actOn_53 rfl h
  · have h := h.2 c74
    refine qb_aloadn (pc' := 14) (i := 0) dX0_actOn_13 rfl rfl rfl ?_
    refine qb_geta (pc' := 17) dX0_actOn_14 rfl qf_X0_9 qb_s3 rfl ?_
    refine qb_iloadn (pc' := 18) (i := 3) dX0_actOn_17 rfl rfl rfl ?_
    obtain ⟨g149, h⟩ := h
    refine qb_iald (pc' := 19) (v := (hp 4 x3)) dX0_actOn_18 rfl qb_s4 g149.1 g149.2 rfl ?_
    refine qb_iloadn (pc' := 20) (i := 1) dX0_actOn_19 rfl rfl rfl ?_
    obtain ⟨gb, h⟩ := h
    have k55 : ∀ (y25 : Int), y25 = (if x1 < (hp 4 x3) then x2 else (if x2 = (-6) then x3 else (if (hp 4 x3) < (hp 4 x2) then x2 else x3))) → qb_R mX0_actOn 0 0 qb_sh 46 [qb_a 3, qb_i x1, qb_i y25, qb_i x3] [] hp (qb_I qb_sh K) := by
      intro y25 ey25
      have h := h y25 ey25
      refine qb_iinc (pc' := 49) (L' := [qb_a 3, qb_i x1, qb_i y25, qb_i (x3 + 1)]) dX0_actOn_46 rfl rfl (qb_ina g149 (by decide)) (Nat.le_of_ble_eq_true rfl) rfl rfl ?_
      refine qb_goto (tgt := 5) dX0_actOn_49 rfl ?_
      refine qb_cut (L' := [qb_a 3, qb_i x1, qb_i y25, qb_i (x3 + 1)]) [true, true, true, true] rfl ?_
      exact h
    refine qb_cgt (tgt := 46) (pc' := 23) dX0_actOn_20 rfl rfl (fun c75 => ?_) (fun c75 => ?_)
    · refine qb_cut (L' := [qb_a 3, qb_i x1, qb_i x2, qb_i x3]) [true, true, true, true] rfl ?_
      exact k55 _ (if_pos c75).symm
    · have h := gb c75
      refine qb_iloadn (pc' := 24) (i := 2) dX0_actOn_23 rfl rfl rfl ?_
      refine qb_bipush (pc' := 26) dX0_actOn_24 rfl rfl rfl ?_
      have gb := h
      have k57 : qb_R mX0_actOn 0 0 qb_sh 46 [qb_a 3, qb_i x1, qb_i (if x2 = (-6) then x3 else (if (hp 4 x3) < (hp 4 x2) then x2 else x3)), qb_i x3] [] hp (qb_I qb_sh K) := by
        refine qb_cut (L' := [qb_a 3, qb_i x1, qb_i (if x2 = (-6) then x3 else (if (hp 4 x3) < (hp 4 x2) then x2 else x3)), qb_i x3]) [true, true, true, true] rfl ?_
        exact k55 _ (if_neg c75).symm
      refine qb_ceq (tgt := 44) (pc' := 29) dX0_actOn_26 rfl rfl (fun c79 => ?_) (fun c79 => ?_)
      · refine qb_iloadn (pc' := 45) (i := 3) dX0_actOn_44 rfl rfl rfl ?_
        refine qb_istoren (pc' := 46) (i := 2) (L' := [qb_a 3, qb_i x1, qb_i x3, qb_i x3]) dX0_actOn_45 rfl rfl (Nat.le_of_ble_eq_true rfl) rfl rfl ?_
        refine qb_cut (L' := [qb_a 3, qb_i x1, qb_i x3, qb_i x3]) [true, true, true, true] rfl ?_
        simpa only [if_pos c79] using k57
      · have h := gb c79
        refine qb_aloadn (pc' := 30) (i := 0) dX0_actOn_29 rfl rfl rfl ?_
        refine qb_geta (pc' := 33) dX0_actOn_30 rfl qf_X0_9 qb_s3 rfl ?_
        refine qb_iloadn (pc' := 34) (i := 3) dX0_actOn_33 rfl rfl rfl ?_
        refine qb_iald (pc' := 35) (v := (hp 4 x3)) dX0_actOn_34 rfl qb_s4 g149.1 g149.2 rfl ?_
        refine qb_aloadn (pc' := 36) (i := 0) dX0_actOn_35 rfl rfl rfl ?_
        refine qb_geta (pc' := 39) dX0_actOn_36 rfl qf_X0_9 qb_s3 rfl ?_
        refine qb_iloadn (pc' := 40) (i := 2) dX0_actOn_39 rfl rfl rfl ?_
        have g153 := h
        refine qb_iald (pc' := 41) (v := (hp 4 x2)) dX0_actOn_40 rfl qb_s4 g153.1 g153.2 rfl ?_
        have k58 : qb_R mX0_actOn 0 0 qb_sh 46 [qb_a 3, qb_i x1, qb_i (if (hp 4 x3) < (hp 4 x2) then x2 else x3), qb_i x3] [] hp (qb_I qb_sh K) := by
          refine qb_cut (L' := [qb_a 3, qb_i x1, qb_i (if (hp 4 x3) < (hp 4 x2) then x2 else x3), qb_i x3]) [true, true, true, true] rfl ?_
          simpa only [if_neg c79] using k57
        refine qb_clt (tgt := 46) (pc' := 44) dX0_actOn_41 rfl rfl (fun c81 => ?_) (fun c81 => ?_)
        · refine qb_cut (L' := [qb_a 3, qb_i x1, qb_i x2, qb_i x3]) [true, true, true, true] rfl ?_
          simpa only [if_pos c81] using k58
        · refine qb_iloadn (pc' := 45) (i := 3) dX0_actOn_44 rfl rfl rfl ?_
          refine qb_istoren (pc' := 46) (i := 2) (L' := [qb_a 3, qb_i x1, qb_i x3, qb_i x3]) dX0_actOn_45 rfl rfl (Nat.le_of_ble_eq_true rfl) rfl rfl ?_
          refine qb_cut (L' := [qb_a 3, qb_i x1, qb_i x3, qb_i x3]) [true, true, true, true] rfl ?_
          simpa only [if_neg c81] using k58
def c_ac_beginsGrade (x1 : Int) (x2 : Int) (hp : qb_H) (K : Int → qb_H → Prop) : Prop := qb_R mX0_beginsGrade 0 0 qb_sh 0 [qb_a 3, qb_i x1, qb_i x2] [] hp (qb_I qb_sh K)
theorem b_ac_beginsGrade {x1 x2 : Int} {hp : qb_H} {K : Int → qb_H → Prop} (h : (¬ x2 = 0 → (qb_in (x1 * 15)) ∧ (qb_in ((x1 * 15) + x2)) ∧ (0 ≤ ((x1 * 15) + x2) ∧ ((x1 * 15) + x2) < 120) ∧ 0 ≤ (((x1 * 15) + x2) - 1) ∧ (((x1 * 15) + x2) - 1) < 120) ∧ K (if x2 = 0 then (1 : Int) else (if (hp 6 ((x1 * 15) + x2)) = (hp 6 (((x1 * 15) + x2) - 1)) then (0 : Int) else 1)) hp) : c_ac_beginsGrade x1 x2 hp K := by
  unfold c_ac_beginsGrade
  refine qb_iloadn (pc' := 1) (i := 2) dX0_beginsGrade_0 rfl rfl rfl ?_
  obtain ⟨gb, h⟩ := h
  have k65 : qb_R mX0_beginsGrade 0 0 qb_sh 36 [none, none, none] [.inl (if x2 = 0 then (1 : Int) else (if (hp 6 ((x1 * 15) + x2)) = (hp 6 (((x1 * 15) + x2) - 1)) then (0 : Int) else 1))] hp (qb_I qb_sh K) := by
    exact qb_retz dX0_beginsGrade_36 rfl (by (repeat' split) <;> first | exact Or.inl rfl | exact Or.inr rfl) h
  refine qb_feq (tgt := 31) (pc' := 4) dX0_beginsGrade_1 rfl rfl (fun c89 => ?_) (fun c89 => ?_)
  · refine qb_iconst (pc' := 32) dX0_beginsGrade_31 rfl rfl ?_
    refine qb_goto (tgt := 36) dX0_beginsGrade_32 rfl ?_
    refine qb_cut (L' := [none, none, none]) [false, false, false] rfl ?_
    simpa only [if_pos c89] using k65
  · have h := gb c89
    refine qb_aloadn (pc' := 5) (i := 0) dX0_beginsGrade_4 rfl rfl rfl ?_
    refine qb_geta (pc' := 8) dX0_beginsGrade_5 rfl qf_X0_18 qb_s3 rfl ?_
    refine qb_iloadn (pc' := 9) (i := 1) dX0_beginsGrade_8 rfl rfl rfl ?_
    refine qb_bipush (pc' := 11) dX0_beginsGrade_9 rfl rfl rfl ?_
    obtain ⟨g187, h⟩ := h
    refine qb_imul (pc' := 12) dX0_beginsGrade_11 rfl g187 ?_
    refine qb_iloadn (pc' := 13) (i := 2) dX0_beginsGrade_12 rfl rfl rfl ?_
    obtain ⟨g188, h⟩ := h
    refine qb_iadd (pc' := 14) dX0_beginsGrade_13 rfl g188 ?_
    obtain ⟨g189, h⟩ := h
    refine qb_iald (pc' := 15) (v := (hp 6 ((x1 * 15) + x2))) dX0_beginsGrade_14 rfl qb_s6 g189.1 g189.2 rfl ?_
    refine qb_aloadn (pc' := 16) (i := 0) dX0_beginsGrade_15 rfl rfl rfl ?_
    refine qb_geta (pc' := 19) dX0_beginsGrade_16 rfl qf_X0_18 qb_s3 rfl ?_
    refine qb_iloadn (pc' := 20) (i := 1) dX0_beginsGrade_19 rfl rfl rfl ?_
    refine qb_bipush (pc' := 22) dX0_beginsGrade_20 rfl rfl rfl ?_
    refine qb_imul (pc' := 23) dX0_beginsGrade_22 rfl g187 ?_
    refine qb_iloadn (pc' := 24) (i := 2) dX0_beginsGrade_23 rfl rfl rfl ?_
    refine qb_iadd (pc' := 25) dX0_beginsGrade_24 rfl g188 ?_
    refine qb_iconst (pc' := 26) dX0_beginsGrade_25 rfl rfl ?_
    refine qb_isub (pc' := 27) dX0_beginsGrade_26 rfl (qb_ins g189 (by decide)) ?_
    have g190 := h
    refine qb_iald (pc' := 28) (v := (hp 6 (((x1 * 15) + x2) - 1))) dX0_beginsGrade_27 rfl qb_s6 g190.1 g190.2 rfl ?_
    have k66 : qb_R mX0_beginsGrade 0 0 qb_sh 36 [none, none, none] [.inl (if (hp 6 ((x1 * 15) + x2)) = (hp 6 (((x1 * 15) + x2) - 1)) then (0 : Int) else 1)] hp (qb_I qb_sh K) := by
      refine qb_cut (L' := [none, none, none]) [false, false, false] rfl ?_
      simpa only [if_neg c89] using k65
    refine qb_ceq (tgt := 35) (pc' := 31) dX0_beginsGrade_28 rfl rfl (fun c91 => ?_) (fun c91 => ?_)
    · refine qb_iconst (pc' := 36) dX0_beginsGrade_35 rfl rfl ?_
      refine qb_cut (L' := [none, none, none]) [false, false, false] rfl ?_
      simpa only [if_pos c91] using k66
    · refine qb_iconst (pc' := 32) dX0_beginsGrade_31 rfl rfl ?_
      refine qb_goto (tgt := 36) dX0_beginsGrade_32 rfl ?_
      refine qb_cut (L' := [none, none, none]) [false, false, false] rfl ?_
      simpa only [if_neg c91] using k66
def v_ac_beginsGrade (x1 : Int) (x2 : Int) (hp : qb_H) : Int := (if x2 = 0 then (1 : Int) else (if (hp 6 ((x1 * 15) + x2)) = (hp 6 (((x1 * 15) + x2) - 1)) then (0 : Int) else 1))
theorem vb_ac_beginsGrade (x1 : Int) (x2 : Int) (hp : qb_H) : v_ac_beginsGrade x1 x2 hp = 0 ∨ v_ac_beginsGrade x1 x2 hp = 1 := by
  unfold v_ac_beginsGrade
  (repeat' split) <;> first | exact Or.inl rfl | exact Or.inr rfl
def g_ac_beginsGrade (x1 : Int) (x2 : Int) : Prop := (¬ x2 = 0 → (qb_in (x1 * 15)) ∧ (qb_in ((x1 * 15) + x2)) ∧ (0 ≤ ((x1 * 15) + x2) ∧ ((x1 * 15) + x2) < 120) ∧ 0 ≤ (((x1 * 15) + x2) - 1) ∧ (((x1 * 15) + x2) - 1) < 120)
theorem s_ac_beginsGrade (x1 : Int) (x2 : Int) (hp : qb_H) (K : Int → qb_H → Prop) (hg : g_ac_beginsGrade x1 x2) (hK : K (v_ac_beginsGrade x1 x2 hp) hp) : c_ac_beginsGrade x1 x2 hp K := by
  refine b_ac_beginsGrade ?_
  unfold g_ac_beginsGrade at hg
  unfold v_ac_beginsGrade at hK
  refine ⟨hg, ?_⟩
  exact hK
def c_ac_holds (x0 : Int) (x1 : Int) (x2 : Int) (hp : qb_H) (K : Int → qb_H → Prop) : Prop := qb_R mX0_holds 0 0 qb_sh 0 [qb_i x0, qb_i x1, qb_i x2] [] hp (qb_I qb_sh K)
theorem b_ac_holds {x0 x1 x2 : Int} {hp : qb_H} {K : Int → qb_H → Prop} (h : (x0 = 60 → K (if x2 ≤ x1 then (0 : Int) else 1) hp) ∧ (¬ x0 = 60 → K (if x0 = 62 then (if x1 ≤ x2 then (0 : Int) else 1) else (if x1 = x2 then (1 : Int) else 0)) hp)) : c_ac_holds x0 x1 x2 hp K := by
  unfold c_ac_holds
  refine qb_iloadn (pc' := 1) (i := 0) dX0_holds_0 rfl rfl rfl ?_
  refine qb_bipush (pc' := 3) dX0_holds_1 rfl rfl rfl ?_
  refine qb_cne (tgt := 17) (pc' := 6) dX0_holds_3 rfl rfl (fun c101 => ?_) (fun c101 => ?_)
  · have h := h.2 c101
    refine qb_iloadn (pc' := 18) (i := 0) dX0_holds_17 rfl rfl rfl ?_
    refine qb_bipush (pc' := 20) dX0_holds_18 rfl rfl rfl ?_
    have k76 : qb_R mX0_holds 0 0 qb_sh 46 [none, none, none] [.inl (if x0 = 62 then (if x1 ≤ x2 then (0 : Int) else 1) else (if x1 = x2 then (1 : Int) else 0))] hp (qb_I qb_sh K) := by
      exact qb_retz dX0_holds_46 rfl (by (repeat' split) <;> first | exact Or.inl rfl | exact Or.inr rfl) h
    refine qb_cne (tgt := 36) (pc' := 23) dX0_holds_20 rfl rfl (fun c103 => ?_) (fun c103 => ?_)
    · refine qb_iloadn (pc' := 37) (i := 1) dX0_holds_36 rfl rfl rfl ?_
      refine qb_iloadn (pc' := 38) (i := 2) dX0_holds_37 rfl rfl rfl ?_
      have k78 : qb_R mX0_holds 0 0 qb_sh 46 [none, none, none] [.inl (if x1 = x2 then (1 : Int) else 0)] hp (qb_I qb_sh K) := by
        refine qb_cut (L' := [none, none, none]) [false, false, false] rfl ?_
        simpa only [if_neg c103] using k76
      refine qb_cne (tgt := 45) (pc' := 41) dX0_holds_38 rfl rfl (fun c107 => ?_) (fun c107 => ?_)
      · refine qb_iconst (pc' := 46) dX0_holds_45 rfl rfl ?_
        refine qb_cut (L' := [none, none, none]) [false, false, false] rfl ?_
        simpa only [if_neg c107] using k78
      · refine qb_iconst (pc' := 42) dX0_holds_41 rfl rfl ?_
        refine qb_goto (tgt := 46) dX0_holds_42 rfl ?_
        refine qb_cut (L' := [none, none, none]) [false, false, false] rfl ?_
        simpa only [if_pos c107] using k78
    · refine qb_iloadn (pc' := 24) (i := 1) dX0_holds_23 rfl rfl rfl ?_
      refine qb_iloadn (pc' := 25) (i := 2) dX0_holds_24 rfl rfl rfl ?_
      have k77 : qb_R mX0_holds 0 0 qb_sh 46 [none, none, none] [.inl (if x1 ≤ x2 then (0 : Int) else 1)] hp (qb_I qb_sh K) := by
        refine qb_cut (L' := [none, none, none]) [false, false, false] rfl ?_
        simpa only [if_pos c103] using k76
      refine qb_cle (tgt := 32) (pc' := 28) dX0_holds_25 rfl rfl (fun c106 => ?_) (fun c106 => ?_)
      · refine qb_iconst (pc' := 33) dX0_holds_32 rfl rfl ?_
        refine qb_goto (tgt := 46) dX0_holds_33 rfl ?_
        refine qb_cut (L' := [none, none, none]) [false, false, false] rfl ?_
        simpa only [if_pos c106] using k77
      · refine qb_iconst (pc' := 29) dX0_holds_28 rfl rfl ?_
        refine qb_goto (tgt := 46) dX0_holds_29 rfl ?_
        refine qb_cut (L' := [none, none, none]) [false, false, false] rfl ?_
        simpa only [if_neg c106] using k77
  · have h := h.1 c101
    refine qb_iloadn (pc' := 7) (i := 1) dX0_holds_6 rfl rfl rfl ?_
    refine qb_iloadn (pc' := 8) (i := 2) dX0_holds_7 rfl rfl rfl ?_
    have k73 : qb_R mX0_holds 0 0 qb_sh 16 [none, none, none] [.inl (if x2 ≤ x1 then (0 : Int) else 1)] hp (qb_I qb_sh K) := by
      exact qb_retz dX0_holds_16 rfl (by (repeat' split) <;> first | exact Or.inl rfl | exact Or.inr rfl) h
    refine qb_cge (tgt := 15) (pc' := 11) dX0_holds_8 rfl rfl (fun c102 => ?_) (fun c102 => ?_)
    · refine qb_iconst (pc' := 16) dX0_holds_15 rfl rfl ?_
      refine qb_cut (L' := [none, none, none]) [false, false, false] rfl ?_
      simpa only [if_pos c102] using k73
    · refine qb_iconst (pc' := 12) dX0_holds_11 rfl rfl ?_
      refine qb_goto (tgt := 16) dX0_holds_12 rfl ?_
      refine qb_cut (L' := [none, none, none]) [false, false, false] rfl ?_
      simpa only [if_neg c102] using k73
def v_ac_holds (x0 : Int) (x1 : Int) (x2 : Int) : Int := (if x0 = 60 then (if x2 ≤ x1 then (0 : Int) else 1) else (if x0 = 62 then (if x1 ≤ x2 then (0 : Int) else 1) else (if x1 = x2 then (1 : Int) else 0)))
theorem vb_ac_holds (x0 : Int) (x1 : Int) (x2 : Int) : v_ac_holds x0 x1 x2 = 0 ∨ v_ac_holds x0 x1 x2 = 1 := by
  unfold v_ac_holds
  (repeat' split) <;> first | exact Or.inl rfl | exact Or.inr rfl
theorem s_ac_holds (x0 : Int) (x1 : Int) (x2 : Int) (hp : qb_H) (K : Int → qb_H → Prop) (hg : True) (hK : K (v_ac_holds x0 x1 x2) hp) : c_ac_holds x0 x1 x2 hp K := by
  refine b_ac_holds ?_
  unfold v_ac_holds at hK
  refine ⟨fun c108 => ?_, fun c108 => ?_⟩
  · simpa only [if_pos c108] using hK
  · simpa only [if_neg c108] using hK
def c_ac_brandOn (x1 : Int) (hp : qb_H) (K : Int → qb_H → Prop) : Prop := qb_R mX0_brandOn 0 0 qb_sh 0 [qb_a 3, qb_i x1, qb_a 31, none, none, none, none] [] hp (qb_I qb_sh K)
def r_ac_brandOn_12 (x3 : Int) (x4 : Int) (x5 : Int) (hp : qb_H) (K : Int → qb_H → Prop) : Prop := qb_R mX0_brandOn 0 0 qb_sh 12 [qb_a 3, none, qb_a 31, qb_i x3, qb_i x4, qb_i x5, none] [] hp (qb_I qb_sh K)
theorem b_ac_brandOn {x1 : Int} {hp : qb_H} {K : Int → qb_H → Prop} (h : c_ac_actOn x1 hp (fun v27 hp27 => r_ac_brandOn_12 v27 0 0 hp27 K)) : c_ac_brandOn x1 hp K := by
  unfold c_ac_brandOn
  refine qb_aloadn (pc' := 1) (i := 0) dX0_brandOn_0 rfl rfl rfl ?_
  refine qb_iloadn (pc' := 2) (i := 1) dX0_brandOn_1 rfl rfl rfl ?_
  refine qb_callVi (pc' := 5) (b := 3) (as := [.inl x1]) (rest := []) dX0_brandOn_2 rfl qe_mX0_brandOn_mX0_actOn rfl rfl qb_s3 rfl rfl (Nat.le_of_ble_eq_true rfl) (Nat.le_of_ble_eq_true rfl) ⟨rfl, rfl⟩ h (fun v27 hp27 h => ?_)
  refine qb_istoren (pc' := 6) (i := 3) (L' := [qb_a 3, qb_i x1, qb_a 31, qb_i v27, none, none, none]) dX0_brandOn_5 rfl rfl (Nat.le_of_ble_eq_true rfl) rfl rfl ?_
  refine qb_iconst (pc' := 7) dX0_brandOn_6 rfl rfl ?_
  refine qb_istore (pc' := 9) (L' := [qb_a 3, qb_i x1, qb_a 31, qb_i v27, qb_i 0, none, none]) dX0_brandOn_7 rfl (Nat.le_of_ble_eq_true rfl) rfl rfl ?_
  refine qb_iconst (pc' := 10) dX0_brandOn_9 rfl rfl ?_
  refine qb_istore (pc' := 12) (L' := [qb_a 3, qb_i x1, qb_a 31, qb_i v27, qb_i 0, qb_i 0, none]) dX0_brandOn_10 rfl (Nat.le_of_ble_eq_true rfl) rfl rfl ?_
  refine qb_cut (L' := [qb_a 3, none, qb_a 31, qb_i v27, qb_i 0, qb_i 0, none]) [true, false, true, true, true, true, false] rfl ?_
  exact h
theorem b_ac_brandOn_12 {x3 x4 x5 : Int} {hp : qb_H} {K : Int → qb_H → Prop} (h : (x3 = (-6) → (¬ x4 = 0 → (qb_in (x3 * 15)) ∧ (0 ≤ x3 ∧ x3 < 8) ∧ (qb_in ((x3 * 15) + (hp 5 x3))) ∧ (qb_in (((x3 * 15) + (hp 5 x3)) - 1)) ∧ 0 ≤ (((x3 * 15) + (hp 5 x3)) - 1) ∧ (((x3 * 15) + (hp 5 x3)) - 1) < 120) ∧ (∀ (y28 : Int), y28 = (if x4 = 0 then ((-6) : Int) else (hp 6 (((x3 * 15) + (hp 5 x3)) - 1))) → K y28 hp)) ∧ (¬ x3 = (-6) → (0 ≤ x3 ∧ x3 < 8) ∧ (((hp 5 x3) ≤ x5 → (¬ x4 = 0 → (qb_in (x3 * 15)) ∧ (qb_in ((x3 * 15) + (hp 5 x3))) ∧ (qb_in (((x3 * 15) + (hp 5 x3)) - 1)) ∧ 0 ≤ (((x3 * 15) + (hp 5 x3)) - 1) ∧ (((x3 * 15) + (hp 5 x3)) - 1) < 120) ∧ (∀ (y29 : Int), y29 = (if x4 = 0 then ((-6) : Int) else (hp 6 (((x3 * 15) + (hp 5 x3)) - 1))) → K y29 hp)) ∧ (¬ (hp 5 x3) ≤ x5 → (qb_in (x3 * 15)) ∧ (qb_in ((x3 * 15) + x5)) ∧ (∀ (y30 : Int), y30 = ((x3 * 15) + x5) → (g_ac_beginsGrade x3 x5) ∧ (((v_ac_beginsGrade x3 x5 hp) = 0 → (¬ x4 = 0 → (0 ≤ y30 ∧ y30 < 120) ∧ 0 ≤ (hp 7 y30) ∧ (hp 7 y30) < 5) ∧ (qb_in (x5 + 1)) ∧ r_ac_brandOn_12 x3 (if x4 = 0 then (0 : Int) else (if (v_ac_holds (hp 8 y30) (hp 31 (hp 7 y30)) (hp 9 y30)) = 0 then (0 : Int) else 1)) (x5 + 1) hp K) ∧ (¬ (v_ac_beginsGrade x3 x5 hp) = 0 → (x4 = 0 → (0 ≤ y30 ∧ y30 < 120) ∧ (0 ≤ (hp 7 y30) ∧ (hp 7 y30) < 5) ∧ (qb_in (x5 + 1)) ∧ r_ac_brandOn_12 x3 (if (v_ac_holds (hp 8 y30) (hp 31 (hp 7 y30)) (hp 9 y30)) = 0 then (0 : Int) else 1) (x5 + 1) hp K) ∧ (¬ x4 = 0 → (qb_in (y30 - 1)) ∧ (0 ≤ (y30 - 1) ∧ (y30 - 1) < 120) ∧ K (hp 6 (y30 - 1)) hp)))))))) : r_ac_brandOn_12 x3 x4 x5 hp K := by
  unfold r_ac_brandOn_12
  refine qb_iloadn (pc' := 13) (i := 3) dX0_brandOn_12 rfl rfl rfl ?_
  refine qb_bipush (pc' := 15) dX0_brandOn_13 rfl rfl rfl ?_
  refine qb_ceq (tgt := 113) (pc' := 18) dX0_brandOn_15 rfl rfl (fun c82 => ?_) (fun c82 => ?_)
  · have h := h.1 c82
    refine qb_iload (pc' := 115) dX0_brandOn_113 rfl rfl ?_
    obtain ⟨gb, h⟩ := h
    have k59 : ∀ (y28 : Int), y28 = (if x4 = 0 then ((-6) : Int) else (hp 6 (((x3 * 15) + (hp 5 x3)) - 1))) → qb_R mX0_brandOn 0 0 qb_sh 141 [none, none, none, none, none, none, none] [.inl y28] hp (qb_I qb_sh K) := by
      intro y28 ey28
      have h := h y28 ey28
      exact qb_reti dX0_brandOn_141 rfl h
    refine qb_feq (tgt := 139) (pc' := 118) dX0_brandOn_115 rfl rfl (fun c83 => ?_) (fun c83 => ?_)
    · refine qb_bipush (pc' := 141) dX0_brandOn_139 rfl rfl rfl ?_
      refine qb_cut (L' := [none, none, none, none, none, none, none]) [false, false, false, false, false, false, false] rfl ?_
      exact k59 _ (if_pos c83).symm
    · have h := gb c83
      refine qb_aloadn (pc' := 119) (i := 0) dX0_brandOn_118 rfl rfl rfl ?_
      refine qb_geta (pc' := 122) dX0_brandOn_119 rfl qf_X0_18 qb_s3 rfl ?_
      refine qb_iloadn (pc' := 123) (i := 3) dX0_brandOn_122 rfl rfl rfl ?_
      refine qb_bipush (pc' := 125) dX0_brandOn_123 rfl rfl rfl ?_
      obtain ⟨g159, h⟩ := h
      refine qb_imul (pc' := 126) dX0_brandOn_125 rfl g159 ?_
      refine qb_aloadn (pc' := 127) (i := 0) dX0_brandOn_126 rfl rfl rfl ?_
      refine qb_geta (pc' := 130) dX0_brandOn_127 rfl qf_X0_15 qb_s3 rfl ?_
      refine qb_iloadn (pc' := 131) (i := 3) dX0_brandOn_130 rfl rfl rfl ?_
      obtain ⟨g160, h⟩ := h
      refine qb_iald (pc' := 132) (v := (hp 5 x3)) dX0_brandOn_131 rfl qb_s5 g160.1 g160.2 rfl ?_
      obtain ⟨g161, h⟩ := h
      refine qb_iadd (pc' := 133) dX0_brandOn_132 rfl g161 ?_
      refine qb_iconst (pc' := 134) dX0_brandOn_133 rfl rfl ?_
      obtain ⟨g162, h⟩ := h
      refine qb_isub (pc' := 135) dX0_brandOn_134 rfl g162 ?_
      have g163 := h
      refine qb_iald (pc' := 136) (v := (hp 6 (((x3 * 15) + (hp 5 x3)) - 1))) dX0_brandOn_135 rfl qb_s6 g163.1 g163.2 rfl ?_
      refine qb_goto (tgt := 141) dX0_brandOn_136 rfl ?_
      refine qb_cut (L' := [none, none, none, none, none, none, none]) [false, false, false, false, false, false, false] rfl ?_
      exact k59 _ (if_neg c83).symm
  · have h := h.2 c82
    refine qb_iload (pc' := 20) dX0_brandOn_18 rfl rfl ?_
    refine qb_aloadn (pc' := 21) (i := 0) dX0_brandOn_20 rfl rfl rfl ?_
    refine qb_geta (pc' := 24) dX0_brandOn_21 rfl qf_X0_15 qb_s3 rfl ?_
    refine qb_iloadn (pc' := 25) (i := 3) dX0_brandOn_24 rfl rfl rfl ?_
    obtain ⟨g164, h⟩ := h
    refine qb_iald (pc' := 26) (v := (hp 5 x3)) dX0_brandOn_25 rfl qb_s5 g164.1 g164.2 rfl ?_
    refine qb_cge (tgt := 113) (pc' := 29) dX0_brandOn_26 rfl rfl (fun c84 => ?_) (fun c84 => ?_)
    · have h := h.1 c84
      refine qb_iload (pc' := 115) dX0_brandOn_113 rfl rfl ?_
      obtain ⟨gb, h⟩ := h
      have k60 : ∀ (y29 : Int), y29 = (if x4 = 0 then ((-6) : Int) else (hp 6 (((x3 * 15) + (hp 5 x3)) - 1))) → qb_R mX0_brandOn 0 0 qb_sh 141 [none, none, none, none, none, none, none] [.inl y29] hp (qb_I qb_sh K) := by
        intro y29 ey29
        have h := h y29 ey29
        exact qb_reti dX0_brandOn_141 rfl h
      refine qb_feq (tgt := 139) (pc' := 118) dX0_brandOn_115 rfl rfl (fun c85 => ?_) (fun c85 => ?_)
      · refine qb_bipush (pc' := 141) dX0_brandOn_139 rfl rfl rfl ?_
        refine qb_cut (L' := [none, none, none, none, none, none, none]) [false, false, false, false, false, false, false] rfl ?_
        exact k60 _ (if_pos c85).symm
      · have h := gb c85
        refine qb_aloadn (pc' := 119) (i := 0) dX0_brandOn_118 rfl rfl rfl ?_
        refine qb_geta (pc' := 122) dX0_brandOn_119 rfl qf_X0_18 qb_s3 rfl ?_
        refine qb_iloadn (pc' := 123) (i := 3) dX0_brandOn_122 rfl rfl rfl ?_
        refine qb_bipush (pc' := 125) dX0_brandOn_123 rfl rfl rfl ?_
        obtain ⟨g169, h⟩ := h
        refine qb_imul (pc' := 126) dX0_brandOn_125 rfl g169 ?_
        refine qb_aloadn (pc' := 127) (i := 0) dX0_brandOn_126 rfl rfl rfl ?_
        refine qb_geta (pc' := 130) dX0_brandOn_127 rfl qf_X0_15 qb_s3 rfl ?_
        refine qb_iloadn (pc' := 131) (i := 3) dX0_brandOn_130 rfl rfl rfl ?_
        refine qb_iald (pc' := 132) (v := (hp 5 x3)) dX0_brandOn_131 rfl qb_s5 g164.1 g164.2 rfl ?_
        obtain ⟨g170, h⟩ := h
        refine qb_iadd (pc' := 133) dX0_brandOn_132 rfl g170 ?_
        refine qb_iconst (pc' := 134) dX0_brandOn_133 rfl rfl ?_
        obtain ⟨g171, h⟩ := h
        refine qb_isub (pc' := 135) dX0_brandOn_134 rfl g171 ?_
        have g172 := h
        refine qb_iald (pc' := 136) (v := (hp 6 (((x3 * 15) + (hp 5 x3)) - 1))) dX0_brandOn_135 rfl qb_s6 g172.1 g172.2 rfl ?_
        refine qb_goto (tgt := 141) dX0_brandOn_136 rfl ?_
        refine qb_cut (L' := [none, none, none, none, none, none, none]) [false, false, false, false, false, false, false] rfl ?_
        exact k60 _ (if_neg c85).symm
    · have h := h.2 c84
      refine qb_iloadn (pc' := 30) (i := 3) dX0_brandOn_29 rfl rfl rfl ?_
      refine qb_bipush (pc' := 32) dX0_brandOn_30 rfl rfl rfl ?_
      obtain ⟨g173, h⟩ := h
      refine qb_imul (pc' := 33) dX0_brandOn_32 rfl g173 ?_
      refine qb_iload (pc' := 35) dX0_brandOn_33 rfl rfl ?_
      obtain ⟨g174, h⟩ := h
      refine qb_iadd (pc' := 36) dX0_brandOn_35 rfl g174 ?_
      refine qb_istorey (pc' := 38) (Lf := fun y30 => [qb_a 3, none, qb_a 31, qb_i x3, qb_i x4, qb_i x5, qb_i y30]) dX0_brandOn_36 rfl (Nat.le_of_ble_eq_true rfl) rfl (fun _ => rfl) (fun y30 ey30 => ?_)
      have h := h y30 ey30
      refine qb_aloadn (pc' := 39) (i := 0) dX0_brandOn_38 rfl rfl rfl ?_
      refine qb_iloadn (pc' := 40) (i := 3) dX0_brandOn_39 rfl rfl rfl ?_
      refine qb_iload (pc' := 42) dX0_brandOn_40 rfl rfl ?_
      obtain ⟨g191, h⟩ := h
      refine qb_callVi (pc' := 45) (b := 3) (as := [.inl x3, .inl x5]) (rest := []) dX0_brandOn_42 rfl qe_mX0_brandOn_mX0_beginsGrade rfl rfl qb_s3 rfl rfl (Nat.le_of_ble_eq_true rfl) (Nat.le_of_ble_eq_true rfl) ⟨rfl, rfl⟩ (K := fun vz hpz => (v_ac_beginsGrade x3 x5 hp) = vz ∧ hp = hpz) (s_ac_beginsGrade x3 x5 hp _ g191 ⟨rfl, rfl⟩) (fun vz hpz ez => ?_)
      obtain ⟨ez1, ez2⟩ := ez
      subst ez1
      subst ez2
      refine qb_feq (tgt := 66) (pc' := 48) dX0_brandOn_45 rfl rfl (fun c92 => ?_) (fun c92 => ?_)
      · have h := h.1 c92
        refine qb_iload (pc' := 68) dX0_brandOn_66 rfl rfl ?_
        obtain ⟨gb, h⟩ := h
        have k80 : qb_R mX0_brandOn 0 0 qb_sh 105 [qb_a 3, none, qb_a 31, qb_i x3, none, qb_i x5, none] [.inl (if x4 = 0 then (0 : Int) else (if (v_ac_holds (hp 8 y30) (hp 31 (hp 7 y30)) (hp 9 y30)) = 0 then (0 : Int) else 1))] hp (qb_I qb_sh K) := by
          refine qb_istore (pc' := 107) (L' := [qb_a 3, none, qb_a 31, qb_i x3, qb_i (if x4 = 0 then (0 : Int) else (if (v_ac_holds (hp 8 y30) (hp 31 (hp 7 y30)) (hp 9 y30)) = 0 then (0 : Int) else 1)), qb_i x5, none]) dX0_brandOn_105 rfl (Nat.le_of_ble_eq_true rfl) rfl rfl ?_
          obtain ⟨g196, h⟩ := h
          refine qb_iinc (pc' := 110) (L' := [qb_a 3, none, qb_a 31, qb_i x3, qb_i (if x4 = 0 then (0 : Int) else (if (v_ac_holds (hp 8 y30) (hp 31 (hp 7 y30)) (hp 9 y30)) = 0 then (0 : Int) else 1)), qb_i (x5 + 1), none]) dX0_brandOn_107 rfl rfl g196 (Nat.le_of_ble_eq_true rfl) rfl rfl ?_
          refine qb_goto (tgt := 12) dX0_brandOn_110 rfl ?_
          refine qb_cut (L' := [qb_a 3, none, qb_a 31, qb_i x3, qb_i (if x4 = 0 then (0 : Int) else (if (v_ac_holds (hp 8 y30) (hp 31 (hp 7 y30)) (hp 9 y30)) = 0 then (0 : Int) else 1)), qb_i (x5 + 1), none]) [true, false, true, true, true, true, false] rfl ?_
          exact h
        refine qb_feq (tgt := 104) (pc' := 71) dX0_brandOn_68 rfl rfl (fun c93 => ?_) (fun c93 => ?_)
        · refine qb_iconst (pc' := 105) dX0_brandOn_104 rfl rfl ?_
          refine qb_cut (L' := [qb_a 3, none, qb_a 31, qb_i x3, none, qb_i x5, none]) [true, false, true, true, false, true, false] rfl ?_
          simpa only [if_pos c93] using k80
        · have h := gb c93
          refine qb_aloadn (pc' := 72) (i := 0) dX0_brandOn_71 rfl rfl rfl ?_
          refine qb_geta (pc' := 75) dX0_brandOn_72 rfl qf_X0_24 qb_s3 rfl ?_
          refine qb_iload (pc' := 77) dX0_brandOn_75 rfl rfl ?_
          obtain ⟨g194, h⟩ := h
          refine qb_iald (pc' := 78) (v := (hp 8 y30)) dX0_brandOn_77 rfl qb_s8 g194.1 g194.2 rfl ?_
          refine qb_aloadn (pc' := 79) (i := 2) dX0_brandOn_78 rfl rfl rfl ?_
          refine qb_aloadn (pc' := 80) (i := 0) dX0_brandOn_79 rfl rfl rfl ?_
          refine qb_geta (pc' := 83) dX0_brandOn_80 rfl qf_X0_21 qb_s3 rfl ?_
          refine qb_iload (pc' := 85) dX0_brandOn_83 rfl rfl ?_
          refine qb_iald (pc' := 86) (v := (hp 7 y30)) dX0_brandOn_85 rfl qb_s7 g194.1 g194.2 rfl ?_
          have g195 := h
          refine qb_iald (pc' := 87) (v := (hp 31 (hp 7 y30))) dX0_brandOn_86 rfl qb_s31 g195.1 g195.2 rfl ?_
          refine qb_aloadn (pc' := 88) (i := 0) dX0_brandOn_87 rfl rfl rfl ?_
          refine qb_geta (pc' := 91) dX0_brandOn_88 rfl qf_X0_27 qb_s3 rfl ?_
          refine qb_iload (pc' := 93) dX0_brandOn_91 rfl rfl ?_
          refine qb_iald (pc' := 94) (v := (hp 9 y30)) dX0_brandOn_93 rfl qb_s9 g194.1 g194.2 rfl ?_
          refine qb_callSi (pc' := 97) (as := [.inl (hp 8 y30), .inl (hp 31 (hp 7 y30)), .inl (hp 9 y30)]) (rest := []) dX0_brandOn_94 rfl qe_mX0_brandOn_mX0_holds rfl rfl rfl (Nat.le_of_ble_eq_true rfl) (Nat.le_of_ble_eq_true rfl) ⟨rfl, rfl⟩ (K := fun vz hpz => (v_ac_holds (hp 8 y30) (hp 31 (hp 7 y30)) (hp 9 y30)) = vz ∧ hp = hpz) (s_ac_holds (hp 8 y30) (hp 31 (hp 7 y30)) (hp 9 y30) hp _ trivial ⟨rfl, rfl⟩) (fun vz hpz ez => ?_)
          obtain ⟨ez1, ez2⟩ := ez
          subst ez1
          subst ez2
          have k81 : qb_R mX0_brandOn 0 0 qb_sh 105 [qb_a 3, none, qb_a 31, qb_i x3, none, qb_i x5, none] [.inl (if (v_ac_holds (hp 8 y30) (hp 31 (hp 7 y30)) (hp 9 y30)) = 0 then (0 : Int) else 1)] hp (qb_I qb_sh K) := by
            refine qb_cut (L' := [qb_a 3, none, qb_a 31, qb_i x3, none, qb_i x5, none]) [true, false, true, true, false, true, false] rfl ?_
            simpa only [if_neg c93] using k80
          refine qb_feq (tgt := 104) (pc' := 100) dX0_brandOn_97 rfl rfl (fun c110 => ?_) (fun c110 => ?_)
          · refine qb_iconst (pc' := 105) dX0_brandOn_104 rfl rfl ?_
            refine qb_cut (L' := [qb_a 3, none, qb_a 31, qb_i x3, none, qb_i x5, none]) [true, false, true, true, false, true, false] rfl ?_
            simpa only [if_pos c110] using k81
          · refine qb_iconst (pc' := 101) dX0_brandOn_100 rfl rfl ?_
            refine qb_goto (tgt := 105) dX0_brandOn_101 rfl ?_
            refine qb_cut (L' := [qb_a 3, none, qb_a 31, qb_i x3, none, qb_i x5, none]) [true, false, true, true, false, true, false] rfl ?_
            simpa only [if_neg c110] using k81
      · have h := h.2 c92
        refine qb_iload (pc' := 50) dX0_brandOn_48 rfl rfl ?_
        refine qb_feq (tgt := 63) (pc' := 53) dX0_brandOn_50 rfl rfl (fun c111 => ?_) (fun c111 => ?_)
        · have h := h.1 c111
          refine qb_iconst (pc' := 64) dX0_brandOn_63 rfl rfl ?_
          refine qb_istore (pc' := 66) (L' := [qb_a 3, none, qb_a 31, qb_i x3, qb_i 1, qb_i x5, qb_i y30]) dX0_brandOn_64 rfl (Nat.le_of_ble_eq_true rfl) rfl rfl ?_
          refine qb_iload (pc' := 68) dX0_brandOn_66 rfl rfl ?_
          refine qb_feq (tgt := 104) (pc' := 71) dX0_brandOn_68 rfl rfl (fun hc => absurd hc (by decide)) (fun _ => ?_)
          refine qb_aloadn (pc' := 72) (i := 0) dX0_brandOn_71 rfl rfl rfl ?_
          refine qb_geta (pc' := 75) dX0_brandOn_72 rfl qf_X0_24 qb_s3 rfl ?_
          refine qb_iload (pc' := 77) dX0_brandOn_75 rfl rfl ?_
          obtain ⟨g197, h⟩ := h
          refine qb_iald (pc' := 78) (v := (hp 8 y30)) dX0_brandOn_77 rfl qb_s8 g197.1 g197.2 rfl ?_
          refine qb_aloadn (pc' := 79) (i := 2) dX0_brandOn_78 rfl rfl rfl ?_
          refine qb_aloadn (pc' := 80) (i := 0) dX0_brandOn_79 rfl rfl rfl ?_
          refine qb_geta (pc' := 83) dX0_brandOn_80 rfl qf_X0_21 qb_s3 rfl ?_
          refine qb_iload (pc' := 85) dX0_brandOn_83 rfl rfl ?_
          refine qb_iald (pc' := 86) (v := (hp 7 y30)) dX0_brandOn_85 rfl qb_s7 g197.1 g197.2 rfl ?_
          obtain ⟨g198, h⟩ := h
          refine qb_iald (pc' := 87) (v := (hp 31 (hp 7 y30))) dX0_brandOn_86 rfl qb_s31 g198.1 g198.2 rfl ?_
          refine qb_aloadn (pc' := 88) (i := 0) dX0_brandOn_87 rfl rfl rfl ?_
          refine qb_geta (pc' := 91) dX0_brandOn_88 rfl qf_X0_27 qb_s3 rfl ?_
          refine qb_iload (pc' := 93) dX0_brandOn_91 rfl rfl ?_
          refine qb_iald (pc' := 94) (v := (hp 9 y30)) dX0_brandOn_93 rfl qb_s9 g197.1 g197.2 rfl ?_
          refine qb_callSi (pc' := 97) (as := [.inl (hp 8 y30), .inl (hp 31 (hp 7 y30)), .inl (hp 9 y30)]) (rest := []) dX0_brandOn_94 rfl qe_mX0_brandOn_mX0_holds rfl rfl rfl (Nat.le_of_ble_eq_true rfl) (Nat.le_of_ble_eq_true rfl) ⟨rfl, rfl⟩ (K := fun vz hpz => (v_ac_holds (hp 8 y30) (hp 31 (hp 7 y30)) (hp 9 y30)) = vz ∧ hp = hpz) (s_ac_holds (hp 8 y30) (hp 31 (hp 7 y30)) (hp 9 y30) hp _ trivial ⟨rfl, rfl⟩) (fun vz hpz ez => ?_)
          obtain ⟨ez1, ez2⟩ := ez
          subst ez1
          subst ez2
          have k82 : qb_R mX0_brandOn 0 0 qb_sh 105 [qb_a 3, none, qb_a 31, qb_i x3, none, qb_i x5, none] [.inl (if (v_ac_holds (hp 8 y30) (hp 31 (hp 7 y30)) (hp 9 y30)) = 0 then (0 : Int) else 1)] hp (qb_I qb_sh K) := by
            refine qb_istore (pc' := 107) (L' := [qb_a 3, none, qb_a 31, qb_i x3, qb_i (if (v_ac_holds (hp 8 y30) (hp 31 (hp 7 y30)) (hp 9 y30)) = 0 then (0 : Int) else 1), qb_i x5, none]) dX0_brandOn_105 rfl (Nat.le_of_ble_eq_true rfl) rfl rfl ?_
            obtain ⟨g199, h⟩ := h
            refine qb_iinc (pc' := 110) (L' := [qb_a 3, none, qb_a 31, qb_i x3, qb_i (if (v_ac_holds (hp 8 y30) (hp 31 (hp 7 y30)) (hp 9 y30)) = 0 then (0 : Int) else 1), qb_i (x5 + 1), none]) dX0_brandOn_107 rfl rfl g199 (Nat.le_of_ble_eq_true rfl) rfl rfl ?_
            refine qb_goto (tgt := 12) dX0_brandOn_110 rfl ?_
            refine qb_cut (L' := [qb_a 3, none, qb_a 31, qb_i x3, qb_i (if (v_ac_holds (hp 8 y30) (hp 31 (hp 7 y30)) (hp 9 y30)) = 0 then (0 : Int) else 1), qb_i (x5 + 1), none]) [true, false, true, true, true, true, false] rfl ?_
            exact h
          refine qb_feq (tgt := 104) (pc' := 100) dX0_brandOn_97 rfl rfl (fun c112 => ?_) (fun c112 => ?_)
          · refine qb_iconst (pc' := 105) dX0_brandOn_104 rfl rfl ?_
            refine qb_cut (L' := [qb_a 3, none, qb_a 31, qb_i x3, none, qb_i x5, none]) [true, false, true, true, false, true, false] rfl ?_
            simpa only [if_pos c112] using k82
          · refine qb_iconst (pc' := 101) dX0_brandOn_100 rfl rfl ?_
            refine qb_goto (tgt := 105) dX0_brandOn_101 rfl ?_
            refine qb_cut (L' := [qb_a 3, none, qb_a 31, qb_i x3, none, qb_i x5, none]) [true, false, true, true, false, true, false] rfl ?_
            simpa only [if_neg c112] using k82
        · have h := h.2 c111
          refine qb_aloadn (pc' := 54) (i := 0) dX0_brandOn_53 rfl rfl rfl ?_
          refine qb_geta (pc' := 57) dX0_brandOn_54 rfl qf_X0_18 qb_s3 rfl ?_
          refine qb_iload (pc' := 59) dX0_brandOn_57 rfl rfl ?_
          refine qb_iconst (pc' := 60) dX0_brandOn_59 rfl rfl ?_
          obtain ⟨g200, h⟩ := h
          refine qb_isub (pc' := 61) dX0_brandOn_60 rfl g200 ?_
          obtain ⟨g201, h⟩ := h
          refine qb_iald (pc' := 62) (v := (hp 6 (y30 - 1))) dX0_brandOn_61 rfl qb_s6 g201.1 g201.2 rfl ?_
          exact qb_reti dX0_brandOn_62 rfl h
def c_q_brandOfCask (x1 : Int) (hp : qb_H) (K : Int → qb_H → Prop) : Prop := qb_R mX10_brandOfCask 0 0 qb_sh 0 [qb_a 0, qb_i x1] [] hp (qb_I qb_sh K)
theorem b_q_brandOfCask {x1 : Int} {hp : qb_H} {K : Int → qb_H → Prop} (h : (g_q_tiers (qb_st hp 31 0 (hp 25 3))) ∧ c_sa_muchAt (hp 25 0) (hp 25 2) (qb_st (qb_st hp 31 0 (hp 25 3)) 31 1 (v_q_tiers (qb_st hp 31 0 (hp 25 3)))) (fun v32 hp32 => c_ac_brandOn x1 (qb_st (qb_st (qb_st hp32 31 2 v32) 31 3 (hp32 25 4)) 31 4 (hp32 25 0)) (fun v33 hp33 => K v33 hp33))) : c_q_brandOfCask x1 hp K := by
  unfold c_q_brandOfCask
  refine qb_aloadn (pc' := 1) (i := 0) dX10_brandOfCask_0 rfl rfl rfl ?_
  refine qb_geta (pc' := 4) dX10_brandOfCask_1 rfl qf_X10_48 qb_s0 rfl ?_
  refine qb_iconst (pc' := 5) dX10_brandOfCask_4 rfl rfl ?_
  refine qb_aloadn (pc' := 6) (i := 0) dX10_brandOfCask_5 rfl rfl rfl ?_
  refine qb_geta (pc' := 9) dX10_brandOfCask_6 rfl qf_X10_37 qb_s0 rfl ?_
  refine qb_geti (pc' := 12) (v := (hp 25 3)) dX10_brandOfCask_9 rfl qf_X10_318 qb_s25 rfl rfl ?_
  refine qb_iast (pc' := 13) dX10_brandOfCask_12 rfl qb_s31 (by decide) (by decide) ?_
  refine qb_aloadn (pc' := 14) (i := 0) dX10_brandOfCask_13 rfl rfl rfl ?_
  refine qb_geta (pc' := 17) dX10_brandOfCask_14 rfl qf_X10_48 qb_s0 rfl ?_
  refine qb_iconst (pc' := 18) dX10_brandOfCask_17 rfl rfl ?_
  refine qb_aloadn (pc' := 19) (i := 0) dX10_brandOfCask_18 rfl rfl rfl ?_
  obtain ⟨g202, h⟩ := h
  refine qb_callVi (pc' := 22) (b := 0) (as := []) (rest := [.inl 1, .inr (.inl 31)]) dX10_brandOfCask_19 rfl qe_mX10_brandOfCask_mX10_tiers rfl rfl qb_s0 rfl rfl (Nat.le_of_ble_eq_true rfl) (Nat.le_of_ble_eq_true rfl) ⟨rfl, rfl⟩ (K := fun vz hpz => (v_q_tiers (qb_st hp 31 0 (hp 25 3))) = vz ∧ (qb_st hp 31 0 (hp 25 3)) = hpz) (s_q_tiers  (qb_st hp 31 0 (hp 25 3)) _ g202 ⟨rfl, rfl⟩) (fun vz hpz ez => ?_)
  obtain ⟨ez1, ez2⟩ := ez
  subst ez1
  subst ez2
  refine qb_iast (pc' := 23) dX10_brandOfCask_22 rfl qb_s31 (by decide) (by decide) ?_
  refine qb_aloadn (pc' := 24) (i := 0) dX10_brandOfCask_23 rfl rfl rfl ?_
  refine qb_geta (pc' := 27) dX10_brandOfCask_24 rfl qf_X10_48 qb_s0 rfl ?_
  refine qb_iconst (pc' := 28) dX10_brandOfCask_27 rfl rfl ?_
  refine qb_aloadn (pc' := 29) (i := 0) dX10_brandOfCask_28 rfl rfl rfl ?_
  refine qb_geta (pc' := 32) dX10_brandOfCask_29 rfl qf_X10_44 qb_s0 rfl ?_
  refine qb_aloadn (pc' := 33) (i := 0) dX10_brandOfCask_32 rfl rfl rfl ?_
  refine qb_geta (pc' := 36) dX10_brandOfCask_33 rfl qf_X10_37 qb_s0 rfl ?_
  refine qb_geti (pc' := 39) (v := (hp 25 0)) dX10_brandOfCask_36 rfl qf_X10_324 qb_s25 rfl (qb_rdn rfl (qb_rdn rfl rfl)) ?_
  refine qb_aloadn (pc' := 40) (i := 0) dX10_brandOfCask_39 rfl rfl rfl ?_
  refine qb_geta (pc' := 43) dX10_brandOfCask_40 rfl qf_X10_37 qb_s0 rfl ?_
  refine qb_geti (pc' := 46) (v := (hp 25 2)) dX10_brandOfCask_43 rfl qf_X10_315 qb_s25 rfl (qb_rdn rfl (qb_rdn rfl rfl)) ?_
  refine qb_callVi (pc' := 49) (b := 26) (as := [.inl (hp 25 0), .inl (hp 25 2)]) (rest := [.inl 2, .inr (.inl 31)]) dX10_brandOfCask_46 rfl qe_mX10_brandOfCask_mX8_muchAt rfl rfl qb_s26 rfl rfl (Nat.le_of_ble_eq_true rfl) (Nat.le_of_ble_eq_true rfl) ⟨rfl, rfl⟩ h (fun v32 hp32 h => ?_)
  refine qb_iast (pc' := 50) dX10_brandOfCask_49 rfl qb_s31 (by decide) (by decide) ?_
  refine qb_aloadn (pc' := 51) (i := 0) dX10_brandOfCask_50 rfl rfl rfl ?_
  refine qb_geta (pc' := 54) dX10_brandOfCask_51 rfl qf_X10_48 qb_s0 rfl ?_
  refine qb_iconst (pc' := 55) dX10_brandOfCask_54 rfl rfl ?_
  refine qb_aloadn (pc' := 56) (i := 0) dX10_brandOfCask_55 rfl rfl rfl ?_
  refine qb_geta (pc' := 59) dX10_brandOfCask_56 rfl qf_X10_37 qb_s0 rfl ?_
  refine qb_geti (pc' := 62) (v := (hp32 25 4)) dX10_brandOfCask_59 rfl qf_X10_333 qb_s25 rfl (qb_rdn rfl rfl) ?_
  refine qb_iast (pc' := 63) dX10_brandOfCask_62 rfl qb_s31 (by decide) (by decide) ?_
  refine qb_aloadn (pc' := 64) (i := 0) dX10_brandOfCask_63 rfl rfl rfl ?_
  refine qb_geta (pc' := 67) dX10_brandOfCask_64 rfl qf_X10_48 qb_s0 rfl ?_
  refine qb_iconst (pc' := 68) dX10_brandOfCask_67 rfl rfl ?_
  refine qb_aloadn (pc' := 69) (i := 0) dX10_brandOfCask_68 rfl rfl rfl ?_
  refine qb_geta (pc' := 72) dX10_brandOfCask_69 rfl qf_X10_37 qb_s0 rfl ?_
  refine qb_geti (pc' := 75) (v := (hp32 25 0)) dX10_brandOfCask_72 rfl qf_X10_324 qb_s25 rfl (qb_rdn rfl (qb_rdn rfl rfl)) ?_
  refine qb_iast (pc' := 76) dX10_brandOfCask_75 rfl qb_s31 (by decide) (by decide) ?_
  refine qb_aloadn (pc' := 77) (i := 0) dX10_brandOfCask_76 rfl rfl rfl ?_
  refine qb_geta (pc' := 80) dX10_brandOfCask_77 rfl qf_X10_19 qb_s0 rfl ?_
  refine qb_iloadn (pc' := 81) (i := 1) dX10_brandOfCask_80 rfl rfl rfl ?_
  refine qb_aloadn (pc' := 82) (i := 0) dX10_brandOfCask_81 rfl rfl rfl ?_
  refine qb_geta (pc' := 85) dX10_brandOfCask_82 rfl qf_X10_48 qb_s0 rfl ?_
  refine qb_callVi (pc' := 88) (b := 3) (as := [.inl x1, .inr (.inl 31)]) (rest := []) dX10_brandOfCask_85 rfl qe_mX10_brandOfCask_mX0_brandOn rfl rfl qb_s3 rfl rfl (Nat.le_of_ble_eq_true rfl) (Nat.le_of_ble_eq_true rfl) ⟨rfl, rfl⟩ h (fun v33 hp33 h => ?_)
  exact qb_reti dX10_brandOfCask_88 rfl h
def c_q_countBranded (x1 : Int) (x2 : Int) (x3 : Int) (hp : qb_H) (K : Int → qb_H → Prop) : Prop := qb_R mX10_countBranded 0 0 qb_sh 0 [qb_a 0, qb_i x1, qb_i x2, qb_i x3, none, none, none, none] [] hp (qb_I qb_sh K)
def r_q_countBranded_25 (x2 : Int) (x3 : Int) (x4 : Int) (x5 : Int) (x6 : Int) (x7 : Int) (hp : qb_H) (K : Int → qb_H → Prop) : Prop := qb_R mX10_countBranded 0 0 qb_sh 25 [qb_a 0, none, qb_i x2, qb_i x3, qb_i x4, qb_i x5, qb_i x6, qb_i x7] [] hp (qb_I qb_sh K)
theorem b_q_countBranded {x1 x2 x3 : Int} {hp : qb_H} {K : Int → qb_H → Prop} (h : (g_q_barrelsAt x1 hp) ∧ (∀ (y14 : Int), y14 = (v_q_barrelsAt x1 hp) → r_q_countBranded_25 x2 x3 y14 0 (-6) 0 (h_ck_start x1 hp) K)) : c_q_countBranded x1 x2 x3 hp K := by
  unfold c_q_countBranded
  refine qb_aloadn (pc' := 1) (i := 0) dX10_countBranded_0 rfl rfl rfl ?_
  refine qb_iloadn (pc' := 2) (i := 1) dX10_countBranded_1 rfl rfl rfl ?_
  obtain ⟨g104, h⟩ := h
  refine qb_callVi (pc' := 5) (b := 0) (as := [.inl x1]) (rest := []) dX10_countBranded_2 rfl qe_mX10_countBranded_mX10_barrelsAt rfl rfl qb_s0 rfl rfl (Nat.le_of_ble_eq_true rfl) (Nat.le_of_ble_eq_true rfl) ⟨rfl, rfl⟩ (K := fun vz hpz => (v_q_barrelsAt x1 hp) = vz ∧ hp = hpz) (s_q_barrelsAt x1 hp _ g104 ⟨rfl, rfl⟩) (fun vz hpz ez => ?_)
  obtain ⟨ez1, ez2⟩ := ez
  subst ez1
  subst ez2
  refine qb_istorey (pc' := 7) (Lf := fun y14 => [qb_a 0, qb_i x1, qb_i x2, qb_i x3, qb_i y14, none, none, none]) dX10_countBranded_5 rfl (Nat.le_of_ble_eq_true rfl) rfl (fun _ => rfl) (fun y14 ey14 => ?_)
  have h := h y14 ey14
  refine qb_iconst (pc' := 8) dX10_countBranded_7 rfl rfl ?_
  refine qb_istore (pc' := 10) (L' := [qb_a 0, qb_i x1, qb_i x2, qb_i x3, qb_i y14, qb_i 0, none, none]) dX10_countBranded_8 rfl (Nat.le_of_ble_eq_true rfl) rfl rfl ?_
  refine qb_bipush (pc' := 12) dX10_countBranded_10 rfl rfl rfl ?_
  refine qb_istore (pc' := 14) (L' := [qb_a 0, qb_i x1, qb_i x2, qb_i x3, qb_i y14, qb_i 0, qb_i (-6), none]) dX10_countBranded_12 rfl (Nat.le_of_ble_eq_true rfl) rfl rfl ?_
  refine qb_aloadn (pc' := 15) (i := 0) dX10_countBranded_14 rfl rfl rfl ?_
  refine qb_geta (pc' := 18) dX10_countBranded_15 rfl qf_X10_37 qb_s0 rfl ?_
  refine qb_iloadn (pc' := 19) (i := 1) dX10_countBranded_18 rfl rfl rfl ?_
  refine qb_callVu (pc' := 22) (b := 25) (as := [.inl x1]) (rest := []) dX10_countBranded_19 rfl qe_mX10_countBranded_mX2_start rfl rfl qb_s25 rfl rfl (Nat.le_of_ble_eq_true rfl) (Nat.le_of_ble_eq_true rfl) ⟨rfl, rfl⟩ (K := fun hpz => (h_ck_start x1 hp) = hpz) (s_ck_start x1 hp _ trivial rfl) (fun hpz ez => ?_)
  subst ez
  refine qb_iconst (pc' := 23) dX10_countBranded_22 rfl rfl ?_
  refine qb_istore (pc' := 25) (L' := [qb_a 0, qb_i x1, qb_i x2, qb_i x3, qb_i y14, qb_i 0, qb_i (-6), qb_i 0]) dX10_countBranded_23 rfl (Nat.le_of_ble_eq_true rfl) rfl rfl ?_
  refine qb_cut (L' := [qb_a 0, none, qb_i x2, qb_i x3, qb_i y14, qb_i 0, qb_i (-6), qb_i 0]) [true, false, true, true, true, true, true, true] rfl ?_
  exact h
theorem b_q_countBranded_25 {x2 x3 x4 x5 x6 x7 : Int} {hp : qb_H} {K : Int → qb_H → Prop} (h : (x4 ≤ x7 → K x5 hp) ∧ (¬ x4 ≤ x7 → c_la_measure x7 (hp 10 1) hp (fun hp18 => ((hp18 25 2) ≤ x3 → ((hp18 25 6) = 0 → (0 ≤ (hp18 25 2)) ∧ c_q_brandOfCask ((hp18 25 2) / 24) hp18 (fun v34 hp34 => (¬ v34 = (-6) → (x2 = (-6) → qb_in (x5 + 1)) ∧ (¬ x2 = (-6) → (v34 = x2 → qb_in (x5 + 1)))) ∧ (qb_in (x7 + 1)) ∧ r_q_countBranded_25 x2 x3 x4 (if v34 = (-6) then x5 else (if x2 = (-6) then (x5 + 1) else (if v34 = x2 then (x5 + 1) else x5))) v34 (x7 + 1) hp34 K)) ∧ (¬ (hp18 25 6) = 0 → (¬ x6 = (-6) → (x2 = (-6) → qb_in (x5 + 1)) ∧ (¬ x2 = (-6) → (x6 = x2 → qb_in (x5 + 1)))) ∧ (qb_in (x7 + 1)) ∧ r_q_countBranded_25 x2 x3 x4 (if x6 = (-6) then x5 else (if x2 = (-6) then (x5 + 1) else (if x6 = x2 then (x5 + 1) else x5))) x6 (x7 + 1) hp18 K)) ∧ (¬ (hp18 25 2) ≤ x3 → K x5 hp18)))) : r_q_countBranded_25 x2 x3 x4 x5 x6 x7 hp K := by
  unfold r_q_countBranded_25
  refine qb_iload (pc' := 27) dX10_countBranded_25 rfl rfl ?_
  refine qb_iload (pc' := 29) dX10_countBranded_27 rfl rfl ?_
  refine qb_cge (tgt := 119) (pc' := 32) dX10_countBranded_29 rfl rfl (fun c40 => ?_) (fun c40 => ?_)
  · have h := h.1 c40
    refine qb_iload (pc' := 121) dX10_countBranded_119 rfl rfl ?_
    exact qb_reti dX10_countBranded_121 rfl h
  · have h := h.2 c40
    refine qb_aloadn (pc' := 33) (i := 0) dX10_countBranded_32 rfl rfl rfl ?_
    refine qb_geta (pc' := 36) dX10_countBranded_33 rfl qf_X10_30 qb_s0 rfl ?_
    refine qb_aloadn (pc' := 37) (i := 0) dX10_countBranded_36 rfl rfl rfl ?_
    refine qb_geta (pc' := 40) dX10_countBranded_37 rfl qf_X10_37 qb_s0 rfl ?_
    refine qb_iload (pc' := 42) dX10_countBranded_40 rfl rfl ?_
    refine qb_aloadn (pc' := 43) (i := 0) dX10_countBranded_42 rfl rfl rfl ?_
    refine qb_geta (pc' := 46) dX10_countBranded_43 rfl qf_X10_23 qb_s0 rfl ?_
    refine qb_iconst (pc' := 47) dX10_countBranded_46 rfl rfl ?_
    refine qb_iald (pc' := 48) (v := (hp 10 1)) dX10_countBranded_47 rfl qb_s10 (by decide) (by decide) rfl ?_
    refine qb_callVu (pc' := 51) (b := 11) (as := [.inr (.inl 25), .inl x7, .inl (hp 10 1)]) (rest := []) dX10_countBranded_48 rfl qe_mX10_countBranded_mX7_measure rfl rfl qb_s11 rfl rfl (Nat.le_of_ble_eq_true rfl) (Nat.le_of_ble_eq_true rfl) ⟨rfl, rfl⟩ h (fun hp18 h => ?_)
    refine qb_aloadn (pc' := 52) (i := 0) dX10_countBranded_51 rfl rfl rfl ?_
    refine qb_geta (pc' := 55) dX10_countBranded_52 rfl qf_X10_37 qb_s0 rfl ?_
    refine qb_geti (pc' := 58) (v := (hp18 25 2)) dX10_countBranded_55 rfl qf_X10_315 qb_s25 rfl rfl ?_
    refine qb_iloadn (pc' := 59) (i := 3) dX10_countBranded_58 rfl rfl rfl ?_
    refine qb_cle (tgt := 65) (pc' := 62) dX10_countBranded_59 rfl rfl (fun c59 => ?_) (fun c59 => ?_)
    · have h := h.1 c59
      refine qb_aloadn (pc' := 66) (i := 0) dX10_countBranded_65 rfl rfl rfl ?_
      refine qb_geta (pc' := 69) dX10_countBranded_66 rfl qf_X10_37 qb_s0 rfl ?_
      refine qb_geti (pc' := 72) (v := (hp18 25 6)) dX10_countBranded_69 rfl qf_X10_343 qb_s25 rfl rfl ?_
      refine qb_fne (tgt := 91) (pc' := 75) dX10_countBranded_72 rfl rfl (fun c60 => ?_) (fun c60 => ?_)
      · have h := h.2 c60
        refine qb_iload (pc' := 93) dX10_countBranded_91 rfl rfl ?_
        refine qb_bipush (pc' := 95) dX10_countBranded_93 rfl rfl rfl ?_
        obtain ⟨gb, h⟩ := h
        have k93 : qb_R mX10_countBranded 0 0 qb_sh 113 [qb_a 0, none, qb_i x2, qb_i x3, qb_i x4, qb_i (if x6 = (-6) then x5 else (if x2 = (-6) then (x5 + 1) else (if x6 = x2 then (x5 + 1) else x5))), qb_i x6, qb_i x7] [] hp18 (qb_I qb_sh K) := by
          obtain ⟨g229, h⟩ := h
          refine qb_iinc (pc' := 116) (L' := [qb_a 0, none, qb_i x2, qb_i x3, qb_i x4, qb_i (if x6 = (-6) then x5 else (if x2 = (-6) then (x5 + 1) else (if x6 = x2 then (x5 + 1) else x5))), qb_i x6, qb_i (x7 + 1)]) dX10_countBranded_113 rfl rfl g229 (Nat.le_of_ble_eq_true rfl) rfl rfl ?_
          refine qb_goto (tgt := 25) dX10_countBranded_116 rfl ?_
          refine qb_cut (L' := [qb_a 0, none, qb_i x2, qb_i x3, qb_i x4, qb_i (if x6 = (-6) then x5 else (if x2 = (-6) then (x5 + 1) else (if x6 = x2 then (x5 + 1) else x5))), qb_i x6, qb_i (x7 + 1)]) [true, false, true, true, true, true, true, true] rfl ?_
          exact h
        refine qb_ceq (tgt := 113) (pc' := 98) dX10_countBranded_95 rfl rfl (fun c120 => ?_) (fun c120 => ?_)
        · refine qb_cut (L' := [qb_a 0, none, qb_i x2, qb_i x3, qb_i x4, qb_i x5, qb_i x6, qb_i x7]) [true, false, true, true, true, true, true, true] rfl ?_
          simpa only [if_pos c120] using k93
        · have h := gb c120
          refine qb_iloadn (pc' := 99) (i := 2) dX10_countBranded_98 rfl rfl rfl ?_
          refine qb_bipush (pc' := 101) dX10_countBranded_99 rfl rfl rfl ?_
          obtain ⟨ga, gb⟩ := h
          have k95 : qb_R mX10_countBranded 0 0 qb_sh 113 [qb_a 0, none, qb_i x2, qb_i x3, qb_i x4, qb_i (if x2 = (-6) then (x5 + 1) else (if x6 = x2 then (x5 + 1) else x5)), qb_i x6, qb_i x7] [] hp18 (qb_I qb_sh K) := by
            refine qb_cut (L' := [qb_a 0, none, qb_i x2, qb_i x3, qb_i x4, qb_i (if x2 = (-6) then (x5 + 1) else (if x6 = x2 then (x5 + 1) else x5)), qb_i x6, qb_i x7]) [true, false, true, true, true, true, true, true] rfl ?_
            simpa only [if_neg c120] using k93
          refine qb_ceq (tgt := 110) (pc' := 104) dX10_countBranded_101 rfl rfl (fun c124 => ?_) (fun c124 => ?_)
          · have h := ga c124
            have g226 := h
            refine qb_iinc (pc' := 113) (L' := [qb_a 0, none, qb_i x2, qb_i x3, qb_i x4, qb_i (x5 + 1), qb_i x6, qb_i x7]) dX10_countBranded_110 rfl rfl g226 (Nat.le_of_ble_eq_true rfl) rfl rfl ?_
            refine qb_cut (L' := [qb_a 0, none, qb_i x2, qb_i x3, qb_i x4, qb_i (x5 + 1), qb_i x6, qb_i x7]) [true, false, true, true, true, true, true, true] rfl ?_
            simpa only [if_pos c124] using k95
          · have h := gb c124
            refine qb_iload (pc' := 106) dX10_countBranded_104 rfl rfl ?_
            refine qb_iloadn (pc' := 107) (i := 2) dX10_countBranded_106 rfl rfl rfl ?_
            have ga := h
            have k96 : qb_R mX10_countBranded 0 0 qb_sh 113 [qb_a 0, none, qb_i x2, qb_i x3, qb_i x4, qb_i (if x6 = x2 then (x5 + 1) else x5), qb_i x6, qb_i x7] [] hp18 (qb_I qb_sh K) := by
              refine qb_cut (L' := [qb_a 0, none, qb_i x2, qb_i x3, qb_i x4, qb_i (if x6 = x2 then (x5 + 1) else x5), qb_i x6, qb_i x7]) [true, false, true, true, true, true, true, true] rfl ?_
              simpa only [if_neg c124] using k95
            refine qb_cne (tgt := 113) (pc' := 110) dX10_countBranded_107 rfl rfl (fun c126 => ?_) (fun c126 => ?_)
            · refine qb_cut (L' := [qb_a 0, none, qb_i x2, qb_i x3, qb_i x4, qb_i x5, qb_i x6, qb_i x7]) [true, false, true, true, true, true, true, true] rfl ?_
              simpa only [if_neg c126] using k96
            · have h := ga c126
              have g228 := h
              refine qb_iinc (pc' := 113) (L' := [qb_a 0, none, qb_i x2, qb_i x3, qb_i x4, qb_i (x5 + 1), qb_i x6, qb_i x7]) dX10_countBranded_110 rfl rfl g228 (Nat.le_of_ble_eq_true rfl) rfl rfl ?_
              refine qb_cut (L' := [qb_a 0, none, qb_i x2, qb_i x3, qb_i x4, qb_i (x5 + 1), qb_i x6, qb_i x7]) [true, false, true, true, true, true, true, true] rfl ?_
              simpa only [if_pos c126] using k96
      · have h := h.1 c60
        refine qb_aloadn (pc' := 76) (i := 0) dX10_countBranded_75 rfl rfl rfl ?_
        refine qb_aloadn (pc' := 77) (i := 0) dX10_countBranded_76 rfl rfl rfl ?_
        refine qb_geta (pc' := 80) dX10_countBranded_77 rfl qf_X10_37 qb_s0 rfl ?_
        refine qb_geti (pc' := 83) (v := (hp18 25 2)) dX10_countBranded_80 rfl qf_X10_315 qb_s25 rfl rfl ?_
        refine qb_bipush (pc' := 85) dX10_countBranded_83 rfl rfl rfl ?_
        obtain ⟨g203, h⟩ := h
        refine qb_idiv (pc' := 86) dX10_countBranded_85 rfl g203 (by decide) ?_
        refine qb_callVi (pc' := 89) (b := 0) (as := [.inl ((hp18 25 2) / 24)]) (rest := []) dX10_countBranded_86 rfl qe_mX10_countBranded_mX10_brandOfCask rfl rfl qb_s0 rfl rfl (Nat.le_of_ble_eq_true rfl) (Nat.le_of_ble_eq_true rfl) ⟨rfl, rfl⟩ h (fun v34 hp34 h => ?_)
        refine qb_istore (pc' := 91) (L' := [qb_a 0, none, qb_i x2, qb_i x3, qb_i x4, qb_i x5, qb_i v34, qb_i x7]) dX10_countBranded_89 rfl (Nat.le_of_ble_eq_true rfl) rfl rfl ?_
        refine qb_iload (pc' := 93) dX10_countBranded_91 rfl rfl ?_
        refine qb_bipush (pc' := 95) dX10_countBranded_93 rfl rfl rfl ?_
        obtain ⟨gb, h⟩ := h
        have k86 : qb_R mX10_countBranded 0 0 qb_sh 113 [qb_a 0, none, qb_i x2, qb_i x3, qb_i x4, qb_i (if v34 = (-6) then x5 else (if x2 = (-6) then (x5 + 1) else (if v34 = x2 then (x5 + 1) else x5))), qb_i v34, qb_i x7] [] hp34 (qb_I qb_sh K) := by
          obtain ⟨g216, h⟩ := h
          refine qb_iinc (pc' := 116) (L' := [qb_a 0, none, qb_i x2, qb_i x3, qb_i x4, qb_i (if v34 = (-6) then x5 else (if x2 = (-6) then (x5 + 1) else (if v34 = x2 then (x5 + 1) else x5))), qb_i v34, qb_i (x7 + 1)]) dX10_countBranded_113 rfl rfl g216 (Nat.le_of_ble_eq_true rfl) rfl rfl ?_
          refine qb_goto (tgt := 25) dX10_countBranded_116 rfl ?_
          refine qb_cut (L' := [qb_a 0, none, qb_i x2, qb_i x3, qb_i x4, qb_i (if v34 = (-6) then x5 else (if x2 = (-6) then (x5 + 1) else (if v34 = x2 then (x5 + 1) else x5))), qb_i v34, qb_i (x7 + 1)]) [true, false, true, true, true, true, true, true] rfl ?_
          exact h
        refine qb_ceq (tgt := 113) (pc' := 98) dX10_countBranded_95 rfl rfl (fun c113 => ?_) (fun c113 => ?_)
        · refine qb_cut (L' := [qb_a 0, none, qb_i x2, qb_i x3, qb_i x4, qb_i x5, qb_i v34, qb_i x7]) [true, false, true, true, true, true, true, true] rfl ?_
          simpa only [if_pos c113] using k86
        · have h := gb c113
          refine qb_iloadn (pc' := 99) (i := 2) dX10_countBranded_98 rfl rfl rfl ?_
          refine qb_bipush (pc' := 101) dX10_countBranded_99 rfl rfl rfl ?_
          obtain ⟨ga, gb⟩ := h
          have k88 : qb_R mX10_countBranded 0 0 qb_sh 113 [qb_a 0, none, qb_i x2, qb_i x3, qb_i x4, qb_i (if x2 = (-6) then (x5 + 1) else (if v34 = x2 then (x5 + 1) else x5)), qb_i v34, qb_i x7] [] hp34 (qb_I qb_sh K) := by
            refine qb_cut (L' := [qb_a 0, none, qb_i x2, qb_i x3, qb_i x4, qb_i (if x2 = (-6) then (x5 + 1) else (if v34 = x2 then (x5 + 1) else x5)), qb_i v34, qb_i x7]) [true, false, true, true, true, true, true, true] rfl ?_
            simpa only [if_neg c113] using k86
          refine qb_ceq (tgt := 110) (pc' := 104) dX10_countBranded_101 rfl rfl (fun c117 => ?_) (fun c117 => ?_)
          · have h := ga c117
            have g213 := h
            refine qb_iinc (pc' := 113) (L' := [qb_a 0, none, qb_i x2, qb_i x3, qb_i x4, qb_i (x5 + 1), qb_i v34, qb_i x7]) dX10_countBranded_110 rfl rfl g213 (Nat.le_of_ble_eq_true rfl) rfl rfl ?_
            refine qb_cut (L' := [qb_a 0, none, qb_i x2, qb_i x3, qb_i x4, qb_i (x5 + 1), qb_i v34, qb_i x7]) [true, false, true, true, true, true, true, true] rfl ?_
            simpa only [if_pos c117] using k88
          · have h := gb c117
            refine qb_iload (pc' := 106) dX10_countBranded_104 rfl rfl ?_
            refine qb_iloadn (pc' := 107) (i := 2) dX10_countBranded_106 rfl rfl rfl ?_
            have ga := h
            have k89 : qb_R mX10_countBranded 0 0 qb_sh 113 [qb_a 0, none, qb_i x2, qb_i x3, qb_i x4, qb_i (if v34 = x2 then (x5 + 1) else x5), qb_i v34, qb_i x7] [] hp34 (qb_I qb_sh K) := by
              refine qb_cut (L' := [qb_a 0, none, qb_i x2, qb_i x3, qb_i x4, qb_i (if v34 = x2 then (x5 + 1) else x5), qb_i v34, qb_i x7]) [true, false, true, true, true, true, true, true] rfl ?_
              simpa only [if_neg c117] using k88
            refine qb_cne (tgt := 113) (pc' := 110) dX10_countBranded_107 rfl rfl (fun c119 => ?_) (fun c119 => ?_)
            · refine qb_cut (L' := [qb_a 0, none, qb_i x2, qb_i x3, qb_i x4, qb_i x5, qb_i v34, qb_i x7]) [true, false, true, true, true, true, true, true] rfl ?_
              simpa only [if_neg c119] using k89
            · have h := ga c119
              have g215 := h
              refine qb_iinc (pc' := 113) (L' := [qb_a 0, none, qb_i x2, qb_i x3, qb_i x4, qb_i (x5 + 1), qb_i v34, qb_i x7]) dX10_countBranded_110 rfl rfl g215 (Nat.le_of_ble_eq_true rfl) rfl rfl ?_
              refine qb_cut (L' := [qb_a 0, none, qb_i x2, qb_i x3, qb_i x4, qb_i (x5 + 1), qb_i v34, qb_i x7]) [true, false, true, true, true, true, true, true] rfl ?_
              simpa only [if_pos c119] using k89
    · have h := h.2 c59
      refine qb_iload (pc' := 64) dX10_countBranded_62 rfl rfl ?_
      exact qb_reti dX10_countBranded_64 rfl h
def c_q_brandedAt (x1 : Int) (hp : qb_H) (K : Int → qb_H → Prop) : Prop := qb_R mX10_brandedAt 0 0 qb_sh 0 [qb_a 0, qb_i x1] [] hp (qb_I qb_sh K)
theorem b_q_brandedAt {x1 : Int} {hp : qb_H} {K : Int → qb_H → Prop} (h : c_q_countBranded x1 (-6) 3000 hp (fun v36 hp36 => K v36 hp36)) : c_q_brandedAt x1 hp K := by
  unfold c_q_brandedAt
  refine qb_aloadn (pc' := 1) (i := 0) dX10_brandedAt_0 rfl rfl rfl ?_
  refine qb_iloadn (pc' := 2) (i := 1) dX10_brandedAt_1 rfl rfl rfl ?_
  refine qb_bipush (pc' := 4) dX10_brandedAt_2 rfl rfl rfl ?_
  refine qb_sipush (pc' := 7) dX10_brandedAt_4 rfl rfl rfl ?_
  refine qb_callVi (pc' := 10) (b := 0) (as := [.inl x1, .inl (-6), .inl 3000]) (rest := []) dX10_brandedAt_7 rfl qe_mX10_brandedAt_mX10_countBranded rfl rfl qb_s0 rfl rfl (Nat.le_of_ble_eq_true rfl) (Nat.le_of_ble_eq_true rfl) ⟨rfl, rfl⟩ h (fun v36 hp36 h => ?_)
  exact qb_reti dX10_brandedAt_10 rfl h
def c_q_bountyAt (x1 : Int) (hp : qb_H) (K : Int → qb_H → Prop) : Prop := qb_R mX10_bountyAt 0 0 qb_sh 0 [qb_a 0, qb_i x1] [] hp (qb_I qb_sh K)
theorem b_q_bountyAt {x1 : Int} {hp : qb_H} {K : Int → qb_H → Prop} (h : c_q_brandedAt x1 hp (fun v38 hp38 => (qb_in ((hp 10 6) * v38)) ∧ K ((hp 10 6) * v38) hp38)) : c_q_bountyAt x1 hp K := by
  unfold c_q_bountyAt
  refine qb_aloadn (pc' := 1) (i := 0) dX10_bountyAt_0 rfl rfl rfl ?_
  refine qb_geta (pc' := 4) dX10_bountyAt_1 rfl qf_X10_23 qb_s0 rfl ?_
  refine qb_bipush (pc' := 6) dX10_bountyAt_4 rfl rfl rfl ?_
  refine qb_iald (pc' := 7) (v := (hp 10 6)) dX10_bountyAt_6 rfl qb_s10 (by decide) (by decide) rfl ?_
  refine qb_aloadn (pc' := 8) (i := 0) dX10_bountyAt_7 rfl rfl rfl ?_
  refine qb_iloadn (pc' := 9) (i := 1) dX10_bountyAt_8 rfl rfl rfl ?_
  refine qb_callVi (pc' := 12) (b := 0) (as := [.inl x1]) (rest := [.inl (hp 10 6)]) dX10_bountyAt_9 rfl qe_mX10_bountyAt_mX10_brandedAt rfl rfl qb_s0 rfl rfl (Nat.le_of_ble_eq_true rfl) (Nat.le_of_ble_eq_true rfl) ⟨rfl, rfl⟩ h (fun v38 hp38 h => ?_)
  obtain ⟨g231, h⟩ := h
  refine qb_imul (pc' := 13) dX10_bountyAt_12 rfl g231 ?_
  exact qb_reti dX10_bountyAt_13 rfl h
def c_la_spoiltOf (x1 : Int) (hp : qb_H) (K : Int → qb_H → Prop) : Prop := qb_R mX7_spoiltOf 0 0 qb_sh 0 [qb_a 11, qb_i x1] [] hp (qb_I qb_sh K)
theorem b_la_spoiltOf {x1 : Int} {hp : qb_H} {K : Int → qb_H → Prop} (h : (0 ≤ x1 ∧ x1 < 30) ∧ (¬ (hp 13 x1) = (-1) → qb_in ((hp 15 x1) - (hp 19 x1))) ∧ K (if (hp 13 x1) = (-1) then (0 : Int) else ((hp 15 x1) - (hp 19 x1))) hp) : c_la_spoiltOf x1 hp K := by
  unfold c_la_spoiltOf
  refine qb_aloadn (pc' := 1) (i := 0) dX7_spoiltOf_0 rfl rfl rfl ?_
  refine qb_geta (pc' := 4) dX7_spoiltOf_1 rfl qf_X7_15 qb_s11 rfl ?_
  refine qb_iloadn (pc' := 5) (i := 1) dX7_spoiltOf_4 rfl rfl rfl ?_
  obtain ⟨g237, h⟩ := h
  refine qb_iald (pc' := 6) (v := (hp 13 x1)) dX7_spoiltOf_5 rfl qb_s13 g237.1 g237.2 rfl ?_
  refine qb_iconst (pc' := 7) dX7_spoiltOf_6 rfl rfl ?_
  obtain ⟨gb, h⟩ := h
  have k98 : qb_R mX7_spoiltOf 0 0 qb_sh 27 [none, none] [.inl (if (hp 13 x1) = (-1) then (0 : Int) else ((hp 15 x1) - (hp 19 x1)))] hp (qb_I qb_sh K) := by
    exact qb_reti dX7_spoiltOf_27 rfl h
  refine qb_cne (tgt := 14) (pc' := 10) dX7_spoiltOf_7 rfl rfl (fun c133 => ?_) (fun c133 => ?_)
  · have h := gb c133
    refine qb_aloadn (pc' := 15) (i := 0) dX7_spoiltOf_14 rfl rfl rfl ?_
    refine qb_geta (pc' := 18) dX7_spoiltOf_15 rfl qf_X7_21 qb_s11 rfl ?_
    refine qb_iloadn (pc' := 19) (i := 1) dX7_spoiltOf_18 rfl rfl rfl ?_
    refine qb_iald (pc' := 20) (v := (hp 15 x1)) dX7_spoiltOf_19 rfl qb_s15 g237.1 g237.2 rfl ?_
    refine qb_aloadn (pc' := 21) (i := 0) dX7_spoiltOf_20 rfl rfl rfl ?_
    refine qb_geta (pc' := 24) dX7_spoiltOf_21 rfl qf_X7_33 qb_s11 rfl ?_
    refine qb_iloadn (pc' := 25) (i := 1) dX7_spoiltOf_24 rfl rfl rfl ?_
    refine qb_iald (pc' := 26) (v := (hp 19 x1)) dX7_spoiltOf_25 rfl qb_s19 g237.1 g237.2 rfl ?_
    have g239 := h
    refine qb_isub (pc' := 27) dX7_spoiltOf_26 rfl g239 ?_
    refine qb_cut (L' := [none, none]) [false, false] rfl ?_
    simpa only [if_neg c133] using k98
  · refine qb_iconst (pc' := 11) dX7_spoiltOf_10 rfl rfl ?_
    refine qb_goto (tgt := 27) dX7_spoiltOf_11 rfl ?_
    refine qb_cut (L' := [none, none]) [false, false] rfl ?_
    simpa only [if_pos c133] using k98
def v_la_spoiltOf (x1 : Int) (hp : qb_H) : Int := (if (hp 13 x1) = (-1) then (0 : Int) else ((hp 15 x1) - (hp 19 x1)))
def g_la_spoiltOf (x1 : Int) (hp : qb_H) : Prop := (0 ≤ x1 ∧ x1 < 30) ∧ (¬ (hp 13 x1) = (-1) → qb_in ((hp 15 x1) - (hp 19 x1)))
theorem s_la_spoiltOf (x1 : Int) (hp : qb_H) (K : Int → qb_H → Prop) (hg : g_la_spoiltOf x1 hp) (hK : K (v_la_spoiltOf x1 hp) hp) : c_la_spoiltOf x1 hp K := by
  refine b_la_spoiltOf ?_
  unfold g_la_spoiltOf at hg
  unfold v_la_spoiltOf at hK
  refine ⟨hg.1, ?_⟩
  have hg := hg.2
  refine ⟨hg, ?_⟩
  exact hK
def c_la_spoiltAt (x1 : Int) (hp : qb_H) (K : Int → qb_H → Prop) : Prop := qb_R mX7_spoiltAt 0 0 qb_sh 0 [qb_a 11, qb_i x1, none, none] [] hp (qb_I qb_sh K)
def r_la_spoiltAt_4 (x1 : Int) (x2 : Int) (x3 : Int) (hp : qb_H) (K : Int → qb_H → Prop) : Prop := qb_R mX7_spoiltAt 0 0 qb_sh 4 [qb_a 11, qb_i x1, qb_i x2, qb_i x3] [] hp (qb_I qb_sh K)
theorem b_la_spoiltAt {x1 : Int} {hp : qb_H} {K : Int → qb_H → Prop} (h : r_la_spoiltAt_4 x1 0 0 hp K) : c_la_spoiltAt x1 hp K := by
  unfold c_la_spoiltAt
  refine qb_iconst (pc' := 1) dX7_spoiltAt_0 rfl rfl ?_
  refine qb_istoren (pc' := 2) (i := 2) (L' := [qb_a 11, qb_i x1, qb_i 0, none]) dX7_spoiltAt_1 rfl rfl (Nat.le_of_ble_eq_true rfl) rfl rfl ?_
  refine qb_iconst (pc' := 3) dX7_spoiltAt_2 rfl rfl ?_
  refine qb_istoren (pc' := 4) (i := 3) (L' := [qb_a 11, qb_i x1, qb_i 0, qb_i 0]) dX7_spoiltAt_3 rfl rfl (Nat.le_of_ble_eq_true rfl) rfl rfl ?_
  refine qb_cut (L' := [qb_a 11, qb_i x1, qb_i 0, qb_i 0]) [true, true, true, true] rfl ?_
  exact h
theorem b_la_spoiltAt_4 {x1 x2 x3 : Int} {hp : qb_H} {K : Int → qb_H → Prop} (h : ((hp 11 13) ≤ x3 → K x2 hp) ∧ (¬ (hp 11 13) ≤ x3 → (0 ≤ x3 ∧ x3 < 30) ∧ ((hp 13 x3) = x1 → (g_la_spoiltOf x3 hp) ∧ qb_in (x2 + (v_la_spoiltOf x3 hp))) ∧ r_la_spoiltAt_4 x1 (if (hp 13 x3) = x1 then (x2 + (v_la_spoiltOf x3 hp)) else x2) (x3 + 1) hp K)) : r_la_spoiltAt_4 x1 x2 x3 hp K := by
  unfold r_la_spoiltAt_4
  refine qb_iloadn (pc' := 5) (i := 3) dX7_spoiltAt_4 rfl rfl rfl ?_
  refine qb_aloadn (pc' := 6) (i := 0) dX7_spoiltAt_5 rfl rfl rfl ?_
  refine qb_geti (pc' := 9) (v := (hp 11 13)) dX7_spoiltAt_6 rfl qf_X7_51 qb_s11 rfl rfl ?_
  refine qb_cge (tgt := 36) (pc' := 12) dX7_spoiltAt_9 rfl rfl (fun c130 => ?_) (fun c130 => ?_)
  · have h := h.1 c130
    refine qb_iloadn (pc' := 37) (i := 2) dX7_spoiltAt_36 rfl rfl rfl ?_
    exact qb_reti dX7_spoiltAt_37 rfl h
  · have h := h.2 c130
    refine qb_aloadn (pc' := 13) (i := 0) dX7_spoiltAt_12 rfl rfl rfl ?_
    refine qb_geta (pc' := 16) dX7_spoiltAt_13 rfl qf_X7_15 qb_s11 rfl ?_
    refine qb_iloadn (pc' := 17) (i := 3) dX7_spoiltAt_16 rfl rfl rfl ?_
    obtain ⟨g233, h⟩ := h
    refine qb_iald (pc' := 18) (v := (hp 13 x3)) dX7_spoiltAt_17 rfl qb_s13 g233.1 g233.2 rfl ?_
    refine qb_iloadn (pc' := 19) (i := 1) dX7_spoiltAt_18 rfl rfl rfl ?_
    obtain ⟨ga, h⟩ := h
    have k99 : qb_R mX7_spoiltAt 0 0 qb_sh 30 [qb_a 11, qb_i x1, qb_i (if (hp 13 x3) = x1 then (x2 + (v_la_spoiltOf x3 hp)) else x2), qb_i x3] [] hp (qb_I qb_sh K) := by
      refine qb_iinc (pc' := 33) (L' := [qb_a 11, qb_i x1, qb_i (if (hp 13 x3) = x1 then (x2 + (v_la_spoiltOf x3 hp)) else x2), qb_i (x3 + 1)]) dX7_spoiltAt_30 rfl rfl (qb_ina g233 (by decide)) (Nat.le_of_ble_eq_true rfl) rfl rfl ?_
      refine qb_goto (tgt := 4) dX7_spoiltAt_33 rfl ?_
      refine qb_cut (L' := [qb_a 11, qb_i x1, qb_i (if (hp 13 x3) = x1 then (x2 + (v_la_spoiltOf x3 hp)) else x2), qb_i (x3 + 1)]) [true, true, true, true] rfl ?_
      exact h
    refine qb_cne (tgt := 30) (pc' := 22) dX7_spoiltAt_19 rfl rfl (fun c131 => ?_) (fun c131 => ?_)
    · refine qb_cut (L' := [qb_a 11, qb_i x1, qb_i x2, qb_i x3]) [true, true, true, true] rfl ?_
      simpa only [if_neg c131] using k99
    · have h := ga c131
      refine qb_iloadn (pc' := 23) (i := 2) dX7_spoiltAt_22 rfl rfl rfl ?_
      refine qb_aloadn (pc' := 24) (i := 0) dX7_spoiltAt_23 rfl rfl rfl ?_
      refine qb_iloadn (pc' := 25) (i := 3) dX7_spoiltAt_24 rfl rfl rfl ?_
      obtain ⟨g242, h⟩ := h
      refine qb_callVi (pc' := 28) (b := 11) (as := [.inl x3]) (rest := [.inl x2]) dX7_spoiltAt_25 rfl qe_mX7_spoiltAt_mX7_spoiltOf rfl rfl qb_s11 rfl rfl (Nat.le_of_ble_eq_true rfl) (Nat.le_of_ble_eq_true rfl) ⟨rfl, rfl⟩ (K := fun vz hpz => (v_la_spoiltOf x3 hp) = vz ∧ hp = hpz) (s_la_spoiltOf x3 hp _ g242 ⟨rfl, rfl⟩) (fun vz hpz ez => ?_)
      obtain ⟨ez1, ez2⟩ := ez
      subst ez1
      subst ez2
      have g243 := h
      refine qb_iadd (pc' := 29) dX7_spoiltAt_28 rfl g243 ?_
      refine qb_istoren (pc' := 30) (i := 2) (L' := [qb_a 11, qb_i x1, qb_i (x2 + (v_la_spoiltOf x3 hp)), qb_i x3]) dX7_spoiltAt_29 rfl rfl (Nat.le_of_ble_eq_true rfl) rfl rfl ?_
      refine qb_cut (L' := [qb_a 11, qb_i x1, qb_i (x2 + (v_la_spoiltOf x3 hp)), qb_i x3]) [true, true, true, true] rfl ?_
      simpa only [if_pos c131] using k99
def c_q_account (x1 : Int) (x2 : Int) (x3 : Int) (hp : qb_H) (K : Int → qb_H → Prop) : Prop := qb_R mX10_account 0 0 qb_sh 0 [qb_a 0, qb_i x1, qb_i x2, qb_i x3] [] hp (qb_I qb_sh K)
theorem b_q_account {x1 x2 x3 : Int} {hp : qb_H} {K : Int → qb_H → Prop} (h : ((v_q_isQuay x1) = 0 → K (-1) hp) ∧ (¬ (v_q_isQuay x1) = 0 → ((v_q_isDay x2) = 0 → K (-2) hp) ∧ (¬ (v_q_isDay x2) = 0 → ((v_q_within x3 0 7) = 0 → K (-2) hp) ∧ (¬ (v_q_within x3 0 7) = 0 → c_q_work hp (fun hp44 => (x3 = 0 → c_q_costsAt x1 x2 hp44 (fun v45 hp45 => K v45 hp45)) ∧ (¬ x3 = 0 → (x3 = 1 → (g_q_wagesAt x1 hp44) ∧ K (v_q_wagesAt x1 hp44) hp44) ∧ (¬ x3 = 1 → (x3 = 2 → c_q_bountyAt x1 hp44 (fun v46 hp46 => K v46 hp46)) ∧ (¬ x3 = 2 → (x3 = 3 → (g_q_barrelsAt x1 hp44) ∧ K (v_q_barrelsAt x1 hp44) hp44) ∧ (¬ x3 = 3 → (x3 = 4 → c_q_brandedAt x1 hp44 (fun v47 hp47 => K v47 hp47)) ∧ (¬ x3 = 4 → (x3 = 5 → c_la_spoiltAt x1 hp44 (fun v48 hp48 => K v48 hp48)) ∧ (¬ x3 = 5 → (x3 = 6 → (0 ≤ x1 ∧ x1 < 4) ∧ (0 ≤ (hp44 24 x1)) ∧ (0 < (hp44 10 1)) ∧ K ((hp44 24 x1) % (hp44 10 1)) hp44) ∧ (¬ x3 = 6 → c_q_costsAt x1 x2 hp44 (fun v49 hp49 => (g_q_wagesAt x1 hp49) ∧ (qb_in (v49 + (v_q_wagesAt x1 hp49))) ∧ c_q_bountyAt x1 hp49 (fun v50 hp50 => (qb_in ((v49 + (v_q_wagesAt x1 hp49)) - v50)) ∧ K ((v49 + (v_q_wagesAt x1 hp49)) - v50) hp50)))))))))))))) : c_q_account x1 x2 x3 hp K := by
  unfold c_q_account
  refine qb_iloadn (pc' := 1) (i := 1) dX10_account_0 rfl rfl rfl ?_
  refine qb_callSi (pc' := 4) (as := [.inl x1]) (rest := []) dX10_account_1 rfl qe_mX10_account_mX10_isQuay rfl rfl rfl (Nat.le_of_ble_eq_true rfl) (Nat.le_of_ble_eq_true rfl) ⟨rfl, rfl⟩ (K := fun vz hpz => (v_q_isQuay x1) = vz ∧ hp = hpz) (s_q_isQuay x1 hp _ trivial ⟨rfl, rfl⟩) (fun vz hpz ez => ?_)
  obtain ⟨ez1, ez2⟩ := ez
  subst ez1
  subst ez2
  refine qb_fne (tgt := 9) (pc' := 7) dX10_account_4 rfl rfl (fun c135 => ?_) (fun c135 => ?_)
  · have h := h.2 c135
    refine qb_iloadn (pc' := 10) (i := 2) dX10_account_9 rfl rfl rfl ?_
    refine qb_callSi (pc' := 13) (as := [.inl x2]) (rest := []) dX10_account_10 rfl qe_mX10_account_mX10_isDay rfl rfl rfl (Nat.le_of_ble_eq_true rfl) (Nat.le_of_ble_eq_true rfl) ⟨rfl, rfl⟩ (K := fun vz hpz => (v_q_isDay x2) = vz ∧ hp = hpz) (s_q_isDay x2 hp _ trivial ⟨rfl, rfl⟩) (fun vz hpz ez => ?_)
    obtain ⟨ez1, ez2⟩ := ez
    subst ez1
    subst ez2
    refine qb_feq (tgt := 26) (pc' := 16) dX10_account_13 rfl rfl (fun c136 => ?_) (fun c136 => ?_)
    · have h := h.1 c136
      refine qb_bipush (pc' := 28) dX10_account_26 rfl rfl rfl ?_
      exact qb_reti dX10_account_28 rfl h
    · have h := h.2 c136
      refine qb_iloadn (pc' := 17) (i := 3) dX10_account_16 rfl rfl rfl ?_
      refine qb_iconst (pc' := 18) dX10_account_17 rfl rfl ?_
      refine qb_bipush (pc' := 20) dX10_account_18 rfl rfl rfl ?_
      refine qb_callSi (pc' := 23) (as := [.inl x3, .inl 0, .inl 7]) (rest := []) dX10_account_20 rfl qe_mX10_account_mX10_within rfl rfl rfl (Nat.le_of_ble_eq_true rfl) (Nat.le_of_ble_eq_true rfl) ⟨rfl, rfl⟩ (K := fun vz hpz => (v_q_within x3 0 7) = vz ∧ hp = hpz) (s_q_within x3 0 7 hp _ trivial ⟨rfl, rfl⟩) (fun vz hpz ez => ?_)
      obtain ⟨ez1, ez2⟩ := ez
      subst ez1
      subst ez2
      refine qb_fne (tgt := 29) (pc' := 26) dX10_account_23 rfl rfl (fun c137 => ?_) (fun c137 => ?_)
      · have h := h.2 c137
        refine qb_aloadn (pc' := 30) (i := 0) dX10_account_29 rfl rfl rfl ?_
        refine qb_callVu (pc' := 33) (b := 0) (as := []) (rest := []) dX10_account_30 rfl qe_mX10_account_mX10_work rfl rfl qb_s0 rfl rfl (Nat.le_of_ble_eq_true rfl) (Nat.le_of_ble_eq_true rfl) ⟨rfl, rfl⟩ h (fun hp44 h => ?_)
        refine qb_iloadn (pc' := 34) (i := 3) dX10_account_33 rfl rfl rfl ?_
        by_cases c138 : x3 = 0
        · have h := h.1 c138
          refine qb_tabj (tgt := 76) dX10_account_34 0 (c138.trans rfl) (by decide) rfl rfl ?_
          refine qb_aloadn (pc' := 77) (i := 0) dX10_account_76 rfl rfl rfl ?_
          refine qb_iloadn (pc' := 78) (i := 1) dX10_account_77 rfl rfl rfl ?_
          refine qb_iloadn (pc' := 79) (i := 2) dX10_account_78 rfl rfl rfl ?_
          refine qb_callVi (pc' := 82) (b := 0) (as := [.inl x1, .inl x2]) (rest := []) dX10_account_79 rfl qe_mX10_account_mX10_costsAt rfl rfl qb_s0 rfl rfl (Nat.le_of_ble_eq_true rfl) (Nat.le_of_ble_eq_true rfl) ⟨rfl, rfl⟩ h (fun v45 hp45 h => ?_)
          exact qb_reti dX10_account_82 rfl h
        · have h := h.2 c138
          by_cases c139 : x3 = 1
          · have h := h.1 c139
            refine qb_tabj (tgt := 83) dX10_account_34 1 (c139.trans rfl) (by decide) rfl rfl ?_
            refine qb_aloadn (pc' := 84) (i := 0) dX10_account_83 rfl rfl rfl ?_
            refine qb_iloadn (pc' := 85) (i := 1) dX10_account_84 rfl rfl rfl ?_
            obtain ⟨g250, h⟩ := h
            refine qb_callVi (pc' := 88) (b := 0) (as := [.inl x1]) (rest := []) dX10_account_85 rfl qe_mX10_account_mX10_wagesAt rfl rfl qb_s0 rfl rfl (Nat.le_of_ble_eq_true rfl) (Nat.le_of_ble_eq_true rfl) ⟨rfl, rfl⟩ (K := fun vz hpz => (v_q_wagesAt x1 hp44) = vz ∧ hp44 = hpz) (s_q_wagesAt x1 hp44 _ g250 ⟨rfl, rfl⟩) (fun vz hpz ez => ?_)
            obtain ⟨ez1, ez2⟩ := ez
            subst ez1
            subst ez2
            exact qb_reti dX10_account_88 rfl h
          · have h := h.2 c139
            by_cases c140 : x3 = 2
            · have h := h.1 c140
              refine qb_tabj (tgt := 89) dX10_account_34 2 (c140.trans rfl) (by decide) rfl rfl ?_
              refine qb_aloadn (pc' := 90) (i := 0) dX10_account_89 rfl rfl rfl ?_
              refine qb_iloadn (pc' := 91) (i := 1) dX10_account_90 rfl rfl rfl ?_
              refine qb_callVi (pc' := 94) (b := 0) (as := [.inl x1]) (rest := []) dX10_account_91 rfl qe_mX10_account_mX10_bountyAt rfl rfl qb_s0 rfl rfl (Nat.le_of_ble_eq_true rfl) (Nat.le_of_ble_eq_true rfl) ⟨rfl, rfl⟩ h (fun v46 hp46 h => ?_)
              exact qb_reti dX10_account_94 rfl h
            · have h := h.2 c140
              by_cases c141 : x3 = 3
              · have h := h.1 c141
                refine qb_tabj (tgt := 95) dX10_account_34 3 (c141.trans rfl) (by decide) rfl rfl ?_
                refine qb_aloadn (pc' := 96) (i := 0) dX10_account_95 rfl rfl rfl ?_
                refine qb_iloadn (pc' := 97) (i := 1) dX10_account_96 rfl rfl rfl ?_
                obtain ⟨g251, h⟩ := h
                refine qb_callVi (pc' := 100) (b := 0) (as := [.inl x1]) (rest := []) dX10_account_97 rfl qe_mX10_account_mX10_barrelsAt rfl rfl qb_s0 rfl rfl (Nat.le_of_ble_eq_true rfl) (Nat.le_of_ble_eq_true rfl) ⟨rfl, rfl⟩ (K := fun vz hpz => (v_q_barrelsAt x1 hp44) = vz ∧ hp44 = hpz) (s_q_barrelsAt x1 hp44 _ g251 ⟨rfl, rfl⟩) (fun vz hpz ez => ?_)
                obtain ⟨ez1, ez2⟩ := ez
                subst ez1
                subst ez2
                exact qb_reti dX10_account_100 rfl h
              · have h := h.2 c141
                by_cases c142 : x3 = 4
                · have h := h.1 c142
                  refine qb_tabj (tgt := 101) dX10_account_34 4 (c142.trans rfl) (by decide) rfl rfl ?_
                  refine qb_aloadn (pc' := 102) (i := 0) dX10_account_101 rfl rfl rfl ?_
                  refine qb_iloadn (pc' := 103) (i := 1) dX10_account_102 rfl rfl rfl ?_
                  refine qb_callVi (pc' := 106) (b := 0) (as := [.inl x1]) (rest := []) dX10_account_103 rfl qe_mX10_account_mX10_brandedAt rfl rfl qb_s0 rfl rfl (Nat.le_of_ble_eq_true rfl) (Nat.le_of_ble_eq_true rfl) ⟨rfl, rfl⟩ h (fun v47 hp47 h => ?_)
                  exact qb_reti dX10_account_106 rfl h
                · have h := h.2 c142
                  by_cases c143 : x3 = 5
                  · have h := h.1 c143
                    refine qb_tabj (tgt := 107) dX10_account_34 5 (c143.trans rfl) (by decide) rfl rfl ?_
                    refine qb_aloadn (pc' := 108) (i := 0) dX10_account_107 rfl rfl rfl ?_
                    refine qb_geta (pc' := 111) dX10_account_108 rfl qf_X10_30 qb_s0 rfl ?_
                    refine qb_iloadn (pc' := 112) (i := 1) dX10_account_111 rfl rfl rfl ?_
                    refine qb_callVi (pc' := 115) (b := 11) (as := [.inl x1]) (rest := []) dX10_account_112 rfl qe_mX10_account_mX7_spoiltAt rfl rfl qb_s11 rfl rfl (Nat.le_of_ble_eq_true rfl) (Nat.le_of_ble_eq_true rfl) ⟨rfl, rfl⟩ h (fun v48 hp48 h => ?_)
                    exact qb_reti dX10_account_115 rfl h
                  · have h := h.2 c143
                    by_cases c144 : x3 = 6
                    · have h := h.1 c144
                      refine qb_tabj (tgt := 116) dX10_account_34 6 (c144.trans rfl) (by decide) rfl rfl ?_
                      refine qb_aloadn (pc' := 117) (i := 0) dX10_account_116 rfl rfl rfl ?_
                      refine qb_geta (pc' := 120) dX10_account_117 rfl qf_X10_30 qb_s0 rfl ?_
                      refine qb_geta (pc' := 123) dX10_account_120 rfl qf_X10_260 qb_s11 rfl ?_
                      refine qb_iloadn (pc' := 124) (i := 1) dX10_account_123 rfl rfl rfl ?_
                      obtain ⟨g252, h⟩ := h
                      refine qb_iald (pc' := 125) (v := (hp44 24 x1)) dX10_account_124 rfl qb_s24 g252.1 g252.2 rfl ?_
                      refine qb_aloadn (pc' := 126) (i := 0) dX10_account_125 rfl rfl rfl ?_
                      refine qb_geta (pc' := 129) dX10_account_126 rfl qf_X10_23 qb_s0 rfl ?_
                      refine qb_iconst (pc' := 130) dX10_account_129 rfl rfl ?_
                      refine qb_iald (pc' := 131) (v := (hp44 10 1)) dX10_account_130 rfl qb_s10 (by decide) (by decide) rfl ?_
                      obtain ⟨g253, h⟩ := h
                      obtain ⟨g254, h⟩ := h
                      refine qb_irem (pc' := 132) dX10_account_131 rfl g253 g254 ?_
                      exact qb_reti dX10_account_132 rfl h
                    · have h := h.2 c144
                      refine qb_tabOut (tgt := 133) dX10_account_34 (qb_sw1 (qb_sw1 (qb_sw1 (qb_sw1 (qb_sw1 (qb_sw1 (qb_sw1 (Int.lt_or_le x3 0) c138) c139) c140) c141) c142) c143) c144) rfl ?_
                      refine qb_aloadn (pc' := 134) (i := 0) dX10_account_133 rfl rfl rfl ?_
                      refine qb_iloadn (pc' := 135) (i := 1) dX10_account_134 rfl rfl rfl ?_
                      refine qb_iloadn (pc' := 136) (i := 2) dX10_account_135 rfl rfl rfl ?_
                      refine qb_callVi (pc' := 139) (b := 0) (as := [.inl x1, .inl x2]) (rest := []) dX10_account_136 rfl qe_mX10_account_mX10_costsAt rfl rfl qb_s0 rfl rfl (Nat.le_of_ble_eq_true rfl) (Nat.le_of_ble_eq_true rfl) ⟨rfl, rfl⟩ h (fun v49 hp49 h => ?_)
                      refine qb_aloadn (pc' := 140) (i := 0) dX10_account_139 rfl rfl rfl ?_
                      refine qb_iloadn (pc' := 141) (i := 1) dX10_account_140 rfl rfl rfl ?_
                      obtain ⟨g255, h⟩ := h
                      refine qb_callVi (pc' := 144) (b := 0) (as := [.inl x1]) (rest := [.inl v49]) dX10_account_141 rfl qe_mX10_account_mX10_wagesAt rfl rfl qb_s0 rfl rfl (Nat.le_of_ble_eq_true rfl) (Nat.le_of_ble_eq_true rfl) ⟨rfl, rfl⟩ (K := fun vz hpz => (v_q_wagesAt x1 hp49) = vz ∧ hp49 = hpz) (s_q_wagesAt x1 hp49 _ g255 ⟨rfl, rfl⟩) (fun vz hpz ez => ?_)
                      obtain ⟨ez1, ez2⟩ := ez
                      subst ez1
                      subst ez2
                      obtain ⟨g256, h⟩ := h
                      refine qb_iadd (pc' := 145) dX10_account_144 rfl g256 ?_
                      refine qb_aloadn (pc' := 146) (i := 0) dX10_account_145 rfl rfl rfl ?_
                      refine qb_iloadn (pc' := 147) (i := 1) dX10_account_146 rfl rfl rfl ?_
                      refine qb_callVi (pc' := 150) (b := 0) (as := [.inl x1]) (rest := [.inl (v49 + (v_q_wagesAt x1 hp49))]) dX10_account_147 rfl qe_mX10_account_mX10_bountyAt rfl rfl qb_s0 rfl rfl (Nat.le_of_ble_eq_true rfl) (Nat.le_of_ble_eq_true rfl) ⟨rfl, rfl⟩ h (fun v50 hp50 h => ?_)
                      obtain ⟨g257, h⟩ := h
                      refine qb_isub (pc' := 151) dX10_account_150 rfl g257 ?_
                      exact qb_reti dX10_account_151 rfl h
      · have h := h.1 c137
        refine qb_bipush (pc' := 28) dX10_account_26 rfl rfl rfl ?_
        exact qb_reti dX10_account_28 rfl h
  · have h := h.1 c135
    refine qb_iconst (pc' := 8) dX10_account_7 rfl rfl ?_
    exact qb_reti dX10_account_8 rfl h
def c_ac_letterOf (x0 : Int) (hp : qb_H) (K : Int → qb_H → Prop) : Prop := qb_R mX0_letterOf 0 0 qb_sh 0 [qb_i x0] [] hp (qb_I qb_sh K)
theorem b_ac_letterOf {x0 : Int} {hp : qb_H} {K : Int → qb_H → Prop} (h : (¬ (v_q_within x0 65 70) = 0 → qb_in (x0 - 65)) ∧ K (if (v_q_within x0 65 70) = 0 then ((-6) : Int) else (x0 - 65)) hp) : c_ac_letterOf x0 hp K := by
  unfold c_ac_letterOf
  refine qb_iloadn (pc' := 1) (i := 0) dX0_letterOf_0 rfl rfl rfl ?_
  refine qb_bipush (pc' := 3) dX0_letterOf_1 rfl rfl rfl ?_
  refine qb_bipush (pc' := 5) dX0_letterOf_3 rfl rfl rfl ?_
  refine qb_callNi (pc' := 8) (as := [.inl x0, .inl 65, .inl 70]) (rest := []) dX0_letterOf_5 rfl qe_mX0_letterOf_mX10_within rfl rfl qst_mX10_within rfl rfl rfl (Nat.le_of_ble_eq_true rfl) (Nat.le_of_ble_eq_true rfl) ⟨rfl, rfl⟩ (K := fun vz hpz => (v_q_within x0 65 70) = vz ∧ hp = hpz) (s_q_within x0 65 70 hp _ trivial ⟨rfl, rfl⟩) (fun vz hpz ez => ?_)
  obtain ⟨ez1, ez2⟩ := ez
  subst ez1
  subst ez2
  obtain ⟨gb, h⟩ := h
  have k102 : qb_R mX0_letterOf 0 0 qb_sh 20 [none] [.inl (if (v_q_within x0 65 70) = 0 then ((-6) : Int) else (x0 - 65))] hp (qb_I qb_sh K) := by
    exact qb_reti dX0_letterOf_20 rfl h
  refine qb_feq (tgt := 18) (pc' := 11) dX0_letterOf_8 rfl rfl (fun c151 => ?_) (fun c151 => ?_)
  · refine qb_bipush (pc' := 20) dX0_letterOf_18 rfl rfl rfl ?_
    refine qb_cut (L' := [none]) [false] rfl ?_
    simpa only [if_pos c151] using k102
  · have h := gb c151
    refine qb_iloadn (pc' := 12) (i := 0) dX0_letterOf_11 rfl rfl rfl ?_
    refine qb_bipush (pc' := 14) dX0_letterOf_12 rfl rfl rfl ?_
    have g262 := h
    refine qb_isub (pc' := 15) dX0_letterOf_14 rfl g262 ?_
    refine qb_goto (tgt := 20) dX0_letterOf_15 rfl ?_
    refine qb_cut (L' := [none]) [false] rfl ?_
    simpa only [if_neg c151] using k102
def v_ac_letterOf (x0 : Int) : Int := (if (v_q_within x0 65 70) = 0 then ((-6) : Int) else (x0 - 65))
def g_ac_letterOf (x0 : Int) : Prop := (¬ (v_q_within x0 65 70) = 0 → qb_in (x0 - 65))
theorem s_ac_letterOf (x0 : Int) (hp : qb_H) (K : Int → qb_H → Prop) (hg : g_ac_letterOf x0) (hK : K (v_ac_letterOf x0) hp) : c_ac_letterOf x0 hp K := by
  refine b_ac_letterOf ?_
  unfold g_ac_letterOf at hg
  unfold v_ac_letterOf at hK
  refine ⟨hg, ?_⟩
  exact hK
def c_dr_isNewLetter (x0 : Int) (x1 : Int) (hp : qb_H) (K : Int → qb_H → Prop) : Prop := qb_R mX3_isNewLetter 0 0 qb_sh 0 [qb_i x0, qb_i x1, none] [] hp (qb_I qb_sh K)
theorem b_dr_isNewLetter {x0 x1 : Int} {hp : qb_H} {K : Int → qb_H → Prop} (h : (g_ac_letterOf x0) ∧ K (if (v_ac_letterOf x0) = (-6) then (0 : Int) else (if (qb_and (qb_shr x1 (v_ac_letterOf x0)) 1) = 0 then (1 : Int) else 0)) hp) : c_dr_isNewLetter x0 x1 hp K := by
  unfold c_dr_isNewLetter
  refine qb_iloadn (pc' := 1) (i := 0) dX3_isNewLetter_0 rfl rfl rfl ?_
  obtain ⟨g264, h⟩ := h
  refine qb_callSi (pc' := 4) (as := [.inl x0]) (rest := []) dX3_isNewLetter_1 rfl qe_mX3_isNewLetter_mX0_letterOf rfl rfl rfl (Nat.le_of_ble_eq_true rfl) (Nat.le_of_ble_eq_true rfl) ⟨rfl, rfl⟩ (K := fun vz hpz => (v_ac_letterOf x0) = vz ∧ hp = hpz) (s_ac_letterOf x0 hp _ g264 ⟨rfl, rfl⟩) (fun vz hpz ez => ?_)
  obtain ⟨ez1, ez2⟩ := ez
  subst ez1
  subst ez2
  refine qb_istoren (pc' := 5) (i := 2) (L' := [qb_i x0, qb_i x1, qb_i (v_ac_letterOf x0)]) dX3_isNewLetter_4 rfl rfl (Nat.le_of_ble_eq_true rfl) rfl rfl ?_
  refine qb_iloadn (pc' := 6) (i := 2) dX3_isNewLetter_5 rfl rfl rfl ?_
  refine qb_bipush (pc' := 8) dX3_isNewLetter_6 rfl rfl rfl ?_
  have k107 : qb_R mX3_isNewLetter 0 0 qb_sh 24 [none, none, none] [.inl (if (v_ac_letterOf x0) = (-6) then (0 : Int) else (if (qb_and (qb_shr x1 (v_ac_letterOf x0)) 1) = 0 then (1 : Int) else 0))] hp (qb_I qb_sh K) := by
    exact qb_retz dX3_isNewLetter_24 rfl (by (repeat' split) <;> first | exact Or.inl rfl | exact Or.inr rfl) h
  refine qb_ceq (tgt := 23) (pc' := 11) dX3_isNewLetter_8 rfl rfl (fun c155 => ?_) (fun c155 => ?_)
  · refine qb_iconst (pc' := 24) dX3_isNewLetter_23 rfl rfl ?_
    refine qb_cut (L' := [none, none, none]) [false, false, false] rfl ?_
    simpa only [if_pos c155] using k107
  · refine qb_iloadn (pc' := 12) (i := 1) dX3_isNewLetter_11 rfl rfl rfl ?_
    refine qb_iloadn (pc' := 13) (i := 2) dX3_isNewLetter_12 rfl rfl rfl ?_
    refine qb_ishr (pc' := 14) dX3_isNewLetter_13 rfl ?_
    refine qb_iconst (pc' := 15) dX3_isNewLetter_14 rfl rfl ?_
    refine qb_iand (pc' := 16) dX3_isNewLetter_15 rfl ?_
    have k108 : qb_R mX3_isNewLetter 0 0 qb_sh 24 [none, none, none] [.inl (if (qb_and (qb_shr x1 (v_ac_letterOf x0)) 1) = 0 then (1 : Int) else 0)] hp (qb_I qb_sh K) := by
      refine qb_cut (L' := [none, none, none]) [false, false, false] rfl ?_
      simpa only [if_neg c155] using k107
    refine qb_fne (tgt := 23) (pc' := 19) dX3_isNewLetter_16 rfl rfl (fun c157 => ?_) (fun c157 => ?_)
    · refine qb_iconst (pc' := 24) dX3_isNewLetter_23 rfl rfl ?_
      refine qb_cut (L' := [none, none, none]) [false, false, false] rfl ?_
      simpa only [if_neg c157] using k108
    · refine qb_iconst (pc' := 20) dX3_isNewLetter_19 rfl rfl ?_
      refine qb_goto (tgt := 24) dX3_isNewLetter_20 rfl ?_
      refine qb_cut (L' := [none, none, none]) [false, false, false] rfl ?_
      simpa only [if_pos c157] using k108
def v_dr_isNewLetter (x0 : Int) (x1 : Int) : Int := (if (v_ac_letterOf x0) = (-6) then (0 : Int) else (if (qb_and (qb_shr x1 (v_ac_letterOf x0)) 1) = 0 then (1 : Int) else 0))
theorem vb_dr_isNewLetter (x0 : Int) (x1 : Int) : v_dr_isNewLetter x0 x1 = 0 ∨ v_dr_isNewLetter x0 x1 = 1 := by
  unfold v_dr_isNewLetter
  (repeat' split) <;> first | exact Or.inl rfl | exact Or.inr rfl
def g_dr_isNewLetter (x0 : Int) (x1 : Int) : Prop := g_ac_letterOf x0
theorem s_dr_isNewLetter (x0 : Int) (x1 : Int) (hp : qb_H) (K : Int → qb_H → Prop) (hg : g_dr_isNewLetter x0 x1) (hK : K (v_dr_isNewLetter x0 x1) hp) : c_dr_isNewLetter x0 x1 hp K := by
  refine b_dr_isNewLetter ?_
  unfold g_dr_isNewLetter at hg
  unfold v_dr_isNewLetter at hK
  refine ⟨hg, ?_⟩
  exact hK
def c_ac_factOf (x0 : Int) (hp : qb_H) (K : Int → qb_H → Prop) : Prop := qb_R mX0_factOf 0 0 qb_sh 0 [qb_i x0] [] hp (qb_I qb_sh K)
theorem b_ac_factOf {x0 : Int} {hp : qb_H} {K : Int → qb_H → Prop} (h : (x0 = 104 → K 0 hp) ∧ (¬ x0 = 104 → (x0 = 113 → K 4 hp) ∧ (¬ x0 = 113 → (x0 = 115 → K 2 hp) ∧ (¬ x0 = 115 → (x0 = 116 → K 1 hp) ∧ (¬ x0 = 116 → (x0 = 122 → K 3 hp) ∧ (¬ x0 = 122 → K (-6) hp)))))) : c_ac_factOf x0 hp K := by
  unfold c_ac_factOf
  refine qb_iloadn (pc' := 1) (i := 0) dX0_factOf_0 rfl rfl rfl ?_
  by_cases c167 : x0 = 104
  · have h := h.1 c167
    refine qb_lookup (tgt := 52) dX0_factOf_1 rfl (qb_lk1 c167) rfl ?_
    refine qb_iconst (pc' := 53) dX0_factOf_52 rfl rfl ?_
    exact qb_reti dX0_factOf_53 rfl h
  · have h := h.2 c167
    by_cases c168 : x0 = 113
    · have h := h.1 c168
      refine qb_lookup (tgt := 60) dX0_factOf_1 rfl (qb_lk2 c167 (qb_lk1 c168)) rfl ?_
      refine qb_iconst (pc' := 61) dX0_factOf_60 rfl rfl ?_
      exact qb_reti dX0_factOf_61 rfl h
    · have h := h.2 c168
      by_cases c169 : x0 = 115
      · have h := h.1 c169
        refine qb_lookup (tgt := 56) dX0_factOf_1 rfl (qb_lk2 c167 (qb_lk2 c168 (qb_lk1 c169))) rfl ?_
        refine qb_iconst (pc' := 57) dX0_factOf_56 rfl rfl ?_
        exact qb_reti dX0_factOf_57 rfl h
      · have h := h.2 c169
        by_cases c170 : x0 = 116
        · have h := h.1 c170
          refine qb_lookup (tgt := 54) dX0_factOf_1 rfl (qb_lk2 c167 (qb_lk2 c168 (qb_lk2 c169 (qb_lk1 c170)))) rfl ?_
          refine qb_iconst (pc' := 55) dX0_factOf_54 rfl rfl ?_
          exact qb_reti dX0_factOf_55 rfl h
        · have h := h.2 c170
          by_cases c171 : x0 = 122
          · have h := h.1 c171
            refine qb_lookup (tgt := 58) dX0_factOf_1 rfl (qb_lk2 c167 (qb_lk2 c168 (qb_lk2 c169 (qb_lk2 c170 (qb_lk1 c171))))) rfl ?_
            refine qb_iconst (pc' := 59) dX0_factOf_58 rfl rfl ?_
            exact qb_reti dX0_factOf_59 rfl h
          · have h := h.2 c171
            refine qb_lookup (tgt := 62) dX0_factOf_1 rfl (qb_lk2 c167 (qb_lk2 c168 (qb_lk2 c169 (qb_lk2 c170 (qb_lk2 c171 rfl))))) rfl ?_
            refine qb_bipush (pc' := 64) dX0_factOf_62 rfl rfl rfl ?_
            exact qb_reti dX0_factOf_64 rfl h
def v_ac_factOf (x0 : Int) : Int := (if x0 = 104 then (0 : Int) else (if x0 = 113 then (4 : Int) else (if x0 = 115 then (2 : Int) else (if x0 = 116 then (1 : Int) else (if x0 = 122 then (3 : Int) else (-6))))))
theorem s_ac_factOf (x0 : Int) (hp : qb_H) (K : Int → qb_H → Prop) (hg : True) (hK : K (v_ac_factOf x0) hp) : c_ac_factOf x0 hp K := by
  refine b_ac_factOf ?_
  unfold v_ac_factOf at hK
  refine ⟨fun c172 => ?_, fun c172 => ?_⟩
  · simpa only [if_pos c172] using hK
  · refine ⟨fun c173 => ?_, fun c173 => ?_⟩
    · simpa only [if_neg c172, if_pos c173] using hK
    · refine ⟨fun c174 => ?_, fun c174 => ?_⟩
      · simpa only [if_neg c172, if_neg c173, if_pos c174] using hK
      · refine ⟨fun c175 => ?_, fun c175 => ?_⟩
        · simpa only [if_neg c172, if_neg c173, if_neg c174, if_pos c175] using hK
        · refine ⟨fun c176 => ?_, fun c176 => ?_⟩
          · simpa only [if_neg c172, if_neg c173, if_neg c174, if_neg c175, if_pos c176] using hK
          · simpa only [if_neg c172, if_neg c173, if_neg c174, if_neg c175, if_neg c176] using hK
