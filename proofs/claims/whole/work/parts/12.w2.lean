/-! walks by program -/
def c_la_waiting (hp : qb_H) (K : Int → qb_H → Prop) : Prop := qb_R mX7_waiting 0 0 qb_sh 0 [qb_a 11, none, none] [] hp (qb_I qb_sh K)
def r_la_waiting_4 (x1 : Int) (x2 : Int) (hp : qb_H) (K : Int → qb_H → Prop) : Prop := qb_R mX7_waiting 0 0 qb_sh 4 [qb_a 11, qb_i x1, qb_i x2] [] hp (qb_I qb_sh K)
theorem b_la_waiting {hp : qb_H} {K : Int → qb_H → Prop} (h : r_la_waiting_4 0 0 hp K) : c_la_waiting hp K := by
  unfold c_la_waiting
  refine qb_iconst (pc' := 1) dX7_waiting_0 rfl rfl ?_
  refine qb_istoren (pc' := 2) (i := 1) (L' := [qb_a 11, qb_i 0, none]) dX7_waiting_1 rfl rfl (Nat.le_of_ble_eq_true rfl) rfl rfl ?_
  refine qb_iconst (pc' := 3) dX7_waiting_2 rfl rfl ?_
  refine qb_istoren (pc' := 4) (i := 2) (L' := [qb_a 11, qb_i 0, qb_i 0]) dX7_waiting_3 rfl rfl (Nat.le_of_ble_eq_true rfl) rfl rfl ?_
  refine qb_cut (L' := [qb_a 11, qb_i 0, qb_i 0]) [true, true, true] rfl ?_
  exact h
theorem b_la_waiting_4 {x1 x2 : Int} {hp : qb_H} {K : Int → qb_H → Prop} (h : ((hp 11 13) ≤ x2 → K x1 hp) ∧ (¬ (hp 11 13) ≤ x2 → (0 ≤ x2 ∧ x2 < 30) ∧ ((hp 13 x2) = (-1) → qb_in (x1 + 1)) ∧ (∀ (y125 : Int), y125 = (if (hp 13 x2) = (-1) then (x1 + 1) else x1) → r_la_waiting_4 y125 (x2 + 1) hp K))) : r_la_waiting_4 x1 x2 hp K := by
  unfold r_la_waiting_4
  refine qb_iloadn (pc' := 5) (i := 2) dX7_waiting_4 rfl rfl rfl ?_
  refine qb_aloadn (pc' := 6) (i := 0) dX7_waiting_5 rfl rfl rfl ?_
  refine qb_geti (pc' := 9) (v := (hp 11 13)) dX7_waiting_6 rfl qf_X7_51 qb_s11 rfl rfl ?_
  refine qb_cge (tgt := 31) (pc' := 12) dX7_waiting_9 rfl rfl (fun c452 => ?_) (fun c452 => ?_)
  · have h := h.1 c452
    refine qb_iloadn (pc' := 32) (i := 1) dX7_waiting_31 rfl rfl rfl ?_
    exact qb_reti dX7_waiting_32 rfl h
  · have h := h.2 c452
    refine qb_aloadn (pc' := 13) (i := 0) dX7_waiting_12 rfl rfl rfl ?_
    refine qb_geta (pc' := 16) dX7_waiting_13 rfl qf_X7_15 qb_s11 rfl ?_
    refine qb_iloadn (pc' := 17) (i := 2) dX7_waiting_16 rfl rfl rfl ?_
    obtain ⟨g1036, h⟩ := h
    refine qb_iald (pc' := 18) (v := (hp 13 x2)) dX7_waiting_17 rfl qb_s13 g1036.1 g1036.2 rfl ?_
    refine qb_iconst (pc' := 19) dX7_waiting_18 rfl rfl ?_
    obtain ⟨ga, h⟩ := h
    have k243 : ∀ (y125 : Int), y125 = (if (hp 13 x2) = (-1) then (x1 + 1) else x1) → qb_R mX7_waiting 0 0 qb_sh 25 [qb_a 11, qb_i y125, qb_i x2] [] hp (qb_I qb_sh K) := by
      intro y125 ey125
      have h := h y125 ey125
      refine qb_iinc (pc' := 28) (L' := [qb_a 11, qb_i y125, qb_i (x2 + 1)]) dX7_waiting_25 rfl rfl (qb_ina g1036 (by decide)) (Nat.le_of_ble_eq_true rfl) rfl rfl ?_
      refine qb_goto (tgt := 4) dX7_waiting_28 rfl ?_
      refine qb_cut (L' := [qb_a 11, qb_i y125, qb_i (x2 + 1)]) [true, true, true] rfl ?_
      exact h
    refine qb_cne (tgt := 25) (pc' := 22) dX7_waiting_19 rfl rfl (fun c453 => ?_) (fun c453 => ?_)
    · refine qb_cut (L' := [qb_a 11, qb_i x1, qb_i x2]) [true, true, true] rfl ?_
      exact k243 _ (if_neg c453).symm
    · have h := ga c453
      have g1038 := h
      refine qb_iinc (pc' := 25) (L' := [qb_a 11, qb_i (x1 + 1), qb_i x2]) dX7_waiting_22 rfl rfl g1038 (Nat.le_of_ble_eq_true rfl) rfl rfl ?_
      refine qb_cut (L' := [qb_a 11, qb_i (x1 + 1), qb_i x2]) [true, true, true] rfl ?_
      exact k243 _ (if_pos c453).symm
def c_la_add (x1 : Int) (x2 : Int) (x3 : Int) (x4 : Int) (x5 : Int) (hp : qb_H) (K : Int → qb_H → Prop) : Prop := qb_R mX7_add 0 0 qb_sh 0 [qb_a 11, qb_i x1, qb_i x2, qb_i x3, qb_i x4, qb_i x5, none, none] [] hp (qb_I qb_sh K)
def r_la_add_52 (x3 : Int) (x6 : Int) (x7 : Int) (hp : qb_H) (K : Int → qb_H → Prop) : Prop := qb_R mX7_add 0 0 qb_sh 52 [qb_a 11, none, none, qb_i x3, none, none, qb_i x6, qb_i x7] [] hp (qb_I qb_sh K)
theorem b_la_add {x1 x2 x3 x4 x5 : Int} {hp : qb_H} {K : Int → qb_H → Prop} (h : (0 ≤ (hp 11 13) ∧ (hp 11 13) < 30) ∧ r_la_add_52 x3 (hp 11 13) (hp 11 13) (qb_st (qb_st (qb_st (qb_st (qb_st hp 12 (hp 11 13) x1) 13 (hp 11 13) x2) 14 (hp 11 13) x3) 15 (hp 11 13) x4) 16 (hp 11 13) x5) K) : c_la_add x1 x2 x3 x4 x5 hp K := by
  unfold c_la_add
  refine qb_aloadn (pc' := 1) (i := 0) dX7_add_0 rfl rfl rfl ?_
  refine qb_geti (pc' := 4) (v := (hp 11 13)) dX7_add_1 rfl qf_X7_51 qb_s11 rfl rfl ?_
  refine qb_istore (pc' := 6) (L' := [qb_a 11, qb_i x1, qb_i x2, qb_i x3, qb_i x4, qb_i x5, qb_i (hp 11 13), none]) dX7_add_4 rfl (Nat.le_of_ble_eq_true rfl) rfl rfl ?_
  refine qb_aloadn (pc' := 7) (i := 0) dX7_add_6 rfl rfl rfl ?_
  refine qb_geta (pc' := 10) dX7_add_7 rfl qf_X7_9 qb_s11 rfl ?_
  refine qb_iload (pc' := 12) dX7_add_10 rfl rfl ?_
  refine qb_iloadn (pc' := 13) (i := 1) dX7_add_12 rfl rfl rfl ?_
  obtain ⟨g1040, h⟩ := h
  refine qb_iast (pc' := 14) dX7_add_13 rfl qb_s12 g1040.1 g1040.2 ?_
  refine qb_aloadn (pc' := 15) (i := 0) dX7_add_14 rfl rfl rfl ?_
  refine qb_geta (pc' := 18) dX7_add_15 rfl qf_X7_15 qb_s11 rfl ?_
  refine qb_iload (pc' := 20) dX7_add_18 rfl rfl ?_
  refine qb_iloadn (pc' := 21) (i := 2) dX7_add_20 rfl rfl rfl ?_
  refine qb_iast (pc' := 22) dX7_add_21 rfl qb_s13 g1040.1 g1040.2 ?_
  refine qb_aloadn (pc' := 23) (i := 0) dX7_add_22 rfl rfl rfl ?_
  refine qb_geta (pc' := 26) dX7_add_23 rfl qf_X7_18 qb_s11 rfl ?_
  refine qb_iload (pc' := 28) dX7_add_26 rfl rfl ?_
  refine qb_iloadn (pc' := 29) (i := 3) dX7_add_28 rfl rfl rfl ?_
  refine qb_iast (pc' := 30) dX7_add_29 rfl qb_s14 g1040.1 g1040.2 ?_
  refine qb_aloadn (pc' := 31) (i := 0) dX7_add_30 rfl rfl rfl ?_
  refine qb_geta (pc' := 34) dX7_add_31 rfl qf_X7_21 qb_s11 rfl ?_
  refine qb_iload (pc' := 36) dX7_add_34 rfl rfl ?_
  refine qb_iload (pc' := 38) dX7_add_36 rfl rfl ?_
  refine qb_iast (pc' := 39) dX7_add_38 rfl qb_s15 g1040.1 g1040.2 ?_
  refine qb_aloadn (pc' := 40) (i := 0) dX7_add_39 rfl rfl rfl ?_
  refine qb_geta (pc' := 43) dX7_add_40 rfl qf_X7_24 qb_s11 rfl ?_
  refine qb_iload (pc' := 45) dX7_add_43 rfl rfl ?_
  refine qb_iload (pc' := 47) dX7_add_45 rfl rfl ?_
  refine qb_iast (pc' := 48) dX7_add_47 rfl qb_s16 g1040.1 g1040.2 ?_
  refine qb_iload (pc' := 50) dX7_add_48 rfl rfl ?_
  refine qb_istore (pc' := 52) (L' := [qb_a 11, qb_i x1, qb_i x2, qb_i x3, qb_i x4, qb_i x5, qb_i (hp 11 13), qb_i (hp 11 13)]) dX7_add_50 rfl (Nat.le_of_ble_eq_true rfl) rfl rfl ?_
  refine qb_cut (L' := [qb_a 11, none, none, qb_i x3, none, none, qb_i (hp 11 13), qb_i (hp 11 13)]) [true, false, false, true, false, false, true, true] rfl ?_
  exact h
theorem b_la_add_52 {x3 x6 x7 : Int} {hp : qb_H} {K : Int → qb_H → Prop} (h : (x7 ≤ 0 → (0 ≤ x7 ∧ x7 < 30) ∧ (qb_in ((hp 11 13) + 1)) ∧ K x6 (qb_st (qb_st hp 17 x7 x6) 11 13 ((hp 11 13) + 1))) ∧ (¬ x7 ≤ 0 → (qb_in (x7 - 1)) ∧ (0 ≤ (x7 - 1) ∧ (x7 - 1) < 30) ∧ (0 ≤ (hp 17 (x7 - 1)) ∧ (hp 17 (x7 - 1)) < 30) ∧ (((hp 14 (hp 17 (x7 - 1))) ≤ x3 → (0 ≤ x7 ∧ x7 < 30) ∧ (qb_in ((hp 11 13) + 1)) ∧ K x6 (qb_st (qb_st hp 17 x7 x6) 11 13 ((hp 11 13) + 1))) ∧ (¬ (hp 14 (hp 17 (x7 - 1))) ≤ x3 → (0 ≤ x7 ∧ x7 < 30) ∧ r_la_add_52 x3 x6 (x7 + (-1)) (qb_st hp 17 x7 (hp 17 (x7 - 1))) K)))) : r_la_add_52 x3 x6 x7 hp K := by
  unfold r_la_add_52
  refine qb_iload (pc' := 54) dX7_add_52 rfl rfl ?_
  refine qb_fle (tgt := 97) (pc' := 57) dX7_add_54 rfl rfl (fun c455 => ?_) (fun c455 => ?_)
  · have h := h.1 c455
    refine qb_aloadn (pc' := 98) (i := 0) dX7_add_97 rfl rfl rfl ?_
    refine qb_geta (pc' := 101) dX7_add_98 rfl qf_X7_27 qb_s11 rfl ?_
    refine qb_iload (pc' := 103) dX7_add_101 rfl rfl ?_
    refine qb_iload (pc' := 105) dX7_add_103 rfl rfl ?_
    obtain ⟨g1041, h⟩ := h
    refine qb_iast (pc' := 106) dX7_add_105 rfl qb_s17 g1041.1 g1041.2 ?_
    refine qb_aloadn (pc' := 107) (i := 0) dX7_add_106 rfl rfl rfl ?_
    refine qb_dup (pc' := 108) dX7_add_107 rfl rfl ?_
    refine qb_geti (pc' := 111) (v := (hp 11 13)) dX7_add_108 rfl qf_X7_51 qb_s11 rfl (qb_rdn rfl rfl) ?_
    refine qb_iconst (pc' := 112) dX7_add_111 rfl rfl ?_
    obtain ⟨g1042, h⟩ := h
    refine qb_iadd (pc' := 113) dX7_add_112 rfl g1042 ?_
    refine qb_puti (pc' := 116) (hp' := (qb_st (qb_st hp 17 x7 x6) 11 13 ((hp 11 13) + 1))) dX7_add_113 rfl qf_X7_51 (Or.inl rfl) qb_s11 rfl rfl ?_
    refine qb_iload (pc' := 118) dX7_add_116 rfl rfl ?_
    exact qb_reti dX7_add_118 rfl h
  · have h := h.2 c455
    refine qb_aloadn (pc' := 58) (i := 0) dX7_add_57 rfl rfl rfl ?_
    refine qb_geta (pc' := 61) dX7_add_58 rfl qf_X7_18 qb_s11 rfl ?_
    refine qb_aloadn (pc' := 62) (i := 0) dX7_add_61 rfl rfl rfl ?_
    refine qb_geta (pc' := 65) dX7_add_62 rfl qf_X7_27 qb_s11 rfl ?_
    refine qb_iload (pc' := 67) dX7_add_65 rfl rfl ?_
    refine qb_iconst (pc' := 68) dX7_add_67 rfl rfl ?_
    obtain ⟨g1043, h⟩ := h
    refine qb_isub (pc' := 69) dX7_add_68 rfl g1043 ?_
    obtain ⟨g1044, h⟩ := h
    refine qb_iald (pc' := 70) (v := (hp 17 (x7 - 1))) dX7_add_69 rfl qb_s17 g1044.1 g1044.2 rfl ?_
    obtain ⟨g1045, h⟩ := h
    refine qb_iald (pc' := 71) (v := (hp 14 (hp 17 (x7 - 1)))) dX7_add_70 rfl qb_s14 g1045.1 g1045.2 rfl ?_
    refine qb_iloadn (pc' := 72) (i := 3) dX7_add_71 rfl rfl rfl ?_
    refine qb_cle (tgt := 97) (pc' := 75) dX7_add_72 rfl rfl (fun c456 => ?_) (fun c456 => ?_)
    · have h := h.1 c456
      refine qb_aloadn (pc' := 98) (i := 0) dX7_add_97 rfl rfl rfl ?_
      refine qb_geta (pc' := 101) dX7_add_98 rfl qf_X7_27 qb_s11 rfl ?_
      refine qb_iload (pc' := 103) dX7_add_101 rfl rfl ?_
      refine qb_iload (pc' := 105) dX7_add_103 rfl rfl ?_
      obtain ⟨g1046, h⟩ := h
      refine qb_iast (pc' := 106) dX7_add_105 rfl qb_s17 g1046.1 g1046.2 ?_
      refine qb_aloadn (pc' := 107) (i := 0) dX7_add_106 rfl rfl rfl ?_
      refine qb_dup (pc' := 108) dX7_add_107 rfl rfl ?_
      refine qb_geti (pc' := 111) (v := (hp 11 13)) dX7_add_108 rfl qf_X7_51 qb_s11 rfl (qb_rdn rfl rfl) ?_
      refine qb_iconst (pc' := 112) dX7_add_111 rfl rfl ?_
      obtain ⟨g1047, h⟩ := h
      refine qb_iadd (pc' := 113) dX7_add_112 rfl g1047 ?_
      refine qb_puti (pc' := 116) (hp' := (qb_st (qb_st hp 17 x7 x6) 11 13 ((hp 11 13) + 1))) dX7_add_113 rfl qf_X7_51 (Or.inl rfl) qb_s11 rfl rfl ?_
      refine qb_iload (pc' := 118) dX7_add_116 rfl rfl ?_
      exact qb_reti dX7_add_118 rfl h
    · have h := h.2 c456
      refine qb_aloadn (pc' := 76) (i := 0) dX7_add_75 rfl rfl rfl ?_
      refine qb_geta (pc' := 79) dX7_add_76 rfl qf_X7_27 qb_s11 rfl ?_
      refine qb_iload (pc' := 81) dX7_add_79 rfl rfl ?_
      refine qb_aloadn (pc' := 82) (i := 0) dX7_add_81 rfl rfl rfl ?_
      refine qb_geta (pc' := 85) dX7_add_82 rfl qf_X7_27 qb_s11 rfl ?_
      refine qb_iload (pc' := 87) dX7_add_85 rfl rfl ?_
      refine qb_iconst (pc' := 88) dX7_add_87 rfl rfl ?_
      refine qb_isub (pc' := 89) dX7_add_88 rfl g1043 ?_
      refine qb_iald (pc' := 90) (v := (hp 17 (x7 - 1))) dX7_add_89 rfl qb_s17 g1044.1 g1044.2 rfl ?_
      obtain ⟨g1048, h⟩ := h
      refine qb_iast (pc' := 91) dX7_add_90 rfl qb_s17 g1048.1 g1048.2 ?_
      refine qb_iinc (pc' := 94) (L' := [qb_a 11, none, none, qb_i x3, none, none, qb_i x6, qb_i (x7 + (-1))]) dX7_add_91 rfl rfl (qb_ina g1048 (by decide)) (Nat.le_of_ble_eq_true rfl) rfl rfl ?_
      refine qb_goto (tgt := 52) dX7_add_94 rfl ?_
      refine qb_cut (L' := [qb_a 11, none, none, qb_i x3, none, none, qb_i x6, qb_i (x7 + (-1))]) [true, false, false, true, false, false, true, true] rfl ?_
      exact h
def c_q_land (x1 : Int) (x2 : Int) (x3 : Int) (x4 : Int) (x5 : Int) (hp : qb_H) (K : Int → qb_H → Prop) : Prop := qb_R mX10_land 0 0 qb_sh 0 [qb_a 0, qb_i x1, qb_i x2, qb_i x3, qb_i x4, qb_i x5] [] hp (qb_I qb_sh K)
theorem b_q_land {x1 x2 x3 x4 x5 : Int} {hp : qb_H} {K : Int → qb_H → Prop} (h : ((v_q_isBoat x1) = 0 → K (-1) hp) ∧ (¬ (v_q_isBoat x1) = 0 → ((v_q_isQuayOrNone x2) = 0 → K (-1) hp) ∧ (¬ (v_q_isQuayOrNone x2) = 0 → ((v_q_isHour x3) = 0 → K (-2) hp) ∧ (¬ (v_q_isHour x3) = 0 → ((v_q_within x4 1 20000) = 0 → K (-2) hp) ∧ (¬ (v_q_within x4 1 20000) = 0 → ((v_q_within x5 1 9) = 0 → K (-2) hp) ∧ (¬ (v_q_within x5 1 9) = 0 → ((hp 11 13) < 30 → (x2 = (-1) → c_la_waiting hp (fun v129 hp129 => (v129 < 5 → c_la_add x1 x2 x3 x4 x5 hp129 (fun v130 hp130 => K v130 hp130)) ∧ (¬ v129 < 5 → K (-5) hp129))) ∧ (¬ x2 = (-1) → c_la_add x1 x2 x3 x4 x5 hp (fun v131 hp131 => K v131 hp131))) ∧ (¬ (hp 11 13) < 30 → K (-4) hp))))))) : c_q_land x1 x2 x3 x4 x5 hp K := by
  unfold c_q_land
  refine qb_iloadn (pc' := 1) (i := 1) dX10_land_0 rfl rfl rfl ?_
  refine qb_callSi (pc' := 4) (as := [.inl x1]) (rest := []) dX10_land_1 rfl qe_mX10_land_mX10_isBoat rfl rfl rfl (Nat.le_of_ble_eq_true rfl) (Nat.le_of_ble_eq_true rfl) ⟨rfl, rfl⟩ (K := fun vz hpz => (v_q_isBoat x1) = vz ∧ hp = hpz) (s_q_isBoat x1 hp _ trivial ⟨rfl, rfl⟩) (fun vz hpz ez => ?_)
  obtain ⟨ez1, ez2⟩ := ez
  subst ez1
  subst ez2
  refine qb_feq (tgt := 14) (pc' := 7) dX10_land_4 rfl rfl (fun c457 => ?_) (fun c457 => ?_)
  · have h := h.1 c457
    refine qb_iconst (pc' := 15) dX10_land_14 rfl rfl ?_
    exact qb_reti dX10_land_15 rfl h
  · have h := h.2 c457
    refine qb_iloadn (pc' := 8) (i := 2) dX10_land_7 rfl rfl rfl ?_
    refine qb_callSi (pc' := 11) (as := [.inl x2]) (rest := []) dX10_land_8 rfl qe_mX10_land_mX10_isQuayOrNone rfl rfl rfl (Nat.le_of_ble_eq_true rfl) (Nat.le_of_ble_eq_true rfl) ⟨rfl, rfl⟩ (K := fun vz hpz => (v_q_isQuayOrNone x2) = vz ∧ hp = hpz) (s_q_isQuayOrNone x2 hp _ trivial ⟨rfl, rfl⟩) (fun vz hpz ez => ?_)
    obtain ⟨ez1, ez2⟩ := ez
    subst ez1
    subst ez2
    refine qb_fne (tgt := 16) (pc' := 14) dX10_land_11 rfl rfl (fun c458 => ?_) (fun c458 => ?_)
    · have h := h.2 c458
      refine qb_iloadn (pc' := 17) (i := 3) dX10_land_16 rfl rfl rfl ?_
      refine qb_callSi (pc' := 20) (as := [.inl x3]) (rest := []) dX10_land_17 rfl qe_mX10_land_mX10_isHour rfl rfl rfl (Nat.le_of_ble_eq_true rfl) (Nat.le_of_ble_eq_true rfl) ⟨rfl, rfl⟩ (K := fun vz hpz => (v_q_isHour x3) = vz ∧ hp = hpz) (s_q_isHour x3 hp _ trivial ⟨rfl, rfl⟩) (fun vz hpz ez => ?_)
      obtain ⟨ez1, ez2⟩ := ez
      subst ez1
      subst ez2
      refine qb_feq (tgt := 46) (pc' := 23) dX10_land_20 rfl rfl (fun c459 => ?_) (fun c459 => ?_)
      · have h := h.1 c459
        refine qb_bipush (pc' := 48) dX10_land_46 rfl rfl rfl ?_
        exact qb_reti dX10_land_48 rfl h
      · have h := h.2 c459
        refine qb_iload (pc' := 25) dX10_land_23 rfl rfl ?_
        refine qb_iconst (pc' := 26) dX10_land_25 rfl rfl ?_
        refine qb_sipush (pc' := 29) dX10_land_26 rfl rfl rfl ?_
        refine qb_callSi (pc' := 32) (as := [.inl x4, .inl 1, .inl 20000]) (rest := []) dX10_land_29 rfl qe_mX10_land_mX10_within rfl rfl rfl (Nat.le_of_ble_eq_true rfl) (Nat.le_of_ble_eq_true rfl) ⟨rfl, rfl⟩ (K := fun vz hpz => (v_q_within x4 1 20000) = vz ∧ hp = hpz) (s_q_within x4 1 20000 hp _ trivial ⟨rfl, rfl⟩) (fun vz hpz ez => ?_)
        obtain ⟨ez1, ez2⟩ := ez
        subst ez1
        subst ez2
        refine qb_feq (tgt := 46) (pc' := 35) dX10_land_32 rfl rfl (fun c460 => ?_) (fun c460 => ?_)
        · have h := h.1 c460
          refine qb_bipush (pc' := 48) dX10_land_46 rfl rfl rfl ?_
          exact qb_reti dX10_land_48 rfl h
        · have h := h.2 c460
          refine qb_iload (pc' := 37) dX10_land_35 rfl rfl ?_
          refine qb_iconst (pc' := 38) dX10_land_37 rfl rfl ?_
          refine qb_bipush (pc' := 40) dX10_land_38 rfl rfl rfl ?_
          refine qb_callSi (pc' := 43) (as := [.inl x5, .inl 1, .inl 9]) (rest := []) dX10_land_40 rfl qe_mX10_land_mX10_within rfl rfl rfl (Nat.le_of_ble_eq_true rfl) (Nat.le_of_ble_eq_true rfl) ⟨rfl, rfl⟩ (K := fun vz hpz => (v_q_within x5 1 9) = vz ∧ hp = hpz) (s_q_within x5 1 9 hp _ trivial ⟨rfl, rfl⟩) (fun vz hpz ez => ?_)
          obtain ⟨ez1, ez2⟩ := ez
          subst ez1
          subst ez2
          refine qb_fne (tgt := 49) (pc' := 46) dX10_land_43 rfl rfl (fun c461 => ?_) (fun c461 => ?_)
          · have h := h.2 c461
            refine qb_aloadn (pc' := 50) (i := 0) dX10_land_49 rfl rfl rfl ?_
            refine qb_geta (pc' := 53) dX10_land_50 rfl qf_X10_30 qb_s0 rfl ?_
            refine qb_geti (pc' := 56) (v := (hp 11 13)) dX10_land_53 rfl qf_X10_160 qb_s11 rfl rfl ?_
            refine qb_bipush (pc' := 58) dX10_land_56 rfl rfl rfl ?_
            refine qb_clt (tgt := 64) (pc' := 61) dX10_land_58 rfl rfl (fun c462 => ?_) (fun c462 => ?_)
            · have h := h.1 c462
              refine qb_iloadn (pc' := 65) (i := 2) dX10_land_64 rfl rfl rfl ?_
              refine qb_iconst (pc' := 66) dX10_land_65 rfl rfl ?_
              refine qb_cne (tgt := 83) (pc' := 69) dX10_land_66 rfl rfl (fun c463 => ?_) (fun c463 => ?_)
              · have h := h.2 c463
                refine qb_aloadn (pc' := 84) (i := 0) dX10_land_83 rfl rfl rfl ?_
                refine qb_geta (pc' := 87) dX10_land_84 rfl qf_X10_30 qb_s0 rfl ?_
                refine qb_iloadn (pc' := 88) (i := 1) dX10_land_87 rfl rfl rfl ?_
                refine qb_iloadn (pc' := 89) (i := 2) dX10_land_88 rfl rfl rfl ?_
                refine qb_iloadn (pc' := 90) (i := 3) dX10_land_89 rfl rfl rfl ?_
                refine qb_iload (pc' := 92) dX10_land_90 rfl rfl ?_
                refine qb_iload (pc' := 94) dX10_land_92 rfl rfl ?_
                refine qb_callVi (pc' := 97) (b := 11) (as := [.inl x1, .inl x2, .inl x3, .inl x4, .inl x5]) (rest := []) dX10_land_94 rfl qe_mX10_land_mX7_add rfl rfl qb_s11 rfl rfl (Nat.le_of_ble_eq_true rfl) (Nat.le_of_ble_eq_true rfl) ⟨rfl, rfl⟩ h (fun v131 hp131 h => ?_)
                exact qb_reti dX10_land_97 rfl h
              · have h := h.1 c463
                refine qb_aloadn (pc' := 70) (i := 0) dX10_land_69 rfl rfl rfl ?_
                refine qb_geta (pc' := 73) dX10_land_70 rfl qf_X10_30 qb_s0 rfl ?_
                refine qb_callVi (pc' := 76) (b := 11) (as := []) (rest := []) dX10_land_73 rfl qe_mX10_land_mX7_waiting rfl rfl qb_s11 rfl rfl (Nat.le_of_ble_eq_true rfl) (Nat.le_of_ble_eq_true rfl) ⟨rfl, rfl⟩ h (fun v129 hp129 h => ?_)
                refine qb_iconst (pc' := 77) dX10_land_76 rfl rfl ?_
                refine qb_clt (tgt := 83) (pc' := 80) dX10_land_77 rfl rfl (fun c464 => ?_) (fun c464 => ?_)
                · have h := h.1 c464
                  refine qb_aloadn (pc' := 84) (i := 0) dX10_land_83 rfl rfl rfl ?_
                  refine qb_geta (pc' := 87) dX10_land_84 rfl qf_X10_30 qb_s0 rfl ?_
                  refine qb_iloadn (pc' := 88) (i := 1) dX10_land_87 rfl rfl rfl ?_
                  refine qb_iloadn (pc' := 89) (i := 2) dX10_land_88 rfl rfl rfl ?_
                  refine qb_iloadn (pc' := 90) (i := 3) dX10_land_89 rfl rfl rfl ?_
                  refine qb_iload (pc' := 92) dX10_land_90 rfl rfl ?_
                  refine qb_iload (pc' := 94) dX10_land_92 rfl rfl ?_
                  refine qb_callVi (pc' := 97) (b := 11) (as := [.inl x1, .inl x2, .inl x3, .inl x4, .inl x5]) (rest := []) dX10_land_94 rfl qe_mX10_land_mX7_add rfl rfl qb_s11 rfl rfl (Nat.le_of_ble_eq_true rfl) (Nat.le_of_ble_eq_true rfl) ⟨rfl, rfl⟩ h (fun v130 hp130 h => ?_)
                  exact qb_reti dX10_land_97 rfl h
                · have h := h.2 c464
                  refine qb_bipush (pc' := 82) dX10_land_80 rfl rfl rfl ?_
                  exact qb_reti dX10_land_82 rfl h
            · have h := h.2 c462
              refine qb_bipush (pc' := 63) dX10_land_61 rfl rfl rfl ?_
              exact qb_reti dX10_land_63 rfl h
          · have h := h.1 c461
            refine qb_bipush (pc' := 48) dX10_land_46 rfl rfl rfl ?_
            exact qb_reti dX10_land_48 rfl h
    · have h := h.1 c458
      refine qb_iconst (pc' := 15) dX10_land_14 rfl rfl ?_
      exact qb_reti dX10_land_15 rfl h
def c_q_isLanding (x1 : Int) (hp : qb_H) (K : Int → qb_H → Prop) : Prop := qb_R mX10_isLanding 0 0 qb_sh 0 [qb_a 0, qb_i x1] [] hp (qb_I qb_sh K)
theorem b_q_isLanding {x1 : Int} {hp : qb_H} {K : Int → qb_H → Prop} (h : (qb_in ((hp 11 13) - 1)) ∧ K (v_q_within x1 0 ((hp 11 13) - 1)) hp) : c_q_isLanding x1 hp K := by
  unfold c_q_isLanding
  refine qb_iloadn (pc' := 1) (i := 1) dX10_isLanding_0 rfl rfl rfl ?_
  refine qb_iconst (pc' := 2) dX10_isLanding_1 rfl rfl ?_
  refine qb_aloadn (pc' := 3) (i := 0) dX10_isLanding_2 rfl rfl rfl ?_
  refine qb_geta (pc' := 6) dX10_isLanding_3 rfl qf_X10_30 qb_s0 rfl ?_
  refine qb_geti (pc' := 9) (v := (hp 11 13)) dX10_isLanding_6 rfl qf_X10_160 qb_s11 rfl rfl ?_
  refine qb_iconst (pc' := 10) dX10_isLanding_9 rfl rfl ?_
  obtain ⟨g1050, h⟩ := h
  refine qb_isub (pc' := 11) dX10_isLanding_10 rfl g1050 ?_
  refine qb_callSi (pc' := 14) (as := [.inl x1, .inl 0, .inl ((hp 11 13) - 1)]) (rest := []) dX10_isLanding_11 rfl qe_mX10_isLanding_mX10_within rfl rfl rfl (Nat.le_of_ble_eq_true rfl) (Nat.le_of_ble_eq_true rfl) ⟨rfl, rfl⟩ (K := fun vz hpz => (v_q_within x1 0 ((hp 11 13) - 1)) = vz ∧ hp = hpz) (s_q_within x1 0 ((hp 11 13) - 1) hp _ trivial ⟨rfl, rfl⟩) (fun vz hpz ez => ?_)
  obtain ⟨ez1, ez2⟩ := ez
  subst ez1
  subst ez2
  exact qb_retz dX10_isLanding_14 rfl (by (repeat' split) <;> first | exact Or.inl rfl | exact Or.inr rfl | apply vb_q_within) h
def v_q_isLanding (x1 : Int) (hp : qb_H) : Int := (v_q_within x1 0 ((hp 11 13) - 1))
theorem vb_q_isLanding (x1 : Int) (hp : qb_H) : v_q_isLanding x1 hp = 0 ∨ v_q_isLanding x1 hp = 1 := by
  unfold v_q_isLanding
  (repeat' split) <;> first | exact Or.inl rfl | exact Or.inr rfl | apply vb_q_within
def g_q_isLanding (x1 : Int) (hp : qb_H) : Prop := qb_in ((hp 11 13) - 1)
theorem s_q_isLanding (x1 : Int) (hp : qb_H) (K : Int → qb_H → Prop) (hg : g_q_isLanding x1 hp) (hK : K (v_q_isLanding x1 hp) hp) : c_q_isLanding x1 hp K := by
  refine b_q_isLanding ?_
  unfold g_q_isLanding at hg
  unfold v_q_isLanding at hK
  refine ⟨hg, ?_⟩
  exact hK
def c_la_lastHourOf (x1 : Int) (hp : qb_H) (K : Int → qb_H → Prop) : Prop := qb_R mX7_lastHourOf 0 0 qb_sh 0 [qb_a 11, qb_i x1] [] hp (qb_I qb_sh K)
theorem b_la_lastHourOf {x1 : Int} {hp : qb_H} {K : Int → qb_H → Prop} (h : (0 ≤ x1 ∧ x1 < 30) ∧ (((hp 13 x1) = (-1) → K (-6) hp) ∧ (¬ (hp 13 x1) = (-1) → ((hp 19 x1) = 0 → K (-6) hp) ∧ (¬ (hp 19 x1) = 0 → (qb_in ((hp 18 x1) + (hp 19 x1))) ∧ (qb_in (((hp 18 x1) + (hp 19 x1)) - 1)) ∧ (g_la_paceAt (hp 13 x1) hp) ∧ (0 ≤ (((hp 18 x1) + (hp 19 x1)) - 1)) ∧ (0 < (v_la_paceAt (hp 13 x1) hp)) ∧ K ((((hp 18 x1) + (hp 19 x1)) - 1) / (v_la_paceAt (hp 13 x1) hp)) hp)))) : c_la_lastHourOf x1 hp K := by
  unfold c_la_lastHourOf
  refine qb_aloadn (pc' := 1) (i := 0) dX7_lastHourOf_0 rfl rfl rfl ?_
  refine qb_geta (pc' := 4) dX7_lastHourOf_1 rfl qf_X7_15 qb_s11 rfl ?_
  refine qb_iloadn (pc' := 5) (i := 1) dX7_lastHourOf_4 rfl rfl rfl ?_
  obtain ⟨g1064, h⟩ := h
  refine qb_iald (pc' := 6) (v := (hp 13 x1)) dX7_lastHourOf_5 rfl qb_s13 g1064.1 g1064.2 rfl ?_
  refine qb_iconst (pc' := 7) dX7_lastHourOf_6 rfl rfl ?_
  refine qb_ceq (tgt := 19) (pc' := 10) dX7_lastHourOf_7 rfl rfl (fun c475 => ?_) (fun c475 => ?_)
  · have h := h.1 c475
    refine qb_bipush (pc' := 21) dX7_lastHourOf_19 rfl rfl rfl ?_
    exact qb_reti dX7_lastHourOf_21 rfl h
  · have h := h.2 c475
    refine qb_aloadn (pc' := 11) (i := 0) dX7_lastHourOf_10 rfl rfl rfl ?_
    refine qb_geta (pc' := 14) dX7_lastHourOf_11 rfl qf_X7_33 qb_s11 rfl ?_
    refine qb_iloadn (pc' := 15) (i := 1) dX7_lastHourOf_14 rfl rfl rfl ?_
    refine qb_iald (pc' := 16) (v := (hp 19 x1)) dX7_lastHourOf_15 rfl qb_s19 g1064.1 g1064.2 rfl ?_
    refine qb_fne (tgt := 22) (pc' := 19) dX7_lastHourOf_16 rfl rfl (fun c476 => ?_) (fun c476 => ?_)
    · have h := h.2 c476
      refine qb_aloadn (pc' := 23) (i := 0) dX7_lastHourOf_22 rfl rfl rfl ?_
      refine qb_geta (pc' := 26) dX7_lastHourOf_23 rfl qf_X7_30 qb_s11 rfl ?_
      refine qb_iloadn (pc' := 27) (i := 1) dX7_lastHourOf_26 rfl rfl rfl ?_
      refine qb_iald (pc' := 28) (v := (hp 18 x1)) dX7_lastHourOf_27 rfl qb_s18 g1064.1 g1064.2 rfl ?_
      refine qb_aloadn (pc' := 29) (i := 0) dX7_lastHourOf_28 rfl rfl rfl ?_
      refine qb_geta (pc' := 32) dX7_lastHourOf_29 rfl qf_X7_33 qb_s11 rfl ?_
      refine qb_iloadn (pc' := 33) (i := 1) dX7_lastHourOf_32 rfl rfl rfl ?_
      refine qb_iald (pc' := 34) (v := (hp 19 x1)) dX7_lastHourOf_33 rfl qb_s19 g1064.1 g1064.2 rfl ?_
      obtain ⟨g1065, h⟩ := h
      refine qb_iadd (pc' := 35) dX7_lastHourOf_34 rfl g1065 ?_
      refine qb_iconst (pc' := 36) dX7_lastHourOf_35 rfl rfl ?_
      obtain ⟨g1066, h⟩ := h
      refine qb_isub (pc' := 37) dX7_lastHourOf_36 rfl g1066 ?_
      refine qb_aloadn (pc' := 38) (i := 0) dX7_lastHourOf_37 rfl rfl rfl ?_
      refine qb_aloadn (pc' := 39) (i := 0) dX7_lastHourOf_38 rfl rfl rfl ?_
      refine qb_geta (pc' := 42) dX7_lastHourOf_39 rfl qf_X7_15 qb_s11 rfl ?_
      refine qb_iloadn (pc' := 43) (i := 1) dX7_lastHourOf_42 rfl rfl rfl ?_
      refine qb_iald (pc' := 44) (v := (hp 13 x1)) dX7_lastHourOf_43 rfl qb_s13 g1064.1 g1064.2 rfl ?_
      obtain ⟨g1067, h⟩ := h
      refine qb_callVi (pc' := 47) (b := 11) (as := [.inl (hp 13 x1)]) (rest := [.inl (((hp 18 x1) + (hp 19 x1)) - 1)]) dX7_lastHourOf_44 rfl qe_mX7_lastHourOf_mX7_paceAt rfl rfl qb_s11 rfl rfl (Nat.le_of_ble_eq_true rfl) (Nat.le_of_ble_eq_true rfl) ⟨rfl, rfl⟩ (K := fun vz hpz => (v_la_paceAt (hp 13 x1) hp) = vz ∧ hp = hpz) (s_la_paceAt (hp 13 x1) hp _ g1067 ⟨rfl, rfl⟩) (fun vz hpz ez => ?_)
      obtain ⟨ez1, ez2⟩ := ez
      subst ez1
      subst ez2
      obtain ⟨g1068, h⟩ := h
      obtain ⟨g1069, h⟩ := h
      refine qb_idiv (pc' := 48) dX7_lastHourOf_47 rfl g1068 g1069 ?_
      exact qb_reti dX7_lastHourOf_48 rfl h
    · have h := h.1 c476
      refine qb_bipush (pc' := 21) dX7_lastHourOf_19 rfl rfl rfl ?_
      exact qb_reti dX7_lastHourOf_21 rfl h
def v_la_lastHourOf (x1 : Int) (hp : qb_H) : Int := (if (hp 13 x1) = (-1) then ((-6) : Int) else (if (hp 19 x1) = 0 then ((-6) : Int) else ((((hp 18 x1) + (hp 19 x1)) - 1) / (v_la_paceAt (hp 13 x1) hp))))
def g_la_lastHourOf (x1 : Int) (hp : qb_H) : Prop := (0 ≤ x1 ∧ x1 < 30) ∧ (¬ (hp 13 x1) = (-1) → (¬ (hp 19 x1) = 0 → (qb_in ((hp 18 x1) + (hp 19 x1))) ∧ (qb_in (((hp 18 x1) + (hp 19 x1)) - 1)) ∧ (g_la_paceAt (hp 13 x1) hp) ∧ (0 ≤ (((hp 18 x1) + (hp 19 x1)) - 1)) ∧ 0 < (v_la_paceAt (hp 13 x1) hp)))
theorem s_la_lastHourOf (x1 : Int) (hp : qb_H) (K : Int → qb_H → Prop) (hg : g_la_lastHourOf x1 hp) (hK : K (v_la_lastHourOf x1 hp) hp) : c_la_lastHourOf x1 hp K := by
  refine b_la_lastHourOf ?_
  unfold g_la_lastHourOf at hg
  unfold v_la_lastHourOf at hK
  refine ⟨hg.1, ?_⟩
  have hg := hg.2
  refine ⟨fun c477 => ?_, fun c477 => ?_⟩
  · simpa only [if_pos c477] using hK
  · have hg := hg c477
    refine ⟨fun c478 => ?_, fun c478 => ?_⟩
    · simpa only [if_neg c477, if_pos c478] using hK
    · have hg := hg c478
      refine ⟨hg.1, ?_⟩
      have hg := hg.2
      refine ⟨hg.1, ?_⟩
      have hg := hg.2
      refine ⟨hg.1, ?_⟩
      have hg := hg.2
      refine ⟨hg.1, ?_⟩
      have hg := hg.2
      refine ⟨hg, ?_⟩
      simpa only [if_neg c477, if_neg c478] using hK
def c_q_landing (x1 : Int) (x2 : Int) (hp : qb_H) (K : Int → qb_H → Prop) : Prop := qb_R mX10_landing 0 0 qb_sh 0 [qb_a 0, qb_i x1, qb_i x2] [] hp (qb_I qb_sh K)
theorem b_q_landing {x1 x2 : Int} {hp : qb_H} {K : Int → qb_H → Prop} (h : (g_q_isLanding x1 hp) ∧ (((v_q_isLanding x1 hp) = 0 → K (-1) hp) ∧ (¬ (v_q_isLanding x1 hp) = 0 → (x2 = 0 → (0 ≤ x1 ∧ x1 < 30) ∧ K (hp 12 x1) hp) ∧ (¬ x2 = 0 → (x2 = 1 → (0 ≤ x1 ∧ x1 < 30) ∧ K (hp 13 x1) hp) ∧ (¬ x2 = 1 → (x2 = 2 → (0 ≤ x1 ∧ x1 < 30) ∧ K (hp 14 x1) hp) ∧ (¬ x2 = 2 → (x2 = 3 → (0 ≤ x1 ∧ x1 < 30) ∧ K (hp 15 x1) hp) ∧ (¬ x2 = 3 → (x2 = 4 → (0 ≤ x1 ∧ x1 < 30) ∧ K (hp 16 x1) hp) ∧ (¬ x2 = 4 → (x2 = 5 → c_q_work hp (fun hp134 => (g_la_spoiltOf x1 hp134) ∧ K (v_la_spoiltOf x1 hp134) hp134)) ∧ (¬ x2 = 5 → (x2 = 6 → c_q_work hp (fun hp135 => (g_la_lastHourOf x1 hp135) ∧ K (v_la_lastHourOf x1 hp135) hp135)) ∧ (¬ x2 = 6 → K (-2) hp)))))))))) : c_q_landing x1 x2 hp K := by
  unfold c_q_landing
  refine qb_aloadn (pc' := 1) (i := 0) dX10_landing_0 rfl rfl rfl ?_
  refine qb_iloadn (pc' := 2) (i := 1) dX10_landing_1 rfl rfl rfl ?_
  obtain ⟨g1071, h⟩ := h
  refine qb_callVi (pc' := 5) (b := 0) (as := [.inl x1]) (rest := []) dX10_landing_2 rfl qe_mX10_landing_mX10_isLanding rfl rfl qb_s0 rfl rfl (Nat.le_of_ble_eq_true rfl) (Nat.le_of_ble_eq_true rfl) ⟨rfl, rfl⟩ (K := fun vz hpz => (v_q_isLanding x1 hp) = vz ∧ hp = hpz) (s_q_isLanding x1 hp _ g1071 ⟨rfl, rfl⟩) (fun vz hpz ez => ?_)
  obtain ⟨ez1, ez2⟩ := ez
  subst ez1
  subst ez2
  refine qb_fne (tgt := 10) (pc' := 8) dX10_landing_5 rfl rfl (fun c479 => ?_) (fun c479 => ?_)
  · have h := h.2 c479
    refine qb_iloadn (pc' := 11) (i := 2) dX10_landing_10 rfl rfl rfl ?_
    by_cases c480 : x2 = 0
    · have h := h.1 c480
      refine qb_tabj (tgt := 52) dX10_landing_11 0 (c480.trans rfl) (by decide) rfl rfl ?_
      refine qb_aloadn (pc' := 53) (i := 0) dX10_landing_52 rfl rfl rfl ?_
      refine qb_geta (pc' := 56) dX10_landing_53 rfl qf_X10_30 qb_s0 rfl ?_
      refine qb_geta (pc' := 59) dX10_landing_56 rfl qf_X10_173 qb_s11 rfl ?_
      refine qb_iloadn (pc' := 60) (i := 1) dX10_landing_59 rfl rfl rfl ?_
      obtain ⟨g1072, h⟩ := h
      refine qb_iald (pc' := 61) (v := (hp 12 x1)) dX10_landing_60 rfl qb_s12 g1072.1 g1072.2 rfl ?_
      exact qb_reti dX10_landing_61 rfl h
    · have h := h.2 c480
      by_cases c481 : x2 = 1
      · have h := h.1 c481
        refine qb_tabj (tgt := 62) dX10_landing_11 1 (c481.trans rfl) (by decide) rfl rfl ?_
        refine qb_aloadn (pc' := 63) (i := 0) dX10_landing_62 rfl rfl rfl ?_
        refine qb_geta (pc' := 66) dX10_landing_63 rfl qf_X10_30 qb_s0 rfl ?_
        refine qb_geta (pc' := 69) dX10_landing_66 rfl qf_X10_170 qb_s11 rfl ?_
        refine qb_iloadn (pc' := 70) (i := 1) dX10_landing_69 rfl rfl rfl ?_
        obtain ⟨g1073, h⟩ := h
        refine qb_iald (pc' := 71) (v := (hp 13 x1)) dX10_landing_70 rfl qb_s13 g1073.1 g1073.2 rfl ?_
        exact qb_reti dX10_landing_71 rfl h
      · have h := h.2 c481
        by_cases c482 : x2 = 2
        · have h := h.1 c482
          refine qb_tabj (tgt := 72) dX10_landing_11 2 (c482.trans rfl) (by decide) rfl rfl ?_
          refine qb_aloadn (pc' := 73) (i := 0) dX10_landing_72 rfl rfl rfl ?_
          refine qb_geta (pc' := 76) dX10_landing_73 rfl qf_X10_30 qb_s0 rfl ?_
          refine qb_geta (pc' := 79) dX10_landing_76 rfl qf_X10_175 qb_s11 rfl ?_
          refine qb_iloadn (pc' := 80) (i := 1) dX10_landing_79 rfl rfl rfl ?_
          obtain ⟨g1074, h⟩ := h
          refine qb_iald (pc' := 81) (v := (hp 14 x1)) dX10_landing_80 rfl qb_s14 g1074.1 g1074.2 rfl ?_
          exact qb_reti dX10_landing_81 rfl h
        · have h := h.2 c482
          by_cases c483 : x2 = 3
          · have h := h.1 c483
            refine qb_tabj (tgt := 82) dX10_landing_11 3 (c483.trans rfl) (by decide) rfl rfl ?_
            refine qb_aloadn (pc' := 83) (i := 0) dX10_landing_82 rfl rfl rfl ?_
            refine qb_geta (pc' := 86) dX10_landing_83 rfl qf_X10_30 qb_s0 rfl ?_
            refine qb_geta (pc' := 89) dX10_landing_86 rfl qf_X10_178 qb_s11 rfl ?_
            refine qb_iloadn (pc' := 90) (i := 1) dX10_landing_89 rfl rfl rfl ?_
            obtain ⟨g1075, h⟩ := h
            refine qb_iald (pc' := 91) (v := (hp 15 x1)) dX10_landing_90 rfl qb_s15 g1075.1 g1075.2 rfl ?_
            exact qb_reti dX10_landing_91 rfl h
          · have h := h.2 c483
            by_cases c484 : x2 = 4
            · have h := h.1 c484
              refine qb_tabj (tgt := 92) dX10_landing_11 4 (c484.trans rfl) (by decide) rfl rfl ?_
              refine qb_aloadn (pc' := 93) (i := 0) dX10_landing_92 rfl rfl rfl ?_
              refine qb_geta (pc' := 96) dX10_landing_93 rfl qf_X10_30 qb_s0 rfl ?_
              refine qb_geta (pc' := 99) dX10_landing_96 rfl qf_X10_181 qb_s11 rfl ?_
              refine qb_iloadn (pc' := 100) (i := 1) dX10_landing_99 rfl rfl rfl ?_
              obtain ⟨g1076, h⟩ := h
              refine qb_iald (pc' := 101) (v := (hp 16 x1)) dX10_landing_100 rfl qb_s16 g1076.1 g1076.2 rfl ?_
              exact qb_reti dX10_landing_101 rfl h
            · have h := h.2 c484
              by_cases c485 : x2 = 5
              · have h := h.1 c485
                refine qb_tabj (tgt := 102) dX10_landing_11 5 (c485.trans rfl) (by decide) rfl rfl ?_
                refine qb_aloadn (pc' := 103) (i := 0) dX10_landing_102 rfl rfl rfl ?_
                refine qb_callVu (pc' := 106) (b := 0) (as := []) (rest := []) dX10_landing_103 rfl qe_mX10_landing_mX10_work rfl rfl qb_s0 rfl rfl (Nat.le_of_ble_eq_true rfl) (Nat.le_of_ble_eq_true rfl) ⟨rfl, rfl⟩ h (fun hp134 h => ?_)
                refine qb_aloadn (pc' := 107) (i := 0) dX10_landing_106 rfl rfl rfl ?_
                refine qb_geta (pc' := 110) dX10_landing_107 rfl qf_X10_30 qb_s0 rfl ?_
                refine qb_iloadn (pc' := 111) (i := 1) dX10_landing_110 rfl rfl rfl ?_
                obtain ⟨g1077, h⟩ := h
                refine qb_callVi (pc' := 114) (b := 11) (as := [.inl x1]) (rest := []) dX10_landing_111 rfl qe_mX10_landing_mX7_spoiltOf rfl rfl qb_s11 rfl rfl (Nat.le_of_ble_eq_true rfl) (Nat.le_of_ble_eq_true rfl) ⟨rfl, rfl⟩ (K := fun vz hpz => (v_la_spoiltOf x1 hp134) = vz ∧ hp134 = hpz) (s_la_spoiltOf x1 hp134 _ g1077 ⟨rfl, rfl⟩) (fun vz hpz ez => ?_)
                obtain ⟨ez1, ez2⟩ := ez
                subst ez1
                subst ez2
                exact qb_reti dX10_landing_114 rfl h
              · have h := h.2 c485
                by_cases c486 : x2 = 6
                · have h := h.1 c486
                  refine qb_tabj (tgt := 115) dX10_landing_11 6 (c486.trans rfl) (by decide) rfl rfl ?_
                  refine qb_aloadn (pc' := 116) (i := 0) dX10_landing_115 rfl rfl rfl ?_
                  refine qb_callVu (pc' := 119) (b := 0) (as := []) (rest := []) dX10_landing_116 rfl qe_mX10_landing_mX10_work rfl rfl qb_s0 rfl rfl (Nat.le_of_ble_eq_true rfl) (Nat.le_of_ble_eq_true rfl) ⟨rfl, rfl⟩ h (fun hp135 h => ?_)
                  refine qb_aloadn (pc' := 120) (i := 0) dX10_landing_119 rfl rfl rfl ?_
                  refine qb_geta (pc' := 123) dX10_landing_120 rfl qf_X10_30 qb_s0 rfl ?_
                  refine qb_iloadn (pc' := 124) (i := 1) dX10_landing_123 rfl rfl rfl ?_
                  obtain ⟨g1078, h⟩ := h
                  refine qb_callVi (pc' := 127) (b := 11) (as := [.inl x1]) (rest := []) dX10_landing_124 rfl qe_mX10_landing_mX7_lastHourOf rfl rfl qb_s11 rfl rfl (Nat.le_of_ble_eq_true rfl) (Nat.le_of_ble_eq_true rfl) ⟨rfl, rfl⟩ (K := fun vz hpz => (v_la_lastHourOf x1 hp135) = vz ∧ hp135 = hpz) (s_la_lastHourOf x1 hp135 _ g1078 ⟨rfl, rfl⟩) (fun vz hpz ez => ?_)
                  obtain ⟨ez1, ez2⟩ := ez
                  subst ez1
                  subst ez2
                  exact qb_reti dX10_landing_127 rfl h
                · have h := h.2 c486
                  refine qb_tabOut (tgt := 128) dX10_landing_11 (qb_sw1 (qb_sw1 (qb_sw1 (qb_sw1 (qb_sw1 (qb_sw1 (qb_sw1 (Int.lt_or_le x2 0) c480) c481) c482) c483) c484) c485) c486) rfl ?_
                  refine qb_bipush (pc' := 130) dX10_landing_128 rfl rfl rfl ?_
                  exact qb_reti dX10_landing_130 rfl h
  · have h := h.1 c479
    refine qb_iconst (pc' := 9) dX10_landing_8 rfl rfl ?_
    exact qb_reti dX10_landing_9 rfl h
def c_q_lead (x1 : Int) (x2 : Int) (hp : qb_H) (K : Int → qb_H → Prop) : Prop := qb_R mX10_lead 0 0 qb_sh 0 [qb_a 0, qb_i x1, qb_i x2, none] [] hp (qb_I qb_sh K)
theorem b_q_lead {x1 x2 : Int} {hp : qb_H} {K : Int → qb_H → Prop} (h : (g_q_isLanding x1 hp) ∧ (((v_q_isLanding x1 hp) = 0 → K (-1) hp) ∧ (¬ (v_q_isLanding x1 hp) = 0 → ((v_q_isQuayOrNone x2) = 0 → K (-1) hp) ∧ (¬ (v_q_isQuayOrNone x2) = 0 → (0 ≤ x1 ∧ x1 < 30) ∧ ((x2 = (-1) → ((hp 13 x1) = (-1) → K (hp 13 x1) (qb_st hp 13 x1 x2)) ∧ (¬ (hp 13 x1) = (-1) → c_la_waiting hp (fun v137 hp137 => (v137 < 5 → K (hp 13 x1) (qb_st hp137 13 x1 x2)) ∧ (¬ v137 < 5 → K (-5) hp137)))) ∧ (¬ x2 = (-1) → K (hp 13 x1) (qb_st hp 13 x1 x2))))))) : c_q_lead x1 x2 hp K := by
  unfold c_q_lead
  refine qb_aloadn (pc' := 1) (i := 0) dX10_lead_0 rfl rfl rfl ?_
  refine qb_iloadn (pc' := 2) (i := 1) dX10_lead_1 rfl rfl rfl ?_
  obtain ⟨g1081, h⟩ := h
  refine qb_callVi (pc' := 5) (b := 0) (as := [.inl x1]) (rest := []) dX10_lead_2 rfl qe_mX10_lead_mX10_isLanding rfl rfl qb_s0 rfl rfl (Nat.le_of_ble_eq_true rfl) (Nat.le_of_ble_eq_true rfl) ⟨rfl, rfl⟩ (K := fun vz hpz => (v_q_isLanding x1 hp) = vz ∧ hp = hpz) (s_q_isLanding x1 hp _ g1081 ⟨rfl, rfl⟩) (fun vz hpz ez => ?_)
  obtain ⟨ez1, ez2⟩ := ez
  subst ez1
  subst ez2
  refine qb_feq (tgt := 15) (pc' := 8) dX10_lead_5 rfl rfl (fun c492 => ?_) (fun c492 => ?_)
  · have h := h.1 c492
    refine qb_iconst (pc' := 16) dX10_lead_15 rfl rfl ?_
    exact qb_reti dX10_lead_16 rfl h
  · have h := h.2 c492
    refine qb_iloadn (pc' := 9) (i := 2) dX10_lead_8 rfl rfl rfl ?_
    refine qb_callSi (pc' := 12) (as := [.inl x2]) (rest := []) dX10_lead_9 rfl qe_mX10_lead_mX10_isQuayOrNone rfl rfl rfl (Nat.le_of_ble_eq_true rfl) (Nat.le_of_ble_eq_true rfl) ⟨rfl, rfl⟩ (K := fun vz hpz => (v_q_isQuayOrNone x2) = vz ∧ hp = hpz) (s_q_isQuayOrNone x2 hp _ trivial ⟨rfl, rfl⟩) (fun vz hpz ez => ?_)
    obtain ⟨ez1, ez2⟩ := ez
    subst ez1
    subst ez2
    refine qb_fne (tgt := 17) (pc' := 15) dX10_lead_12 rfl rfl (fun c493 => ?_) (fun c493 => ?_)
    · have h := h.2 c493
      refine qb_aloadn (pc' := 18) (i := 0) dX10_lead_17 rfl rfl rfl ?_
      refine qb_geta (pc' := 21) dX10_lead_18 rfl qf_X10_30 qb_s0 rfl ?_
      refine qb_geta (pc' := 24) dX10_lead_21 rfl qf_X10_170 qb_s11 rfl ?_
      refine qb_iloadn (pc' := 25) (i := 1) dX10_lead_24 rfl rfl rfl ?_
      obtain ⟨g1082, h⟩ := h
      refine qb_iald (pc' := 26) (v := (hp 13 x1)) dX10_lead_25 rfl qb_s13 g1082.1 g1082.2 rfl ?_
      refine qb_istoren (pc' := 27) (i := 3) (L' := [qb_a 0, qb_i x1, qb_i x2, qb_i (hp 13 x1)]) dX10_lead_26 rfl rfl (Nat.le_of_ble_eq_true rfl) rfl rfl ?_
      refine qb_iloadn (pc' := 28) (i := 2) dX10_lead_27 rfl rfl rfl ?_
      refine qb_iconst (pc' := 29) dX10_lead_28 rfl rfl ?_
      refine qb_cne (tgt := 51) (pc' := 32) dX10_lead_29 rfl rfl (fun c494 => ?_) (fun c494 => ?_)
      · have h := h.2 c494
        refine qb_aloadn (pc' := 52) (i := 0) dX10_lead_51 rfl rfl rfl ?_
        refine qb_geta (pc' := 55) dX10_lead_52 rfl qf_X10_30 qb_s0 rfl ?_
        refine qb_geta (pc' := 58) dX10_lead_55 rfl qf_X10_170 qb_s11 rfl ?_
        refine qb_iloadn (pc' := 59) (i := 1) dX10_lead_58 rfl rfl rfl ?_
        refine qb_iloadn (pc' := 60) (i := 2) dX10_lead_59 rfl rfl rfl ?_
        refine qb_iast (pc' := 61) dX10_lead_60 rfl qb_s13 g1082.1 g1082.2 ?_
        refine qb_iloadn (pc' := 62) (i := 3) dX10_lead_61 rfl rfl rfl ?_
        exact qb_reti dX10_lead_62 rfl h
      · have h := h.1 c494
        refine qb_iloadn (pc' := 33) (i := 3) dX10_lead_32 rfl rfl rfl ?_
        refine qb_iconst (pc' := 34) dX10_lead_33 rfl rfl ?_
        refine qb_ceq (tgt := 51) (pc' := 37) dX10_lead_34 rfl rfl (fun c495 => ?_) (fun c495 => ?_)
        · have h := h.1 c495
          refine qb_aloadn (pc' := 52) (i := 0) dX10_lead_51 rfl rfl rfl ?_
          refine qb_geta (pc' := 55) dX10_lead_52 rfl qf_X10_30 qb_s0 rfl ?_
          refine qb_geta (pc' := 58) dX10_lead_55 rfl qf_X10_170 qb_s11 rfl ?_
          refine qb_iloadn (pc' := 59) (i := 1) dX10_lead_58 rfl rfl rfl ?_
          refine qb_iloadn (pc' := 60) (i := 2) dX10_lead_59 rfl rfl rfl ?_
          refine qb_iast (pc' := 61) dX10_lead_60 rfl qb_s13 g1082.1 g1082.2 ?_
          refine qb_iloadn (pc' := 62) (i := 3) dX10_lead_61 rfl rfl rfl ?_
          exact qb_reti dX10_lead_62 rfl h
        · have h := h.2 c495
          refine qb_aloadn (pc' := 38) (i := 0) dX10_lead_37 rfl rfl rfl ?_
          refine qb_geta (pc' := 41) dX10_lead_38 rfl qf_X10_30 qb_s0 rfl ?_
          refine qb_callVi (pc' := 44) (b := 11) (as := []) (rest := []) dX10_lead_41 rfl qe_mX10_lead_mX7_waiting rfl rfl qb_s11 rfl rfl (Nat.le_of_ble_eq_true rfl) (Nat.le_of_ble_eq_true rfl) ⟨rfl, rfl⟩ h (fun v137 hp137 h => ?_)
          refine qb_iconst (pc' := 45) dX10_lead_44 rfl rfl ?_
          refine qb_clt (tgt := 51) (pc' := 48) dX10_lead_45 rfl rfl (fun c496 => ?_) (fun c496 => ?_)
          · have h := h.1 c496
            refine qb_aloadn (pc' := 52) (i := 0) dX10_lead_51 rfl rfl rfl ?_
            refine qb_geta (pc' := 55) dX10_lead_52 rfl qf_X10_30 qb_s0 rfl ?_
            refine qb_geta (pc' := 58) dX10_lead_55 rfl qf_X10_170 qb_s11 rfl ?_
            refine qb_iloadn (pc' := 59) (i := 1) dX10_lead_58 rfl rfl rfl ?_
            refine qb_iloadn (pc' := 60) (i := 2) dX10_lead_59 rfl rfl rfl ?_
            refine qb_iast (pc' := 61) dX10_lead_60 rfl qb_s13 g1082.1 g1082.2 ?_
            refine qb_iloadn (pc' := 62) (i := 3) dX10_lead_61 rfl rfl rfl ?_
            exact qb_reti dX10_lead_62 rfl h
          · have h := h.2 c496
            refine qb_bipush (pc' := 50) dX10_lead_48 rfl rfl rfl ?_
            exact qb_reti dX10_lead_50 rfl h
    · have h := h.1 c493
      refine qb_iconst (pc' := 16) dX10_lead_15 rfl rfl ?_
      exact qb_reti dX10_lead_16 rfl h
def c_fl_worth (x1 : Int) (x2 : Int) (x3 : Int) (hp : qb_H) (K : Int → qb_H → Prop) : Prop := qb_R mX4_worth 0 0 qb_sh 0 [qb_a 54, qb_i x1, qb_i x2, qb_i x3] [] hp (qb_I qb_sh K)
theorem b_fl_worth {x1 x2 x3 : Int} {hp : qb_H} {K : Int → qb_H → Prop} (h : (qb_in (x1 * 441)) ∧ (qb_in (x2 * 21)) ∧ (qb_in ((x1 * 441) + (x2 * 21))) ∧ (qb_in (((x1 * 441) + (x2 * 21)) + x3)) ∧ (0 ≤ (((x1 * 441) + (x2 * 21)) + x3) ∧ (((x1 * 441) + (x2 * 21)) + x3) < 2205) ∧ K (hp 59 (((x1 * 441) + (x2 * 21)) + x3)) hp) : c_fl_worth x1 x2 x3 hp K := by
  unfold c_fl_worth
  refine qb_aloadn (pc' := 1) (i := 0) dX4_worth_0 rfl rfl rfl ?_
  refine qb_geta (pc' := 4) dX4_worth_1 rfl qf_X4_24 qb_s54 rfl ?_
  refine qb_iloadn (pc' := 5) (i := 1) dX4_worth_4 rfl rfl rfl ?_
  refine qb_sipush (pc' := 8) dX4_worth_5 rfl rfl rfl ?_
  obtain ⟨g1097, h⟩ := h
  refine qb_imul (pc' := 9) dX4_worth_8 rfl g1097 ?_
  refine qb_iloadn (pc' := 10) (i := 2) dX4_worth_9 rfl rfl rfl ?_
  refine qb_bipush (pc' := 12) dX4_worth_10 rfl rfl rfl ?_
  obtain ⟨g1098, h⟩ := h
  refine qb_imul (pc' := 13) dX4_worth_12 rfl g1098 ?_
  obtain ⟨g1099, h⟩ := h
  refine qb_iadd (pc' := 14) dX4_worth_13 rfl g1099 ?_
  refine qb_iloadn (pc' := 15) (i := 3) dX4_worth_14 rfl rfl rfl ?_
  obtain ⟨g1100, h⟩ := h
  refine qb_iadd (pc' := 16) dX4_worth_15 rfl g1100 ?_
  obtain ⟨g1101, h⟩ := h
  refine qb_iald (pc' := 17) (v := (hp 59 (((x1 * 441) + (x2 * 21)) + x3))) dX4_worth_16 rfl qb_s59 g1101.1 g1101.2 rfl ?_
  exact qb_reti dX4_worth_17 rfl h
def v_fl_worth (x1 : Int) (x2 : Int) (x3 : Int) (hp : qb_H) : Int := (hp 59 (((x1 * 441) + (x2 * 21)) + x3))
def g_fl_worth (x1 : Int) (x2 : Int) (x3 : Int) : Prop := (qb_in (x1 * 441)) ∧ (qb_in (x2 * 21)) ∧ (qb_in ((x1 * 441) + (x2 * 21))) ∧ (qb_in (((x1 * 441) + (x2 * 21)) + x3)) ∧ 0 ≤ (((x1 * 441) + (x2 * 21)) + x3) ∧ (((x1 * 441) + (x2 * 21)) + x3) < 2205
theorem s_fl_worth (x1 : Int) (x2 : Int) (x3 : Int) (hp : qb_H) (K : Int → qb_H → Prop) (hg : g_fl_worth x1 x2 x3) (hK : K (v_fl_worth x1 x2 x3 hp) hp) : c_fl_worth x1 x2 x3 hp K := by
  refine b_fl_worth ?_
  unfold g_fl_worth at hg
  unfold v_fl_worth at hK
  refine ⟨hg.1, ?_⟩
  have hg := hg.2
  refine ⟨hg.1, ?_⟩
  have hg := hg.2
  refine ⟨hg.1, ?_⟩
  have hg := hg.2
  refine ⟨hg.1, ?_⟩
  have hg := hg.2
  refine ⟨hg, ?_⟩
  exact hK
def c_fl_bearOneMore (x1 : Int) (x2 : Int) (x3 : Int) (hp : qb_H) (K : qb_H → Prop) : Prop := qb_R mX4_bearOneMore 0 0 qb_sh 0 [qb_a 54, qb_i x1, qb_i x2, qb_i x3, none, none, none] [] hp (qb_U qb_sh K)
def r_fl_bearOneMore_3 (x1 : Int) (x3 : Int) (x4 : Int) (hp : qb_H) (K : qb_H → Prop) : Prop := qb_R mX4_bearOneMore 0 0 qb_sh 3 [qb_a 54, qb_i x1, none, qb_i x3, qb_i x4, none, none] [] hp (qb_U qb_sh K)
def r_fl_bearOneMore_11 (x1 : Int) (x3 : Int) (x4 : Int) (x5 : Int) (hp : qb_H) (K : qb_H → Prop) : Prop := qb_R mX4_bearOneMore 0 0 qb_sh 11 [qb_a 54, qb_i x1, none, qb_i x3, qb_i x4, qb_i x5, none] [] hp (qb_U qb_sh K)
theorem b_fl_bearOneMore {x1 x2 x3 : Int} {hp : qb_H} {K : qb_H → Prop} (h : r_fl_bearOneMore_3 x1 x3 x2 hp K) : c_fl_bearOneMore x1 x2 x3 hp K := by
  unfold c_fl_bearOneMore
  refine qb_iloadn (pc' := 1) (i := 2) dX4_bearOneMore_0 rfl rfl rfl ?_
  refine qb_istore (pc' := 3) (L' := [qb_a 54, qb_i x1, qb_i x2, qb_i x3, qb_i x2, none, none]) dX4_bearOneMore_1 rfl (Nat.le_of_ble_eq_true rfl) rfl rfl ?_
  refine qb_cut (L' := [qb_a 54, qb_i x1, none, qb_i x3, qb_i x2, none, none]) [true, true, false, true, true, false, false] rfl ?_
  exact h
theorem b_fl_bearOneMore_3 {x1 x3 x4 : Int} {hp : qb_H} {K : qb_H → Prop} (h : (x4 < 0 → K hp) ∧ (¬ x4 < 0 → r_fl_bearOneMore_11 x1 x3 x4 x3 hp K)) : r_fl_bearOneMore_3 x1 x3 x4 hp K := by
  unfold r_fl_bearOneMore_3
  refine qb_iload (pc' := 5) dX4_bearOneMore_3 rfl rfl ?_
  refine qb_flt (tgt := 120) (pc' := 8) dX4_bearOneMore_5 rfl rfl (fun c508 => ?_) (fun c508 => ?_)
  · have h := h.1 c508
    exact qb_retv dX4_bearOneMore_120 rfl h
  · have h := h.2 c508
    refine qb_iloadn (pc' := 9) (i := 3) dX4_bearOneMore_8 rfl rfl rfl ?_
    refine qb_istore (pc' := 11) (L' := [qb_a 54, qb_i x1, none, qb_i x3, qb_i x4, qb_i x3, none]) dX4_bearOneMore_9 rfl (Nat.le_of_ble_eq_true rfl) rfl rfl ?_
    refine qb_cut (L' := [qb_a 54, qb_i x1, none, qb_i x3, qb_i x4, qb_i x3, none]) [true, true, false, true, true, true, false] rfl ?_
    exact h
theorem b_fl_bearOneMore_11 {x1 x3 x4 x5 : Int} {hp : qb_H} {K : qb_H → Prop} (h : (x5 < 0 → (qb_in (x4 + (-1))) ∧ r_fl_bearOneMore_3 x1 x3 (x4 + (-1)) hp K) ∧ (¬ x5 < 0 → (g_fl_worth x1 x4 x5) ∧ (¬ x4 ≤ 0 → (qb_in (x4 - 1)) ∧ (g_fl_worth x1 (x4 - 1) x5) ∧ (0 ≤ x1 ∧ x1 < 4) ∧ qb_in ((v_fl_worth x1 (x4 - 1) x5 hp) + (hp 57 x1))) ∧ (¬ x5 ≤ 0 → (qb_in (x5 - 1)) ∧ (g_fl_worth x1 x4 (x5 - 1)) ∧ (0 ≤ x1 ∧ x1 < 4) ∧ qb_in ((v_fl_worth x1 x4 (x5 - 1) hp) + (hp 58 x1))) ∧ (qb_in (x1 * 441)) ∧ (qb_in (x4 * 21)) ∧ (qb_in ((x1 * 441) + (x4 * 21))) ∧ (qb_in (((x1 * 441) + (x4 * 21)) + x5)) ∧ (0 ≤ (((x1 * 441) + (x4 * 21)) + x5) ∧ (((x1 * 441) + (x4 * 21)) + x5) < 2205) ∧ (qb_in (x5 + (-1))) ∧ r_fl_bearOneMore_11 x1 x3 x4 (x5 + (-1)) (qb_st hp 59 (((x1 * 441) + (x4 * 21)) + x5) (if x5 ≤ 0 then (if x4 ≤ 0 then (v_fl_worth x1 x4 x5 hp) else (max (v_fl_worth x1 x4 x5 hp) ((v_fl_worth x1 (x4 - 1) x5 hp) + (hp 57 x1)))) else (max (if x4 ≤ 0 then (v_fl_worth x1 x4 x5 hp) else (max (v_fl_worth x1 x4 x5 hp) ((v_fl_worth x1 (x4 - 1) x5 hp) + (hp 57 x1)))) ((v_fl_worth x1 x4 (x5 - 1) hp) + (hp 58 x1))))) K)) : r_fl_bearOneMore_11 x1 x3 x4 x5 hp K := by
  unfold r_fl_bearOneMore_11
  refine qb_iload (pc' := 13) dX4_bearOneMore_11 rfl rfl ?_
  refine qb_flt (tgt := 114) (pc' := 16) dX4_bearOneMore_13 rfl rfl (fun c509 => ?_) (fun c509 => ?_)
  · have h := h.1 c509
    obtain ⟨g1091, h⟩ := h
    refine qb_iinc (pc' := 117) (L' := [qb_a 54, qb_i x1, none, qb_i x3, qb_i (x4 + (-1)), qb_i x5, none]) dX4_bearOneMore_114 rfl rfl g1091 (Nat.le_of_ble_eq_true rfl) rfl rfl ?_
    refine qb_goto (tgt := 3) dX4_bearOneMore_117 rfl ?_
    refine qb_cut (L' := [qb_a 54, qb_i x1, none, qb_i x3, qb_i (x4 + (-1)), none, none]) [true, true, false, true, true, false, false] rfl ?_
    exact h
  · have h := h.2 c509
    refine qb_aloadn (pc' := 17) (i := 0) dX4_bearOneMore_16 rfl rfl rfl ?_
    refine qb_iloadn (pc' := 18) (i := 1) dX4_bearOneMore_17 rfl rfl rfl ?_
    refine qb_iload (pc' := 20) dX4_bearOneMore_18 rfl rfl ?_
    refine qb_iload (pc' := 22) dX4_bearOneMore_20 rfl rfl ?_
    obtain ⟨g1102, h⟩ := h
    refine qb_callVi (pc' := 25) (b := 54) (as := [.inl x1, .inl x4, .inl x5]) (rest := []) dX4_bearOneMore_22 rfl qe_mX4_bearOneMore_mX4_worth rfl rfl qb_s54 rfl rfl (Nat.le_of_ble_eq_true rfl) (Nat.le_of_ble_eq_true rfl) ⟨rfl, rfl⟩ (K := fun vz hpz => (v_fl_worth x1 x4 x5 hp) = vz ∧ hp = hpz) (s_fl_worth x1 x4 x5 hp _ g1102 ⟨rfl, rfl⟩) (fun vz hpz ez => ?_)
    obtain ⟨ez1, ez2⟩ := ez
    subst ez1
    subst ez2
    refine qb_istore (pc' := 27) (L' := [qb_a 54, qb_i x1, none, qb_i x3, qb_i x4, qb_i x5, qb_i (v_fl_worth x1 x4 x5 hp)]) dX4_bearOneMore_25 rfl (Nat.le_of_ble_eq_true rfl) rfl rfl ?_
    refine qb_iload (pc' := 29) dX4_bearOneMore_27 rfl rfl ?_
    obtain ⟨gb, h⟩ := h
    have k244 : qb_R mX4_bearOneMore 0 0 qb_sh 57 [qb_a 54, qb_i x1, none, qb_i x3, qb_i x4, qb_i x5, qb_i (if x4 ≤ 0 then (v_fl_worth x1 x4 x5 hp) else (max (v_fl_worth x1 x4 x5 hp) ((v_fl_worth x1 (x4 - 1) x5 hp) + (hp 57 x1))))] [] hp (qb_U qb_sh K) := by
      refine qb_iload (pc' := 59) dX4_bearOneMore_57 rfl rfl ?_
      obtain ⟨gb, h⟩ := h
      have k245 : qb_R mX4_bearOneMore 0 0 qb_sh 87 [qb_a 54, qb_i x1, none, qb_i x3, qb_i x4, qb_i x5, qb_i (if x5 ≤ 0 then (if x4 ≤ 0 then (v_fl_worth x1 x4 x5 hp) else (max (v_fl_worth x1 x4 x5 hp) ((v_fl_worth x1 (x4 - 1) x5 hp) + (hp 57 x1)))) else (max (if x4 ≤ 0 then (v_fl_worth x1 x4 x5 hp) else (max (v_fl_worth x1 x4 x5 hp) ((v_fl_worth x1 (x4 - 1) x5 hp) + (hp 57 x1)))) ((v_fl_worth x1 x4 (x5 - 1) hp) + (hp 58 x1))))] [] hp (qb_U qb_sh K) := by
        refine qb_aloadn (pc' := 88) (i := 0) dX4_bearOneMore_87 rfl rfl rfl ?_
        refine qb_geta (pc' := 91) dX4_bearOneMore_88 rfl qf_X4_24 qb_s54 rfl ?_
        refine qb_iloadn (pc' := 92) (i := 1) dX4_bearOneMore_91 rfl rfl rfl ?_
        refine qb_sipush (pc' := 95) dX4_bearOneMore_92 rfl rfl rfl ?_
        obtain ⟨g1119, h⟩ := h
        refine qb_imul (pc' := 96) dX4_bearOneMore_95 rfl g1119 ?_
        refine qb_iload (pc' := 98) dX4_bearOneMore_96 rfl rfl ?_
        refine qb_bipush (pc' := 100) dX4_bearOneMore_98 rfl rfl rfl ?_
        obtain ⟨g1120, h⟩ := h
        refine qb_imul (pc' := 101) dX4_bearOneMore_100 rfl g1120 ?_
        obtain ⟨g1121, h⟩ := h
        refine qb_iadd (pc' := 102) dX4_bearOneMore_101 rfl g1121 ?_
        refine qb_iload (pc' := 104) dX4_bearOneMore_102 rfl rfl ?_
        obtain ⟨g1122, h⟩ := h
        refine qb_iadd (pc' := 105) dX4_bearOneMore_104 rfl g1122 ?_
        refine qb_iload (pc' := 107) dX4_bearOneMore_105 rfl rfl ?_
        obtain ⟨g1123, h⟩ := h
        refine qb_iast (pc' := 108) dX4_bearOneMore_107 rfl qb_s59 g1123.1 g1123.2 ?_
        obtain ⟨g1124, h⟩ := h
        refine qb_iinc (pc' := 111) (L' := [qb_a 54, qb_i x1, none, qb_i x3, qb_i x4, qb_i (x5 + (-1)), qb_i (if x5 ≤ 0 then (if x4 ≤ 0 then (v_fl_worth x1 x4 x5 hp) else (max (v_fl_worth x1 x4 x5 hp) ((v_fl_worth x1 (x4 - 1) x5 hp) + (hp 57 x1)))) else (max (if x4 ≤ 0 then (v_fl_worth x1 x4 x5 hp) else (max (v_fl_worth x1 x4 x5 hp) ((v_fl_worth x1 (x4 - 1) x5 hp) + (hp 57 x1)))) ((v_fl_worth x1 x4 (x5 - 1) hp) + (hp 58 x1))))]) dX4_bearOneMore_108 rfl rfl g1124 (Nat.le_of_ble_eq_true rfl) rfl rfl ?_
        refine qb_goto (tgt := 11) dX4_bearOneMore_111 rfl ?_
        refine qb_cut (L' := [qb_a 54, qb_i x1, none, qb_i x3, qb_i x4, qb_i (x5 + (-1)), none]) [true, true, false, true, true, true, false] rfl ?_
        exact h
      refine qb_fle (tgt := 87) (pc' := 62) dX4_bearOneMore_59 rfl rfl (fun c511 => ?_) (fun c511 => ?_)
      · refine qb_cut (L' := [qb_a 54, qb_i x1, none, qb_i x3, qb_i x4, qb_i x5, qb_i (if x4 ≤ 0 then (v_fl_worth x1 x4 x5 hp) else (max (v_fl_worth x1 x4 x5 hp) ((v_fl_worth x1 (x4 - 1) x5 hp) + (hp 57 x1))))]) [true, true, false, true, true, true, true] rfl ?_
        simpa only [if_pos c511] using k245
      · have h := gb c511
        refine qb_iload (pc' := 64) dX4_bearOneMore_62 rfl rfl ?_
        refine qb_aloadn (pc' := 65) (i := 0) dX4_bearOneMore_64 rfl rfl rfl ?_
        refine qb_iloadn (pc' := 66) (i := 1) dX4_bearOneMore_65 rfl rfl rfl ?_
        refine qb_iload (pc' := 68) dX4_bearOneMore_66 rfl rfl ?_
        refine qb_iload (pc' := 70) dX4_bearOneMore_68 rfl rfl ?_
        refine qb_iconst (pc' := 71) dX4_bearOneMore_70 rfl rfl ?_
        obtain ⟨g1115, h⟩ := h
        refine qb_isub (pc' := 72) dX4_bearOneMore_71 rfl g1115 ?_
        obtain ⟨g1116, h⟩ := h
        refine qb_callVi (pc' := 75) (b := 54) (as := [.inl x1, .inl x4, .inl (x5 - 1)]) (rest := [.inl (if x4 ≤ 0 then (v_fl_worth x1 x4 x5 hp) else (max (v_fl_worth x1 x4 x5 hp) ((v_fl_worth x1 (x4 - 1) x5 hp) + (hp 57 x1))))]) dX4_bearOneMore_72 rfl qe_mX4_bearOneMore_mX4_worth rfl rfl qb_s54 rfl rfl (Nat.le_of_ble_eq_true rfl) (Nat.le_of_ble_eq_true rfl) ⟨rfl, rfl⟩ (K := fun vz hpz => (v_fl_worth x1 x4 (x5 - 1) hp) = vz ∧ hp = hpz) (s_fl_worth x1 x4 (x5 - 1) hp _ g1116 ⟨rfl, rfl⟩) (fun vz hpz ez => ?_)
        obtain ⟨ez1, ez2⟩ := ez
        subst ez1
        subst ez2
        refine qb_aloadn (pc' := 76) (i := 0) dX4_bearOneMore_75 rfl rfl rfl ?_
        refine qb_geta (pc' := 79) dX4_bearOneMore_76 rfl qf_X4_21 qb_s54 rfl ?_
        refine qb_iloadn (pc' := 80) (i := 1) dX4_bearOneMore_79 rfl rfl rfl ?_
        obtain ⟨g1117, h⟩ := h
        refine qb_iald (pc' := 81) (v := (hp 58 x1)) dX4_bearOneMore_80 rfl qb_s58 g1117.1 g1117.2 rfl ?_
        have g1118 := h
        refine qb_iadd (pc' := 82) dX4_bearOneMore_81 rfl g1118 ?_
        refine qb_mmax (pc' := 85) dX4_bearOneMore_82 rfl qlk_X4_41 ⟨Nat.le_of_ble_eq_true rfl, Nat.le_of_ble_eq_true rfl, Nat.zero_le _, Nat.zero_le _⟩ ?_
        refine qb_istore (pc' := 87) (L' := [qb_a 54, qb_i x1, none, qb_i x3, qb_i x4, qb_i x5, qb_i (max (if x4 ≤ 0 then (v_fl_worth x1 x4 x5 hp) else (max (v_fl_worth x1 x4 x5 hp) ((v_fl_worth x1 (x4 - 1) x5 hp) + (hp 57 x1)))) ((v_fl_worth x1 x4 (x5 - 1) hp) + (hp 58 x1)))]) dX4_bearOneMore_85 rfl (Nat.le_of_ble_eq_true rfl) rfl rfl ?_
        refine qb_cut (L' := [qb_a 54, qb_i x1, none, qb_i x3, qb_i x4, qb_i x5, qb_i (max (if x4 ≤ 0 then (v_fl_worth x1 x4 x5 hp) else (max (v_fl_worth x1 x4 x5 hp) ((v_fl_worth x1 (x4 - 1) x5 hp) + (hp 57 x1)))) ((v_fl_worth x1 x4 (x5 - 1) hp) + (hp 58 x1)))]) [true, true, false, true, true, true, true] rfl ?_
        simpa only [if_neg c511] using k245
    refine qb_fle (tgt := 57) (pc' := 32) dX4_bearOneMore_29 rfl rfl (fun c510 => ?_) (fun c510 => ?_)
    · refine qb_cut (L' := [qb_a 54, qb_i x1, none, qb_i x3, qb_i x4, qb_i x5, qb_i (v_fl_worth x1 x4 x5 hp)]) [true, true, false, true, true, true, true] rfl ?_
      simpa only [if_pos c510] using k244
    · have h := gb c510
      refine qb_iload (pc' := 34) dX4_bearOneMore_32 rfl rfl ?_
      refine qb_aloadn (pc' := 35) (i := 0) dX4_bearOneMore_34 rfl rfl rfl ?_
      refine qb_iloadn (pc' := 36) (i := 1) dX4_bearOneMore_35 rfl rfl rfl ?_
      refine qb_iload (pc' := 38) dX4_bearOneMore_36 rfl rfl ?_
      refine qb_iconst (pc' := 39) dX4_bearOneMore_38 rfl rfl ?_
      obtain ⟨g1107, h⟩ := h
      refine qb_isub (pc' := 40) dX4_bearOneMore_39 rfl g1107 ?_
      refine qb_iload (pc' := 42) dX4_bearOneMore_40 rfl rfl ?_
      obtain ⟨g1108, h⟩ := h
      refine qb_callVi (pc' := 45) (b := 54) (as := [.inl x1, .inl (x4 - 1), .inl x5]) (rest := [.inl (v_fl_worth x1 x4 x5 hp)]) dX4_bearOneMore_42 rfl qe_mX4_bearOneMore_mX4_worth rfl rfl qb_s54 rfl rfl (Nat.le_of_ble_eq_true rfl) (Nat.le_of_ble_eq_true rfl) ⟨rfl, rfl⟩ (K := fun vz hpz => (v_fl_worth x1 (x4 - 1) x5 hp) = vz ∧ hp = hpz) (s_fl_worth x1 (x4 - 1) x5 hp _ g1108 ⟨rfl, rfl⟩) (fun vz hpz ez => ?_)
      obtain ⟨ez1, ez2⟩ := ez
      subst ez1
      subst ez2
      refine qb_aloadn (pc' := 46) (i := 0) dX4_bearOneMore_45 rfl rfl rfl ?_
      refine qb_geta (pc' := 49) dX4_bearOneMore_46 rfl qf_X4_18 qb_s54 rfl ?_
      refine qb_iloadn (pc' := 50) (i := 1) dX4_bearOneMore_49 rfl rfl rfl ?_
      obtain ⟨g1109, h⟩ := h
      refine qb_iald (pc' := 51) (v := (hp 57 x1)) dX4_bearOneMore_50 rfl qb_s57 g1109.1 g1109.2 rfl ?_
      have g1110 := h
      refine qb_iadd (pc' := 52) dX4_bearOneMore_51 rfl g1110 ?_
      refine qb_mmax (pc' := 55) dX4_bearOneMore_52 rfl qlk_X4_41 ⟨Nat.le_of_ble_eq_true rfl, Nat.le_of_ble_eq_true rfl, Nat.zero_le _, Nat.zero_le _⟩ ?_
      refine qb_istore (pc' := 57) (L' := [qb_a 54, qb_i x1, none, qb_i x3, qb_i x4, qb_i x5, qb_i (max (v_fl_worth x1 x4 x5 hp) ((v_fl_worth x1 (x4 - 1) x5 hp) + (hp 57 x1)))]) dX4_bearOneMore_55 rfl (Nat.le_of_ble_eq_true rfl) rfl rfl ?_
      refine qb_cut (L' := [qb_a 54, qb_i x1, none, qb_i x3, qb_i x4, qb_i x5, qb_i (max (v_fl_worth x1 x4 x5 hp) ((v_fl_worth x1 (x4 - 1) x5 hp) + (hp 57 x1)))]) [true, true, false, true, true, true, true] rfl ?_
      simpa only [if_neg c510] using k244
def c_fl_plan (x1 : Int) (x2 : Int) (hp : qb_H) (K : qb_H → Prop) : Prop := qb_R mX4_plan 0 0 qb_sh 0 [qb_a 54, qb_i x1, qb_i x2, none, none] [] hp (qb_U qb_sh K)
def r_fl_plan_2 (x1 : Int) (x2 : Int) (x3 : Int) (hp : qb_H) (K : qb_H → Prop) : Prop := qb_R mX4_plan 0 0 qb_sh 2 [qb_a 54, qb_i x1, qb_i x2, qb_i x3, none] [] hp (qb_U qb_sh K)
def r_fl_plan_35 (x1 : Int) (x2 : Int) (x3 : Int) (x4 : Int) (hp : qb_H) (K : qb_H → Prop) : Prop := qb_R mX4_plan 0 0 qb_sh 35 [qb_a 54, qb_i x1, qb_i x2, qb_i x3, qb_i x4] [] hp (qb_U qb_sh K)
theorem b_fl_plan {x1 x2 : Int} {hp : qb_H} {K : qb_H → Prop} (h : r_fl_plan_2 x1 x2 3 hp K) : c_fl_plan x1 x2 hp K := by
  unfold c_fl_plan
  refine qb_iconst (pc' := 1) dX4_plan_0 rfl rfl ?_
  refine qb_istoren (pc' := 2) (i := 3) (L' := [qb_a 54, qb_i x1, qb_i x2, qb_i 3, none]) dX4_plan_1 rfl rfl (Nat.le_of_ble_eq_true rfl) rfl rfl ?_
  refine qb_cut (L' := [qb_a 54, qb_i x1, qb_i x2, qb_i 3, none]) [true, true, true, true, false] rfl ?_
  exact h
theorem b_fl_plan_2 {x1 x2 x3 : Int} {hp : qb_H} {K : qb_H → Prop} (h : (x3 < 0 → K hp) ∧ (¬ x3 < 0 → (qb_in (x3 + 1)) ∧ (qb_in ((x3 + 1) * 441)) ∧ (qb_in (x3 * 441)) ∧ (0 ≤ ((x3 + 1) * 441)) ∧ (0 ≤ (x3 * 441)) ∧ (((x3 + 1) * 441) + 441 ≤ 2205) ∧ ((x3 * 441) + 441 ≤ 2205) ∧ r_fl_plan_35 x1 x2 x3 0 (qb_cpy hp 59 59 ((x3 + 1) * 441) (x3 * 441) 441) K)) : r_fl_plan_2 x1 x2 x3 hp K := by
  unfold r_fl_plan_2
  refine qb_iloadn (pc' := 3) (i := 3) dX4_plan_2 rfl rfl rfl ?_
  refine qb_flt (tgt := 65) (pc' := 6) dX4_plan_3 rfl rfl (fun c506 => ?_) (fun c506 => ?_)
  · have h := h.1 c506
    exact qb_retv dX4_plan_65 rfl h
  · have h := h.2 c506
    refine qb_aloadn (pc' := 7) (i := 0) dX4_plan_6 rfl rfl rfl ?_
    refine qb_geta (pc' := 10) dX4_plan_7 rfl qf_X4_24 qb_s54 rfl ?_
    refine qb_iloadn (pc' := 11) (i := 3) dX4_plan_10 rfl rfl rfl ?_
    refine qb_iconst (pc' := 12) dX4_plan_11 rfl rfl ?_
    obtain ⟨g1083, h⟩ := h
    refine qb_iadd (pc' := 13) dX4_plan_12 rfl g1083 ?_
    refine qb_sipush (pc' := 16) dX4_plan_13 rfl rfl rfl ?_
    obtain ⟨g1084, h⟩ := h
    refine qb_imul (pc' := 17) dX4_plan_16 rfl g1084 ?_
    refine qb_aloadn (pc' := 18) (i := 0) dX4_plan_17 rfl rfl rfl ?_
    refine qb_geta (pc' := 21) dX4_plan_18 rfl qf_X4_24 qb_s54 rfl ?_
    refine qb_iloadn (pc' := 22) (i := 3) dX4_plan_21 rfl rfl rfl ?_
    refine qb_sipush (pc' := 25) dX4_plan_22 rfl rfl rfl ?_
    obtain ⟨g1085, h⟩ := h
    refine qb_imul (pc' := 26) dX4_plan_25 rfl g1085 ?_
    refine qb_sipush (pc' := 29) dX4_plan_26 rfl rfl rfl ?_
    obtain ⟨g1086, h⟩ := h
    obtain ⟨g1087, h⟩ := h
    obtain ⟨g1088, h⟩ := h
    obtain ⟨g1089, h⟩ := h
    refine qb_copy (pc' := 32) dX4_plan_29 rfl qlk_X4_27 qb_s59 qb_s59 g1086 g1087 (by decide) g1088 g1089 ⟨Nat.le_of_ble_eq_true rfl, Nat.le_of_ble_eq_true rfl⟩ ?_
    refine qb_iconst (pc' := 33) dX4_plan_32 rfl rfl ?_
    refine qb_istore (pc' := 35) (L' := [qb_a 54, qb_i x1, qb_i x2, qb_i x3, qb_i 0]) dX4_plan_33 rfl (Nat.le_of_ble_eq_true rfl) rfl rfl ?_
    refine qb_cut (L' := [qb_a 54, qb_i x1, qb_i x2, qb_i x3, qb_i 0]) [true, true, true, true, true] rfl ?_
    exact h
theorem b_fl_plan_35 {x1 x2 x3 x4 : Int} {hp : qb_H} {K : qb_H → Prop} (h : (0 ≤ x3 ∧ x3 < 4) ∧ (((hp 56 x3) ≤ x4 → r_fl_plan_2 x1 x2 (x3 + (-1)) hp K) ∧ (¬ (hp 56 x3) ≤ x4 → c_fl_bearOneMore x3 x1 x2 hp (fun hp138 => (qb_in (x4 + 1)) ∧ r_fl_plan_35 x1 x2 x3 (x4 + 1) hp138 K)))) : r_fl_plan_35 x1 x2 x3 x4 hp K := by
  unfold r_fl_plan_35
  refine qb_iload (pc' := 37) dX4_plan_35 rfl rfl ?_
  refine qb_aloadn (pc' := 38) (i := 0) dX4_plan_37 rfl rfl rfl ?_
  refine qb_geta (pc' := 41) dX4_plan_38 rfl qf_X4_15 qb_s54 rfl ?_
  refine qb_iloadn (pc' := 42) (i := 3) dX4_plan_41 rfl rfl rfl ?_
  obtain ⟨g1090, h⟩ := h
  refine qb_iald (pc' := 43) (v := (hp 56 x3)) dX4_plan_42 rfl qb_s56 g1090.1 g1090.2 rfl ?_
  refine qb_cge (tgt := 59) (pc' := 46) dX4_plan_43 rfl rfl (fun c507 => ?_) (fun c507 => ?_)
  · have h := h.1 c507
    refine qb_iinc (pc' := 62) (L' := [qb_a 54, qb_i x1, qb_i x2, qb_i (x3 + (-1)), qb_i x4]) dX4_plan_59 rfl rfl (qb_ina g1090 (by decide)) (Nat.le_of_ble_eq_true rfl) rfl rfl ?_
    refine qb_goto (tgt := 2) dX4_plan_62 rfl ?_
    refine qb_cut (L' := [qb_a 54, qb_i x1, qb_i x2, qb_i (x3 + (-1)), none]) [true, true, true, true, false] rfl ?_
    exact h
  · have h := h.2 c507
    refine qb_aloadn (pc' := 47) (i := 0) dX4_plan_46 rfl rfl rfl ?_
    refine qb_iloadn (pc' := 48) (i := 3) dX4_plan_47 rfl rfl rfl ?_
    refine qb_iloadn (pc' := 49) (i := 1) dX4_plan_48 rfl rfl rfl ?_
    refine qb_iloadn (pc' := 50) (i := 2) dX4_plan_49 rfl rfl rfl ?_
    refine qb_callVu (pc' := 53) (b := 54) (as := [.inl x3, .inl x1, .inl x2]) (rest := []) dX4_plan_50 rfl qe_mX4_plan_mX4_bearOneMore rfl rfl qb_s54 rfl rfl (Nat.le_of_ble_eq_true rfl) (Nat.le_of_ble_eq_true rfl) ⟨rfl, rfl⟩ h (fun hp138 h => ?_)
    obtain ⟨g1125, h⟩ := h
    refine qb_iinc (pc' := 56) (L' := [qb_a 54, qb_i x1, qb_i x2, qb_i x3, qb_i (x4 + 1)]) dX4_plan_53 rfl rfl g1125 (Nat.le_of_ble_eq_true rfl) rfl rfl ?_
    refine qb_goto (tgt := 35) dX4_plan_56 rfl ?_
    refine qb_cut (L' := [qb_a 54, qb_i x1, qb_i x2, qb_i x3, qb_i (x4 + 1)]) [true, true, true, true, true] rfl ?_
    exact h
def c_fl_leastRow (x1 : Int) (x2 : Int) (x3 : Int) (hp : qb_H) (K : Int → qb_H → Prop) : Prop := qb_R mX4_leastRow 0 0 qb_sh 0 [qb_a 54, qb_i x1, qb_i x2, qb_i x3, none, none, none, none] [] hp (qb_I qb_sh K)
def r_fl_leastRow_12 (x1 : Int) (x2 : Int) (x3 : Int) (x4 : Int) (x5 : Int) (hp : qb_H) (K : Int → qb_H → Prop) : Prop := qb_R mX4_leastRow 0 0 qb_sh 12 [qb_a 54, qb_i x1, qb_i x2, qb_i x3, qb_i x4, qb_i x5, none, none] [] hp (qb_I qb_sh K)
def r_fl_leastRow_30 (x1 : Int) (x2 : Int) (x3 : Int) (x4 : Int) (x5 : Int) (x6 : Int) (hp : qb_H) (K : Int → qb_H → Prop) : Prop := qb_R mX4_leastRow 0 0 qb_sh 30 [qb_a 54, qb_i x1, qb_i x2, qb_i x3, qb_i x4, qb_i x5, qb_i x6, none] [] hp (qb_I qb_sh K)
theorem b_fl_leastRow {x1 x2 x3 : Int} {hp : qb_H} {K : Int → qb_H → Prop} (h : (g_fl_worth x1 x2 x3) ∧ (∀ (y140 : Int), y140 = (v_fl_worth x1 x2 x3 hp) → r_fl_leastRow_12 x1 x2 x3 y140 0 hp K)) : c_fl_leastRow x1 x2 x3 hp K := by
  unfold c_fl_leastRow
  refine qb_aloadn (pc' := 1) (i := 0) dX4_leastRow_0 rfl rfl rfl ?_
  refine qb_iloadn (pc' := 2) (i := 1) dX4_leastRow_1 rfl rfl rfl ?_
  refine qb_iloadn (pc' := 3) (i := 2) dX4_leastRow_2 rfl rfl rfl ?_
  refine qb_iloadn (pc' := 4) (i := 3) dX4_leastRow_3 rfl rfl rfl ?_
  obtain ⟨g1128, h⟩ := h
  refine qb_callVi (pc' := 7) (b := 54) (as := [.inl x1, .inl x2, .inl x3]) (rest := []) dX4_leastRow_4 rfl qe_mX4_leastRow_mX4_worth rfl rfl qb_s54 rfl rfl (Nat.le_of_ble_eq_true rfl) (Nat.le_of_ble_eq_true rfl) ⟨rfl, rfl⟩ (K := fun vz hpz => (v_fl_worth x1 x2 x3 hp) = vz ∧ hp = hpz) (s_fl_worth x1 x2 x3 hp _ g1128 ⟨rfl, rfl⟩) (fun vz hpz ez => ?_)
  obtain ⟨ez1, ez2⟩ := ez
  subst ez1
  subst ez2
  refine qb_istorey (pc' := 9) (Lf := fun y140 => [qb_a 54, qb_i x1, qb_i x2, qb_i x3, qb_i y140, none, none, none]) dX4_leastRow_7 rfl (Nat.le_of_ble_eq_true rfl) rfl (fun _ => rfl) (fun y140 ey140 => ?_)
  have h := h y140 ey140
  refine qb_iconst (pc' := 10) dX4_leastRow_9 rfl rfl ?_
  refine qb_istore (pc' := 12) (L' := [qb_a 54, qb_i x1, qb_i x2, qb_i x3, qb_i y140, qb_i 0, none, none]) dX4_leastRow_10 rfl (Nat.le_of_ble_eq_true rfl) rfl rfl ?_
  refine qb_cut (L' := [qb_a 54, qb_i x1, qb_i x2, qb_i x3, qb_i y140, qb_i 0, none, none]) [true, true, true, true, true, true, false, false] rfl ?_
  exact h
theorem b_fl_leastRow_12 {x1 x2 x3 x4 x5 : Int} {hp : qb_H} {K : Int → qb_H → Prop} (h : (0 ≤ x1 ∧ x1 < 4) ∧ (((min (hp 56 x1) x2) < x5 → K 0 hp) ∧ (¬ (min (hp 56 x1) x2) < x5 → r_fl_leastRow_30 x1 x2 x3 x4 x5 0 hp K))) : r_fl_leastRow_12 x1 x2 x3 x4 x5 hp K := by
  unfold r_fl_leastRow_12
  refine qb_iload (pc' := 14) dX4_leastRow_12 rfl rfl ?_
  refine qb_aloadn (pc' := 15) (i := 0) dX4_leastRow_14 rfl rfl rfl ?_
  refine qb_geta (pc' := 18) dX4_leastRow_15 rfl qf_X4_15 qb_s54 rfl ?_
  refine qb_iloadn (pc' := 19) (i := 1) dX4_leastRow_18 rfl rfl rfl ?_
  obtain ⟨g1129, h⟩ := h
  refine qb_iald (pc' := 20) (v := (hp 56 x1)) dX4_leastRow_19 rfl qb_s56 g1129.1 g1129.2 rfl ?_
  refine qb_iloadn (pc' := 21) (i := 2) dX4_leastRow_20 rfl rfl rfl ?_
  refine qb_mmin (pc' := 24) dX4_leastRow_21 rfl qlk_X4_50 ⟨Nat.le_of_ble_eq_true rfl, Nat.le_of_ble_eq_true rfl, Nat.zero_le _, Nat.zero_le _⟩ ?_
  refine qb_cgt (tgt := 113) (pc' := 27) dX4_leastRow_24 rfl rfl (fun c514 => ?_) (fun c514 => ?_)
  · have h := h.1 c514
    refine qb_iconst (pc' := 114) dX4_leastRow_113 rfl rfl ?_
    exact qb_reti dX4_leastRow_114 rfl h
  · have h := h.2 c514
    refine qb_iconst (pc' := 28) dX4_leastRow_27 rfl rfl ?_
    refine qb_istore (pc' := 30) (L' := [qb_a 54, qb_i x1, qb_i x2, qb_i x3, qb_i x4, qb_i x5, qb_i 0, none]) dX4_leastRow_28 rfl (Nat.le_of_ble_eq_true rfl) rfl rfl ?_
    refine qb_cut (L' := [qb_a 54, qb_i x1, qb_i x2, qb_i x3, qb_i x4, qb_i x5, qb_i 0, none]) [true, true, true, true, true, true, true, false] rfl ?_
    exact h
theorem b_fl_leastRow_30 {x1 x2 x3 x4 x5 x6 : Int} {hp : qb_H} {K : Int → qb_H → Prop} (h : (0 ≤ x1 ∧ x1 < 4) ∧ (qb_in ((hp 56 x1) - x5)) ∧ (((min ((hp 56 x1) - x5) x3) < x6 → (qb_in (x5 + 1)) ∧ r_fl_leastRow_12 x1 x2 x3 x4 (x5 + 1) hp K) ∧ (¬ (min ((hp 56 x1) - x5) x3) < x6 → (qb_in (x5 * (hp 57 x1))) ∧ (qb_in (x6 * (hp 58 x1))) ∧ (qb_in ((x5 * (hp 57 x1)) + (x6 * (hp 58 x1)))) ∧ (qb_in (x2 - x5)) ∧ (qb_in (x3 - x6)) ∧ (g_fl_worth (x1 + 1) (x2 - x5) (x3 - x6)) ∧ (qb_in (((x5 * (hp 57 x1)) + (x6 * (hp 58 x1))) + (v_fl_worth (x1 + 1) (x2 - x5) (x3 - x6) hp))) ∧ (∀ (y141 : Int), y141 = (((x5 * (hp 57 x1)) + (x6 * (hp 58 x1))) + (v_fl_worth (x1 + 1) (x2 - x5) (x3 - x6) hp)) → (y141 = x4 → (qb_in (100 * x5)) ∧ (qb_in ((100 * x5) + x6)) ∧ K ((100 * x5) + x6) hp) ∧ (¬ y141 = x4 → (qb_in (x6 + 1)) ∧ r_fl_leastRow_30 x1 x2 x3 x4 x5 (x6 + 1) hp K))))) : r_fl_leastRow_30 x1 x2 x3 x4 x5 x6 hp K := by
  unfold r_fl_leastRow_30
  refine qb_iload (pc' := 32) dX4_leastRow_30 rfl rfl ?_
  refine qb_aloadn (pc' := 33) (i := 0) dX4_leastRow_32 rfl rfl rfl ?_
  refine qb_geta (pc' := 36) dX4_leastRow_33 rfl qf_X4_15 qb_s54 rfl ?_
  refine qb_iloadn (pc' := 37) (i := 1) dX4_leastRow_36 rfl rfl rfl ?_
  obtain ⟨g1130, h⟩ := h
  refine qb_iald (pc' := 38) (v := (hp 56 x1)) dX4_leastRow_37 rfl qb_s56 g1130.1 g1130.2 rfl ?_
  refine qb_iload (pc' := 40) dX4_leastRow_38 rfl rfl ?_
  obtain ⟨g1131, h⟩ := h
  refine qb_isub (pc' := 41) dX4_leastRow_40 rfl g1131 ?_
  refine qb_iloadn (pc' := 42) (i := 3) dX4_leastRow_41 rfl rfl rfl ?_
  refine qb_mmin (pc' := 45) dX4_leastRow_42 rfl qlk_X4_50 ⟨Nat.le_of_ble_eq_true rfl, Nat.le_of_ble_eq_true rfl, Nat.zero_le _, Nat.zero_le _⟩ ?_
  refine qb_cgt (tgt := 107) (pc' := 48) dX4_leastRow_45 rfl rfl (fun c515 => ?_) (fun c515 => ?_)
  · have h := h.1 c515
    obtain ⟨g1132, h⟩ := h
    refine qb_iinc (pc' := 110) (L' := [qb_a 54, qb_i x1, qb_i x2, qb_i x3, qb_i x4, qb_i (x5 + 1), qb_i x6, none]) dX4_leastRow_107 rfl rfl g1132 (Nat.le_of_ble_eq_true rfl) rfl rfl ?_
    refine qb_goto (tgt := 12) dX4_leastRow_110 rfl ?_
    refine qb_cut (L' := [qb_a 54, qb_i x1, qb_i x2, qb_i x3, qb_i x4, qb_i (x5 + 1), none, none]) [true, true, true, true, true, true, false, false] rfl ?_
    exact h
  · have h := h.2 c515
    refine qb_iload (pc' := 50) dX4_leastRow_48 rfl rfl ?_
    refine qb_aloadn (pc' := 51) (i := 0) dX4_leastRow_50 rfl rfl rfl ?_
    refine qb_geta (pc' := 54) dX4_leastRow_51 rfl qf_X4_18 qb_s54 rfl ?_
    refine qb_iloadn (pc' := 55) (i := 1) dX4_leastRow_54 rfl rfl rfl ?_
    refine qb_iald (pc' := 56) (v := (hp 57 x1)) dX4_leastRow_55 rfl qb_s57 g1130.1 g1130.2 rfl ?_
    obtain ⟨g1133, h⟩ := h
    refine qb_imul (pc' := 57) dX4_leastRow_56 rfl g1133 ?_
    refine qb_iload (pc' := 59) dX4_leastRow_57 rfl rfl ?_
    refine qb_aloadn (pc' := 60) (i := 0) dX4_leastRow_59 rfl rfl rfl ?_
    refine qb_geta (pc' := 63) dX4_leastRow_60 rfl qf_X4_21 qb_s54 rfl ?_
    refine qb_iloadn (pc' := 64) (i := 1) dX4_leastRow_63 rfl rfl rfl ?_
    refine qb_iald (pc' := 65) (v := (hp 58 x1)) dX4_leastRow_64 rfl qb_s58 g1130.1 g1130.2 rfl ?_
    obtain ⟨g1134, h⟩ := h
    refine qb_imul (pc' := 66) dX4_leastRow_65 rfl g1134 ?_
    obtain ⟨g1135, h⟩ := h
    refine qb_iadd (pc' := 67) dX4_leastRow_66 rfl g1135 ?_
    refine qb_aloadn (pc' := 68) (i := 0) dX4_leastRow_67 rfl rfl rfl ?_
    refine qb_iloadn (pc' := 69) (i := 1) dX4_leastRow_68 rfl rfl rfl ?_
    refine qb_iconst (pc' := 70) dX4_leastRow_69 rfl rfl ?_
    refine qb_iadd (pc' := 71) dX4_leastRow_70 rfl (qb_ina g1130 (by decide)) ?_
    refine qb_iloadn (pc' := 72) (i := 2) dX4_leastRow_71 rfl rfl rfl ?_
    refine qb_iload (pc' := 74) dX4_leastRow_72 rfl rfl ?_
    obtain ⟨g1136, h⟩ := h
    refine qb_isub (pc' := 75) dX4_leastRow_74 rfl g1136 ?_
    refine qb_iloadn (pc' := 76) (i := 3) dX4_leastRow_75 rfl rfl rfl ?_
    refine qb_iload (pc' := 78) dX4_leastRow_76 rfl rfl ?_
    obtain ⟨g1137, h⟩ := h
    refine qb_isub (pc' := 79) dX4_leastRow_78 rfl g1137 ?_
    obtain ⟨g1138, h⟩ := h
    refine qb_callVi (pc' := 82) (b := 54) (as := [.inl (x1 + 1), .inl (x2 - x5), .inl (x3 - x6)]) (rest := [.inl ((x5 * (hp 57 x1)) + (x6 * (hp 58 x1)))]) dX4_leastRow_79 rfl qe_mX4_leastRow_mX4_worth rfl rfl qb_s54 rfl rfl (Nat.le_of_ble_eq_true rfl) (Nat.le_of_ble_eq_true rfl) ⟨rfl, rfl⟩ (K := fun vz hpz => (v_fl_worth (x1 + 1) (x2 - x5) (x3 - x6) hp) = vz ∧ hp = hpz) (s_fl_worth (x1 + 1) (x2 - x5) (x3 - x6) hp _ g1138 ⟨rfl, rfl⟩) (fun vz hpz ez => ?_)
    obtain ⟨ez1, ez2⟩ := ez
    subst ez1
    subst ez2
    obtain ⟨g1139, h⟩ := h
    refine qb_iadd (pc' := 83) dX4_leastRow_82 rfl g1139 ?_
    refine qb_istorey (pc' := 85) (Lf := fun y141 => [qb_a 54, qb_i x1, qb_i x2, qb_i x3, qb_i x4, qb_i x5, qb_i x6, qb_i y141]) dX4_leastRow_83 rfl (Nat.le_of_ble_eq_true rfl) rfl (fun _ => rfl) (fun y141 ey141 => ?_)
    have h := h y141 ey141
    refine qb_iload (pc' := 87) dX4_leastRow_85 rfl rfl ?_
    refine qb_iload (pc' := 89) dX4_leastRow_87 rfl rfl ?_
    refine qb_cne (tgt := 101) (pc' := 92) dX4_leastRow_89 rfl rfl (fun c516 => ?_) (fun c516 => ?_)
    · have h := h.2 c516
      obtain ⟨g1142, h⟩ := h
      refine qb_iinc (pc' := 104) (L' := [qb_a 54, qb_i x1, qb_i x2, qb_i x3, qb_i x4, qb_i x5, qb_i (x6 + 1), qb_i y141]) dX4_leastRow_101 rfl rfl g1142 (Nat.le_of_ble_eq_true rfl) rfl rfl ?_
      refine qb_goto (tgt := 30) dX4_leastRow_104 rfl ?_
      refine qb_cut (L' := [qb_a 54, qb_i x1, qb_i x2, qb_i x3, qb_i x4, qb_i x5, qb_i (x6 + 1), none]) [true, true, true, true, true, true, true, false] rfl ?_
      exact h
    · have h := h.1 c516
      refine qb_bipush (pc' := 94) dX4_leastRow_92 rfl rfl rfl ?_
      refine qb_iload (pc' := 96) dX4_leastRow_94 rfl rfl ?_
      obtain ⟨g1140, h⟩ := h
      refine qb_imul (pc' := 97) dX4_leastRow_96 rfl g1140 ?_
      refine qb_iload (pc' := 99) dX4_leastRow_97 rfl rfl ?_
      obtain ⟨g1141, h⟩ := h
      refine qb_iadd (pc' := 100) dX4_leastRow_99 rfl g1141 ?_
      exact qb_reti dX4_leastRow_100 rfl h
def c_fl_borneBy (x1 : Int) (x2 : Int) (x3 : Int) (hp : qb_H) (K : Int → qb_H → Prop) : Prop := qb_R mX4_borneBy 0 0 qb_sh 0 [qb_a 54, qb_i x1, qb_i x2, qb_i x3, none, none, none, none] [] hp (qb_I qb_sh K)
def r_fl_borneBy_12 (x1 : Int) (x4 : Int) (x5 : Int) (x6 : Int) (x7 : Int) (hp : qb_H) (K : Int → qb_H → Prop) : Prop := qb_R mX4_borneBy 0 0 qb_sh 12 [qb_a 54, qb_i x1, none, none, qb_i x4, qb_i x5, qb_i x6, qb_i x7] [] hp (qb_I qb_sh K)
theorem b_fl_borneBy {x1 x2 x3 : Int} {hp : qb_H} {K : Int → qb_H → Prop} (h : r_fl_borneBy_12 x1 x2 x3 0 0 hp K) : c_fl_borneBy x1 x2 x3 hp K := by
  unfold c_fl_borneBy
  refine qb_iloadn (pc' := 1) (i := 2) dX4_borneBy_0 rfl rfl rfl ?_
  refine qb_istore (pc' := 3) (L' := [qb_a 54, qb_i x1, qb_i x2, qb_i x3, qb_i x2, none, none, none]) dX4_borneBy_1 rfl (Nat.le_of_ble_eq_true rfl) rfl rfl ?_
  refine qb_iloadn (pc' := 4) (i := 3) dX4_borneBy_3 rfl rfl rfl ?_
  refine qb_istore (pc' := 6) (L' := [qb_a 54, qb_i x1, qb_i x2, qb_i x3, qb_i x2, qb_i x3, none, none]) dX4_borneBy_4 rfl (Nat.le_of_ble_eq_true rfl) rfl rfl ?_
  refine qb_iconst (pc' := 7) dX4_borneBy_6 rfl rfl ?_
  refine qb_istore (pc' := 9) (L' := [qb_a 54, qb_i x1, qb_i x2, qb_i x3, qb_i x2, qb_i x3, qb_i 0, none]) dX4_borneBy_7 rfl (Nat.le_of_ble_eq_true rfl) rfl rfl ?_
  refine qb_iconst (pc' := 10) dX4_borneBy_9 rfl rfl ?_
  refine qb_istore (pc' := 12) (L' := [qb_a 54, qb_i x1, qb_i x2, qb_i x3, qb_i x2, qb_i x3, qb_i 0, qb_i 0]) dX4_borneBy_10 rfl (Nat.le_of_ble_eq_true rfl) rfl rfl ?_
  refine qb_cut (L' := [qb_a 54, qb_i x1, none, none, qb_i x2, qb_i x3, qb_i 0, qb_i 0]) [true, true, false, false, true, true, true, true] rfl ?_
  exact h
theorem b_fl_borneBy_12 {x1 x4 x5 x6 x7 : Int} {hp : qb_H} {K : Int → qb_H → Prop} (h : (x1 < x7 → K x6 hp) ∧ (¬ x1 < x7 → c_fl_leastRow x7 x4 x5 hp (fun v142 hp142 => (0 ≤ v142) ∧ (qb_in (x4 - (v142 / 100))) ∧ (qb_in (x5 - (v142 % 100))) ∧ (qb_in (x7 + 1)) ∧ r_fl_borneBy_12 x1 (x4 - (v142 / 100)) (x5 - (v142 % 100)) v142 (x7 + 1) hp142 K))) : r_fl_borneBy_12 x1 x4 x5 x6 x7 hp K := by
  unfold r_fl_borneBy_12
  refine qb_iload (pc' := 14) dX4_borneBy_12 rfl rfl ?_
  refine qb_iloadn (pc' := 15) (i := 1) dX4_borneBy_14 rfl rfl rfl ?_
  refine qb_cgt (tgt := 56) (pc' := 18) dX4_borneBy_15 rfl rfl (fun c513 => ?_) (fun c513 => ?_)
  · have h := h.1 c513
    refine qb_iload (pc' := 58) dX4_borneBy_56 rfl rfl ?_
    exact qb_reti dX4_borneBy_58 rfl h
  · have h := h.2 c513
    refine qb_aloadn (pc' := 19) (i := 0) dX4_borneBy_18 rfl rfl rfl ?_
    refine qb_iload (pc' := 21) dX4_borneBy_19 rfl rfl ?_
    refine qb_iload (pc' := 23) dX4_borneBy_21 rfl rfl ?_
    refine qb_iload (pc' := 25) dX4_borneBy_23 rfl rfl ?_
    refine qb_callVi (pc' := 28) (b := 54) (as := [.inl x7, .inl x4, .inl x5]) (rest := []) dX4_borneBy_25 rfl qe_mX4_borneBy_mX4_leastRow rfl rfl qb_s54 rfl rfl (Nat.le_of_ble_eq_true rfl) (Nat.le_of_ble_eq_true rfl) ⟨rfl, rfl⟩ h (fun v142 hp142 h => ?_)
    refine qb_istore (pc' := 30) (L' := [qb_a 54, qb_i x1, none, none, qb_i x4, qb_i x5, qb_i v142, qb_i x7]) dX4_borneBy_28 rfl (Nat.le_of_ble_eq_true rfl) rfl rfl ?_
    refine qb_iload (pc' := 32) dX4_borneBy_30 rfl rfl ?_
    refine qb_iload (pc' := 34) dX4_borneBy_32 rfl rfl ?_
    refine qb_bipush (pc' := 36) dX4_borneBy_34 rfl rfl rfl ?_
    obtain ⟨g1143, h⟩ := h
    refine qb_idiv (pc' := 37) dX4_borneBy_36 rfl g1143 (by decide) ?_
    obtain ⟨g1144, h⟩ := h
    refine qb_isub (pc' := 38) dX4_borneBy_37 rfl g1144 ?_
    refine qb_istore (pc' := 40) (L' := [qb_a 54, qb_i x1, none, none, qb_i (x4 - (v142 / 100)), qb_i x5, qb_i v142, qb_i x7]) dX4_borneBy_38 rfl (Nat.le_of_ble_eq_true rfl) rfl rfl ?_
    refine qb_iload (pc' := 42) dX4_borneBy_40 rfl rfl ?_
    refine qb_iload (pc' := 44) dX4_borneBy_42 rfl rfl ?_
    refine qb_bipush (pc' := 46) dX4_borneBy_44 rfl rfl rfl ?_
    refine qb_irem (pc' := 47) dX4_borneBy_46 rfl g1143 (by decide) ?_
    obtain ⟨g1145, h⟩ := h
    refine qb_isub (pc' := 48) dX4_borneBy_47 rfl g1145 ?_
    refine qb_istore (pc' := 50) (L' := [qb_a 54, qb_i x1, none, none, qb_i (x4 - (v142 / 100)), qb_i (x5 - (v142 % 100)), qb_i v142, qb_i x7]) dX4_borneBy_48 rfl (Nat.le_of_ble_eq_true rfl) rfl rfl ?_
    obtain ⟨g1146, h⟩ := h
    refine qb_iinc (pc' := 53) (L' := [qb_a 54, qb_i x1, none, none, qb_i (x4 - (v142 / 100)), qb_i (x5 - (v142 % 100)), qb_i v142, qb_i (x7 + 1)]) dX4_borneBy_50 rfl rfl g1146 (Nat.le_of_ble_eq_true rfl) rfl rfl ?_
    refine qb_goto (tgt := 12) dX4_borneBy_53 rfl ?_
    refine qb_cut (L' := [qb_a 54, qb_i x1, none, none, qb_i (x4 - (v142 / 100)), qb_i (x5 - (v142 % 100)), qb_i v142, qb_i (x7 + 1)]) [true, true, false, false, true, true, true, true] rfl ?_
    exact h
def c_fc_find_p (x1 : Int) (x2 : Int) (x3 : Int) (x4 : Int) (hp : qb_H) (K : Int → qb_H → Prop) : Prop := qb_R mX5_find 0 0 qb_sh 0 [qb_a 45, qb_i x1, qb_i x2, qb_i x3, qb_i x4, none, none, none] [] hp (qb_I qb_sh K)
def r_fc_find_p_7 (x1 : Int) (x2 : Int) (x3 : Int) (x4 : Int) (x5 : Int) (x6 : Int) (hp : qb_H) (K : Int → qb_H → Prop) : Prop := qb_R mX5_find 0 0 qb_sh 7 [qb_a 45, qb_i x1, qb_i x2, qb_i x3, qb_i x4, qb_i x5, qb_i x6, none] [] hp (qb_I qb_sh K)
theorem b_fc_find_p {x1 x2 x3 x4 : Int} {hp : qb_H} {K : Int → qb_H → Prop} (h : r_fc_find_p_7 x1 x2 x3 x4 (-6) 0 hp K) : c_fc_find_p x1 x2 x3 x4 hp K := by
  unfold c_fc_find_p
  refine qb_bipush (pc' := 2) dX5_find_0 rfl rfl rfl ?_
  refine qb_istore (pc' := 4) (L' := [qb_a 45, qb_i x1, qb_i x2, qb_i x3, qb_i x4, qb_i (-6), none, none]) dX5_find_2 rfl (Nat.le_of_ble_eq_true rfl) rfl rfl ?_
  refine qb_iconst (pc' := 5) dX5_find_4 rfl rfl ?_
  refine qb_istore (pc' := 7) (L' := [qb_a 45, qb_i x1, qb_i x2, qb_i x3, qb_i x4, qb_i (-6), qb_i 0, none]) dX5_find_5 rfl (Nat.le_of_ble_eq_true rfl) rfl rfl ?_
  refine qb_cut (L' := [qb_a 45, qb_i x1, qb_i x2, qb_i x3, qb_i x4, qb_i (-6), qb_i 0, none]) [true, true, true, true, true, true, true, false] rfl ?_
  exact h
theorem b_fc_find_p_7 {x1 x2 x3 x4 x5 x6 : Int} {hp : qb_H} {K : Int → qb_H → Prop} (h : ((hp 45 4) ≤ x6 → (¬ x5 = (-6) → 0 ≤ x5 ∧ x5 < 60) ∧ (∀ (y144 : Int), y144 = (if x5 = (-6) then x4 else (hp 48 x5)) → K y144 hp)) ∧ (¬ (hp 45 4) ≤ x6 → (0 ≤ x6 ∧ x6 < 60) ∧ (∀ (y145 : Int), y145 = (if (hp 46 x6) = x1 then (if x3 < (hp 49 x6) then (0 : Int) else (if x2 < (hp 47 x6) then (0 : Int) else 1)) else 0) → (¬ y145 = 0 → (¬ x5 = (-6) → 0 ≤ x5 ∧ x5 < 60)) ∧ (∀ (y146 : Int), y146 = (if y145 = 0 then x5 else (if x5 = (-6) then x6 else (if (hp 47 x6) < (hp 47 x5) then x5 else x6))) → r_fc_find_p_7 x1 x2 x3 x4 y146 (x6 + 1) hp K)))) : r_fc_find_p_7 x1 x2 x3 x4 x5 x6 hp K := by
  unfold r_fc_find_p_7
  refine qb_iload (pc' := 9) dX5_find_7 rfl rfl ?_
  refine qb_aloadn (pc' := 10) (i := 0) dX5_find_9 rfl rfl rfl ?_
  refine qb_geti (pc' := 13) (v := (hp 45 4)) dX5_find_10 rfl qf_X5_24 qb_s45 rfl rfl ?_
  refine qb_cge (tgt := 95) (pc' := 16) dX5_find_13 rfl rfl (fun c517 => ?_) (fun c517 => ?_)
  · have h := h.1 c517
    refine qb_iload (pc' := 97) dX5_find_95 rfl rfl ?_
    refine qb_bipush (pc' := 99) dX5_find_97 rfl rfl rfl ?_
    obtain ⟨gb, h⟩ := h
    have k246 : ∀ (y144 : Int), y144 = (if x5 = (-6) then x4 else (hp 48 x5)) → qb_R mX5_find 0 0 qb_sh 114 [none, none, none, none, none, none, none, none] [.inl y144] hp (qb_I qb_sh K) := by
      intro y144 ey144
      have h := h y144 ey144
      exact qb_reti dX5_find_114 rfl h
    refine qb_cne (tgt := 107) (pc' := 102) dX5_find_99 rfl rfl (fun c518 => ?_) (fun c518 => ?_)
    · have h := gb c518
      refine qb_aloadn (pc' := 108) (i := 0) dX5_find_107 rfl rfl rfl ?_
      refine qb_geta (pc' := 111) dX5_find_108 rfl qf_X5_18 qb_s45 rfl ?_
      refine qb_iload (pc' := 113) dX5_find_111 rfl rfl ?_
      have g1150 := h
      refine qb_iald (pc' := 114) (v := (hp 48 x5)) dX5_find_113 rfl qb_s48 g1150.1 g1150.2 rfl ?_
      refine qb_cut (L' := [none, none, none, none, none, none, none, none]) [false, false, false, false, false, false, false, false] rfl ?_
      exact k246 _ (if_neg c518).symm
    · refine qb_iload (pc' := 104) dX5_find_102 rfl rfl ?_
      refine qb_goto (tgt := 114) dX5_find_104 rfl ?_
      refine qb_cut (L' := [none, none, none, none, none, none, none, none]) [false, false, false, false, false, false, false, false] rfl ?_
      exact k246 _ (if_pos c518).symm
  · have h := h.2 c517
    refine qb_aloadn (pc' := 17) (i := 0) dX5_find_16 rfl rfl rfl ?_
    refine qb_geta (pc' := 20) dX5_find_17 rfl qf_X5_9 qb_s45 rfl ?_
    refine qb_iload (pc' := 22) dX5_find_20 rfl rfl ?_
    obtain ⟨g1151, h⟩ := h
    refine qb_iald (pc' := 23) (v := (hp 46 x6)) dX5_find_22 rfl qb_s46 g1151.1 g1151.2 rfl ?_
    refine qb_iloadn (pc' := 24) (i := 1) dX5_find_23 rfl rfl rfl ?_
    have k250 : ∀ (y145 : Int), y145 = (if (hp 46 x6) = x1 then (if x3 < (hp 49 x6) then (0 : Int) else (if x2 < (hp 47 x6) then (0 : Int) else 1)) else 0) → qb_R mX5_find 0 0 qb_sh 54 [qb_a 45, qb_i x1, qb_i x2, qb_i x3, qb_i x4, qb_i x5, qb_i x6, none] [.inl y145] hp (qb_I qb_sh K) := by
      intro y145 ey145
      have h := h y145 ey145
      refine qb_istore (pc' := 56) (L' := [qb_a 45, qb_i x1, qb_i x2, qb_i x3, qb_i x4, qb_i x5, qb_i x6, qb_i y145]) dX5_find_54 rfl (Nat.le_of_ble_eq_true rfl) rfl rfl ?_
      refine qb_iload (pc' := 58) dX5_find_56 rfl rfl ?_
      obtain ⟨gb, h⟩ := h
      have k257 : ∀ (y146 : Int), y146 = (if y145 = 0 then x5 else (if x5 = (-6) then x6 else (if (hp 47 x6) < (hp 47 x5) then x5 else x6))) → qb_R mX5_find 0 0 qb_sh 89 [qb_a 45, qb_i x1, qb_i x2, qb_i x3, qb_i x4, qb_i y146, qb_i x6, none] [] hp (qb_I qb_sh K) := by
        intro y146 ey146
        have h := h y146 ey146
        refine qb_iinc (pc' := 92) (L' := [qb_a 45, qb_i x1, qb_i x2, qb_i x3, qb_i x4, qb_i y146, qb_i (x6 + 1), none]) dX5_find_89 rfl rfl (qb_ina g1151 (by decide)) (Nat.le_of_ble_eq_true rfl) rfl rfl ?_
        refine qb_goto (tgt := 7) dX5_find_92 rfl ?_
        refine qb_cut (L' := [qb_a 45, qb_i x1, qb_i x2, qb_i x3, qb_i x4, qb_i y146, qb_i (x6 + 1), none]) [true, true, true, true, true, true, true, false] rfl ?_
        exact h
      refine qb_feq (tgt := 89) (pc' := 61) dX5_find_58 rfl rfl (fun c526 => ?_) (fun c526 => ?_)
      · refine qb_cut (L' := [qb_a 45, qb_i x1, qb_i x2, qb_i x3, qb_i x4, qb_i x5, qb_i x6, none]) [true, true, true, true, true, true, true, false] rfl ?_
        exact k257 _ (if_pos c526).symm
      · have h := gb c526
        refine qb_iload (pc' := 63) dX5_find_61 rfl rfl ?_
        refine qb_bipush (pc' := 65) dX5_find_63 rfl rfl rfl ?_
        have gb := h
        have k259 : qb_R mX5_find 0 0 qb_sh 89 [qb_a 45, qb_i x1, qb_i x2, qb_i x3, qb_i x4, qb_i (if x5 = (-6) then x6 else (if (hp 47 x6) < (hp 47 x5) then x5 else x6)), qb_i x6, none] [] hp (qb_I qb_sh K) := by
          refine qb_cut (L' := [qb_a 45, qb_i x1, qb_i x2, qb_i x3, qb_i x4, qb_i (if x5 = (-6) then x6 else (if (hp 47 x6) < (hp 47 x5) then x5 else x6)), qb_i x6, none]) [true, true, true, true, true, true, true, false] rfl ?_
          exact k257 _ (if_neg c526).symm
        refine qb_ceq (tgt := 85) (pc' := 68) dX5_find_65 rfl rfl (fun c530 => ?_) (fun c530 => ?_)
        · refine qb_iload (pc' := 87) dX5_find_85 rfl rfl ?_
          refine qb_istore (pc' := 89) (L' := [qb_a 45, qb_i x1, qb_i x2, qb_i x3, qb_i x4, qb_i x6, qb_i x6, qb_i y145]) dX5_find_87 rfl (Nat.le_of_ble_eq_true rfl) rfl rfl ?_
          refine qb_cut (L' := [qb_a 45, qb_i x1, qb_i x2, qb_i x3, qb_i x4, qb_i x6, qb_i x6, none]) [true, true, true, true, true, true, true, false] rfl ?_
          simpa only [if_pos c530] using k259
        · have h := gb c530
          refine qb_aloadn (pc' := 69) (i := 0) dX5_find_68 rfl rfl rfl ?_
          refine qb_geta (pc' := 72) dX5_find_69 rfl qf_X5_15 qb_s45 rfl ?_
          refine qb_iload (pc' := 74) dX5_find_72 rfl rfl ?_
          refine qb_iald (pc' := 75) (v := (hp 47 x6)) dX5_find_74 rfl qb_s47 g1151.1 g1151.2 rfl ?_
          refine qb_aloadn (pc' := 76) (i := 0) dX5_find_75 rfl rfl rfl ?_
          refine qb_geta (pc' := 79) dX5_find_76 rfl qf_X5_15 qb_s45 rfl ?_
          refine qb_iload (pc' := 81) dX5_find_79 rfl rfl ?_
          have g1155 := h
          refine qb_iald (pc' := 82) (v := (hp 47 x5)) dX5_find_81 rfl qb_s47 g1155.1 g1155.2 rfl ?_
          have k260 : qb_R mX5_find 0 0 qb_sh 89 [qb_a 45, qb_i x1, qb_i x2, qb_i x3, qb_i x4, qb_i (if (hp 47 x6) < (hp 47 x5) then x5 else x6), qb_i x6, none] [] hp (qb_I qb_sh K) := by
            refine qb_cut (L' := [qb_a 45, qb_i x1, qb_i x2, qb_i x3, qb_i x4, qb_i (if (hp 47 x6) < (hp 47 x5) then x5 else x6), qb_i x6, none]) [true, true, true, true, true, true, true, false] rfl ?_
            simpa only [if_neg c530] using k259
          refine qb_clt (tgt := 89) (pc' := 85) dX5_find_82 rfl rfl (fun c532 => ?_) (fun c532 => ?_)
          · refine qb_cut (L' := [qb_a 45, qb_i x1, qb_i x2, qb_i x3, qb_i x4, qb_i x5, qb_i x6, none]) [true, true, true, true, true, true, true, false] rfl ?_
            simpa only [if_pos c532] using k260
          · refine qb_iload (pc' := 87) dX5_find_85 rfl rfl ?_
            refine qb_istore (pc' := 89) (L' := [qb_a 45, qb_i x1, qb_i x2, qb_i x3, qb_i x4, qb_i x6, qb_i x6, qb_i y145]) dX5_find_87 rfl (Nat.le_of_ble_eq_true rfl) rfl rfl ?_
            refine qb_cut (L' := [qb_a 45, qb_i x1, qb_i x2, qb_i x3, qb_i x4, qb_i x6, qb_i x6, none]) [true, true, true, true, true, true, true, false] rfl ?_
            simpa only [if_neg c532] using k260
    refine qb_cne (tgt := 53) (pc' := 27) dX5_find_24 rfl rfl (fun c519 => ?_) (fun c519 => ?_)
    · refine qb_iconst (pc' := 54) dX5_find_53 rfl rfl ?_
      refine qb_cut (L' := [qb_a 45, qb_i x1, qb_i x2, qb_i x3, qb_i x4, qb_i x5, qb_i x6, none]) [true, true, true, true, true, true, true, false] rfl ?_
      exact k250 _ (if_neg c519).symm
    · refine qb_aloadn (pc' := 28) (i := 0) dX5_find_27 rfl rfl rfl ?_
      refine qb_geta (pc' := 31) dX5_find_28 rfl qf_X5_21 qb_s45 rfl ?_
      refine qb_iload (pc' := 33) dX5_find_31 rfl rfl ?_
      refine qb_iald (pc' := 34) (v := (hp 49 x6)) dX5_find_33 rfl qb_s49 g1151.1 g1151.2 rfl ?_
      refine qb_iloadn (pc' := 35) (i := 3) dX5_find_34 rfl rfl rfl ?_
      have k252 : qb_R mX5_find 0 0 qb_sh 54 [qb_a 45, qb_i x1, qb_i x2, qb_i x3, qb_i x4, qb_i x5, qb_i x6, none] [.inl (if x3 < (hp 49 x6) then (0 : Int) else (if x2 < (hp 47 x6) then (0 : Int) else 1))] hp (qb_I qb_sh K) := by
        refine qb_cut (L' := [qb_a 45, qb_i x1, qb_i x2, qb_i x3, qb_i x4, qb_i x5, qb_i x6, none]) [true, true, true, true, true, true, true, false] rfl ?_
        exact k250 _ (if_pos c519).symm
      refine qb_cgt (tgt := 53) (pc' := 38) dX5_find_35 rfl rfl (fun c523 => ?_) (fun c523 => ?_)
      · refine qb_iconst (pc' := 54) dX5_find_53 rfl rfl ?_
        refine qb_cut (L' := [qb_a 45, qb_i x1, qb_i x2, qb_i x3, qb_i x4, qb_i x5, qb_i x6, none]) [true, true, true, true, true, true, true, false] rfl ?_
        simpa only [if_pos c523] using k252
      · refine qb_aloadn (pc' := 39) (i := 0) dX5_find_38 rfl rfl rfl ?_
        refine qb_geta (pc' := 42) dX5_find_39 rfl qf_X5_15 qb_s45 rfl ?_
        refine qb_iload (pc' := 44) dX5_find_42 rfl rfl ?_
        refine qb_iald (pc' := 45) (v := (hp 47 x6)) dX5_find_44 rfl qb_s47 g1151.1 g1151.2 rfl ?_
        refine qb_iloadn (pc' := 46) (i := 2) dX5_find_45 rfl rfl rfl ?_
        have k253 : qb_R mX5_find 0 0 qb_sh 54 [qb_a 45, qb_i x1, qb_i x2, qb_i x3, qb_i x4, qb_i x5, qb_i x6, none] [.inl (if x2 < (hp 47 x6) then (0 : Int) else 1)] hp (qb_I qb_sh K) := by
          refine qb_cut (L' := [qb_a 45, qb_i x1, qb_i x2, qb_i x3, qb_i x4, qb_i x5, qb_i x6, none]) [true, true, true, true, true, true, true, false] rfl ?_
          simpa only [if_neg c523] using k252
        refine qb_cgt (tgt := 53) (pc' := 49) dX5_find_46 rfl rfl (fun c525 => ?_) (fun c525 => ?_)
        · refine qb_iconst (pc' := 54) dX5_find_53 rfl rfl ?_
          refine qb_cut (L' := [qb_a 45, qb_i x1, qb_i x2, qb_i x3, qb_i x4, qb_i x5, qb_i x6, none]) [true, true, true, true, true, true, true, false] rfl ?_
          simpa only [if_pos c525] using k253
        · refine qb_iconst (pc' := 50) dX5_find_49 rfl rfl ?_
          refine qb_goto (tgt := 54) dX5_find_50 rfl ?_
          refine qb_cut (L' := [qb_a 45, qb_i x1, qb_i x2, qb_i x3, qb_i x4, qb_i x5, qb_i x6, none]) [true, true, true, true, true, true, true, false] rfl ?_
          simpa only [if_neg c525] using k253
def c_q_load (x1 : Int) (x2 : Int) (x3 : Int) (x4 : Int) (hp : qb_H) (K : Int → qb_H → Prop) : Prop := qb_R mX10_load 0 0 qb_sh 0 [qb_a 0, qb_i x1, qb_i x2, qb_i x3, qb_i x4, none] [] hp (qb_I qb_sh K)
def r_q_load_46 (x1 : Int) (x2 : Int) (x3 : Int) (x4 : Int) (x5 : Int) (hp : qb_H) (K : Int → qb_H → Prop) : Prop := qb_R mX10_load 0 0 qb_sh 46 [qb_a 0, qb_i x1, qb_i x2, qb_i x3, qb_i x4, qb_i x5] [] hp (qb_I qb_sh K)
theorem b_q_load {x1 x2 x3 x4 : Int} {hp : qb_H} {K : Int → qb_H → Prop} (h : ((v_q_within x1 0 20) = 0 → K (-2) hp) ∧ (¬ (v_q_within x1 0 20) = 0 → ((v_q_within x2 0 20) = 0 → K (-2) hp) ∧ (¬ (v_q_within x2 0 20) = 0 → ((v_q_isDay x3) = 0 → K (-2) hp) ∧ (¬ (v_q_isDay x3) = 0 → ((v_q_within x4 (-1) 3) = 0 → K (-6) hp) ∧ (¬ (v_q_within x4 (-1) 3) = 0 → r_q_load_46 x1 x2 x3 x4 0 hp K))))) : c_q_load x1 x2 x3 x4 hp K := by
  unfold c_q_load
  refine qb_iloadn (pc' := 1) (i := 1) dX10_load_0 rfl rfl rfl ?_
  refine qb_iconst (pc' := 2) dX10_load_1 rfl rfl ?_
  refine qb_bipush (pc' := 4) dX10_load_2 rfl rfl rfl ?_
  refine qb_callSi (pc' := 7) (as := [.inl x1, .inl 0, .inl 20]) (rest := []) dX10_load_4 rfl qe_mX10_load_mX10_within rfl rfl rfl (Nat.le_of_ble_eq_true rfl) (Nat.le_of_ble_eq_true rfl) ⟨rfl, rfl⟩ (K := fun vz hpz => (v_q_within x1 0 20) = vz ∧ hp = hpz) (s_q_within x1 0 20 hp _ trivial ⟨rfl, rfl⟩) (fun vz hpz ez => ?_)
  obtain ⟨ez1, ez2⟩ := ez
  subst ez1
  subst ez2
  refine qb_feq (tgt := 27) (pc' := 10) dX10_load_7 rfl rfl (fun c501 => ?_) (fun c501 => ?_)
  · have h := h.1 c501
    refine qb_bipush (pc' := 29) dX10_load_27 rfl rfl rfl ?_
    exact qb_reti dX10_load_29 rfl h
  · have h := h.2 c501
    refine qb_iloadn (pc' := 11) (i := 2) dX10_load_10 rfl rfl rfl ?_
    refine qb_iconst (pc' := 12) dX10_load_11 rfl rfl ?_
    refine qb_bipush (pc' := 14) dX10_load_12 rfl rfl rfl ?_
    refine qb_callSi (pc' := 17) (as := [.inl x2, .inl 0, .inl 20]) (rest := []) dX10_load_14 rfl qe_mX10_load_mX10_within rfl rfl rfl (Nat.le_of_ble_eq_true rfl) (Nat.le_of_ble_eq_true rfl) ⟨rfl, rfl⟩ (K := fun vz hpz => (v_q_within x2 0 20) = vz ∧ hp = hpz) (s_q_within x2 0 20 hp _ trivial ⟨rfl, rfl⟩) (fun vz hpz ez => ?_)
    obtain ⟨ez1, ez2⟩ := ez
    subst ez1
    subst ez2
    refine qb_feq (tgt := 27) (pc' := 20) dX10_load_17 rfl rfl (fun c502 => ?_) (fun c502 => ?_)
    · have h := h.1 c502
      refine qb_bipush (pc' := 29) dX10_load_27 rfl rfl rfl ?_
      exact qb_reti dX10_load_29 rfl h
    · have h := h.2 c502
      refine qb_iloadn (pc' := 21) (i := 3) dX10_load_20 rfl rfl rfl ?_
      refine qb_callSi (pc' := 24) (as := [.inl x3]) (rest := []) dX10_load_21 rfl qe_mX10_load_mX10_isDay rfl rfl rfl (Nat.le_of_ble_eq_true rfl) (Nat.le_of_ble_eq_true rfl) ⟨rfl, rfl⟩ (K := fun vz hpz => (v_q_isDay x3) = vz ∧ hp = hpz) (s_q_isDay x3 hp _ trivial ⟨rfl, rfl⟩) (fun vz hpz ez => ?_)
      obtain ⟨ez1, ez2⟩ := ez
      subst ez1
      subst ez2
      refine qb_fne (tgt := 30) (pc' := 27) dX10_load_24 rfl rfl (fun c503 => ?_) (fun c503 => ?_)
      · have h := h.2 c503
        refine qb_iload (pc' := 32) dX10_load_30 rfl rfl ?_
        refine qb_iconst (pc' := 33) dX10_load_32 rfl rfl ?_
        refine qb_iconst (pc' := 34) dX10_load_33 rfl rfl ?_
        refine qb_callSi (pc' := 37) (as := [.inl x4, .inl (-1), .inl 3]) (rest := []) dX10_load_34 rfl qe_mX10_load_mX10_within rfl rfl rfl (Nat.le_of_ble_eq_true rfl) (Nat.le_of_ble_eq_true rfl) ⟨rfl, rfl⟩ (K := fun vz hpz => (v_q_within x4 (-1) 3) = vz ∧ hp = hpz) (s_q_within x4 (-1) 3 hp _ trivial ⟨rfl, rfl⟩) (fun vz hpz ez => ?_)
        obtain ⟨ez1, ez2⟩ := ez
        subst ez1
        subst ez2
        refine qb_fne (tgt := 43) (pc' := 40) dX10_load_37 rfl rfl (fun c504 => ?_) (fun c504 => ?_)
        · have h := h.2 c504
          refine qb_iconst (pc' := 44) dX10_load_43 rfl rfl ?_
          refine qb_istore (pc' := 46) (L' := [qb_a 0, qb_i x1, qb_i x2, qb_i x3, qb_i x4, qb_i 0]) dX10_load_44 rfl (Nat.le_of_ble_eq_true rfl) rfl rfl ?_
          refine qb_cut (L' := [qb_a 0, qb_i x1, qb_i x2, qb_i x3, qb_i x4, qb_i 0]) [true, true, true, true, true, true] rfl ?_
          exact h
        · have h := h.1 c504
          refine qb_bipush (pc' := 42) dX10_load_40 rfl rfl rfl ?_
          exact qb_reti dX10_load_42 rfl h
      · have h := h.1 c503
        refine qb_bipush (pc' := 29) dX10_load_27 rfl rfl rfl ?_
        exact qb_reti dX10_load_29 rfl h
theorem b_q_load_46 {x1 x2 x3 x4 x5 : Int} {hp : qb_H} {K : Int → qb_H → Prop} (h : (4 ≤ x5 → c_fl_plan x1 x2 hp (fun hp139 => (x4 = (-1) → (g_fl_worth 0 x1 x2) ∧ K (v_fl_worth 0 x1 x2 hp139) hp139) ∧ (¬ x4 = (-1) → c_fl_borneBy x4 x1 x2 hp139 (fun v143 hp143 => K v143 hp143)))) ∧ (¬ 4 ≤ x5 → (0 ≤ x5 ∧ x5 < 4) ∧ c_fc_find_p 0 (hp 55 x5) x3 0 hp (fun v147 hp147 => c_fc_find_p 1 (hp147 55 x5) x3 0 (qb_st hp147 57 x5 v147) (fun v148 hp148 => r_q_load_46 x1 x2 x3 x4 (x5 + 1) (qb_st hp148 58 x5 v148) K)))) : r_q_load_46 x1 x2 x3 x4 x5 hp K := by
  unfold r_q_load_46
  refine qb_iload (pc' := 48) dX10_load_46 rfl rfl ?_
  refine qb_iconst (pc' := 49) dX10_load_48 rfl rfl ?_
  refine qb_cge (tgt := 118) (pc' := 52) dX10_load_49 rfl rfl (fun c505 => ?_) (fun c505 => ?_)
  · have h := h.1 c505
    refine qb_aloadn (pc' := 119) (i := 0) dX10_load_118 rfl rfl rfl ?_
    refine qb_geta (pc' := 122) dX10_load_119 rfl qf_X10_85 qb_s0 rfl ?_
    refine qb_iloadn (pc' := 123) (i := 1) dX10_load_122 rfl rfl rfl ?_
    refine qb_iloadn (pc' := 124) (i := 2) dX10_load_123 rfl rfl rfl ?_
    refine qb_callVu (pc' := 127) (b := 54) (as := [.inl x1, .inl x2]) (rest := []) dX10_load_124 rfl qe_mX10_load_mX4_plan rfl rfl qb_s54 rfl rfl (Nat.le_of_ble_eq_true rfl) (Nat.le_of_ble_eq_true rfl) ⟨rfl, rfl⟩ h (fun hp139 h => ?_)
    refine qb_iload (pc' := 129) dX10_load_127 rfl rfl ?_
    refine qb_iconst (pc' := 130) dX10_load_129 rfl rfl ?_
    refine qb_cne (tgt := 146) (pc' := 133) dX10_load_130 rfl rfl (fun c512 => ?_) (fun c512 => ?_)
    · have h := h.2 c512
      refine qb_aloadn (pc' := 147) (i := 0) dX10_load_146 rfl rfl rfl ?_
      refine qb_geta (pc' := 150) dX10_load_147 rfl qf_X10_85 qb_s0 rfl ?_
      refine qb_iload (pc' := 152) dX10_load_150 rfl rfl ?_
      refine qb_iloadn (pc' := 153) (i := 1) dX10_load_152 rfl rfl rfl ?_
      refine qb_iloadn (pc' := 154) (i := 2) dX10_load_153 rfl rfl rfl ?_
      refine qb_callVi (pc' := 157) (b := 54) (as := [.inl x4, .inl x1, .inl x2]) (rest := []) dX10_load_154 rfl qe_mX10_load_mX4_borneBy rfl rfl qb_s54 rfl rfl (Nat.le_of_ble_eq_true rfl) (Nat.le_of_ble_eq_true rfl) ⟨rfl, rfl⟩ h (fun v143 hp143 h => ?_)
      exact qb_reti dX10_load_157 rfl h
    · have h := h.1 c512
      refine qb_aloadn (pc' := 134) (i := 0) dX10_load_133 rfl rfl rfl ?_
      refine qb_geta (pc' := 137) dX10_load_134 rfl qf_X10_85 qb_s0 rfl ?_
      refine qb_iconst (pc' := 138) dX10_load_137 rfl rfl ?_
      refine qb_iloadn (pc' := 139) (i := 1) dX10_load_138 rfl rfl rfl ?_
      refine qb_iloadn (pc' := 140) (i := 2) dX10_load_139 rfl rfl rfl ?_
      obtain ⟨g1147, h⟩ := h
      refine qb_callVi (pc' := 143) (b := 54) (as := [.inl 0, .inl x1, .inl x2]) (rest := []) dX10_load_140 rfl qe_mX10_load_mX4_worth rfl rfl qb_s54 rfl rfl (Nat.le_of_ble_eq_true rfl) (Nat.le_of_ble_eq_true rfl) ⟨rfl, rfl⟩ (K := fun vz hpz => (v_fl_worth 0 x1 x2 hp139) = vz ∧ hp139 = hpz) (s_fl_worth 0 x1 x2 hp139 _ g1147 ⟨rfl, rfl⟩) (fun vz hpz ez => ?_)
      obtain ⟨ez1, ez2⟩ := ez
      subst ez1
      subst ez2
      refine qb_goto (tgt := 157) dX10_load_143 rfl ?_
      exact qb_reti dX10_load_157 rfl h
  · have h := h.2 c505
    refine qb_aloadn (pc' := 53) (i := 0) dX10_load_52 rfl rfl rfl ?_
    refine qb_geta (pc' := 56) dX10_load_53 rfl qf_X10_85 qb_s0 rfl ?_
    refine qb_geta (pc' := 59) dX10_load_56 rfl qf_X10_285 qb_s54 rfl ?_
    refine qb_iload (pc' := 61) dX10_load_59 rfl rfl ?_
    refine qb_aloadn (pc' := 62) (i := 0) dX10_load_61 rfl rfl rfl ?_
    refine qb_geta (pc' := 65) dX10_load_62 rfl qf_X10_72 qb_s0 rfl ?_
    refine qb_iconst (pc' := 66) dX10_load_65 rfl rfl ?_
    refine qb_aloadn (pc' := 67) (i := 0) dX10_load_66 rfl rfl rfl ?_
    refine qb_geta (pc' := 70) dX10_load_67 rfl qf_X10_85 qb_s0 rfl ?_
    refine qb_geta (pc' := 73) dX10_load_70 rfl qf_X10_276 qb_s54 rfl ?_
    refine qb_iload (pc' := 75) dX10_load_73 rfl rfl ?_
    obtain ⟨g1148, h⟩ := h
    refine qb_iald (pc' := 76) (v := (hp 55 x5)) dX10_load_75 rfl qb_s55 g1148.1 g1148.2 rfl ?_
    refine qb_iloadn (pc' := 77) (i := 3) dX10_load_76 rfl rfl rfl ?_
    refine qb_iconst (pc' := 78) dX10_load_77 rfl rfl ?_
    refine qb_callVi (pc' := 81) (b := 45) (as := [.inl 0, .inl (hp 55 x5), .inl x3, .inl 0]) (rest := [.inl x5, .inr (.inl 57)]) dX10_load_78 rfl qe_mX10_load_mX5_find rfl rfl qb_s45 rfl rfl (Nat.le_of_ble_eq_true rfl) (Nat.le_of_ble_eq_true rfl) ⟨rfl, rfl⟩ h (fun v147 hp147 h => ?_)
    refine qb_iast (pc' := 82) dX10_load_81 rfl qb_s57 g1148.1 g1148.2 ?_
    refine qb_aloadn (pc' := 83) (i := 0) dX10_load_82 rfl rfl rfl ?_
    refine qb_geta (pc' := 86) dX10_load_83 rfl qf_X10_85 qb_s0 rfl ?_
    refine qb_geta (pc' := 89) dX10_load_86 rfl qf_X10_288 qb_s54 rfl ?_
    refine qb_iload (pc' := 91) dX10_load_89 rfl rfl ?_
    refine qb_aloadn (pc' := 92) (i := 0) dX10_load_91 rfl rfl rfl ?_
    refine qb_geta (pc' := 95) dX10_load_92 rfl qf_X10_72 qb_s0 rfl ?_
    refine qb_iconst (pc' := 96) dX10_load_95 rfl rfl ?_
    refine qb_aloadn (pc' := 97) (i := 0) dX10_load_96 rfl rfl rfl ?_
    refine qb_geta (pc' := 100) dX10_load_97 rfl qf_X10_85 qb_s0 rfl ?_
    refine qb_geta (pc' := 103) dX10_load_100 rfl qf_X10_276 qb_s54 rfl ?_
    refine qb_iload (pc' := 105) dX10_load_103 rfl rfl ?_
    refine qb_iald (pc' := 106) (v := (hp147 55 x5)) dX10_load_105 rfl qb_s55 g1148.1 g1148.2 (qb_rdn rfl rfl) ?_
    refine qb_iloadn (pc' := 107) (i := 3) dX10_load_106 rfl rfl rfl ?_
    refine qb_iconst (pc' := 108) dX10_load_107 rfl rfl ?_
    refine qb_callVi (pc' := 111) (b := 45) (as := [.inl 1, .inl (hp147 55 x5), .inl x3, .inl 0]) (rest := [.inl x5, .inr (.inl 58)]) dX10_load_108 rfl qe_mX10_load_mX5_find rfl rfl qb_s45 rfl rfl (Nat.le_of_ble_eq_true rfl) (Nat.le_of_ble_eq_true rfl) ⟨rfl, rfl⟩ h (fun v148 hp148 h => ?_)
    refine qb_iast (pc' := 112) dX10_load_111 rfl qb_s58 g1148.1 g1148.2 ?_
    refine qb_iinc (pc' := 115) (L' := [qb_a 0, qb_i x1, qb_i x2, qb_i x3, qb_i x4, qb_i (x5 + 1)]) dX10_load_112 rfl rfl (qb_ina g1148 (by decide)) (Nat.le_of_ble_eq_true rfl) rfl rfl ?_
    refine qb_goto (tgt := 46) dX10_load_115 rfl ?_
    refine qb_cut (L' := [qb_a 0, qb_i x1, qb_i x2, qb_i x3, qb_i x4, qb_i (x5 + 1)]) [true, true, true, true, true, true] rfl ?_
    exact h
def c_q_choose (x0 : Int) (x1 : Int) (hp : qb_H) (K : Int → qb_H → Prop) : Prop := qb_R mX10_choose 0 0 qb_sh 0 [qb_i x0, qb_i x1, none, none, none] [] hp (qb_J qb_sh K)
def r_q_choose_12 (x0 : Int) (x1 : Int) (x2 : Int) (x4 : Int) (hp : qb_H) (K : Int → qb_H → Prop) : Prop := qb_R mX10_choose 0 0 qb_sh 12 [qb_i x0, qb_i x1, qb_l x2, none, qb_i x4] [] hp (qb_J qb_sh K)
theorem b_q_choose {x0 x1 : Int} {hp : qb_H} {K : Int → qb_H → Prop} (h : (x1 ≤ x0 → r_q_choose_12 x0 x1 1 1 hp K) ∧ (¬ x1 ≤ x0 → K 0 hp)) : c_q_choose x0 x1 hp K := by
  unfold c_q_choose
  refine qb_iloadn (pc' := 1) (i := 1) dX10_choose_0 rfl rfl rfl ?_
  refine qb_iloadn (pc' := 2) (i := 0) dX10_choose_1 rfl rfl rfl ?_
  refine qb_cle (tgt := 7) (pc' := 5) dX10_choose_2 rfl rfl (fun c537 => ?_) (fun c537 => ?_)
  · have h := h.1 c537
    refine qb_lconst (pc' := 8) (n := 1) dX10_choose_7 rfl ?_
    refine qb_lstoren (pc' := 9) (i := 2) (L' := [qb_i x0, qb_i x1, qb_l 1, none, none]) dX10_choose_8 rfl rfl (Nat.le_of_ble_eq_true rfl) rfl rfl ?_
    refine qb_iconst (pc' := 10) dX10_choose_9 rfl rfl ?_
    refine qb_istore (pc' := 12) (L' := [qb_i x0, qb_i x1, qb_l 1, none, qb_i 1]) dX10_choose_10 rfl (Nat.le_of_ble_eq_true rfl) rfl rfl ?_
    refine qb_cut (L' := [qb_i x0, qb_i x1, qb_l 1, none, qb_i 1]) [true, true, true, false, true] rfl ?_
    exact h
  · have h := h.2 c537
    refine qb_lconst (pc' := 6) (n := 0) dX10_choose_5 rfl ?_
    exact qb_retl dX10_choose_6 rfl h
theorem b_q_choose_12 {x0 x1 x2 x4 : Int} {hp : qb_H} {K : Int → qb_H → Prop} (h : (x1 < x4 → K x2 hp) ∧ (¬ x1 < x4 → (qb_in (x0 - x1)) ∧ (qb_in ((x0 - x1) + x4)) ∧ (qb_inL (x2 * ((x0 - x1) + x4))) ∧ (0 ≤ (x2 * ((x0 - x1) + x4))) ∧ (0 < x4) ∧ (qb_in (x4 + 1)) ∧ r_q_choose_12 x0 x1 ((x2 * ((x0 - x1) + x4)) / x4) (x4 + 1) hp K)) : r_q_choose_12 x0 x1 x2 x4 hp K := by
  unfold r_q_choose_12
  refine qb_iload (pc' := 14) dX10_choose_12 rfl rfl ?_
  refine qb_iloadn (pc' := 15) (i := 1) dX10_choose_14 rfl rfl rfl ?_
  refine qb_cgt (tgt := 38) (pc' := 18) dX10_choose_15 rfl rfl (fun c538 => ?_) (fun c538 => ?_)
  · have h := h.1 c538
    refine qb_lloadn (pc' := 39) (i := 2) dX10_choose_38 rfl rfl rfl ?_
    exact qb_retl dX10_choose_39 rfl h
  · have h := h.2 c538
    refine qb_lloadn (pc' := 19) (i := 2) dX10_choose_18 rfl rfl rfl ?_
    refine qb_iloadn (pc' := 20) (i := 0) dX10_choose_19 rfl rfl rfl ?_
    refine qb_iloadn (pc' := 21) (i := 1) dX10_choose_20 rfl rfl rfl ?_
    obtain ⟨g1156, h⟩ := h
    refine qb_isub (pc' := 22) dX10_choose_21 rfl g1156 ?_
    refine qb_iload (pc' := 24) dX10_choose_22 rfl rfl ?_
    obtain ⟨g1157, h⟩ := h
    refine qb_iadd (pc' := 25) dX10_choose_24 rfl g1157 ?_
    refine qb_i2l (pc' := 26) dX10_choose_25 rfl ?_
    obtain ⟨g1158, h⟩ := h
    refine qb_lmul (pc' := 27) dX10_choose_26 rfl g1158 ?_
    refine qb_iload (pc' := 29) dX10_choose_27 rfl rfl ?_
    refine qb_i2l (pc' := 30) dX10_choose_29 rfl ?_
    obtain ⟨g1159, h⟩ := h
    obtain ⟨g1160, h⟩ := h
    refine qb_ldiv (pc' := 31) dX10_choose_30 rfl g1159 g1160 ?_
    refine qb_lstoren (pc' := 32) (i := 2) (L' := [qb_i x0, qb_i x1, qb_l ((x2 * ((x0 - x1) + x4)) / x4), none, qb_i x4]) dX10_choose_31 rfl rfl (Nat.le_of_ble_eq_true rfl) rfl rfl ?_
    obtain ⟨g1161, h⟩ := h
    refine qb_iinc (pc' := 35) (L' := [qb_i x0, qb_i x1, qb_l ((x2 * ((x0 - x1) + x4)) / x4), none, qb_i (x4 + 1)]) dX10_choose_32 rfl rfl g1161 (Nat.le_of_ble_eq_true rfl) rfl rfl ?_
    refine qb_goto (tgt := 12) dX10_choose_35 rfl ?_
    refine qb_cut (L' := [qb_i x0, qb_i x1, qb_l ((x2 * ((x0 - x1) + x4)) / x4), none, qb_i (x4 + 1)]) [true, true, true, false, true] rfl ?_
    exact h
def c_q_open (x1 : Int) (x2 : Int) (x3 : Int) (hp : qb_H) (K : Int → qb_H → Prop) : Prop := qb_R mX10_open 0 0 qb_sh 0 [qb_a 0, qb_i x1, qb_i x2, qb_i x3, none, none, none] [] hp (qb_I qb_sh K)
def r_q_open_42 (x1 : Int) (x2 : Int) (x3 : Int) (x4 : Int) (x6 : Int) (hp : qb_H) (K : Int → qb_H → Prop) : Prop := qb_R mX10_open 0 0 qb_sh 42 [none, qb_i x1, qb_i x2, qb_i x3, qb_l x4, none, qb_i x6] [] hp (qb_I qb_sh K)
theorem b_q_open {x1 x2 x3 : Int} {hp : qb_H} {K : Int → qb_H → Prop} (h : ((v_q_within x1 1 30) = 0 → K (-2) hp) ∧ (¬ (v_q_within x1 1 30) = 0 → ((v_q_within x2 1 x1) = 0 → K (-2) hp) ∧ (¬ (v_q_within x2 1 x1) = 0 → ((v_q_within x3 0 99) = 0 → K (-2) hp) ∧ (¬ (v_q_within x3 0 99) = 0 → c_q_choose x1 x2 hp (fun v150 hp150 => r_q_open_42 x1 x2 x3 v150 1 hp150 K))))) : c_q_open x1 x2 x3 hp K := by
  unfold c_q_open
  refine qb_iloadn (pc' := 1) (i := 1) dX10_open_0 rfl rfl rfl ?_
  refine qb_iconst (pc' := 2) dX10_open_1 rfl rfl ?_
  refine qb_bipush (pc' := 4) dX10_open_2 rfl rfl rfl ?_
  refine qb_callSi (pc' := 7) (as := [.inl x1, .inl 1, .inl 30]) (rest := []) dX10_open_4 rfl qe_mX10_open_mX10_within rfl rfl rfl (Nat.le_of_ble_eq_true rfl) (Nat.le_of_ble_eq_true rfl) ⟨rfl, rfl⟩ (K := fun vz hpz => (v_q_within x1 1 30) = vz ∧ hp = hpz) (s_q_within x1 1 30 hp _ trivial ⟨rfl, rfl⟩) (fun vz hpz ez => ?_)
  obtain ⟨ez1, ez2⟩ := ez
  subst ez1
  subst ez2
  refine qb_feq (tgt := 29) (pc' := 10) dX10_open_7 rfl rfl (fun c539 => ?_) (fun c539 => ?_)
  · have h := h.1 c539
    refine qb_bipush (pc' := 31) dX10_open_29 rfl rfl rfl ?_
    exact qb_reti dX10_open_31 rfl h
  · have h := h.2 c539
    refine qb_iloadn (pc' := 11) (i := 2) dX10_open_10 rfl rfl rfl ?_
    refine qb_iconst (pc' := 12) dX10_open_11 rfl rfl ?_
    refine qb_iloadn (pc' := 13) (i := 1) dX10_open_12 rfl rfl rfl ?_
    refine qb_callSi (pc' := 16) (as := [.inl x2, .inl 1, .inl x1]) (rest := []) dX10_open_13 rfl qe_mX10_open_mX10_within rfl rfl rfl (Nat.le_of_ble_eq_true rfl) (Nat.le_of_ble_eq_true rfl) ⟨rfl, rfl⟩ (K := fun vz hpz => (v_q_within x2 1 x1) = vz ∧ hp = hpz) (s_q_within x2 1 x1 hp _ trivial ⟨rfl, rfl⟩) (fun vz hpz ez => ?_)
    obtain ⟨ez1, ez2⟩ := ez
    subst ez1
    subst ez2
    refine qb_feq (tgt := 29) (pc' := 19) dX10_open_16 rfl rfl (fun c540 => ?_) (fun c540 => ?_)
    · have h := h.1 c540
      refine qb_bipush (pc' := 31) dX10_open_29 rfl rfl rfl ?_
      exact qb_reti dX10_open_31 rfl h
    · have h := h.2 c540
      refine qb_iloadn (pc' := 20) (i := 3) dX10_open_19 rfl rfl rfl ?_
      refine qb_iconst (pc' := 21) dX10_open_20 rfl rfl ?_
      refine qb_bipush (pc' := 23) dX10_open_21 rfl rfl rfl ?_
      refine qb_callSi (pc' := 26) (as := [.inl x3, .inl 0, .inl 99]) (rest := []) dX10_open_23 rfl qe_mX10_open_mX10_within rfl rfl rfl (Nat.le_of_ble_eq_true rfl) (Nat.le_of_ble_eq_true rfl) ⟨rfl, rfl⟩ (K := fun vz hpz => (v_q_within x3 0 99) = vz ∧ hp = hpz) (s_q_within x3 0 99 hp _ trivial ⟨rfl, rfl⟩) (fun vz hpz ez => ?_)
      obtain ⟨ez1, ez2⟩ := ez
      subst ez1
      subst ez2
      refine qb_fne (tgt := 32) (pc' := 29) dX10_open_26 rfl rfl (fun c541 => ?_) (fun c541 => ?_)
      · have h := h.2 c541
        refine qb_iloadn (pc' := 33) (i := 1) dX10_open_32 rfl rfl rfl ?_
        refine qb_iloadn (pc' := 34) (i := 2) dX10_open_33 rfl rfl rfl ?_
        refine qb_callSl (pc' := 37) (as := [.inl x1, .inl x2]) (rest := []) dX10_open_34 rfl qe_mX10_open_mX10_choose rfl rfl rfl (Nat.le_of_ble_eq_true rfl) (Nat.le_of_ble_eq_true rfl) ⟨rfl, rfl⟩ h (fun v150 hp150 h => ?_)
        refine qb_lstore (pc' := 39) (L' := [qb_a 0, qb_i x1, qb_i x2, qb_i x3, qb_l v150, none, none]) dX10_open_37 rfl (Nat.le_of_ble_eq_true rfl) rfl rfl ?_
        refine qb_iconst (pc' := 40) dX10_open_39 rfl rfl ?_
        refine qb_istore (pc' := 42) (L' := [qb_a 0, qb_i x1, qb_i x2, qb_i x3, qb_l v150, none, qb_i 1]) dX10_open_40 rfl (Nat.le_of_ble_eq_true rfl) rfl rfl ?_
        refine qb_cut (L' := [none, qb_i x1, qb_i x2, qb_i x3, qb_l v150, none, qb_i 1]) [false, true, true, true, true, false, true] rfl ?_
        exact h
      · have h := h.1 c541
        refine qb_bipush (pc' := 31) dX10_open_29 rfl rfl rfl ?_
        exact qb_reti dX10_open_31 rfl h
theorem b_q_open_42 {x1 x2 x3 x4 x6 : Int} {hp : qb_H} {K : Int → qb_H → Prop} (h : (x1 ≤ x6 → K x1 hp) ∧ (¬ x1 ≤ x6 → (qb_in (x1 - x6)) ∧ c_q_choose (x1 - x6) x2 hp (fun v151 hp151 => (qb_inL (100 * v151)) ∧ (qb_inL (x3 * x4)) ∧ ((0 < (qb_cmp (100 * v151) (x3 * x4)) → (qb_in (x6 + 1)) ∧ r_q_open_42 x1 x2 x3 x4 (x6 + 1) hp151 K) ∧ (¬ 0 < (qb_cmp (100 * v151) (x3 * x4)) → K x6 hp151))))) : r_q_open_42 x1 x2 x3 x4 x6 hp K := by
  unfold r_q_open_42
  refine qb_iload (pc' := 44) dX10_open_42 rfl rfl ?_
  refine qb_iloadn (pc' := 45) (i := 1) dX10_open_44 rfl rfl rfl ?_
  refine qb_cge (tgt := 78) (pc' := 48) dX10_open_45 rfl rfl (fun c542 => ?_) (fun c542 => ?_)
  · have h := h.1 c542
    refine qb_iloadn (pc' := 79) (i := 1) dX10_open_78 rfl rfl rfl ?_
    exact qb_reti dX10_open_79 rfl h
  · have h := h.2 c542
    refine qb_ldc2 (pc' := 51) (n := 100) dX10_open_48 rfl (by constructor <;> decide) (qb_wg_in 680 (by decide +kernel) (by decide +kernel)) ?_
    refine qb_iloadn (pc' := 52) (i := 1) dX10_open_51 rfl rfl rfl ?_
    refine qb_iload (pc' := 54) dX10_open_52 rfl rfl ?_
    obtain ⟨g1162, h⟩ := h
    refine qb_isub (pc' := 55) dX10_open_54 rfl g1162 ?_
    refine qb_iloadn (pc' := 56) (i := 2) dX10_open_55 rfl rfl rfl ?_
    refine qb_callSl (pc' := 59) (as := [.inl (x1 - x6), .inl x2]) (rest := [.inr (.inr 100)]) dX10_open_56 rfl qe_mX10_open_mX10_choose rfl rfl rfl (Nat.le_of_ble_eq_true rfl) (Nat.le_of_ble_eq_true rfl) ⟨rfl, rfl⟩ h (fun v151 hp151 h => ?_)
    obtain ⟨g1163, h⟩ := h
    refine qb_lmul (pc' := 60) dX10_open_59 rfl g1163 ?_
    refine qb_iloadn (pc' := 61) (i := 3) dX10_open_60 rfl rfl rfl ?_
    refine qb_i2l (pc' := 62) dX10_open_61 rfl ?_
    refine qb_lload (pc' := 64) dX10_open_62 rfl rfl ?_
    obtain ⟨g1164, h⟩ := h
    refine qb_lmul (pc' := 65) dX10_open_64 rfl g1164 ?_
    refine qb_lcmp (pc' := 66) dX10_open_65 rfl ?_
    refine qb_fgt (tgt := 72) (pc' := 69) dX10_open_66 rfl rfl (fun c543 => ?_) (fun c543 => ?_)
    · have h := h.1 c543
      obtain ⟨g1165, h⟩ := h
      refine qb_iinc (pc' := 75) (L' := [none, qb_i x1, qb_i x2, qb_i x3, qb_l x4, none, qb_i (x6 + 1)]) dX10_open_72 rfl rfl g1165 (Nat.le_of_ble_eq_true rfl) rfl rfl ?_
      refine qb_goto (tgt := 42) dX10_open_75 rfl ?_
      refine qb_cut (L' := [none, qb_i x1, qb_i x2, qb_i x3, qb_l x4, none, qb_i (x6 + 1)]) [false, true, true, true, true, false, true] rfl ?_
      exact h
    · have h := h.2 c543
      refine qb_iload (pc' := 71) dX10_open_69 rfl rfl ?_
      exact qb_reti dX10_open_71 rfl h
def c_fc_add_p (x1 : Int) (x2 : Int) (x3 : Int) (x4 : Int) (hp : qb_H) (K : Int → qb_H → Prop) : Prop := qb_R mX5_add 0 0 qb_sh 0 [qb_a 45, qb_i x1, qb_i x2, qb_i x3, qb_i x4] [] hp (qb_I qb_sh K)
theorem b_fc_add_p {x1 x2 x3 x4 : Int} {hp : qb_H} {K : Int → qb_H → Prop} (h : (0 ≤ (hp 45 4) ∧ (hp 45 4) < 60) ∧ K ((hp 45 4) + 1) (qb_st (qb_st (qb_st (qb_st (qb_st hp 46 (hp 45 4) x1) 47 (hp 45 4) x2) 48 (hp 45 4) x3) 49 (hp 45 4) x4) 45 4 ((hp 45 4) + 1))) : c_fc_add_p x1 x2 x3 x4 hp K := by
  unfold c_fc_add_p
  refine qb_aloadn (pc' := 1) (i := 0) dX5_add_0 rfl rfl rfl ?_
  refine qb_geta (pc' := 4) dX5_add_1 rfl qf_X5_9 qb_s45 rfl ?_
  refine qb_aloadn (pc' := 5) (i := 0) dX5_add_4 rfl rfl rfl ?_
  refine qb_geti (pc' := 8) (v := (hp 45 4)) dX5_add_5 rfl qf_X5_24 qb_s45 rfl rfl ?_
  refine qb_iloadn (pc' := 9) (i := 1) dX5_add_8 rfl rfl rfl ?_
  obtain ⟨g1167, h⟩ := h
  refine qb_iast (pc' := 10) dX5_add_9 rfl qb_s46 g1167.1 g1167.2 ?_
  refine qb_aloadn (pc' := 11) (i := 0) dX5_add_10 rfl rfl rfl ?_
  refine qb_geta (pc' := 14) dX5_add_11 rfl qf_X5_15 qb_s45 rfl ?_
  refine qb_aloadn (pc' := 15) (i := 0) dX5_add_14 rfl rfl rfl ?_
  refine qb_geti (pc' := 18) (v := (hp 45 4)) dX5_add_15 rfl qf_X5_24 qb_s45 rfl (qb_rdn rfl rfl) ?_
  refine qb_iloadn (pc' := 19) (i := 2) dX5_add_18 rfl rfl rfl ?_
  refine qb_iast (pc' := 20) dX5_add_19 rfl qb_s47 g1167.1 g1167.2 ?_
  refine qb_aloadn (pc' := 21) (i := 0) dX5_add_20 rfl rfl rfl ?_
  refine qb_geta (pc' := 24) dX5_add_21 rfl qf_X5_18 qb_s45 rfl ?_
  refine qb_aloadn (pc' := 25) (i := 0) dX5_add_24 rfl rfl rfl ?_
  refine qb_geti (pc' := 28) (v := (hp 45 4)) dX5_add_25 rfl qf_X5_24 qb_s45 rfl (qb_rdn rfl (qb_rdn rfl rfl)) ?_
  refine qb_iloadn (pc' := 29) (i := 3) dX5_add_28 rfl rfl rfl ?_
  refine qb_iast (pc' := 30) dX5_add_29 rfl qb_s48 g1167.1 g1167.2 ?_
  refine qb_aloadn (pc' := 31) (i := 0) dX5_add_30 rfl rfl rfl ?_
  refine qb_geta (pc' := 34) dX5_add_31 rfl qf_X5_21 qb_s45 rfl ?_
  refine qb_aloadn (pc' := 35) (i := 0) dX5_add_34 rfl rfl rfl ?_
  refine qb_geti (pc' := 38) (v := (hp 45 4)) dX5_add_35 rfl qf_X5_24 qb_s45 rfl (qb_rdn rfl (qb_rdn rfl (qb_rdn rfl rfl))) ?_
  refine qb_iload (pc' := 40) dX5_add_38 rfl rfl ?_
  refine qb_iast (pc' := 41) dX5_add_40 rfl qb_s49 g1167.1 g1167.2 ?_
  refine qb_aloadn (pc' := 42) (i := 0) dX5_add_41 rfl rfl rfl ?_
  refine qb_dup (pc' := 43) dX5_add_42 rfl rfl ?_
  refine qb_geti (pc' := 46) (v := (hp 45 4)) dX5_add_43 rfl qf_X5_24 qb_s45 rfl (qb_rdn rfl (qb_rdn rfl (qb_rdn rfl (qb_rdn rfl rfl)))) ?_
  refine qb_iconst (pc' := 47) dX5_add_46 rfl rfl ?_
  refine qb_iadd (pc' := 48) dX5_add_47 rfl (qb_ina g1167 (by decide)) ?_
  refine qb_puti (pc' := 51) (hp' := (qb_st (qb_st (qb_st (qb_st (qb_st hp 46 (hp 45 4) x1) 47 (hp 45 4) x2) 48 (hp 45 4) x3) 49 (hp 45 4) x4) 45 4 ((hp 45 4) + 1))) dX5_add_48 rfl qf_X5_24 (Or.inl rfl) qb_s45 rfl rfl ?_
  refine qb_aloadn (pc' := 52) (i := 0) dX5_add_51 rfl rfl rfl ?_
  refine qb_geti (pc' := 55) (v := ((hp 45 4) + 1)) dX5_add_52 rfl qf_X5_24 qb_s45 rfl qb_rds ?_
  exact qb_reti dX5_add_55 rfl h
def v_fc_add_p (x1 : Int) (x2 : Int) (x3 : Int) (x4 : Int) (hp : qb_H) : Int := ((hp 45 4) + 1)
def h_fc_add_p (x1 : Int) (x2 : Int) (x3 : Int) (x4 : Int) (hp : qb_H) : qb_H := (qb_st (qb_st (qb_st (qb_st (qb_st hp 46 (hp 45 4) x1) 47 (hp 45 4) x2) 48 (hp 45 4) x3) 49 (hp 45 4) x4) 45 4 ((hp 45 4) + 1))
theorem hn_fc_add_p (x1 : Int) (x2 : Int) (x3 : Int) (x4 : Int) (hp : qb_H) (c : Nat) (h45 : c ≠ 45) (h46 : c ≠ 46) (h47 : c ≠ 47) (h48 : c ≠ 48) (h49 : c ≠ 49) : h_fc_add_p x1 x2 x3 x4 hp c = hp c := by
  unfold h_fc_add_p
  (repeat' split) <;> simp only [qb_st_ne, qb_cpy_ne, ne_eq, not_false_eq_true, h45, h46, h47, h48, h49, ]
def g_fc_add_p (x1 : Int) (x2 : Int) (x3 : Int) (x4 : Int) (hp : qb_H) : Prop := 0 ≤ (hp 45 4) ∧ (hp 45 4) < 60
theorem s_fc_add_p (x1 : Int) (x2 : Int) (x3 : Int) (x4 : Int) (hp : qb_H) (K : Int → qb_H → Prop) (hg : g_fc_add_p x1 x2 x3 x4 hp) (hK : K (v_fc_add_p x1 x2 x3 x4 hp) (h_fc_add_p x1 x2 x3 x4 hp)) : c_fc_add_p x1 x2 x3 x4 hp K := by
  refine b_fc_add_p ?_
  unfold g_fc_add_p at hg
  unfold v_fc_add_p h_fc_add_p at hK
  refine ⟨hg, ?_⟩
  exact hK
def c_q_price (x1 : Int) (x2 : Int) (x3 : Int) (x4 : Int) (hp : qb_H) (K : Int → qb_H → Prop) : Prop := qb_R mX10_price 0 0 qb_sh 0 [qb_a 0, qb_i x1, qb_i x2, qb_i x3, qb_i x4] [] hp (qb_I qb_sh K)
theorem b_q_price {x1 x2 x3 x4 : Int} {hp : qb_H} {K : Int → qb_H → Prop} (h : ((v_q_within x1 0 1) = 0 → K (-1) hp) ∧ (¬ (v_q_within x1 0 1) = 0 → ((v_q_isDay x2) = 0 → K (-2) hp) ∧ (¬ (v_q_isDay x2) = 0 → ((v_q_within x3 0 1000) = 0 → K (-2) hp) ∧ (¬ (v_q_within x3 0 1000) = 0 → ((v_q_isDay x4) = 0 → K (-2) hp) ∧ (¬ (v_q_isDay x4) = 0 → ((hp 45 4) < 60 → (g_fc_add_p x1 x2 x3 x4 hp) ∧ K (v_fc_add_p x1 x2 x3 x4 hp) (h_fc_add_p x1 x2 x3 x4 hp)) ∧ (¬ (hp 45 4) < 60 → K (-4) hp)))))) : c_q_price x1 x2 x3 x4 hp K := by
  unfold c_q_price
  refine qb_iloadn (pc' := 1) (i := 1) dX10_price_0 rfl rfl rfl ?_
  refine qb_iconst (pc' := 2) dX10_price_1 rfl rfl ?_
  refine qb_iconst (pc' := 3) dX10_price_2 rfl rfl ?_
  refine qb_callSi (pc' := 6) (as := [.inl x1, .inl 0, .inl 1]) (rest := []) dX10_price_3 rfl qe_mX10_price_mX10_within rfl rfl rfl (Nat.le_of_ble_eq_true rfl) (Nat.le_of_ble_eq_true rfl) ⟨rfl, rfl⟩ (K := fun vz hpz => (v_q_within x1 0 1) = vz ∧ hp = hpz) (s_q_within x1 0 1 hp _ trivial ⟨rfl, rfl⟩) (fun vz hpz ez => ?_)
  obtain ⟨ez1, ez2⟩ := ez
  subst ez1
  subst ez2
  refine qb_fne (tgt := 11) (pc' := 9) dX10_price_6 rfl rfl (fun c549 => ?_) (fun c549 => ?_)
  · have h := h.2 c549
    refine qb_iloadn (pc' := 12) (i := 2) dX10_price_11 rfl rfl rfl ?_
    refine qb_callSi (pc' := 15) (as := [.inl x2]) (rest := []) dX10_price_12 rfl qe_mX10_price_mX10_isDay rfl rfl rfl (Nat.le_of_ble_eq_true rfl) (Nat.le_of_ble_eq_true rfl) ⟨rfl, rfl⟩ (K := fun vz hpz => (v_q_isDay x2) = vz ∧ hp = hpz) (s_q_isDay x2 hp _ trivial ⟨rfl, rfl⟩) (fun vz hpz ez => ?_)
    obtain ⟨ez1, ez2⟩ := ez
    subst ez1
    subst ez2
    refine qb_feq (tgt := 37) (pc' := 18) dX10_price_15 rfl rfl (fun c550 => ?_) (fun c550 => ?_)
    · have h := h.1 c550
      refine qb_bipush (pc' := 39) dX10_price_37 rfl rfl rfl ?_
      exact qb_reti dX10_price_39 rfl h
    · have h := h.2 c550
      refine qb_iloadn (pc' := 19) (i := 3) dX10_price_18 rfl rfl rfl ?_
      refine qb_iconst (pc' := 20) dX10_price_19 rfl rfl ?_
      refine qb_sipush (pc' := 23) dX10_price_20 rfl rfl rfl ?_
      refine qb_callSi (pc' := 26) (as := [.inl x3, .inl 0, .inl 1000]) (rest := []) dX10_price_23 rfl qe_mX10_price_mX10_within rfl rfl rfl (Nat.le_of_ble_eq_true rfl) (Nat.le_of_ble_eq_true rfl) ⟨rfl, rfl⟩ (K := fun vz hpz => (v_q_within x3 0 1000) = vz ∧ hp = hpz) (s_q_within x3 0 1000 hp _ trivial ⟨rfl, rfl⟩) (fun vz hpz ez => ?_)
      obtain ⟨ez1, ez2⟩ := ez
      subst ez1
      subst ez2
      refine qb_feq (tgt := 37) (pc' := 29) dX10_price_26 rfl rfl (fun c551 => ?_) (fun c551 => ?_)
      · have h := h.1 c551
        refine qb_bipush (pc' := 39) dX10_price_37 rfl rfl rfl ?_
        exact qb_reti dX10_price_39 rfl h
      · have h := h.2 c551
        refine qb_iload (pc' := 31) dX10_price_29 rfl rfl ?_
        refine qb_callSi (pc' := 34) (as := [.inl x4]) (rest := []) dX10_price_31 rfl qe_mX10_price_mX10_isDay rfl rfl rfl (Nat.le_of_ble_eq_true rfl) (Nat.le_of_ble_eq_true rfl) ⟨rfl, rfl⟩ (K := fun vz hpz => (v_q_isDay x4) = vz ∧ hp = hpz) (s_q_isDay x4 hp _ trivial ⟨rfl, rfl⟩) (fun vz hpz ez => ?_)
        obtain ⟨ez1, ez2⟩ := ez
        subst ez1
        subst ez2
        refine qb_fne (tgt := 40) (pc' := 37) dX10_price_34 rfl rfl (fun c552 => ?_) (fun c552 => ?_)
        · have h := h.2 c552
          refine qb_aloadn (pc' := 41) (i := 0) dX10_price_40 rfl rfl rfl ?_
          refine qb_geta (pc' := 44) dX10_price_41 rfl qf_X10_72 qb_s0 rfl ?_
          refine qb_geti (pc' := 47) (v := (hp 45 4)) dX10_price_44 rfl qf_X10_228 qb_s45 rfl rfl ?_
          refine qb_bipush (pc' := 49) dX10_price_47 rfl rfl rfl ?_
          refine qb_clt (tgt := 55) (pc' := 52) dX10_price_49 rfl rfl (fun c553 => ?_) (fun c553 => ?_)
          · have h := h.1 c553
            refine qb_aloadn (pc' := 56) (i := 0) dX10_price_55 rfl rfl rfl ?_
            refine qb_geta (pc' := 59) dX10_price_56 rfl qf_X10_72 qb_s0 rfl ?_
            refine qb_iloadn (pc' := 60) (i := 1) dX10_price_59 rfl rfl rfl ?_
            refine qb_iloadn (pc' := 61) (i := 2) dX10_price_60 rfl rfl rfl ?_
            refine qb_iloadn (pc' := 62) (i := 3) dX10_price_61 rfl rfl rfl ?_
            refine qb_iload (pc' := 64) dX10_price_62 rfl rfl ?_
            obtain ⟨g1169, h⟩ := h
            refine qb_callVi (pc' := 67) (b := 45) (as := [.inl x1, .inl x2, .inl x3, .inl x4]) (rest := []) dX10_price_64 rfl qe_mX10_price_mX5_add rfl rfl qb_s45 rfl rfl (Nat.le_of_ble_eq_true rfl) (Nat.le_of_ble_eq_true rfl) ⟨rfl, rfl⟩ (K := fun vz hpz => (v_fc_add_p x1 x2 x3 x4 hp) = vz ∧ (h_fc_add_p x1 x2 x3 x4 hp) = hpz) (s_fc_add_p x1 x2 x3 x4 hp _ g1169 ⟨rfl, rfl⟩) (fun vz hpz ez => ?_)
            obtain ⟨ez1, ez2⟩ := ez
            subst ez1
            subst ez2
            exact qb_reti dX10_price_67 rfl h
          · have h := h.2 c553
            refine qb_bipush (pc' := 54) dX10_price_52 rfl rfl rfl ?_
            exact qb_reti dX10_price_54 rfl h
        · have h := h.1 c552
          refine qb_bipush (pc' := 39) dX10_price_37 rfl rfl rfl ?_
          exact qb_reti dX10_price_39 rfl h
  · have h := h.1 c549
    refine qb_iconst (pc' := 10) dX10_price_9 rfl rfl ?_
    exact qb_reti dX10_price_10 rfl h
def v_q_price (x1 : Int) (x2 : Int) (x3 : Int) (x4 : Int) (hp : qb_H) : Int := (if (v_q_within x1 0 1) = 0 then ((-1) : Int) else (if (v_q_isDay x2) = 0 then ((-2) : Int) else (if (v_q_within x3 0 1000) = 0 then ((-2) : Int) else (if (v_q_isDay x4) = 0 then ((-2) : Int) else (if (hp 45 4) < 60 then (v_fc_add_p x1 x2 x3 x4 hp) else (-4))))))
def h_q_price (x1 : Int) (x2 : Int) (x3 : Int) (x4 : Int) (hp : qb_H) : qb_H := (if (v_q_within x1 0 1) = 0 then hp else (if (v_q_isDay x2) = 0 then hp else (if (v_q_within x3 0 1000) = 0 then hp else (if (v_q_isDay x4) = 0 then hp else (if (hp 45 4) < 60 then (h_fc_add_p x1 x2 x3 x4 hp) else hp)))))
theorem hn_q_price (x1 : Int) (x2 : Int) (x3 : Int) (x4 : Int) (hp : qb_H) (c : Nat) (h45 : c ≠ 45) (h46 : c ≠ 46) (h47 : c ≠ 47) (h48 : c ≠ 48) (h49 : c ≠ 49) : h_q_price x1 x2 x3 x4 hp c = hp c := by
  unfold h_q_price
  (repeat' split) <;> simp only [qb_st_ne, qb_cpy_ne, ne_eq, not_false_eq_true, h45, h46, h47, h48, h49, hn_fc_add_p,]
def g_q_price (x1 : Int) (x2 : Int) (x3 : Int) (x4 : Int) (hp : qb_H) : Prop := (¬ (v_q_within x1 0 1) = 0 → (¬ (v_q_isDay x2) = 0 → (¬ (v_q_within x3 0 1000) = 0 → (¬ (v_q_isDay x4) = 0 → ((hp 45 4) < 60 → g_fc_add_p x1 x2 x3 x4 hp)))))
theorem s_q_price (x1 : Int) (x2 : Int) (x3 : Int) (x4 : Int) (hp : qb_H) (K : Int → qb_H → Prop) (hg : g_q_price x1 x2 x3 x4 hp) (hK : K (v_q_price x1 x2 x3 x4 hp) (h_q_price x1 x2 x3 x4 hp)) : c_q_price x1 x2 x3 x4 hp K := by
  refine b_q_price ?_
  unfold g_q_price at hg
  unfold v_q_price h_q_price at hK
  refine ⟨fun c554 => ?_, fun c554 => ?_⟩
  · simpa only [if_pos c554] using hK
  · have hg := hg c554
    refine ⟨fun c555 => ?_, fun c555 => ?_⟩
    · simpa only [if_neg c554, if_pos c555] using hK
    · have hg := hg c555
      refine ⟨fun c556 => ?_, fun c556 => ?_⟩
      · simpa only [if_neg c554, if_neg c555, if_pos c556] using hK
      · have hg := hg c556
        refine ⟨fun c557 => ?_, fun c557 => ?_⟩
        · simpa only [if_neg c554, if_neg c555, if_neg c556, if_pos c557] using hK
        · have hg := hg c557
          refine ⟨fun c558 => ?_, fun c558 => ?_⟩
          · have hg := hg c558
            refine ⟨hg, ?_⟩
            simpa only [if_neg c554, if_neg c555, if_neg c556, if_neg c557, if_pos c558] using hK
          · simpa only [if_neg c554, if_neg c555, if_neg c556, if_neg c557, if_neg c558] using hK
def c_q_priceOn (x1 : Int) (x2 : Int) (x3 : Int) (hp : qb_H) (K : Int → qb_H → Prop) : Prop := qb_R mX10_priceOn 0 0 qb_sh 0 [qb_a 0, qb_i x1, qb_i x2, qb_i x3] [] hp (qb_I qb_sh K)
theorem b_q_priceOn {x1 x2 x3 : Int} {hp : qb_H} {K : Int → qb_H → Prop} (h : ((v_q_within x1 0 1) = 0 → K (-1) hp) ∧ (¬ (v_q_within x1 0 1) = 0 → ((v_q_isDay x2) = 0 → K (-2) hp) ∧ (¬ (v_q_isDay x2) = 0 → ((v_q_isDay x3) = 0 → K (-2) hp) ∧ (¬ (v_q_isDay x3) = 0 → c_fc_find_p x1 x2 x3 0 hp (fun v153 hp153 => K v153 hp153))))) : c_q_priceOn x1 x2 x3 hp K := by
  unfold c_q_priceOn
  refine qb_iloadn (pc' := 1) (i := 1) dX10_priceOn_0 rfl rfl rfl ?_
  refine qb_iconst (pc' := 2) dX10_priceOn_1 rfl rfl ?_
  refine qb_iconst (pc' := 3) dX10_priceOn_2 rfl rfl ?_
  refine qb_callSi (pc' := 6) (as := [.inl x1, .inl 0, .inl 1]) (rest := []) dX10_priceOn_3 rfl qe_mX10_priceOn_mX10_within rfl rfl rfl (Nat.le_of_ble_eq_true rfl) (Nat.le_of_ble_eq_true rfl) ⟨rfl, rfl⟩ (K := fun vz hpz => (v_q_within x1 0 1) = vz ∧ hp = hpz) (s_q_within x1 0 1 hp _ trivial ⟨rfl, rfl⟩) (fun vz hpz ez => ?_)
  obtain ⟨ez1, ez2⟩ := ez
  subst ez1
  subst ez2
  refine qb_fne (tgt := 11) (pc' := 9) dX10_priceOn_6 rfl rfl (fun c562 => ?_) (fun c562 => ?_)
  · have h := h.2 c562
    refine qb_iloadn (pc' := 12) (i := 2) dX10_priceOn_11 rfl rfl rfl ?_
    refine qb_callSi (pc' := 15) (as := [.inl x2]) (rest := []) dX10_priceOn_12 rfl qe_mX10_priceOn_mX10_isDay rfl rfl rfl (Nat.le_of_ble_eq_true rfl) (Nat.le_of_ble_eq_true rfl) ⟨rfl, rfl⟩ (K := fun vz hpz => (v_q_isDay x2) = vz ∧ hp = hpz) (s_q_isDay x2 hp _ trivial ⟨rfl, rfl⟩) (fun vz hpz ez => ?_)
    obtain ⟨ez1, ez2⟩ := ez
    subst ez1
    subst ez2
    refine qb_feq (tgt := 25) (pc' := 18) dX10_priceOn_15 rfl rfl (fun c563 => ?_) (fun c563 => ?_)
    · have h := h.1 c563
      refine qb_bipush (pc' := 27) dX10_priceOn_25 rfl rfl rfl ?_
      exact qb_reti dX10_priceOn_27 rfl h
    · have h := h.2 c563
      refine qb_iloadn (pc' := 19) (i := 3) dX10_priceOn_18 rfl rfl rfl ?_
      refine qb_callSi (pc' := 22) (as := [.inl x3]) (rest := []) dX10_priceOn_19 rfl qe_mX10_priceOn_mX10_isDay rfl rfl rfl (Nat.le_of_ble_eq_true rfl) (Nat.le_of_ble_eq_true rfl) ⟨rfl, rfl⟩ (K := fun vz hpz => (v_q_isDay x3) = vz ∧ hp = hpz) (s_q_isDay x3 hp _ trivial ⟨rfl, rfl⟩) (fun vz hpz ez => ?_)
      obtain ⟨ez1, ez2⟩ := ez
      subst ez1
      subst ez2
      refine qb_fne (tgt := 28) (pc' := 25) dX10_priceOn_22 rfl rfl (fun c564 => ?_) (fun c564 => ?_)
      · have h := h.2 c564
        refine qb_aloadn (pc' := 29) (i := 0) dX10_priceOn_28 rfl rfl rfl ?_
        refine qb_geta (pc' := 32) dX10_priceOn_29 rfl qf_X10_72 qb_s0 rfl ?_
        refine qb_iloadn (pc' := 33) (i := 1) dX10_priceOn_32 rfl rfl rfl ?_
        refine qb_iloadn (pc' := 34) (i := 2) dX10_priceOn_33 rfl rfl rfl ?_
        refine qb_iloadn (pc' := 35) (i := 3) dX10_priceOn_34 rfl rfl rfl ?_
        refine qb_iconst (pc' := 36) dX10_priceOn_35 rfl rfl ?_
        refine qb_callVi (pc' := 39) (b := 45) (as := [.inl x1, .inl x2, .inl x3, .inl 0]) (rest := []) dX10_priceOn_36 rfl qe_mX10_priceOn_mX5_find rfl rfl qb_s45 rfl rfl (Nat.le_of_ble_eq_true rfl) (Nat.le_of_ble_eq_true rfl) ⟨rfl, rfl⟩ h (fun v153 hp153 h => ?_)
        exact qb_reti dX10_priceOn_39 rfl h
      · have h := h.1 c564
        refine qb_bipush (pc' := 27) dX10_priceOn_25 rfl rfl rfl ?_
        exact qb_reti dX10_priceOn_27 rfl h
  · have h := h.1 c562
    refine qb_iconst (pc' := 10) dX10_priceOn_9 rfl rfl ?_
    exact qb_reti dX10_priceOn_10 rfl h
def c_ju_chosenCause (x1 : Int) (hp : qb_H) (K : Int → qb_H → Prop) : Prop := qb_R mX6_chosenCause 0 0 qb_sh 0 [qb_a 32, qb_i x1] [] hp (qb_I qb_sh K)
theorem b_ju_chosenCause {x1 : Int} {hp : qb_H} {K : Int → qb_H → Prop} (h : (0 ≤ x1 ∧ x1 < 3) ∧ (0 ≤ (hp 35 x1) ∧ (hp 35 x1) < 30) ∧ K (hp 34 (hp 35 x1)) hp) : c_ju_chosenCause x1 hp K := by
  unfold c_ju_chosenCause
  refine qb_aloadn (pc' := 1) (i := 0) dX6_chosenCause_0 rfl rfl rfl ?_
  refine qb_geta (pc' := 4) dX6_chosenCause_1 rfl qf_X6_15 qb_s32 rfl ?_
  refine qb_aloadn (pc' := 5) (i := 0) dX6_chosenCause_4 rfl rfl rfl ?_
  refine qb_geta (pc' := 8) dX6_chosenCause_5 rfl qf_X6_18 qb_s32 rfl ?_
  refine qb_iloadn (pc' := 9) (i := 1) dX6_chosenCause_8 rfl rfl rfl ?_
  obtain ⟨g1173, h⟩ := h
  refine qb_iald (pc' := 10) (v := (hp 35 x1)) dX6_chosenCause_9 rfl qb_s35 g1173.1 g1173.2 rfl ?_
  obtain ⟨g1174, h⟩ := h
  refine qb_iald (pc' := 11) (v := (hp 34 (hp 35 x1))) dX6_chosenCause_10 rfl qb_s34 g1174.1 g1174.2 rfl ?_
  exact qb_reti dX6_chosenCause_11 rfl h
def v_ju_chosenCause (x1 : Int) (hp : qb_H) : Int := (hp 34 (hp 35 x1))
def g_ju_chosenCause (x1 : Int) (hp : qb_H) : Prop := (0 ≤ x1 ∧ x1 < 3) ∧ 0 ≤ (hp 35 x1) ∧ (hp 35 x1) < 30
theorem s_ju_chosenCause (x1 : Int) (hp : qb_H) (K : Int → qb_H → Prop) (hg : g_ju_chosenCause x1 hp) (hK : K (v_ju_chosenCause x1 hp) hp) : c_ju_chosenCause x1 hp K := by
  refine b_ju_chosenCause ?_
  unfold g_ju_chosenCause at hg
  unfold v_ju_chosenCause at hK
  refine ⟨hg.1, ?_⟩
  have hg := hg.2
  refine ⟨hg, ?_⟩
  exact hK
def c_q_rival (x1 : Int) (x2 : Int) (hp : qb_H) (K : Int → qb_H → Prop) : Prop := qb_R mX10_rival 0 0 qb_sh 0 [qb_a 0, qb_i x1, qb_i x2, none] [] hp (qb_I qb_sh K)
theorem b_q_rival {x1 x2 : Int} {hp : qb_H} {K : Int → qb_H → Prop} (h : c_ju_fewest hp (fun v157 hp157 => (x1 = (-1) → (v157 = (-6) → K 0 hp157) ∧ (¬ v157 = (-6) → c_ju_explaining v157 (-6) hp157 (fun v158 hp158 => K v158 hp158))) ∧ (¬ x1 = (-1) → (x1 < 0 → K (-6) hp157) ∧ (¬ x1 < 0 → (qb_in (v157 - 1)) ∧ (((v_q_within x2 0 (v157 - 1)) = 0 → K (-6) hp157) ∧ (¬ (v_q_within x2 0 (v157 - 1)) = 0 → c_ju_explaining v157 x1 hp157 (fun v159 hp159 => (¬ v159 ≤ x1 → g_ju_chosenCause x2 hp159) ∧ (∀ (y160 : Int), y160 = (if v159 ≤ x1 then ((-6) : Int) else (v_ju_chosenCause x2 hp159)) → K y160 hp159)))))))) : c_q_rival x1 x2 hp K := by
  unfold c_q_rival
  refine qb_aloadn (pc' := 1) (i := 0) dX10_rival_0 rfl rfl rfl ?_
  refine qb_geta (pc' := 4) dX10_rival_1 rfl qf_X10_54 qb_s0 rfl ?_
  refine qb_callVi (pc' := 7) (b := 32) (as := []) (rest := []) dX10_rival_4 rfl qe_mX10_rival_mX6_fewest rfl rfl qb_s32 rfl rfl (Nat.le_of_ble_eq_true rfl) (Nat.le_of_ble_eq_true rfl) ⟨rfl, rfl⟩ h (fun v157 hp157 h => ?_)
  refine qb_istoren (pc' := 8) (i := 3) (L' := [qb_a 0, qb_i x1, qb_i x2, qb_i v157]) dX10_rival_7 rfl rfl (Nat.le_of_ble_eq_true rfl) rfl rfl ?_
  refine qb_iloadn (pc' := 9) (i := 1) dX10_rival_8 rfl rfl rfl ?_
  refine qb_iconst (pc' := 10) dX10_rival_9 rfl rfl ?_
  refine qb_cne (tgt := 34) (pc' := 13) dX10_rival_10 rfl rfl (fun c570 => ?_) (fun c570 => ?_)
  · have h := h.2 c570
    refine qb_iloadn (pc' := 35) (i := 1) dX10_rival_34 rfl rfl rfl ?_
    refine qb_flt (tgt := 49) (pc' := 38) dX10_rival_35 rfl rfl (fun c572 => ?_) (fun c572 => ?_)
    · have h := h.1 c572
      refine qb_bipush (pc' := 51) dX10_rival_49 rfl rfl rfl ?_
      exact qb_reti dX10_rival_51 rfl h
    · have h := h.2 c572
      refine qb_iloadn (pc' := 39) (i := 2) dX10_rival_38 rfl rfl rfl ?_
      refine qb_iconst (pc' := 40) dX10_rival_39 rfl rfl ?_
      refine qb_iloadn (pc' := 41) (i := 3) dX10_rival_40 rfl rfl rfl ?_
      refine qb_iconst (pc' := 42) dX10_rival_41 rfl rfl ?_
      obtain ⟨g1177, h⟩ := h
      refine qb_isub (pc' := 43) dX10_rival_42 rfl g1177 ?_
      refine qb_callSi (pc' := 46) (as := [.inl x2, .inl 0, .inl (v157 - 1)]) (rest := []) dX10_rival_43 rfl qe_mX10_rival_mX10_within rfl rfl rfl (Nat.le_of_ble_eq_true rfl) (Nat.le_of_ble_eq_true rfl) ⟨rfl, rfl⟩ (K := fun vz hpz => (v_q_within x2 0 (v157 - 1)) = vz ∧ hp157 = hpz) (s_q_within x2 0 (v157 - 1) hp157 _ trivial ⟨rfl, rfl⟩) (fun vz hpz ez => ?_)
      obtain ⟨ez1, ez2⟩ := ez
      subst ez1
      subst ez2
      refine qb_fne (tgt := 52) (pc' := 49) dX10_rival_46 rfl rfl (fun c573 => ?_) (fun c573 => ?_)
      · have h := h.2 c573
        refine qb_aloadn (pc' := 53) (i := 0) dX10_rival_52 rfl rfl rfl ?_
        refine qb_geta (pc' := 56) dX10_rival_53 rfl qf_X10_54 qb_s0 rfl ?_
        refine qb_iloadn (pc' := 57) (i := 3) dX10_rival_56 rfl rfl rfl ?_
        refine qb_iloadn (pc' := 58) (i := 1) dX10_rival_57 rfl rfl rfl ?_
        refine qb_callVi (pc' := 61) (b := 32) (as := [.inl v157, .inl x1]) (rest := []) dX10_rival_58 rfl qe_mX10_rival_mX6_explaining rfl rfl qb_s32 rfl rfl (Nat.le_of_ble_eq_true rfl) (Nat.le_of_ble_eq_true rfl) ⟨rfl, rfl⟩ h (fun v159 hp159 h => ?_)
        refine qb_iloadn (pc' := 62) (i := 1) dX10_rival_61 rfl rfl rfl ?_
        obtain ⟨gb, h⟩ := h
        have k262 : ∀ (y160 : Int), y160 = (if v159 ≤ x1 then ((-6) : Int) else (v_ju_chosenCause x2 hp159)) → qb_R mX10_rival 0 0 qb_sh 78 [none, none, none, none] [.inl y160] hp159 (qb_I qb_sh K) := by
          intro y160 ey160
          have h := h y160 ey160
          exact qb_reti dX10_rival_78 rfl h
        refine qb_cle (tgt := 76) (pc' := 65) dX10_rival_62 rfl rfl (fun c574 => ?_) (fun c574 => ?_)
        · refine qb_bipush (pc' := 78) dX10_rival_76 rfl rfl rfl ?_
          refine qb_cut (L' := [none, none, none, none]) [false, false, false, false] rfl ?_
          exact k262 _ (if_pos c574).symm
        · have h := gb c574
          refine qb_aloadn (pc' := 66) (i := 0) dX10_rival_65 rfl rfl rfl ?_
          refine qb_geta (pc' := 69) dX10_rival_66 rfl qf_X10_54 qb_s0 rfl ?_
          refine qb_iloadn (pc' := 70) (i := 2) dX10_rival_69 rfl rfl rfl ?_
          have g1179 := h
          refine qb_callVi (pc' := 73) (b := 32) (as := [.inl x2]) (rest := []) dX10_rival_70 rfl qe_mX10_rival_mX6_chosenCause rfl rfl qb_s32 rfl rfl (Nat.le_of_ble_eq_true rfl) (Nat.le_of_ble_eq_true rfl) ⟨rfl, rfl⟩ (K := fun vz hpz => (v_ju_chosenCause x2 hp159) = vz ∧ hp159 = hpz) (s_ju_chosenCause x2 hp159 _ g1179 ⟨rfl, rfl⟩) (fun vz hpz ez => ?_)
          obtain ⟨ez1, ez2⟩ := ez
          subst ez1
          subst ez2
          refine qb_goto (tgt := 78) dX10_rival_73 rfl ?_
          refine qb_cut (L' := [none, none, none, none]) [false, false, false, false] rfl ?_
          exact k262 _ (if_neg c574).symm
      · have h := h.1 c573
        refine qb_bipush (pc' := 51) dX10_rival_49 rfl rfl rfl ?_
        exact qb_reti dX10_rival_51 rfl h
  · have h := h.1 c570
    refine qb_iloadn (pc' := 14) (i := 3) dX10_rival_13 rfl rfl rfl ?_
    refine qb_bipush (pc' := 16) dX10_rival_14 rfl rfl rfl ?_
    refine qb_cne (tgt := 23) (pc' := 19) dX10_rival_16 rfl rfl (fun c571 => ?_) (fun c571 => ?_)
    · have h := h.2 c571
      refine qb_aloadn (pc' := 24) (i := 0) dX10_rival_23 rfl rfl rfl ?_
      refine qb_geta (pc' := 27) dX10_rival_24 rfl qf_X10_54 qb_s0 rfl ?_
      refine qb_iloadn (pc' := 28) (i := 3) dX10_rival_27 rfl rfl rfl ?_
      refine qb_bipush (pc' := 30) dX10_rival_28 rfl rfl rfl ?_
      refine qb_callVi (pc' := 33) (b := 32) (as := [.inl v157, .inl (-6)]) (rest := []) dX10_rival_30 rfl qe_mX10_rival_mX6_explaining rfl rfl qb_s32 rfl rfl (Nat.le_of_ble_eq_true rfl) (Nat.le_of_ble_eq_true rfl) ⟨rfl, rfl⟩ h (fun v158 hp158 h => ?_)
      exact qb_reti dX10_rival_33 rfl h
    · have h := h.1 c571
      refine qb_iconst (pc' := 20) dX10_rival_19 rfl rfl ?_
      refine qb_goto (tgt := 33) dX10_rival_20 rfl ?_
      exact qb_reti dX10_rival_33 rfl h
def c_q_rule (x1 : Int) (x2 : Int) (hp : qb_H) (K : Int → qb_H → Prop) : Prop := qb_R mX10_rule 0 0 qb_sh 0 [qb_a 0, qb_i x1, qb_i x2, none] [] hp (qb_I qb_sh K)
theorem b_q_rule {x1 x2 : Int} {hp : qb_H} {K : Int → qb_H → Prop} (h : ((v_q_within x1 0 6) = 0 → K (-2) hp) ∧ (¬ (v_q_within x1 0 6) = 0 → (0 ≤ x1 ∧ x1 < 7) ∧ (((v_q_within x2 (qb_low (Int.toNat x1)) (qb_high (Int.toNat x1))) = 0 → K (-2) hp) ∧ (¬ (v_q_within x2 (qb_low (Int.toNat x1)) (qb_high (Int.toNat x1))) = 0 → K (hp 10 x1) (qb_st hp 10 x1 x2))))) : c_q_rule x1 x2 hp K := by
  unfold c_q_rule
  refine qb_iloadn (pc' := 1) (i := 1) dX10_rule_0 rfl rfl rfl ?_
  refine qb_iconst (pc' := 2) dX10_rule_1 rfl rfl ?_
  refine qb_bipush (pc' := 4) dX10_rule_2 rfl rfl rfl ?_
  refine qb_callSi (pc' := 7) (as := [.inl x1, .inl 0, .inl 6]) (rest := []) dX10_rule_4 rfl qe_mX10_rule_mX10_within rfl rfl rfl (Nat.le_of_ble_eq_true rfl) (Nat.le_of_ble_eq_true rfl) ⟨rfl, rfl⟩ (K := fun vz hpz => (v_q_within x1 0 6) = vz ∧ hp = hpz) (s_q_within x1 0 6 hp _ trivial ⟨rfl, rfl⟩) (fun vz hpz ez => ?_)
  obtain ⟨ez1, ez2⟩ := ez
  subst ez1
  subst ez2
  refine qb_feq (tgt := 27) (pc' := 10) dX10_rule_7 rfl rfl (fun c577 => ?_) (fun c577 => ?_)
  · have h := h.1 c577
    refine qb_bipush (pc' := 29) dX10_rule_27 rfl rfl rfl ?_
    exact qb_reti dX10_rule_29 rfl h
  · have h := h.2 c577
    refine qb_iloadn (pc' := 11) (i := 2) dX10_rule_10 rfl rfl rfl ?_
    refine qb_getlo (pc' := 14) dX10_rule_11 rfl (qb_wg_in 600 (by decide +kernel) (by decide +kernel)) ?_
    refine qb_iloadn (pc' := 15) (i := 1) dX10_rule_14 rfl rfl rfl ?_
    obtain ⟨g1181, h⟩ := h
    refine qb_tlo (pc' := 16) dX10_rule_15 rfl g1181.1 g1181.2 ?_
    refine qb_gethi (pc' := 19) dX10_rule_16 rfl (qb_wg_in 602 (by decide +kernel) (by decide +kernel)) ?_
    refine qb_iloadn (pc' := 20) (i := 1) dX10_rule_19 rfl rfl rfl ?_
    refine qb_thi (pc' := 21) dX10_rule_20 rfl g1181.1 g1181.2 ?_
    refine qb_callSi (pc' := 24) (as := [.inl x2, .inl (qb_low (Int.toNat x1)), .inl (qb_high (Int.toNat x1))]) (rest := []) dX10_rule_21 rfl qe_mX10_rule_mX10_within rfl rfl rfl (Nat.le_of_ble_eq_true rfl) (Nat.le_of_ble_eq_true rfl) ⟨rfl, rfl⟩ (K := fun vz hpz => (v_q_within x2 (qb_low (Int.toNat x1)) (qb_high (Int.toNat x1))) = vz ∧ hp = hpz) (s_q_within x2 (qb_low (Int.toNat x1)) (qb_high (Int.toNat x1)) hp _ trivial ⟨rfl, rfl⟩) (fun vz hpz ez => ?_)
    obtain ⟨ez1, ez2⟩ := ez
    subst ez1
    subst ez2
    refine qb_fne (tgt := 30) (pc' := 27) dX10_rule_24 rfl rfl (fun c578 => ?_) (fun c578 => ?_)
    · have h := h.2 c578
      refine qb_aloadn (pc' := 31) (i := 0) dX10_rule_30 rfl rfl rfl ?_
      refine qb_geta (pc' := 34) dX10_rule_31 rfl qf_X10_23 qb_s0 rfl ?_
      refine qb_iloadn (pc' := 35) (i := 1) dX10_rule_34 rfl rfl rfl ?_
      refine qb_iald (pc' := 36) (v := (hp 10 x1)) dX10_rule_35 rfl qb_s10 g1181.1 g1181.2 rfl ?_
      refine qb_istoren (pc' := 37) (i := 3) (L' := [qb_a 0, qb_i x1, qb_i x2, qb_i (hp 10 x1)]) dX10_rule_36 rfl rfl (Nat.le_of_ble_eq_true rfl) rfl rfl ?_
      refine qb_aloadn (pc' := 38) (i := 0) dX10_rule_37 rfl rfl rfl ?_
      refine qb_geta (pc' := 41) dX10_rule_38 rfl qf_X10_23 qb_s0 rfl ?_
      refine qb_iloadn (pc' := 42) (i := 1) dX10_rule_41 rfl rfl rfl ?_
      refine qb_iloadn (pc' := 43) (i := 2) dX10_rule_42 rfl rfl rfl ?_
      refine qb_iast (pc' := 44) dX10_rule_43 rfl qb_s10 g1181.1 g1181.2 ?_
      refine qb_iloadn (pc' := 45) (i := 3) dX10_rule_44 rfl rfl rfl ?_
      exact qb_reti dX10_rule_45 rfl h
    · have h := h.1 c578
      refine qb_bipush (pc' := 29) dX10_rule_27 rfl rfl rfl ?_
      exact qb_reti dX10_rule_29 rfl h
def v_q_rule (x1 : Int) (x2 : Int) (hp : qb_H) : Int := (if (v_q_within x1 0 6) = 0 then ((-2) : Int) else (if (v_q_within x2 (qb_low (Int.toNat x1)) (qb_high (Int.toNat x1))) = 0 then ((-2) : Int) else (hp 10 x1)))
def h_q_rule (x1 : Int) (x2 : Int) (hp : qb_H) : qb_H := (if (v_q_within x1 0 6) = 0 then hp else (if (v_q_within x2 (qb_low (Int.toNat x1)) (qb_high (Int.toNat x1))) = 0 then hp else (qb_st hp 10 x1 x2)))
theorem hn_q_rule (x1 : Int) (x2 : Int) (hp : qb_H) (c : Nat) (h10 : c ≠ 10) : h_q_rule x1 x2 hp c = hp c := by
  unfold h_q_rule
  (repeat' split) <;> simp only [qb_st_ne, qb_cpy_ne, ne_eq, not_false_eq_true, h10, ]
def g_q_rule (x1 : Int) (x2 : Int) : Prop := (¬ (v_q_within x1 0 6) = 0 → 0 ≤ x1 ∧ x1 < 7)
theorem s_q_rule (x1 : Int) (x2 : Int) (hp : qb_H) (K : Int → qb_H → Prop) (hg : g_q_rule x1 x2) (hK : K (v_q_rule x1 x2 hp) (h_q_rule x1 x2 hp)) : c_q_rule x1 x2 hp K := by
  refine b_q_rule ?_
  unfold g_q_rule at hg
  unfold v_q_rule h_q_rule at hK
  refine ⟨fun c579 => ?_, fun c579 => ?_⟩
  · simpa only [if_pos c579] using hK
  · have hg := hg c579
    refine ⟨hg, ?_⟩
    refine ⟨fun c580 => ?_, fun c580 => ?_⟩
    · simpa only [if_neg c579, if_pos c580] using hK
    · simpa only [if_neg c579, if_neg c580] using hK
def c_sa_add (x1 : Int) (x2 : Int) (x3 : Int) (x4 : Int) (hp : qb_H) (K : Int → qb_H → Prop) : Prop := qb_R mX8_add 0 0 qb_sh 0 [qb_a 26, qb_i x1, qb_i x2, qb_i x3, qb_i x4] [] hp (qb_I qb_sh K)
theorem b_sa_add {x1 x2 x3 x4 : Int} {hp : qb_H} {K : Int → qb_H → Prop} (h : (0 ≤ (hp 26 4) ∧ (hp 26 4) < 12) ∧ K ((hp 26 4) + 1) (qb_st (qb_st (qb_st (qb_st (qb_st hp 27 (hp 26 4) x1) 28 (hp 26 4) x2) 29 (hp 26 4) x3) 30 (hp 26 4) x4) 26 4 ((hp 26 4) + 1))) : c_sa_add x1 x2 x3 x4 hp K := by
  unfold c_sa_add
  refine qb_aloadn (pc' := 1) (i := 0) dX8_add_0 rfl rfl rfl ?_
  refine qb_geta (pc' := 4) dX8_add_1 rfl qf_X8_9 qb_s26 rfl ?_
  refine qb_aloadn (pc' := 5) (i := 0) dX8_add_4 rfl rfl rfl ?_
  refine qb_geti (pc' := 8) (v := (hp 26 4)) dX8_add_5 rfl qf_X8_24 qb_s26 rfl rfl ?_
  refine qb_iloadn (pc' := 9) (i := 1) dX8_add_8 rfl rfl rfl ?_
  obtain ⟨g1183, h⟩ := h
  refine qb_iast (pc' := 10) dX8_add_9 rfl qb_s27 g1183.1 g1183.2 ?_
  refine qb_aloadn (pc' := 11) (i := 0) dX8_add_10 rfl rfl rfl ?_
  refine qb_geta (pc' := 14) dX8_add_11 rfl qf_X8_15 qb_s26 rfl ?_
  refine qb_aloadn (pc' := 15) (i := 0) dX8_add_14 rfl rfl rfl ?_
  refine qb_geti (pc' := 18) (v := (hp 26 4)) dX8_add_15 rfl qf_X8_24 qb_s26 rfl (qb_rdn rfl rfl) ?_
  refine qb_iloadn (pc' := 19) (i := 2) dX8_add_18 rfl rfl rfl ?_
  refine qb_iast (pc' := 20) dX8_add_19 rfl qb_s28 g1183.1 g1183.2 ?_
  refine qb_aloadn (pc' := 21) (i := 0) dX8_add_20 rfl rfl rfl ?_
  refine qb_geta (pc' := 24) dX8_add_21 rfl qf_X8_18 qb_s26 rfl ?_
  refine qb_aloadn (pc' := 25) (i := 0) dX8_add_24 rfl rfl rfl ?_
  refine qb_geti (pc' := 28) (v := (hp 26 4)) dX8_add_25 rfl qf_X8_24 qb_s26 rfl (qb_rdn rfl (qb_rdn rfl rfl)) ?_
  refine qb_iloadn (pc' := 29) (i := 3) dX8_add_28 rfl rfl rfl ?_
  refine qb_iast (pc' := 30) dX8_add_29 rfl qb_s29 g1183.1 g1183.2 ?_
  refine qb_aloadn (pc' := 31) (i := 0) dX8_add_30 rfl rfl rfl ?_
  refine qb_geta (pc' := 34) dX8_add_31 rfl qf_X8_21 qb_s26 rfl ?_
  refine qb_aloadn (pc' := 35) (i := 0) dX8_add_34 rfl rfl rfl ?_
  refine qb_geti (pc' := 38) (v := (hp 26 4)) dX8_add_35 rfl qf_X8_24 qb_s26 rfl (qb_rdn rfl (qb_rdn rfl (qb_rdn rfl rfl))) ?_
  refine qb_iload (pc' := 40) dX8_add_38 rfl rfl ?_
  refine qb_iast (pc' := 41) dX8_add_40 rfl qb_s30 g1183.1 g1183.2 ?_
  refine qb_aloadn (pc' := 42) (i := 0) dX8_add_41 rfl rfl rfl ?_
  refine qb_dup (pc' := 43) dX8_add_42 rfl rfl ?_
  refine qb_geti (pc' := 46) (v := (hp 26 4)) dX8_add_43 rfl qf_X8_24 qb_s26 rfl (qb_rdn rfl (qb_rdn rfl (qb_rdn rfl (qb_rdn rfl rfl)))) ?_
  refine qb_iconst (pc' := 47) dX8_add_46 rfl rfl ?_
  refine qb_iadd (pc' := 48) dX8_add_47 rfl (qb_ina g1183 (by decide)) ?_
  refine qb_puti (pc' := 51) (hp' := (qb_st (qb_st (qb_st (qb_st (qb_st hp 27 (hp 26 4) x1) 28 (hp 26 4) x2) 29 (hp 26 4) x3) 30 (hp 26 4) x4) 26 4 ((hp 26 4) + 1))) dX8_add_48 rfl qf_X8_24 (Or.inl rfl) qb_s26 rfl rfl ?_
  refine qb_aloadn (pc' := 52) (i := 0) dX8_add_51 rfl rfl rfl ?_
  refine qb_geti (pc' := 55) (v := ((hp 26 4) + 1)) dX8_add_52 rfl qf_X8_24 qb_s26 rfl qb_rds ?_
  exact qb_reti dX8_add_55 rfl h
def v_sa_add (x1 : Int) (x2 : Int) (x3 : Int) (x4 : Int) (hp : qb_H) : Int := ((hp 26 4) + 1)
def h_sa_add (x1 : Int) (x2 : Int) (x3 : Int) (x4 : Int) (hp : qb_H) : qb_H := (qb_st (qb_st (qb_st (qb_st (qb_st hp 27 (hp 26 4) x1) 28 (hp 26 4) x2) 29 (hp 26 4) x3) 30 (hp 26 4) x4) 26 4 ((hp 26 4) + 1))
theorem hn_sa_add (x1 : Int) (x2 : Int) (x3 : Int) (x4 : Int) (hp : qb_H) (c : Nat) (h26 : c ≠ 26) (h27 : c ≠ 27) (h28 : c ≠ 28) (h29 : c ≠ 29) (h30 : c ≠ 30) : h_sa_add x1 x2 x3 x4 hp c = hp c := by
  unfold h_sa_add
  (repeat' split) <;> simp only [qb_st_ne, qb_cpy_ne, ne_eq, not_false_eq_true, h26, h27, h28, h29, h30, ]
def g_sa_add (x1 : Int) (x2 : Int) (x3 : Int) (x4 : Int) (hp : qb_H) : Prop := 0 ≤ (hp 26 4) ∧ (hp 26 4) < 12
theorem s_sa_add (x1 : Int) (x2 : Int) (x3 : Int) (x4 : Int) (hp : qb_H) (K : Int → qb_H → Prop) (hg : g_sa_add x1 x2 x3 x4 hp) (hK : K (v_sa_add x1 x2 x3 x4 hp) (h_sa_add x1 x2 x3 x4 hp)) : c_sa_add x1 x2 x3 x4 hp K := by
  refine b_sa_add ?_
  unfold g_sa_add at hg
  unfold v_sa_add h_sa_add at hK
  refine ⟨hg, ?_⟩
  exact hK
def c_q_salt (x1 : Int) (x2 : Int) (x3 : Int) (x4 : Int) (hp : qb_H) (K : Int → qb_H → Prop) : Prop := qb_R mX10_salt 0 0 qb_sh 0 [qb_a 0, qb_i x1, qb_i x2, qb_i x3, qb_i x4] [] hp (qb_I qb_sh K)
theorem b_q_salt {x1 x2 x3 x4 : Int} {hp : qb_H} {K : Int → qb_H → Prop} (h : ((v_q_isQuay x1) = 0 → K (-1) hp) ∧ (¬ (v_q_isQuay x1) = 0 → ((v_q_isHour x2) = 0 → K (-2) hp) ∧ (¬ (v_q_isHour x2) = 0 → ((v_q_within x3 0 9) = 0 → K (-2) hp) ∧ (¬ (v_q_within x3 0 9) = 0 → ((v_q_within x4 1 100) = 0 → K (-2) hp) ∧ (¬ (v_q_within x4 1 100) = 0 → ((hp 26 4) < 12 → (g_sa_add x1 x2 x3 x4 hp) ∧ K (v_sa_add x1 x2 x3 x4 hp) (h_sa_add x1 x2 x3 x4 hp)) ∧ (¬ (hp 26 4) < 12 → K (-4) hp)))))) : c_q_salt x1 x2 x3 x4 hp K := by
  unfold c_q_salt
  refine qb_iloadn (pc' := 1) (i := 1) dX10_salt_0 rfl rfl rfl ?_
  refine qb_callSi (pc' := 4) (as := [.inl x1]) (rest := []) dX10_salt_1 rfl qe_mX10_salt_mX10_isQuay rfl rfl rfl (Nat.le_of_ble_eq_true rfl) (Nat.le_of_ble_eq_true rfl) ⟨rfl, rfl⟩ (K := fun vz hpz => (v_q_isQuay x1) = vz ∧ hp = hpz) (s_q_isQuay x1 hp _ trivial ⟨rfl, rfl⟩) (fun vz hpz ez => ?_)
  obtain ⟨ez1, ez2⟩ := ez
  subst ez1
  subst ez2
  refine qb_fne (tgt := 9) (pc' := 7) dX10_salt_4 rfl rfl (fun c586 => ?_) (fun c586 => ?_)
  · have h := h.2 c586
    refine qb_iloadn (pc' := 10) (i := 2) dX10_salt_9 rfl rfl rfl ?_
    refine qb_callSi (pc' := 13) (as := [.inl x2]) (rest := []) dX10_salt_10 rfl qe_mX10_salt_mX10_isHour rfl rfl rfl (Nat.le_of_ble_eq_true rfl) (Nat.le_of_ble_eq_true rfl) ⟨rfl, rfl⟩ (K := fun vz hpz => (v_q_isHour x2) = vz ∧ hp = hpz) (s_q_isHour x2 hp _ trivial ⟨rfl, rfl⟩) (fun vz hpz ez => ?_)
    obtain ⟨ez1, ez2⟩ := ez
    subst ez1
    subst ez2
    refine qb_feq (tgt := 37) (pc' := 16) dX10_salt_13 rfl rfl (fun c587 => ?_) (fun c587 => ?_)
    · have h := h.1 c587
      refine qb_bipush (pc' := 39) dX10_salt_37 rfl rfl rfl ?_
      exact qb_reti dX10_salt_39 rfl h
    · have h := h.2 c587
      refine qb_iloadn (pc' := 17) (i := 3) dX10_salt_16 rfl rfl rfl ?_
      refine qb_iconst (pc' := 18) dX10_salt_17 rfl rfl ?_
      refine qb_bipush (pc' := 20) dX10_salt_18 rfl rfl rfl ?_
      refine qb_callSi (pc' := 23) (as := [.inl x3, .inl 0, .inl 9]) (rest := []) dX10_salt_20 rfl qe_mX10_salt_mX10_within rfl rfl rfl (Nat.le_of_ble_eq_true rfl) (Nat.le_of_ble_eq_true rfl) ⟨rfl, rfl⟩ (K := fun vz hpz => (v_q_within x3 0 9) = vz ∧ hp = hpz) (s_q_within x3 0 9 hp _ trivial ⟨rfl, rfl⟩) (fun vz hpz ez => ?_)
      obtain ⟨ez1, ez2⟩ := ez
      subst ez1
      subst ez2
      refine qb_feq (tgt := 37) (pc' := 26) dX10_salt_23 rfl rfl (fun c588 => ?_) (fun c588 => ?_)
      · have h := h.1 c588
        refine qb_bipush (pc' := 39) dX10_salt_37 rfl rfl rfl ?_
        exact qb_reti dX10_salt_39 rfl h
      · have h := h.2 c588
        refine qb_iload (pc' := 28) dX10_salt_26 rfl rfl ?_
        refine qb_iconst (pc' := 29) dX10_salt_28 rfl rfl ?_
        refine qb_bipush (pc' := 31) dX10_salt_29 rfl rfl rfl ?_
        refine qb_callSi (pc' := 34) (as := [.inl x4, .inl 1, .inl 100]) (rest := []) dX10_salt_31 rfl qe_mX10_salt_mX10_within rfl rfl rfl (Nat.le_of_ble_eq_true rfl) (Nat.le_of_ble_eq_true rfl) ⟨rfl, rfl⟩ (K := fun vz hpz => (v_q_within x4 1 100) = vz ∧ hp = hpz) (s_q_within x4 1 100 hp _ trivial ⟨rfl, rfl⟩) (fun vz hpz ez => ?_)
        obtain ⟨ez1, ez2⟩ := ez
        subst ez1
        subst ez2
        refine qb_fne (tgt := 40) (pc' := 37) dX10_salt_34 rfl rfl (fun c589 => ?_) (fun c589 => ?_)
        · have h := h.2 c589
          refine qb_aloadn (pc' := 41) (i := 0) dX10_salt_40 rfl rfl rfl ?_
          refine qb_geta (pc' := 44) dX10_salt_41 rfl qf_X10_44 qb_s0 rfl ?_
          refine qb_geti (pc' := 47) (v := (hp 26 4)) dX10_salt_44 rfl qf_X10_190 qb_s26 rfl rfl ?_
          refine qb_bipush (pc' := 49) dX10_salt_47 rfl rfl rfl ?_
          refine qb_clt (tgt := 55) (pc' := 52) dX10_salt_49 rfl rfl (fun c590 => ?_) (fun c590 => ?_)
          · have h := h.1 c590
            refine qb_aloadn (pc' := 56) (i := 0) dX10_salt_55 rfl rfl rfl ?_
            refine qb_geta (pc' := 59) dX10_salt_56 rfl qf_X10_44 qb_s0 rfl ?_
            refine qb_iloadn (pc' := 60) (i := 1) dX10_salt_59 rfl rfl rfl ?_
            refine qb_iloadn (pc' := 61) (i := 2) dX10_salt_60 rfl rfl rfl ?_
            refine qb_iloadn (pc' := 62) (i := 3) dX10_salt_61 rfl rfl rfl ?_
            refine qb_iload (pc' := 64) dX10_salt_62 rfl rfl ?_
            obtain ⟨g1185, h⟩ := h
            refine qb_callVi (pc' := 67) (b := 26) (as := [.inl x1, .inl x2, .inl x3, .inl x4]) (rest := []) dX10_salt_64 rfl qe_mX10_salt_mX8_add rfl rfl qb_s26 rfl rfl (Nat.le_of_ble_eq_true rfl) (Nat.le_of_ble_eq_true rfl) ⟨rfl, rfl⟩ (K := fun vz hpz => (v_sa_add x1 x2 x3 x4 hp) = vz ∧ (h_sa_add x1 x2 x3 x4 hp) = hpz) (s_sa_add x1 x2 x3 x4 hp _ g1185 ⟨rfl, rfl⟩) (fun vz hpz ez => ?_)
            obtain ⟨ez1, ez2⟩ := ez
            subst ez1
            subst ez2
            exact qb_reti dX10_salt_67 rfl h
          · have h := h.2 c590
            refine qb_bipush (pc' := 54) dX10_salt_52 rfl rfl rfl ?_
            exact qb_reti dX10_salt_54 rfl h
        · have h := h.1 c589
          refine qb_bipush (pc' := 39) dX10_salt_37 rfl rfl rfl ?_
          exact qb_reti dX10_salt_39 rfl h
  · have h := h.1 c586
    refine qb_iconst (pc' := 8) dX10_salt_7 rfl rfl ?_
    exact qb_reti dX10_salt_8 rfl h
def v_q_salt (x1 : Int) (x2 : Int) (x3 : Int) (x4 : Int) (hp : qb_H) : Int := (if (v_q_isQuay x1) = 0 then ((-1) : Int) else (if (v_q_isHour x2) = 0 then ((-2) : Int) else (if (v_q_within x3 0 9) = 0 then ((-2) : Int) else (if (v_q_within x4 1 100) = 0 then ((-2) : Int) else (if (hp 26 4) < 12 then (v_sa_add x1 x2 x3 x4 hp) else (-4))))))
def h_q_salt (x1 : Int) (x2 : Int) (x3 : Int) (x4 : Int) (hp : qb_H) : qb_H := (if (v_q_isQuay x1) = 0 then hp else (if (v_q_isHour x2) = 0 then hp else (if (v_q_within x3 0 9) = 0 then hp else (if (v_q_within x4 1 100) = 0 then hp else (if (hp 26 4) < 12 then (h_sa_add x1 x2 x3 x4 hp) else hp)))))
theorem hn_q_salt (x1 : Int) (x2 : Int) (x3 : Int) (x4 : Int) (hp : qb_H) (c : Nat) (h26 : c ≠ 26) (h27 : c ≠ 27) (h28 : c ≠ 28) (h29 : c ≠ 29) (h30 : c ≠ 30) : h_q_salt x1 x2 x3 x4 hp c = hp c := by
  unfold h_q_salt
  (repeat' split) <;> simp only [qb_st_ne, qb_cpy_ne, ne_eq, not_false_eq_true, h26, h27, h28, h29, h30, hn_sa_add,]
def g_q_salt (x1 : Int) (x2 : Int) (x3 : Int) (x4 : Int) (hp : qb_H) : Prop := (¬ (v_q_isQuay x1) = 0 → (¬ (v_q_isHour x2) = 0 → (¬ (v_q_within x3 0 9) = 0 → (¬ (v_q_within x4 1 100) = 0 → ((hp 26 4) < 12 → g_sa_add x1 x2 x3 x4 hp)))))
theorem s_q_salt (x1 : Int) (x2 : Int) (x3 : Int) (x4 : Int) (hp : qb_H) (K : Int → qb_H → Prop) (hg : g_q_salt x1 x2 x3 x4 hp) (hK : K (v_q_salt x1 x2 x3 x4 hp) (h_q_salt x1 x2 x3 x4 hp)) : c_q_salt x1 x2 x3 x4 hp K := by
  refine b_q_salt ?_
  unfold g_q_salt at hg
  unfold v_q_salt h_q_salt at hK
  refine ⟨fun c591 => ?_, fun c591 => ?_⟩
  · simpa only [if_pos c591] using hK
  · have hg := hg c591
    refine ⟨fun c592 => ?_, fun c592 => ?_⟩
    · simpa only [if_neg c591, if_pos c592] using hK
    · have hg := hg c592
      refine ⟨fun c593 => ?_, fun c593 => ?_⟩
      · simpa only [if_neg c591, if_neg c592, if_pos c593] using hK
      · have hg := hg c593
        refine ⟨fun c594 => ?_, fun c594 => ?_⟩
        · simpa only [if_neg c591, if_neg c592, if_neg c593, if_pos c594] using hK
        · have hg := hg c594
          refine ⟨fun c595 => ?_, fun c595 => ?_⟩
          · have hg := hg c595
            refine ⟨hg, ?_⟩
            simpa only [if_neg c591, if_neg c592, if_neg c593, if_neg c594, if_pos c595] using hK
          · simpa only [if_neg c591, if_neg c592, if_neg c593, if_neg c594, if_neg c595] using hK
def c_dr_add (x1 : Int) (hp : qb_H) (K : Int → qb_H → Prop) : Prop := qb_R mX3_add 0 0 qb_sh 0 [qb_a 1, qb_i x1] [] hp (qb_I qb_sh K)
theorem b_dr_add {x1 : Int} {hp : qb_H} {K : Int → qb_H → Prop} (h : (0 ≤ (hp 1 1) ∧ (hp 1 1) < 60) ∧ K ((hp 1 1) + 1) (qb_st (qb_st hp 2 (hp 1 1) x1) 1 1 ((hp 1 1) + 1))) : c_dr_add x1 hp K := by
  unfold c_dr_add
  refine qb_aloadn (pc' := 1) (i := 0) dX3_add_0 rfl rfl rfl ?_
  refine qb_geta (pc' := 4) dX3_add_1 rfl qf_X3_9 qb_s1 rfl ?_
  refine qb_aloadn (pc' := 5) (i := 0) dX3_add_4 rfl rfl rfl ?_
  refine qb_geti (pc' := 8) (v := (hp 1 1)) dX3_add_5 rfl qf_X3_15 qb_s1 rfl rfl ?_
  refine qb_iloadn (pc' := 9) (i := 1) dX3_add_8 rfl rfl rfl ?_
  obtain ⟨g1187, h⟩ := h
  refine qb_iast (pc' := 10) dX3_add_9 rfl qb_s2 g1187.1 g1187.2 ?_
  refine qb_aloadn (pc' := 11) (i := 0) dX3_add_10 rfl rfl rfl ?_
  refine qb_dup (pc' := 12) dX3_add_11 rfl rfl ?_
  refine qb_geti (pc' := 15) (v := (hp 1 1)) dX3_add_12 rfl qf_X3_15 qb_s1 rfl (qb_rdn rfl rfl) ?_
  refine qb_iconst (pc' := 16) dX3_add_15 rfl rfl ?_
  refine qb_iadd (pc' := 17) dX3_add_16 rfl (qb_ina g1187 (by decide)) ?_
  refine qb_puti (pc' := 20) (hp' := (qb_st (qb_st hp 2 (hp 1 1) x1) 1 1 ((hp 1 1) + 1))) dX3_add_17 rfl qf_X3_15 (Or.inl rfl) qb_s1 rfl rfl ?_
  refine qb_aloadn (pc' := 21) (i := 0) dX3_add_20 rfl rfl rfl ?_
  refine qb_geti (pc' := 24) (v := ((hp 1 1) + 1)) dX3_add_21 rfl qf_X3_15 qb_s1 rfl qb_rds ?_
  exact qb_reti dX3_add_24 rfl h
def v_dr_add (x1 : Int) (hp : qb_H) : Int := ((hp 1 1) + 1)
def h_dr_add (x1 : Int) (hp : qb_H) : qb_H := (qb_st (qb_st hp 2 (hp 1 1) x1) 1 1 ((hp 1 1) + 1))
theorem hn_dr_add (x1 : Int) (hp : qb_H) (c : Nat) (h1 : c ≠ 1) (h2 : c ≠ 2) : h_dr_add x1 hp c = hp c := by
  unfold h_dr_add
  (repeat' split) <;> simp only [qb_st_ne, qb_cpy_ne, ne_eq, not_false_eq_true, h1, h2, ]
def g_dr_add (x1 : Int) (hp : qb_H) : Prop := 0 ≤ (hp 1 1) ∧ (hp 1 1) < 60
theorem s_dr_add (x1 : Int) (hp : qb_H) (K : Int → qb_H → Prop) (hg : g_dr_add x1 hp) (hK : K (v_dr_add x1 hp) (h_dr_add x1 hp)) : c_dr_add x1 hp K := by
  refine b_dr_add ?_
  unfold g_dr_add at hg
  unfold v_dr_add h_dr_add at hK
  refine ⟨hg, ?_⟩
  exact hK
def c_q_say (x1 : Int) (hp : qb_H) (K : Int → qb_H → Prop) : Prop := qb_R mX10_say 0 0 qb_sh 0 [qb_a 0, qb_i x1] [] hp (qb_I qb_sh K)
theorem b_q_say {x1 : Int} {hp : qb_H} {K : Int → qb_H → Prop} (h : ((v_q_within x1 33 126) = 0 → K (-2) hp) ∧ (¬ (v_q_within x1 33 126) = 0 → ((hp 1 1) < 60 → (g_dr_add x1 hp) ∧ K (v_dr_add x1 hp) (h_dr_add x1 hp)) ∧ (¬ (hp 1 1) < 60 → K (-4) hp))) : c_q_say x1 hp K := by
  unfold c_q_say
  refine qb_iloadn (pc' := 1) (i := 1) dX10_say_0 rfl rfl rfl ?_
  refine qb_bipush (pc' := 3) dX10_say_1 rfl rfl rfl ?_
  refine qb_bipush (pc' := 5) dX10_say_3 rfl rfl rfl ?_
  refine qb_callSi (pc' := 8) (as := [.inl x1, .inl 33, .inl 126]) (rest := []) dX10_say_5 rfl qe_mX10_say_mX10_within rfl rfl rfl (Nat.le_of_ble_eq_true rfl) (Nat.le_of_ble_eq_true rfl) ⟨rfl, rfl⟩ (K := fun vz hpz => (v_q_within x1 33 126) = vz ∧ hp = hpz) (s_q_within x1 33 126 hp _ trivial ⟨rfl, rfl⟩) (fun vz hpz ez => ?_)
  obtain ⟨ez1, ez2⟩ := ez
  subst ez1
  subst ez2
  refine qb_fne (tgt := 14) (pc' := 11) dX10_say_8 rfl rfl (fun c598 => ?_) (fun c598 => ?_)
  · have h := h.2 c598
    refine qb_aloadn (pc' := 15) (i := 0) dX10_say_14 rfl rfl rfl ?_
    refine qb_geta (pc' := 18) dX10_say_15 rfl qf_X10_10 qb_s0 rfl ?_
    refine qb_geti (pc' := 21) (v := (hp 1 1)) dX10_say_18 rfl qf_X10_93 qb_s1 rfl rfl ?_
    refine qb_bipush (pc' := 23) dX10_say_21 rfl rfl rfl ?_
    refine qb_clt (tgt := 29) (pc' := 26) dX10_say_23 rfl rfl (fun c599 => ?_) (fun c599 => ?_)
    · have h := h.1 c599
      refine qb_aloadn (pc' := 30) (i := 0) dX10_say_29 rfl rfl rfl ?_
      refine qb_geta (pc' := 33) dX10_say_30 rfl qf_X10_10 qb_s0 rfl ?_
      refine qb_iloadn (pc' := 34) (i := 1) dX10_say_33 rfl rfl rfl ?_
      obtain ⟨g1189, h⟩ := h
      refine qb_callVi (pc' := 37) (b := 1) (as := [.inl x1]) (rest := []) dX10_say_34 rfl qe_mX10_say_mX3_add rfl rfl qb_s1 rfl rfl (Nat.le_of_ble_eq_true rfl) (Nat.le_of_ble_eq_true rfl) ⟨rfl, rfl⟩ (K := fun vz hpz => (v_dr_add x1 hp) = vz ∧ (h_dr_add x1 hp) = hpz) (s_dr_add x1 hp _ g1189 ⟨rfl, rfl⟩) (fun vz hpz ez => ?_)
      obtain ⟨ez1, ez2⟩ := ez
      subst ez1
      subst ez2
      exact qb_reti dX10_say_37 rfl h
    · have h := h.2 c599
      refine qb_bipush (pc' := 28) dX10_say_26 rfl rfl rfl ?_
      exact qb_reti dX10_say_28 rfl h
  · have h := h.1 c598
    refine qb_bipush (pc' := 13) dX10_say_11 rfl rfl rfl ?_
    exact qb_reti dX10_say_13 rfl h
def v_q_say (x1 : Int) (hp : qb_H) : Int := (if (v_q_within x1 33 126) = 0 then ((-2) : Int) else (if (hp 1 1) < 60 then (v_dr_add x1 hp) else (-4)))
def h_q_say (x1 : Int) (hp : qb_H) : qb_H := (if (v_q_within x1 33 126) = 0 then hp else (if (hp 1 1) < 60 then (h_dr_add x1 hp) else hp))
theorem hn_q_say (x1 : Int) (hp : qb_H) (c : Nat) (h1 : c ≠ 1) (h2 : c ≠ 2) : h_q_say x1 hp c = hp c := by
  unfold h_q_say
  (repeat' split) <;> simp only [qb_st_ne, qb_cpy_ne, ne_eq, not_false_eq_true, h1, h2, hn_dr_add,]
def g_q_say (x1 : Int) (hp : qb_H) : Prop := (¬ (v_q_within x1 33 126) = 0 → ((hp 1 1) < 60 → g_dr_add x1 hp))
theorem s_q_say (x1 : Int) (hp : qb_H) (K : Int → qb_H → Prop) (hg : g_q_say x1 hp) (hK : K (v_q_say x1 hp) (h_q_say x1 hp)) : c_q_say x1 hp K := by
  refine b_q_say ?_
  unfold g_q_say at hg
  unfold v_q_say h_q_say at hK
  refine ⟨fun c600 => ?_, fun c600 => ?_⟩
  · simpa only [if_pos c600] using hK
  · have hg := hg c600
    refine ⟨fun c601 => ?_, fun c601 => ?_⟩
    · have hg := hg c601
      refine ⟨hg, ?_⟩
      simpa only [if_neg c600, if_pos c601] using hK
    · simpa only [if_neg c600, if_neg c601] using hK
def c_q_set (x1 : Int) (x2 : Int) (x3 : Int) (hp : qb_H) (K : Int → qb_H → Prop) : Prop := qb_R mX10_set 0 0 qb_sh 0 [qb_a 0, qb_i x1, qb_i x2, qb_i x3, none, none] [] hp (qb_I qb_sh K)
theorem b_q_set {x1 x2 x3 : Int} {hp : qb_H} {K : Int → qb_H → Prop} (h : ((v_q_isQuay x1) = 0 → K (-1) hp) ∧ (¬ (v_q_isQuay x1) = 0 → ((v_q_within x2 0 1) = 0 → K (-2) hp) ∧ (¬ (v_q_within x2 0 1) = 0 → ((v_q_within x3 1 (if x2 = 0 then (9 : Int) else 2000)) = 0 → K (-2) hp) ∧ (¬ (v_q_within x3 1 (if x2 = 0 then (9 : Int) else 2000)) = 0 → (x2 = 0 → (0 ≤ x1 ∧ x1 < 4) ∧ K (hp 21 x1) (qb_st hp 21 x1 x3)) ∧ (¬ x2 = 0 → (0 ≤ x1 ∧ x1 < 4) ∧ K (hp 22 x1) (qb_st hp 22 x1 x3)))))) : c_q_set x1 x2 x3 hp K := by
  unfold c_q_set
  refine qb_iloadn (pc' := 1) (i := 1) dX10_set_0 rfl rfl rfl ?_
  refine qb_callSi (pc' := 4) (as := [.inl x1]) (rest := []) dX10_set_1 rfl qe_mX10_set_mX10_isQuay rfl rfl rfl (Nat.le_of_ble_eq_true rfl) (Nat.le_of_ble_eq_true rfl) ⟨rfl, rfl⟩ (K := fun vz hpz => (v_q_isQuay x1) = vz ∧ hp = hpz) (s_q_isQuay x1 hp _ trivial ⟨rfl, rfl⟩) (fun vz hpz ez => ?_)
  obtain ⟨ez1, ez2⟩ := ez
  subst ez1
  subst ez2
  refine qb_fne (tgt := 9) (pc' := 7) dX10_set_4 rfl rfl (fun c607 => ?_) (fun c607 => ?_)
  · have h := h.2 c607
    refine qb_iloadn (pc' := 10) (i := 2) dX10_set_9 rfl rfl rfl ?_
    refine qb_iconst (pc' := 11) dX10_set_10 rfl rfl ?_
    refine qb_iconst (pc' := 12) dX10_set_11 rfl rfl ?_
    refine qb_callSi (pc' := 15) (as := [.inl x2, .inl 0, .inl 1]) (rest := []) dX10_set_12 rfl qe_mX10_set_mX10_within rfl rfl rfl (Nat.le_of_ble_eq_true rfl) (Nat.le_of_ble_eq_true rfl) ⟨rfl, rfl⟩ (K := fun vz hpz => (v_q_within x2 0 1) = vz ∧ hp = hpz) (s_q_within x2 0 1 hp _ trivial ⟨rfl, rfl⟩) (fun vz hpz ez => ?_)
    obtain ⟨ez1, ez2⟩ := ez
    subst ez1
    subst ez2
    refine qb_feq (tgt := 38) (pc' := 18) dX10_set_15 rfl rfl (fun c608 => ?_) (fun c608 => ?_)
    · have h := h.1 c608
      refine qb_bipush (pc' := 40) dX10_set_38 rfl rfl rfl ?_
      exact qb_reti dX10_set_40 rfl h
    · have h := h.2 c608
      refine qb_iloadn (pc' := 19) (i := 3) dX10_set_18 rfl rfl rfl ?_
      refine qb_iconst (pc' := 20) dX10_set_19 rfl rfl ?_
      refine qb_iloadn (pc' := 21) (i := 2) dX10_set_20 rfl rfl rfl ?_
      have k264 : qb_R mX10_set 0 0 qb_sh 32 [qb_a 0, qb_i x1, qb_i x2, qb_i x3, none, none] [.inl (if x2 = 0 then (9 : Int) else 2000), .inl 1, .inl x3] hp (qb_I qb_sh K) := by
        refine qb_callSi (pc' := 35) (as := [.inl x3, .inl 1, .inl (if x2 = 0 then (9 : Int) else 2000)]) (rest := []) dX10_set_32 rfl qe_mX10_set_mX10_within rfl rfl rfl (Nat.le_of_ble_eq_true rfl) (Nat.le_of_ble_eq_true rfl) ⟨rfl, rfl⟩ (K := fun vz hpz => (v_q_within x3 1 (if x2 = 0 then (9 : Int) else 2000)) = vz ∧ hp = hpz) (s_q_within x3 1 (if x2 = 0 then (9 : Int) else 2000) hp _ trivial ⟨rfl, rfl⟩) (fun vz hpz ez => ?_)
        obtain ⟨ez1, ez2⟩ := ez
        subst ez1
        subst ez2
        refine qb_fne (tgt := 41) (pc' := 38) dX10_set_35 rfl rfl (fun c610 => ?_) (fun c610 => ?_)
        · have h := h.2 c610
          refine qb_iloadn (pc' := 42) (i := 2) dX10_set_41 rfl rfl rfl ?_
          refine qb_fne (tgt := 55) (pc' := 45) dX10_set_42 rfl rfl (fun c611 => ?_) (fun c611 => ?_)
          · have h := h.2 c611
            refine qb_aloadn (pc' := 56) (i := 0) dX10_set_55 rfl rfl rfl ?_
            refine qb_geta (pc' := 59) dX10_set_56 rfl qf_X10_30 qb_s0 rfl ?_
            refine qb_geta (pc' := 62) dX10_set_59 rfl qf_X10_142 qb_s11 rfl ?_
            refine qb_astore (pc' := 64) (L' := [qb_a 0, qb_i x1, qb_i x2, qb_i x3, qb_a 22, none]) dX10_set_62 rfl (Nat.le_of_ble_eq_true rfl) rfl rfl ?_
            refine qb_aload (pc' := 66) dX10_set_64 rfl rfl ?_
            refine qb_iloadn (pc' := 67) (i := 1) dX10_set_66 rfl rfl rfl ?_
            obtain ⟨g1193, h⟩ := h
            refine qb_iald (pc' := 68) (v := (hp 22 x1)) dX10_set_67 rfl qb_s22 g1193.1 g1193.2 rfl ?_
            refine qb_istore (pc' := 70) (L' := [qb_a 0, qb_i x1, qb_i x2, qb_i x3, qb_a 22, qb_i (hp 22 x1)]) dX10_set_68 rfl (Nat.le_of_ble_eq_true rfl) rfl rfl ?_
            refine qb_aload (pc' := 72) dX10_set_70 rfl rfl ?_
            refine qb_iloadn (pc' := 73) (i := 1) dX10_set_72 rfl rfl rfl ?_
            refine qb_iloadn (pc' := 74) (i := 3) dX10_set_73 rfl rfl rfl ?_
            refine qb_iast (pc' := 75) dX10_set_74 rfl qb_s22 g1193.1 g1193.2 ?_
            refine qb_iload (pc' := 77) dX10_set_75 rfl rfl ?_
            exact qb_reti dX10_set_77 rfl h
          · have h := h.1 c611
            refine qb_aloadn (pc' := 46) (i := 0) dX10_set_45 rfl rfl rfl ?_
            refine qb_geta (pc' := 49) dX10_set_46 rfl qf_X10_30 qb_s0 rfl ?_
            refine qb_geta (pc' := 52) dX10_set_49 rfl qf_X10_139 qb_s11 rfl ?_
            refine qb_goto (tgt := 62) dX10_set_52 rfl ?_
            refine qb_astore (pc' := 64) (L' := [qb_a 0, qb_i x1, qb_i x2, qb_i x3, qb_a 21, none]) dX10_set_62 rfl (Nat.le_of_ble_eq_true rfl) rfl rfl ?_
            refine qb_aload (pc' := 66) dX10_set_64 rfl rfl ?_
            refine qb_iloadn (pc' := 67) (i := 1) dX10_set_66 rfl rfl rfl ?_
            obtain ⟨g1192, h⟩ := h
            refine qb_iald (pc' := 68) (v := (hp 21 x1)) dX10_set_67 rfl qb_s21 g1192.1 g1192.2 rfl ?_
            refine qb_istore (pc' := 70) (L' := [qb_a 0, qb_i x1, qb_i x2, qb_i x3, qb_a 21, qb_i (hp 21 x1)]) dX10_set_68 rfl (Nat.le_of_ble_eq_true rfl) rfl rfl ?_
            refine qb_aload (pc' := 72) dX10_set_70 rfl rfl ?_
            refine qb_iloadn (pc' := 73) (i := 1) dX10_set_72 rfl rfl rfl ?_
            refine qb_iloadn (pc' := 74) (i := 3) dX10_set_73 rfl rfl rfl ?_
            refine qb_iast (pc' := 75) dX10_set_74 rfl qb_s21 g1192.1 g1192.2 ?_
            refine qb_iload (pc' := 77) dX10_set_75 rfl rfl ?_
            exact qb_reti dX10_set_77 rfl h
        · have h := h.1 c610
          refine qb_bipush (pc' := 40) dX10_set_38 rfl rfl rfl ?_
          exact qb_reti dX10_set_40 rfl h
      refine qb_fne (tgt := 29) (pc' := 24) dX10_set_21 rfl rfl (fun c609 => ?_) (fun c609 => ?_)
      · refine qb_sipush (pc' := 32) dX10_set_29 rfl rfl rfl ?_
        refine qb_cut (L' := [qb_a 0, qb_i x1, qb_i x2, qb_i x3, none, none]) [true, true, true, true, false, false] rfl ?_
        simpa only [if_neg c609] using k264
      · refine qb_bipush (pc' := 26) dX10_set_24 rfl rfl rfl ?_
        refine qb_goto (tgt := 32) dX10_set_26 rfl ?_
        refine qb_cut (L' := [qb_a 0, qb_i x1, qb_i x2, qb_i x3, none, none]) [true, true, true, true, false, false] rfl ?_
        simpa only [if_pos c609] using k264
  · have h := h.1 c607
    refine qb_iconst (pc' := 8) dX10_set_7 rfl rfl ?_
    exact qb_reti dX10_set_8 rfl h
def v_q_set (x1 : Int) (x2 : Int) (x3 : Int) (hp : qb_H) : Int := (if (v_q_isQuay x1) = 0 then ((-1) : Int) else (if (v_q_within x2 0 1) = 0 then ((-2) : Int) else (if (v_q_within x3 1 (if x2 = 0 then (9 : Int) else 2000)) = 0 then ((-2) : Int) else (if x2 = 0 then (hp 21 x1) else (hp 22 x1)))))
def h_q_set (x1 : Int) (x2 : Int) (x3 : Int) (hp : qb_H) : qb_H := (if (v_q_isQuay x1) = 0 then hp else (if (v_q_within x2 0 1) = 0 then hp else (if (v_q_within x3 1 (if x2 = 0 then (9 : Int) else 2000)) = 0 then hp else (if x2 = 0 then (qb_st hp 21 x1 x3) else (qb_st hp 22 x1 x3)))))
theorem hn_q_set (x1 : Int) (x2 : Int) (x3 : Int) (hp : qb_H) (c : Nat) (h21 : c ≠ 21) (h22 : c ≠ 22) : h_q_set x1 x2 x3 hp c = hp c := by
  unfold h_q_set
  (repeat' split) <;> simp only [qb_st_ne, qb_cpy_ne, ne_eq, not_false_eq_true, h21, h22, ]
def g_q_set (x1 : Int) (x2 : Int) (x3 : Int) : Prop := (¬ (v_q_isQuay x1) = 0 → (¬ (v_q_within x2 0 1) = 0 → (¬ (v_q_within x3 1 (if x2 = 0 then (9 : Int) else 2000)) = 0 → (x2 = 0 → 0 ≤ x1 ∧ x1 < 4) ∧ (¬ x2 = 0 → 0 ≤ x1 ∧ x1 < 4))))
theorem s_q_set (x1 : Int) (x2 : Int) (x3 : Int) (hp : qb_H) (K : Int → qb_H → Prop) (hg : g_q_set x1 x2 x3) (hK : K (v_q_set x1 x2 x3 hp) (h_q_set x1 x2 x3 hp)) : c_q_set x1 x2 x3 hp K := by
  refine b_q_set ?_
  unfold g_q_set at hg
  unfold v_q_set h_q_set at hK
  refine ⟨fun c612 => ?_, fun c612 => ?_⟩
  · simpa only [if_pos c612] using hK
  · have hg := hg c612
    refine ⟨fun c613 => ?_, fun c613 => ?_⟩
    · simpa only [if_neg c612, if_pos c613] using hK
    · have hg := hg c613
      refine ⟨fun c614 => ?_, fun c614 => ?_⟩
      · try simp only [if_neg c612] at hK
        try simp only [if_neg c613] at hK
        try simp only [if_pos c614] at hK
        exact hK
      · have hg := hg c614
        refine ⟨fun c615 => ?_, fun c615 => ?_⟩
        · have hg := hg.1 c615
          refine ⟨hg, ?_⟩
          try simp only [if_neg c612] at hK
          try simp only [if_neg c613] at hK
          try simp only [if_neg c614] at hK
          try simp only [if_pos c615] at hK
          exact hK
        · have hg := hg.2 c615
          refine ⟨hg, ?_⟩
          try simp only [if_neg c612] at hK
          try simp only [if_neg c613] at hK
          try simp only [if_neg c614] at hK
          try simp only [if_neg c615] at hK
          exact hK
def c_sp_list (hp : qb_H) (K : qb_H → Prop) : Prop := qb_R mX9_list 0 0 qb_sh 0 [qb_a 50, qb_a 11, none] [] hp (qb_U qb_sh K)
def r_sp_list_7 (x2 : Int) (hp : qb_H) (K : qb_H → Prop) : Prop := qb_R mX9_list 0 0 qb_sh 7 [qb_a 50, qb_a 11, qb_i x2] [] hp (qb_U qb_sh K)
theorem b_sp_list {hp : qb_H} {K : qb_H → Prop} (h : r_sp_list_7 0 (qb_st hp 50 3 0) K) : c_sp_list hp K := by
  unfold c_sp_list
  refine qb_aloadn (pc' := 1) (i := 0) dX9_list_0 rfl rfl rfl ?_
  refine qb_iconst (pc' := 2) dX9_list_1 rfl rfl ?_
  refine qb_puti (pc' := 5) (hp' := (qb_st hp 50 3 0)) dX9_list_2 rfl qf_X9_25 (Or.inl rfl) qb_s50 rfl rfl ?_
  refine qb_iconst (pc' := 6) dX9_list_5 rfl rfl ?_
  refine qb_istoren (pc' := 7) (i := 2) (L' := [qb_a 50, qb_a 11, qb_i 0]) dX9_list_6 rfl rfl (Nat.le_of_ble_eq_true rfl) rfl rfl ?_
  refine qb_cut (L' := [qb_a 50, qb_a 11, qb_i 0]) [true, true, true] rfl ?_
  exact h
theorem b_sp_list_7 {x2 : Int} {hp : qb_H} {K : qb_H → Prop} (h : ((hp 11 13) ≤ x2 → K hp) ∧ (¬ (hp 11 13) ≤ x2 → (0 ≤ x2 ∧ x2 < 30) ∧ ((hp 13 x2) = (-1) → (¬ 5 ≤ (hp 50 3) → 0 ≤ (hp 50 3) ∧ (hp 50 3) < 5)) ∧ (∀ (hq161 : qb_H), hq161 = (if (hp 13 x2) = (-1) then (if 5 ≤ (hp 50 3) then hp else (qb_st (qb_st (qb_st hp 51 x2 (hp 50 3)) 52 (hp 50 3) x2) 50 3 ((hp 50 3) + 1))) else hp) → r_sp_list_7 (x2 + 1) hq161 K))) : r_sp_list_7 x2 hp K := by
  unfold r_sp_list_7
  refine qb_iloadn (pc' := 8) (i := 2) dX9_list_7 rfl rfl rfl ?_
  refine qb_aloadn (pc' := 9) (i := 1) dX9_list_8 rfl rfl rfl ?_
  refine qb_geti (pc' := 12) (v := (hp 11 13)) dX9_list_9 rfl qf_X9_49 qb_s11 rfl rfl ?_
  refine qb_cge (tgt := 69) (pc' := 15) dX9_list_12 rfl rfl (fun c616 => ?_) (fun c616 => ?_)
  · have h := h.1 c616
    exact qb_retv dX9_list_69 rfl h
  · have h := h.2 c616
    refine qb_aloadn (pc' := 16) (i := 1) dX9_list_15 rfl rfl rfl ?_
    refine qb_geta (pc' := 19) dX9_list_16 rfl qf_X9_50 qb_s11 rfl ?_
    refine qb_iloadn (pc' := 20) (i := 2) dX9_list_19 rfl rfl rfl ?_
    obtain ⟨g1194, h⟩ := h
    refine qb_iald (pc' := 21) (v := (hp 13 x2)) dX9_list_20 rfl qb_s13 g1194.1 g1194.2 rfl ?_
    refine qb_iconst (pc' := 22) dX9_list_21 rfl rfl ?_
    obtain ⟨ga, h⟩ := h
    have k266 : ∀ (hq161 : qb_H), hq161 = (if (hp 13 x2) = (-1) then (if 5 ≤ (hp 50 3) then hp else (qb_st (qb_st (qb_st hp 51 x2 (hp 50 3)) 52 (hp 50 3) x2) 50 3 ((hp 50 3) + 1))) else hp) → qb_R mX9_list 0 0 qb_sh 63 [qb_a 50, qb_a 11, qb_i x2] [] hq161 (qb_U qb_sh K) := by
      intro hq161 ehq161
      have h := h hq161 ehq161
      refine qb_iinc (pc' := 66) (L' := [qb_a 50, qb_a 11, qb_i (x2 + 1)]) dX9_list_63 rfl rfl (qb_ina g1194 (by decide)) (Nat.le_of_ble_eq_true rfl) rfl rfl ?_
      refine qb_goto (tgt := 7) dX9_list_66 rfl ?_
      refine qb_cut (L' := [qb_a 50, qb_a 11, qb_i (x2 + 1)]) [true, true, true] rfl ?_
      exact h
    refine qb_cne (tgt := 63) (pc' := 25) dX9_list_22 rfl rfl (fun c617 => ?_) (fun c617 => ?_)
    · refine qb_cut (L' := [qb_a 50, qb_a 11, qb_i x2]) [true, true, true] rfl ?_
      exact k266 _ (if_neg c617).symm
    · have h := ga c617
      refine qb_aloadn (pc' := 26) (i := 0) dX9_list_25 rfl rfl rfl ?_
      refine qb_geti (pc' := 29) (v := (hp 50 3)) dX9_list_26 rfl qf_X9_25 qb_s50 rfl rfl ?_
      refine qb_iconst (pc' := 30) dX9_list_29 rfl rfl ?_
      have gb := h
      have k267 : qb_R mX9_list 0 0 qb_sh 63 [qb_a 50, qb_a 11, qb_i x2] [] (if 5 ≤ (hp 50 3) then hp else (qb_st (qb_st (qb_st hp 51 x2 (hp 50 3)) 52 (hp 50 3) x2) 50 3 ((hp 50 3) + 1))) (qb_U qb_sh K) := by
        refine qb_cut (L' := [qb_a 50, qb_a 11, qb_i x2]) [true, true, true] rfl ?_
        exact k266 _ (if_pos c617).symm
      refine qb_cge (tgt := 63) (pc' := 33) dX9_list_30 rfl rfl (fun c619 => ?_) (fun c619 => ?_)
      · refine qb_cut (L' := [qb_a 50, qb_a 11, qb_i x2]) [true, true, true] rfl ?_
        simpa only [if_pos c619] using k267
      · have h := gb c619
        refine qb_aloadn (pc' := 34) (i := 0) dX9_list_33 rfl rfl rfl ?_
        refine qb_geta (pc' := 37) dX9_list_34 rfl qf_X9_9 qb_s50 rfl ?_
        refine qb_iloadn (pc' := 38) (i := 2) dX9_list_37 rfl rfl rfl ?_
        refine qb_aloadn (pc' := 39) (i := 0) dX9_list_38 rfl rfl rfl ?_
        refine qb_geti (pc' := 42) (v := (hp 50 3)) dX9_list_39 rfl qf_X9_25 qb_s50 rfl rfl ?_
        refine qb_iast (pc' := 43) dX9_list_42 rfl qb_s51 g1194.1 g1194.2 ?_
        refine qb_aloadn (pc' := 44) (i := 0) dX9_list_43 rfl rfl rfl ?_
        refine qb_geta (pc' := 47) dX9_list_44 rfl qf_X9_15 qb_s50 rfl ?_
        refine qb_aloadn (pc' := 48) (i := 0) dX9_list_47 rfl rfl rfl ?_
        refine qb_geti (pc' := 51) (v := (hp 50 3)) dX9_list_48 rfl qf_X9_25 qb_s50 rfl (qb_rdn rfl rfl) ?_
        refine qb_iloadn (pc' := 52) (i := 2) dX9_list_51 rfl rfl rfl ?_
        have g1198 := h
        refine qb_iast (pc' := 53) dX9_list_52 rfl qb_s52 g1198.1 g1198.2 ?_
        refine qb_aloadn (pc' := 54) (i := 0) dX9_list_53 rfl rfl rfl ?_
        refine qb_dup (pc' := 55) dX9_list_54 rfl rfl ?_
        refine qb_geti (pc' := 58) (v := (hp 50 3)) dX9_list_55 rfl qf_X9_25 qb_s50 rfl (qb_rdn rfl (qb_rdn rfl rfl)) ?_
        refine qb_iconst (pc' := 59) dX9_list_58 rfl rfl ?_
        refine qb_iadd (pc' := 60) dX9_list_59 rfl (qb_ina g1198 (by decide)) ?_
        refine qb_puti (pc' := 63) (hp' := (qb_st (qb_st (qb_st hp 51 x2 (hp 50 3)) 52 (hp 50 3) x2) 50 3 ((hp 50 3) + 1))) dX9_list_60 rfl qf_X9_25 (Or.inl rfl) qb_s50 rfl rfl ?_
        refine qb_cut (L' := [qb_a 50, qb_a 11, qb_i x2]) [true, true, true] rfl ?_
        simpa only [if_neg c619] using k267
def c_sp_digit (x1 : Int) (x2 : Int) (hp : qb_H) (K : Int → qb_H → Prop) : Prop := qb_R mX9_digit 0 0 qb_sh 0 [qb_a 50, qb_i x1, qb_i x2] [] hp (qb_I qb_sh K)
theorem b_sp_digit {x1 x2 : Int} {hp : qb_H} {K : Int → qb_H → Prop} (h : (qb_in ((hp 50 3) - 1)) ∧ (qb_in (((hp 50 3) - 1) - x2)) ∧ (qb_in (2 * (((hp 50 3) - 1) - x2))) ∧ K (qb_and (qb_shr x1 (2 * (((hp 50 3) - 1) - x2))) 3) hp) : c_sp_digit x1 x2 hp K := by
  unfold c_sp_digit
  refine qb_iloadn (pc' := 1) (i := 1) dX9_digit_0 rfl rfl rfl ?_
  refine qb_iconst (pc' := 2) dX9_digit_1 rfl rfl ?_
  refine qb_aloadn (pc' := 3) (i := 0) dX9_digit_2 rfl rfl rfl ?_
  refine qb_geti (pc' := 6) (v := (hp 50 3)) dX9_digit_3 rfl qf_X9_25 qb_s50 rfl rfl ?_
  refine qb_iconst (pc' := 7) dX9_digit_6 rfl rfl ?_
  obtain ⟨g1207, h⟩ := h
  refine qb_isub (pc' := 8) dX9_digit_7 rfl g1207 ?_
  refine qb_iloadn (pc' := 9) (i := 2) dX9_digit_8 rfl rfl rfl ?_
  obtain ⟨g1208, h⟩ := h
  refine qb_isub (pc' := 10) dX9_digit_9 rfl g1208 ?_
  obtain ⟨g1209, h⟩ := h
  refine qb_imul (pc' := 11) dX9_digit_10 rfl g1209 ?_
  refine qb_ishr (pc' := 12) dX9_digit_11 rfl ?_
  refine qb_iconst (pc' := 13) dX9_digit_12 rfl rfl ?_
  refine qb_iand (pc' := 14) dX9_digit_13 rfl ?_
  exact qb_reti dX9_digit_14 rfl h
def v_sp_digit (x1 : Int) (x2 : Int) (hp : qb_H) : Int := (qb_and (qb_shr x1 (2 * (((hp 50 3) - 1) - x2))) 3)
def g_sp_digit (x1 : Int) (x2 : Int) (hp : qb_H) : Prop := (qb_in ((hp 50 3) - 1)) ∧ (qb_in (((hp 50 3) - 1) - x2)) ∧ qb_in (2 * (((hp 50 3) - 1) - x2))
theorem s_sp_digit (x1 : Int) (x2 : Int) (hp : qb_H) (K : Int → qb_H → Prop) (hg : g_sp_digit x1 x2 hp) (hK : K (v_sp_digit x1 x2 hp) hp) : c_sp_digit x1 x2 hp K := by
  refine b_sp_digit ?_
  unfold g_sp_digit at hg
  unfold v_sp_digit at hK
  refine ⟨hg.1, ?_⟩
  have hg := hg.2
  refine ⟨hg.1, ?_⟩
  have hg := hg.2
  refine ⟨hg, ?_⟩
  exact hK
def c_sp_spoiltBy (x1 : Int) (hp : qb_H) (K : Int → qb_H → Prop) : Prop := qb_R mX9_spoiltBy 0 0 qb_sh 0 [qb_a 50, qb_i x1, none, none, none, none] [] hp (qb_I qb_sh K)
def r_sp_spoiltBy_4 (x1 : Int) (x2 : Int) (x3 : Int) (hp : qb_H) (K : Int → qb_H → Prop) : Prop := qb_R mX9_spoiltBy 0 0 qb_sh 4 [qb_a 50, qb_i x1, qb_i x2, qb_i x3, none, none] [] hp (qb_I qb_sh K)
def r_sp_spoiltBy_15 (x1 : Int) (x2 : Int) (x3 : Int) (x4 : Int) (x5 : Int) (hp : qb_H) (K : Int → qb_H → Prop) : Prop := qb_R mX9_spoiltBy 0 0 qb_sh 15 [qb_a 50, qb_i x1, qb_i x2, qb_i x3, qb_i x4, qb_i x5] [] hp (qb_I qb_sh K)
theorem b_sp_spoiltBy {x1 : Int} {hp : qb_H} {K : Int → qb_H → Prop} (h : r_sp_spoiltBy_4 x1 0 0 hp K) : c_sp_spoiltBy x1 hp K := by
  unfold c_sp_spoiltBy
  refine qb_iconst (pc' := 1) dX9_spoiltBy_0 rfl rfl ?_
  refine qb_istoren (pc' := 2) (i := 2) (L' := [qb_a 50, qb_i x1, qb_i 0, none, none, none]) dX9_spoiltBy_1 rfl rfl (Nat.le_of_ble_eq_true rfl) rfl rfl ?_
  refine qb_iconst (pc' := 3) dX9_spoiltBy_2 rfl rfl ?_
  refine qb_istoren (pc' := 4) (i := 3) (L' := [qb_a 50, qb_i x1, qb_i 0, qb_i 0, none, none]) dX9_spoiltBy_3 rfl rfl (Nat.le_of_ble_eq_true rfl) rfl rfl ?_
  refine qb_cut (L' := [qb_a 50, qb_i x1, qb_i 0, qb_i 0, none, none]) [true, true, true, true, false, false] rfl ?_
  exact h
theorem b_sp_spoiltBy_4 {x1 x2 x3 : Int} {hp : qb_H} {K : Int → qb_H → Prop} (h : (4 ≤ x3 → K x2 hp) ∧ (¬ 4 ≤ x3 → r_sp_spoiltBy_15 x1 x2 x3 0 0 hp K)) : r_sp_spoiltBy_4 x1 x2 x3 hp K := by
  unfold r_sp_spoiltBy_4
  refine qb_iloadn (pc' := 5) (i := 3) dX9_spoiltBy_4 rfl rfl rfl ?_
  refine qb_iconst (pc' := 6) dX9_spoiltBy_5 rfl rfl ?_
  refine qb_cge (tgt := 71) (pc' := 9) dX9_spoiltBy_6 rfl rfl (fun c621 => ?_) (fun c621 => ?_)
  · have h := h.1 c621
    refine qb_iloadn (pc' := 72) (i := 2) dX9_spoiltBy_71 rfl rfl rfl ?_
    exact qb_reti dX9_spoiltBy_72 rfl h
  · have h := h.2 c621
    refine qb_iconst (pc' := 10) dX9_spoiltBy_9 rfl rfl ?_
    refine qb_istore (pc' := 12) (L' := [qb_a 50, qb_i x1, qb_i x2, qb_i x3, qb_i 0, none]) dX9_spoiltBy_10 rfl (Nat.le_of_ble_eq_true rfl) rfl rfl ?_
    refine qb_iconst (pc' := 13) dX9_spoiltBy_12 rfl rfl ?_
    refine qb_istore (pc' := 15) (L' := [qb_a 50, qb_i x1, qb_i x2, qb_i x3, qb_i 0, qb_i 0]) dX9_spoiltBy_13 rfl (Nat.le_of_ble_eq_true rfl) rfl rfl ?_
    refine qb_cut (L' := [qb_a 50, qb_i x1, qb_i x2, qb_i x3, qb_i 0, qb_i 0]) [true, true, true, true, true, true] rfl ?_
    exact h
theorem b_sp_spoiltBy_15 {x1 x2 x3 x4 x5 : Int} {hp : qb_H} {K : Int → qb_H → Prop} (h : ((hp 50 3) ≤ x5 → (qb_in (x3 * 32)) ∧ (qb_in ((x3 * 32) + x4)) ∧ (0 ≤ ((x3 * 32) + x4) ∧ ((x3 * 32) + x4) < 128) ∧ (qb_in (x2 + (hp 53 ((x3 * 32) + x4)))) ∧ (∀ (y164 : Int), y164 = (x2 + (hp 53 ((x3 * 32) + x4))) → (qb_in (x3 + 1)) ∧ r_sp_spoiltBy_4 x1 y164 (x3 + 1) hp K)) ∧ (¬ (hp 50 3) ≤ x5 → (g_sp_digit x1 x5 hp) ∧ (qb_in (x5 + 1)) ∧ r_sp_spoiltBy_15 x1 x2 x3 (if (v_sp_digit x1 x5 hp) = x3 then (qb_or x4 (qb_shl 1 x5)) else x4) (x5 + 1) hp K)) : r_sp_spoiltBy_15 x1 x2 x3 x4 x5 hp K := by
  unfold r_sp_spoiltBy_15
  refine qb_iload (pc' := 17) dX9_spoiltBy_15 rfl rfl ?_
  refine qb_aloadn (pc' := 18) (i := 0) dX9_spoiltBy_17 rfl rfl rfl ?_
  refine qb_geti (pc' := 21) (v := (hp 50 3)) dX9_spoiltBy_18 rfl qf_X9_25 qb_s50 rfl rfl ?_
  refine qb_cge (tgt := 50) (pc' := 24) dX9_spoiltBy_21 rfl rfl (fun c622 => ?_) (fun c622 => ?_)
  · have h := h.1 c622
    refine qb_iloadn (pc' := 51) (i := 2) dX9_spoiltBy_50 rfl rfl rfl ?_
    refine qb_aloadn (pc' := 52) (i := 0) dX9_spoiltBy_51 rfl rfl rfl ?_
    refine qb_geta (pc' := 55) dX9_spoiltBy_52 rfl qf_X9_18 qb_s50 rfl ?_
    refine qb_iloadn (pc' := 56) (i := 3) dX9_spoiltBy_55 rfl rfl rfl ?_
    refine qb_bipush (pc' := 58) dX9_spoiltBy_56 rfl rfl rfl ?_
    obtain ⟨g1199, h⟩ := h
    refine qb_imul (pc' := 59) dX9_spoiltBy_58 rfl g1199 ?_
    refine qb_iload (pc' := 61) dX9_spoiltBy_59 rfl rfl ?_
    obtain ⟨g1200, h⟩ := h
    refine qb_iadd (pc' := 62) dX9_spoiltBy_61 rfl g1200 ?_
    obtain ⟨g1201, h⟩ := h
    refine qb_iald (pc' := 63) (v := (hp 53 ((x3 * 32) + x4))) dX9_spoiltBy_62 rfl qb_s53 g1201.1 g1201.2 rfl ?_
    obtain ⟨g1202, h⟩ := h
    refine qb_iadd (pc' := 64) dX9_spoiltBy_63 rfl g1202 ?_
    refine qb_istoreny (pc' := 65) (Lf := fun y164 => [qb_a 50, qb_i x1, qb_i y164, qb_i x3, qb_i x4, qb_i x5]) dX9_spoiltBy_64 rfl rfl (Nat.le_of_ble_eq_true rfl) rfl (fun _ => rfl) (fun y164 ey164 => ?_)
    have h := h y164 ey164
    obtain ⟨g1203, h⟩ := h
    refine qb_iinc (pc' := 68) (L' := [qb_a 50, qb_i x1, qb_i y164, qb_i (x3 + 1), qb_i x4, qb_i x5]) dX9_spoiltBy_65 rfl rfl g1203 (Nat.le_of_ble_eq_true rfl) rfl rfl ?_
    refine qb_goto (tgt := 4) dX9_spoiltBy_68 rfl ?_
    refine qb_cut (L' := [qb_a 50, qb_i x1, qb_i y164, qb_i (x3 + 1), none, none]) [true, true, true, true, false, false] rfl ?_
    exact h
  · have h := h.2 c622
    refine qb_aloadn (pc' := 25) (i := 0) dX9_spoiltBy_24 rfl rfl rfl ?_
    refine qb_iloadn (pc' := 26) (i := 1) dX9_spoiltBy_25 rfl rfl rfl ?_
    refine qb_iload (pc' := 28) dX9_spoiltBy_26 rfl rfl ?_
    obtain ⟨g1210, h⟩ := h
    refine qb_callVi (pc' := 31) (b := 50) (as := [.inl x1, .inl x5]) (rest := []) dX9_spoiltBy_28 rfl qe_mX9_spoiltBy_mX9_digit rfl rfl qb_s50 rfl rfl (Nat.le_of_ble_eq_true rfl) (Nat.le_of_ble_eq_true rfl) ⟨rfl, rfl⟩ (K := fun vz hpz => (v_sp_digit x1 x5 hp) = vz ∧ hp = hpz) (s_sp_digit x1 x5 hp _ g1210 ⟨rfl, rfl⟩) (fun vz hpz ez => ?_)
    obtain ⟨ez1, ez2⟩ := ez
    subst ez1
    subst ez2
    refine qb_iloadn (pc' := 32) (i := 3) dX9_spoiltBy_31 rfl rfl rfl ?_
    have k268 : qb_R mX9_spoiltBy 0 0 qb_sh 44 [qb_a 50, qb_i x1, qb_i x2, qb_i x3, qb_i (if (v_sp_digit x1 x5 hp) = x3 then (qb_or x4 (qb_shl 1 x5)) else x4), qb_i x5] [] hp (qb_I qb_sh K) := by
      obtain ⟨g1211, h⟩ := h
      refine qb_iinc (pc' := 47) (L' := [qb_a 50, qb_i x1, qb_i x2, qb_i x3, qb_i (if (v_sp_digit x1 x5 hp) = x3 then (qb_or x4 (qb_shl 1 x5)) else x4), qb_i (x5 + 1)]) dX9_spoiltBy_44 rfl rfl g1211 (Nat.le_of_ble_eq_true rfl) rfl rfl ?_
      refine qb_goto (tgt := 15) dX9_spoiltBy_47 rfl ?_
      refine qb_cut (L' := [qb_a 50, qb_i x1, qb_i x2, qb_i x3, qb_i (if (v_sp_digit x1 x5 hp) = x3 then (qb_or x4 (qb_shl 1 x5)) else x4), qb_i (x5 + 1)]) [true, true, true, true, true, true] rfl ?_
      exact h
    refine qb_cne (tgt := 44) (pc' := 35) dX9_spoiltBy_32 rfl rfl (fun c623 => ?_) (fun c623 => ?_)
    · refine qb_cut (L' := [qb_a 50, qb_i x1, qb_i x2, qb_i x3, qb_i x4, qb_i x5]) [true, true, true, true, true, true] rfl ?_
      simpa only [if_neg c623] using k268
    · refine qb_iload (pc' := 37) dX9_spoiltBy_35 rfl rfl ?_
      refine qb_iconst (pc' := 38) dX9_spoiltBy_37 rfl rfl ?_
      refine qb_iload (pc' := 40) dX9_spoiltBy_38 rfl rfl ?_
      refine qb_ishl (pc' := 41) dX9_spoiltBy_40 rfl ?_
      refine qb_ior (pc' := 42) dX9_spoiltBy_41 rfl ?_
      refine qb_istore (pc' := 44) (L' := [qb_a 50, qb_i x1, qb_i x2, qb_i x3, qb_i (qb_or x4 (qb_shl 1 x5)), qb_i x5]) dX9_spoiltBy_42 rfl (Nat.le_of_ble_eq_true rfl) rfl rfl ?_
      refine qb_cut (L' := [qb_a 50, qb_i x1, qb_i x2, qb_i x3, qb_i (qb_or x4 (qb_shl 1 x5)), qb_i x5]) [true, true, true, true, true, true] rfl ?_
      simpa only [if_pos c623] using k268
def c_la_spoiltWith (x1 : Int) (x2 : Int) (x4 : Int) (hp : qb_H) (K : Int → qb_H → Prop) : Prop := qb_R mX7_spoiltWith 0 0 qb_sh 0 [qb_a 11, qb_i x1, qb_i x2, qb_a 51, qb_i x4, none, none, none, none, none, none, none] [] hp (qb_I qb_sh K)
def r_la_spoiltWith_9 (x1 : Int) (x2 : Int) (x4 : Int) (x5 : Int) (x6 : Int) (x7 : Int) (hp : qb_H) (K : Int → qb_H → Prop) : Prop := qb_R mX7_spoiltWith 0 0 qb_sh 9 [qb_a 11, qb_i x1, qb_i x2, qb_a 51, qb_i x4, qb_i x5, qb_i x6, qb_i x7, none, none, none, none] [] hp (qb_I qb_sh K)
theorem b_la_spoiltWith {x1 x2 x4 : Int} {hp : qb_H} {K : Int → qb_H → Prop} (h : r_la_spoiltWith_9 x1 x2 x4 0 0 0 hp K) : c_la_spoiltWith x1 x2 x4 hp K := by
  unfold c_la_spoiltWith
  refine qb_iconst (pc' := 1) dX7_spoiltWith_0 rfl rfl ?_
  refine qb_istore (pc' := 3) (L' := [qb_a 11, qb_i x1, qb_i x2, qb_a 51, qb_i x4, qb_i 0, none, none, none, none, none, none]) dX7_spoiltWith_1 rfl (Nat.le_of_ble_eq_true rfl) rfl rfl ?_
  refine qb_iconst (pc' := 4) dX7_spoiltWith_3 rfl rfl ?_
  refine qb_istore (pc' := 6) (L' := [qb_a 11, qb_i x1, qb_i x2, qb_a 51, qb_i x4, qb_i 0, qb_i 0, none, none, none, none, none]) dX7_spoiltWith_4 rfl (Nat.le_of_ble_eq_true rfl) rfl rfl ?_
  refine qb_iconst (pc' := 7) dX7_spoiltWith_6 rfl rfl ?_
  refine qb_istore (pc' := 9) (L' := [qb_a 11, qb_i x1, qb_i x2, qb_a 51, qb_i x4, qb_i 0, qb_i 0, qb_i 0, none, none, none, none]) dX7_spoiltWith_7 rfl (Nat.le_of_ble_eq_true rfl) rfl rfl ?_
  refine qb_cut (L' := [qb_a 11, qb_i x1, qb_i x2, qb_a 51, qb_i x4, qb_i 0, qb_i 0, qb_i 0, none, none, none, none]) [true, true, true, true, true, true, true, true, false, false, false, false] rfl ?_
  exact h
theorem b_la_spoiltWith_9 {x1 x2 x4 x5 x6 x7 : Int} {hp : qb_H} {K : Int → qb_H → Prop} (h : ((hp 11 13) ≤ x7 → K x6 hp) ∧ (¬ (hp 11 13) ≤ x7 → (0 ≤ x7 ∧ x7 < 30) ∧ (0 ≤ (hp 17 x7) ∧ (hp 17 x7) < 30) ∧ (∀ (y168 : Int), y168 = (if (hp 13 (hp 17 x7)) = (-1) then (if (qb_and (qb_shr x2 (hp 51 (hp 17 x7))) 1) = 1 then (1 : Int) else 0) else 0) → (y168 = 0 → ((hp 13 (hp 17 x7)) = x1 → (g_la_startOf (hp 17 x7) x1 x5 hp) ∧ (g_la_workedFrom (v_la_startOf (hp 17 x7) x1 x5 hp) (hp 17 x7) x1 x4 hp) ∧ (qb_in ((v_la_startOf (hp 17 x7) x1 x5 hp) + (v_la_workedFrom (v_la_startOf (hp 17 x7) x1 x5 hp) (hp 17 x7) x1 x4 hp))) ∧ (qb_in ((hp 15 (hp 17 x7)) - (v_la_workedFrom (v_la_startOf (hp 17 x7) x1 x5 hp) (hp 17 x7) x1 x4 hp))) ∧ qb_in (x6 + ((hp 15 (hp 17 x7)) - (v_la_workedFrom (v_la_startOf (hp 17 x7) x1 x5 hp) (hp 17 x7) x1 x4 hp))))) ∧ (¬ y168 = 0 → (g_la_startOf (hp 17 x7) x1 x5 hp) ∧ (g_la_workedFrom (v_la_startOf (hp 17 x7) x1 x5 hp) (hp 17 x7) x1 x4 hp) ∧ (qb_in ((v_la_startOf (hp 17 x7) x1 x5 hp) + (v_la_workedFrom (v_la_startOf (hp 17 x7) x1 x5 hp) (hp 17 x7) x1 x4 hp))) ∧ (qb_in ((hp 15 (hp 17 x7)) - (v_la_workedFrom (v_la_startOf (hp 17 x7) x1 x5 hp) (hp 17 x7) x1 x4 hp))) ∧ qb_in (x6 + ((hp 15 (hp 17 x7)) - (v_la_workedFrom (v_la_startOf (hp 17 x7) x1 x5 hp) (hp 17 x7) x1 x4 hp)))) ∧ (∀ (y169 : Int) (y170 : Int), y169 = (if y168 = 0 then (if (hp 13 (hp 17 x7)) = x1 then ((v_la_startOf (hp 17 x7) x1 x5 hp) + (v_la_workedFrom (v_la_startOf (hp 17 x7) x1 x5 hp) (hp 17 x7) x1 x4 hp)) else x5) else ((v_la_startOf (hp 17 x7) x1 x5 hp) + (v_la_workedFrom (v_la_startOf (hp 17 x7) x1 x5 hp) (hp 17 x7) x1 x4 hp))) → y170 = (if y168 = 0 then (if (hp 13 (hp 17 x7)) = x1 then (x6 + ((hp 15 (hp 17 x7)) - (v_la_workedFrom (v_la_startOf (hp 17 x7) x1 x5 hp) (hp 17 x7) x1 x4 hp))) else x6) else (x6 + ((hp 15 (hp 17 x7)) - (v_la_workedFrom (v_la_startOf (hp 17 x7) x1 x5 hp) (hp 17 x7) x1 x4 hp)))) → r_la_spoiltWith_9 x1 x2 x4 y169 y170 (x7 + 1) hp K)))) : r_la_spoiltWith_9 x1 x2 x4 x5 x6 x7 hp K := by
  unfold r_la_spoiltWith_9
  refine qb_iload (pc' := 11) dX7_spoiltWith_9 rfl rfl ?_
  refine qb_aloadn (pc' := 12) (i := 0) dX7_spoiltWith_11 rfl rfl rfl ?_
  refine qb_geti (pc' := 15) (v := (hp 11 13)) dX7_spoiltWith_12 rfl qf_X7_51 qb_s11 rfl rfl ?_
  refine qb_cge (tgt := 125) (pc' := 18) dX7_spoiltWith_15 rfl rfl (fun c627 => ?_) (fun c627 => ?_)
  · have h := h.1 c627
    refine qb_iload (pc' := 127) dX7_spoiltWith_125 rfl rfl ?_
    exact qb_reti dX7_spoiltWith_127 rfl h
  · have h := h.2 c627
    refine qb_aloadn (pc' := 19) (i := 0) dX7_spoiltWith_18 rfl rfl rfl ?_
    refine qb_geta (pc' := 22) dX7_spoiltWith_19 rfl qf_X7_27 qb_s11 rfl ?_
    refine qb_iload (pc' := 24) dX7_spoiltWith_22 rfl rfl ?_
    obtain ⟨g1217, h⟩ := h
    refine qb_iald (pc' := 25) (v := (hp 17 x7)) dX7_spoiltWith_24 rfl qb_s17 g1217.1 g1217.2 rfl ?_
    refine qb_istore (pc' := 27) (L' := [qb_a 11, qb_i x1, qb_i x2, qb_a 51, qb_i x4, qb_i x5, qb_i x6, qb_i x7, qb_i (hp 17 x7), none, none, none]) dX7_spoiltWith_25 rfl (Nat.le_of_ble_eq_true rfl) rfl rfl ?_
    refine qb_aloadn (pc' := 28) (i := 0) dX7_spoiltWith_27 rfl rfl rfl ?_
    refine qb_geta (pc' := 31) dX7_spoiltWith_28 rfl qf_X7_15 qb_s11 rfl ?_
    refine qb_iload (pc' := 33) dX7_spoiltWith_31 rfl rfl ?_
    obtain ⟨g1218, h⟩ := h
    refine qb_iald (pc' := 34) (v := (hp 13 (hp 17 x7))) dX7_spoiltWith_33 rfl qb_s13 g1218.1 g1218.2 rfl ?_
    refine qb_iconst (pc' := 35) dX7_spoiltWith_34 rfl rfl ?_
    have k271 : ∀ (y168 : Int), y168 = (if (hp 13 (hp 17 x7)) = (-1) then (if (qb_and (qb_shr x2 (hp 51 (hp 17 x7))) 1) = 1 then (1 : Int) else 0) else 0) → qb_R mX7_spoiltWith 0 0 qb_sh 55 [qb_a 11, qb_i x1, qb_i x2, qb_a 51, qb_i x4, qb_i x5, qb_i x6, qb_i x7, qb_i (hp 17 x7), none, none, none] [.inl y168] hp (qb_I qb_sh K) := by
      intro y168 ey168
      have h := h y168 ey168
      refine qb_istore (pc' := 57) (L' := [qb_a 11, qb_i x1, qb_i x2, qb_a 51, qb_i x4, qb_i x5, qb_i x6, qb_i x7, qb_i (hp 17 x7), qb_i y168, none, none]) dX7_spoiltWith_55 rfl (Nat.le_of_ble_eq_true rfl) rfl rfl ?_
      refine qb_iload (pc' := 59) dX7_spoiltWith_57 rfl rfl ?_
      obtain ⟨ga, gb, h⟩ := h
      have k274 : ∀ (y169 : Int) (y170 : Int), y169 = (if y168 = 0 then (if (hp 13 (hp 17 x7)) = x1 then ((v_la_startOf (hp 17 x7) x1 x5 hp) + (v_la_workedFrom (v_la_startOf (hp 17 x7) x1 x5 hp) (hp 17 x7) x1 x4 hp)) else x5) else ((v_la_startOf (hp 17 x7) x1 x5 hp) + (v_la_workedFrom (v_la_startOf (hp 17 x7) x1 x5 hp) (hp 17 x7) x1 x4 hp))) → y170 = (if y168 = 0 then (if (hp 13 (hp 17 x7)) = x1 then (x6 + ((hp 15 (hp 17 x7)) - (v_la_workedFrom (v_la_startOf (hp 17 x7) x1 x5 hp) (hp 17 x7) x1 x4 hp))) else x6) else (x6 + ((hp 15 (hp 17 x7)) - (v_la_workedFrom (v_la_startOf (hp 17 x7) x1 x5 hp) (hp 17 x7) x1 x4 hp)))) → qb_R mX7_spoiltWith 0 0 qb_sh 119 [qb_a 11, qb_i x1, qb_i x2, qb_a 51, qb_i x4, qb_i y169, qb_i y170, qb_i x7, none, none, none, none] [] hp (qb_I qb_sh K) := by
        intro y169 y170 ey169 ey170
        have h := h y169 y170 ey169 ey170
        refine qb_iinc (pc' := 122) (L' := [qb_a 11, qb_i x1, qb_i x2, qb_a 51, qb_i x4, qb_i y169, qb_i y170, qb_i (x7 + 1), none, none, none, none]) dX7_spoiltWith_119 rfl rfl (qb_ina g1217 (by decide)) (Nat.le_of_ble_eq_true rfl) rfl rfl ?_
        refine qb_goto (tgt := 9) dX7_spoiltWith_122 rfl ?_
        refine qb_cut (L' := [qb_a 11, qb_i x1, qb_i x2, qb_a 51, qb_i x4, qb_i y169, qb_i y170, qb_i (x7 + 1), none, none, none, none]) [true, true, true, true, true, true, true, true, false, false, false, false] rfl ?_
        exact h
      refine qb_fne (tgt := 73) (pc' := 62) dX7_spoiltWith_59 rfl rfl (fun c631 => ?_) (fun c631 => ?_)
      · have h := gb c631
        refine qb_aloadn (pc' := 74) (i := 0) dX7_spoiltWith_73 rfl rfl rfl ?_
        refine qb_iload (pc' := 76) dX7_spoiltWith_74 rfl rfl ?_
        refine qb_iloadn (pc' := 77) (i := 1) dX7_spoiltWith_76 rfl rfl rfl ?_
        refine qb_iload (pc' := 79) dX7_spoiltWith_77 rfl rfl ?_
        obtain ⟨g1244, h⟩ := h
        refine qb_callVi (pc' := 82) (b := 11) (as := [.inl (hp 17 x7), .inl x1, .inl x5]) (rest := []) dX7_spoiltWith_79 rfl qe_mX7_spoiltWith_mX7_startOf rfl rfl qb_s11 rfl rfl (Nat.le_of_ble_eq_true rfl) (Nat.le_of_ble_eq_true rfl) ⟨rfl, rfl⟩ (K := fun vz hpz => (v_la_startOf (hp 17 x7) x1 x5 hp) = vz ∧ hp = hpz) (s_la_startOf (hp 17 x7) x1 x5 hp _ g1244 ⟨rfl, rfl⟩) (fun vz hpz ez => ?_)
        obtain ⟨ez1, ez2⟩ := ez
        subst ez1
        subst ez2
        refine qb_istore (pc' := 84) (L' := [qb_a 11, qb_i x1, qb_i x2, qb_a 51, qb_i x4, qb_i x5, qb_i x6, qb_i x7, qb_i (hp 17 x7), qb_i y168, qb_i (v_la_startOf (hp 17 x7) x1 x5 hp), none]) dX7_spoiltWith_82 rfl (Nat.le_of_ble_eq_true rfl) rfl rfl ?_
        refine qb_aloadn (pc' := 85) (i := 0) dX7_spoiltWith_84 rfl rfl rfl ?_
        refine qb_iload (pc' := 87) dX7_spoiltWith_85 rfl rfl ?_
        refine qb_iload (pc' := 89) dX7_spoiltWith_87 rfl rfl ?_
        refine qb_iloadn (pc' := 90) (i := 1) dX7_spoiltWith_89 rfl rfl rfl ?_
        refine qb_iload (pc' := 92) dX7_spoiltWith_90 rfl rfl ?_
        obtain ⟨g1245, h⟩ := h
        refine qb_callVi (pc' := 95) (b := 11) (as := [.inl (v_la_startOf (hp 17 x7) x1 x5 hp), .inl (hp 17 x7), .inl x1, .inl x4]) (rest := []) dX7_spoiltWith_92 rfl qe_mX7_spoiltWith_mX7_workedFrom rfl rfl qb_s11 rfl rfl (Nat.le_of_ble_eq_true rfl) (Nat.le_of_ble_eq_true rfl) ⟨rfl, rfl⟩ (K := fun vz hpz => (v_la_workedFrom (v_la_startOf (hp 17 x7) x1 x5 hp) (hp 17 x7) x1 x4 hp) = vz ∧ hp = hpz) (s_la_workedFrom (v_la_startOf (hp 17 x7) x1 x5 hp) (hp 17 x7) x1 x4 hp _ g1245 ⟨rfl, rfl⟩) (fun vz hpz ez => ?_)
        obtain ⟨ez1, ez2⟩ := ez
        subst ez1
        subst ez2
        refine qb_istore (pc' := 97) (L' := [qb_a 11, qb_i x1, qb_i x2, qb_a 51, qb_i x4, qb_i x5, qb_i x6, qb_i x7, qb_i (hp 17 x7), qb_i y168, qb_i (v_la_startOf (hp 17 x7) x1 x5 hp), qb_i (v_la_workedFrom (v_la_startOf (hp 17 x7) x1 x5 hp) (hp 17 x7) x1 x4 hp)]) dX7_spoiltWith_95 rfl (Nat.le_of_ble_eq_true rfl) rfl rfl ?_
        refine qb_iload (pc' := 99) dX7_spoiltWith_97 rfl rfl ?_
        refine qb_iload (pc' := 101) dX7_spoiltWith_99 rfl rfl ?_
        obtain ⟨g1246, h⟩ := h
        refine qb_iadd (pc' := 102) dX7_spoiltWith_101 rfl g1246 ?_
        refine qb_istore (pc' := 104) (L' := [qb_a 11, qb_i x1, qb_i x2, qb_a 51, qb_i x4, qb_i ((v_la_startOf (hp 17 x7) x1 x5 hp) + (v_la_workedFrom (v_la_startOf (hp 17 x7) x1 x5 hp) (hp 17 x7) x1 x4 hp)), qb_i x6, qb_i x7, qb_i (hp 17 x7), qb_i y168, qb_i (v_la_startOf (hp 17 x7) x1 x5 hp), qb_i (v_la_workedFrom (v_la_startOf (hp 17 x7) x1 x5 hp) (hp 17 x7) x1 x4 hp)]) dX7_spoiltWith_102 rfl (Nat.le_of_ble_eq_true rfl) rfl rfl ?_
        refine qb_iload (pc' := 106) dX7_spoiltWith_104 rfl rfl ?_
        refine qb_aloadn (pc' := 107) (i := 0) dX7_spoiltWith_106 rfl rfl rfl ?_
        refine qb_geta (pc' := 110) dX7_spoiltWith_107 rfl qf_X7_21 qb_s11 rfl ?_
        refine qb_iload (pc' := 112) dX7_spoiltWith_110 rfl rfl ?_
        refine qb_iald (pc' := 113) (v := (hp 15 (hp 17 x7))) dX7_spoiltWith_112 rfl qb_s15 g1218.1 g1218.2 rfl ?_
        refine qb_iload (pc' := 115) dX7_spoiltWith_113 rfl rfl ?_
        obtain ⟨g1247, h⟩ := h
        refine qb_isub (pc' := 116) dX7_spoiltWith_115 rfl g1247 ?_
        have g1248 := h
        refine qb_iadd (pc' := 117) dX7_spoiltWith_116 rfl g1248 ?_
        refine qb_istore (pc' := 119) (L' := [qb_a 11, qb_i x1, qb_i x2, qb_a 51, qb_i x4, qb_i ((v_la_startOf (hp 17 x7) x1 x5 hp) + (v_la_workedFrom (v_la_startOf (hp 17 x7) x1 x5 hp) (hp 17 x7) x1 x4 hp)), qb_i (x6 + ((hp 15 (hp 17 x7)) - (v_la_workedFrom (v_la_startOf (hp 17 x7) x1 x5 hp) (hp 17 x7) x1 x4 hp))), qb_i x7, qb_i (hp 17 x7), qb_i y168, qb_i (v_la_startOf (hp 17 x7) x1 x5 hp), qb_i (v_la_workedFrom (v_la_startOf (hp 17 x7) x1 x5 hp) (hp 17 x7) x1 x4 hp)]) dX7_spoiltWith_117 rfl (Nat.le_of_ble_eq_true rfl) rfl rfl ?_
        refine qb_cut (L' := [qb_a 11, qb_i x1, qb_i x2, qb_a 51, qb_i x4, qb_i ((v_la_startOf (hp 17 x7) x1 x5 hp) + (v_la_workedFrom (v_la_startOf (hp 17 x7) x1 x5 hp) (hp 17 x7) x1 x4 hp)), qb_i (x6 + ((hp 15 (hp 17 x7)) - (v_la_workedFrom (v_la_startOf (hp 17 x7) x1 x5 hp) (hp 17 x7) x1 x4 hp))), qb_i x7, none, none, none, none]) [true, true, true, true, true, true, true, true, false, false, false, false] rfl ?_
        exact k274 _ _ (if_neg c631).symm (if_neg c631).symm
      · have h := ga c631
        refine qb_aloadn (pc' := 63) (i := 0) dX7_spoiltWith_62 rfl rfl rfl ?_
        refine qb_geta (pc' := 66) dX7_spoiltWith_63 rfl qf_X7_15 qb_s11 rfl ?_
        refine qb_iload (pc' := 68) dX7_spoiltWith_66 rfl rfl ?_
        refine qb_iald (pc' := 69) (v := (hp 13 (hp 17 x7))) dX7_spoiltWith_68 rfl qb_s13 g1218.1 g1218.2 rfl ?_
        refine qb_iloadn (pc' := 70) (i := 1) dX7_spoiltWith_69 rfl rfl rfl ?_
        have ga := h
        have k275 : qb_R mX7_spoiltWith 0 0 qb_sh 119 [qb_a 11, qb_i x1, qb_i x2, qb_a 51, qb_i x4, qb_i (if (hp 13 (hp 17 x7)) = x1 then ((v_la_startOf (hp 17 x7) x1 x5 hp) + (v_la_workedFrom (v_la_startOf (hp 17 x7) x1 x5 hp) (hp 17 x7) x1 x4 hp)) else x5), qb_i (if (hp 13 (hp 17 x7)) = x1 then (x6 + ((hp 15 (hp 17 x7)) - (v_la_workedFrom (v_la_startOf (hp 17 x7) x1 x5 hp) (hp 17 x7) x1 x4 hp))) else x6), qb_i x7, none, none, none, none] [] hp (qb_I qb_sh K) := by
          refine qb_cut (L' := [qb_a 11, qb_i x1, qb_i x2, qb_a 51, qb_i x4, qb_i (if (hp 13 (hp 17 x7)) = x1 then ((v_la_startOf (hp 17 x7) x1 x5 hp) + (v_la_workedFrom (v_la_startOf (hp 17 x7) x1 x5 hp) (hp 17 x7) x1 x4 hp)) else x5), qb_i (if (hp 13 (hp 17 x7)) = x1 then (x6 + ((hp 15 (hp 17 x7)) - (v_la_workedFrom (v_la_startOf (hp 17 x7) x1 x5 hp) (hp 17 x7) x1 x4 hp))) else x6), qb_i x7, none, none, none, none]) [true, true, true, true, true, true, true, true, false, false, false, false] rfl ?_
          exact k274 _ _ (if_pos c631).symm (if_pos c631).symm
        refine qb_cne (tgt := 119) (pc' := 73) dX7_spoiltWith_70 rfl rfl (fun c633 => ?_) (fun c633 => ?_)
        · refine qb_cut (L' := [qb_a 11, qb_i x1, qb_i x2, qb_a 51, qb_i x4, qb_i x5, qb_i x6, qb_i x7, none, none, none, none]) [true, true, true, true, true, true, true, true, false, false, false, false] rfl ?_
          simpa only [if_neg c633] using k275
        · have h := ga c633
          refine qb_aloadn (pc' := 74) (i := 0) dX7_spoiltWith_73 rfl rfl rfl ?_
          refine qb_iload (pc' := 76) dX7_spoiltWith_74 rfl rfl ?_
          refine qb_iloadn (pc' := 77) (i := 1) dX7_spoiltWith_76 rfl rfl rfl ?_
          refine qb_iload (pc' := 79) dX7_spoiltWith_77 rfl rfl ?_
          obtain ⟨g1239, h⟩ := h
          refine qb_callVi (pc' := 82) (b := 11) (as := [.inl (hp 17 x7), .inl x1, .inl x5]) (rest := []) dX7_spoiltWith_79 rfl qe_mX7_spoiltWith_mX7_startOf rfl rfl qb_s11 rfl rfl (Nat.le_of_ble_eq_true rfl) (Nat.le_of_ble_eq_true rfl) ⟨rfl, rfl⟩ (K := fun vz hpz => (v_la_startOf (hp 17 x7) x1 x5 hp) = vz ∧ hp = hpz) (s_la_startOf (hp 17 x7) x1 x5 hp _ g1239 ⟨rfl, rfl⟩) (fun vz hpz ez => ?_)
          obtain ⟨ez1, ez2⟩ := ez
          subst ez1
          subst ez2
          refine qb_istore (pc' := 84) (L' := [qb_a 11, qb_i x1, qb_i x2, qb_a 51, qb_i x4, qb_i x5, qb_i x6, qb_i x7, qb_i (hp 17 x7), qb_i y168, qb_i (v_la_startOf (hp 17 x7) x1 x5 hp), none]) dX7_spoiltWith_82 rfl (Nat.le_of_ble_eq_true rfl) rfl rfl ?_
          refine qb_aloadn (pc' := 85) (i := 0) dX7_spoiltWith_84 rfl rfl rfl ?_
          refine qb_iload (pc' := 87) dX7_spoiltWith_85 rfl rfl ?_
          refine qb_iload (pc' := 89) dX7_spoiltWith_87 rfl rfl ?_
          refine qb_iloadn (pc' := 90) (i := 1) dX7_spoiltWith_89 rfl rfl rfl ?_
          refine qb_iload (pc' := 92) dX7_spoiltWith_90 rfl rfl ?_
          obtain ⟨g1240, h⟩ := h
          refine qb_callVi (pc' := 95) (b := 11) (as := [.inl (v_la_startOf (hp 17 x7) x1 x5 hp), .inl (hp 17 x7), .inl x1, .inl x4]) (rest := []) dX7_spoiltWith_92 rfl qe_mX7_spoiltWith_mX7_workedFrom rfl rfl qb_s11 rfl rfl (Nat.le_of_ble_eq_true rfl) (Nat.le_of_ble_eq_true rfl) ⟨rfl, rfl⟩ (K := fun vz hpz => (v_la_workedFrom (v_la_startOf (hp 17 x7) x1 x5 hp) (hp 17 x7) x1 x4 hp) = vz ∧ hp = hpz) (s_la_workedFrom (v_la_startOf (hp 17 x7) x1 x5 hp) (hp 17 x7) x1 x4 hp _ g1240 ⟨rfl, rfl⟩) (fun vz hpz ez => ?_)
          obtain ⟨ez1, ez2⟩ := ez
          subst ez1
          subst ez2
          refine qb_istore (pc' := 97) (L' := [qb_a 11, qb_i x1, qb_i x2, qb_a 51, qb_i x4, qb_i x5, qb_i x6, qb_i x7, qb_i (hp 17 x7), qb_i y168, qb_i (v_la_startOf (hp 17 x7) x1 x5 hp), qb_i (v_la_workedFrom (v_la_startOf (hp 17 x7) x1 x5 hp) (hp 17 x7) x1 x4 hp)]) dX7_spoiltWith_95 rfl (Nat.le_of_ble_eq_true rfl) rfl rfl ?_
          refine qb_iload (pc' := 99) dX7_spoiltWith_97 rfl rfl ?_
          refine qb_iload (pc' := 101) dX7_spoiltWith_99 rfl rfl ?_
          obtain ⟨g1241, h⟩ := h
          refine qb_iadd (pc' := 102) dX7_spoiltWith_101 rfl g1241 ?_
          refine qb_istore (pc' := 104) (L' := [qb_a 11, qb_i x1, qb_i x2, qb_a 51, qb_i x4, qb_i ((v_la_startOf (hp 17 x7) x1 x5 hp) + (v_la_workedFrom (v_la_startOf (hp 17 x7) x1 x5 hp) (hp 17 x7) x1 x4 hp)), qb_i x6, qb_i x7, qb_i (hp 17 x7), qb_i y168, qb_i (v_la_startOf (hp 17 x7) x1 x5 hp), qb_i (v_la_workedFrom (v_la_startOf (hp 17 x7) x1 x5 hp) (hp 17 x7) x1 x4 hp)]) dX7_spoiltWith_102 rfl (Nat.le_of_ble_eq_true rfl) rfl rfl ?_
          refine qb_iload (pc' := 106) dX7_spoiltWith_104 rfl rfl ?_
          refine qb_aloadn (pc' := 107) (i := 0) dX7_spoiltWith_106 rfl rfl rfl ?_
          refine qb_geta (pc' := 110) dX7_spoiltWith_107 rfl qf_X7_21 qb_s11 rfl ?_
          refine qb_iload (pc' := 112) dX7_spoiltWith_110 rfl rfl ?_
          refine qb_iald (pc' := 113) (v := (hp 15 (hp 17 x7))) dX7_spoiltWith_112 rfl qb_s15 g1218.1 g1218.2 rfl ?_
          refine qb_iload (pc' := 115) dX7_spoiltWith_113 rfl rfl ?_
          obtain ⟨g1242, h⟩ := h
          refine qb_isub (pc' := 116) dX7_spoiltWith_115 rfl g1242 ?_
          have g1243 := h
          refine qb_iadd (pc' := 117) dX7_spoiltWith_116 rfl g1243 ?_
          refine qb_istore (pc' := 119) (L' := [qb_a 11, qb_i x1, qb_i x2, qb_a 51, qb_i x4, qb_i ((v_la_startOf (hp 17 x7) x1 x5 hp) + (v_la_workedFrom (v_la_startOf (hp 17 x7) x1 x5 hp) (hp 17 x7) x1 x4 hp)), qb_i (x6 + ((hp 15 (hp 17 x7)) - (v_la_workedFrom (v_la_startOf (hp 17 x7) x1 x5 hp) (hp 17 x7) x1 x4 hp))), qb_i x7, qb_i (hp 17 x7), qb_i y168, qb_i (v_la_startOf (hp 17 x7) x1 x5 hp), qb_i (v_la_workedFrom (v_la_startOf (hp 17 x7) x1 x5 hp) (hp 17 x7) x1 x4 hp)]) dX7_spoiltWith_117 rfl (Nat.le_of_ble_eq_true rfl) rfl rfl ?_
          refine qb_cut (L' := [qb_a 11, qb_i x1, qb_i x2, qb_a 51, qb_i x4, qb_i ((v_la_startOf (hp 17 x7) x1 x5 hp) + (v_la_workedFrom (v_la_startOf (hp 17 x7) x1 x5 hp) (hp 17 x7) x1 x4 hp)), qb_i (x6 + ((hp 15 (hp 17 x7)) - (v_la_workedFrom (v_la_startOf (hp 17 x7) x1 x5 hp) (hp 17 x7) x1 x4 hp))), qb_i x7, none, none, none, none]) [true, true, true, true, true, true, true, true, false, false, false, false] rfl ?_
          simpa only [if_pos c633] using k275
    refine qb_cne (tgt := 54) (pc' := 38) dX7_spoiltWith_35 rfl rfl (fun c628 => ?_) (fun c628 => ?_)
    · refine qb_iconst (pc' := 55) dX7_spoiltWith_54 rfl rfl ?_
      refine qb_cut (L' := [qb_a 11, qb_i x1, qb_i x2, qb_a 51, qb_i x4, qb_i x5, qb_i x6, qb_i x7, qb_i (hp 17 x7), none, none, none]) [true, true, true, true, true, true, true, true, true, false, false, false] rfl ?_
      exact k271 _ (if_neg c628).symm
    · refine qb_iloadn (pc' := 39) (i := 2) dX7_spoiltWith_38 rfl rfl rfl ?_
      refine qb_aloadn (pc' := 40) (i := 3) dX7_spoiltWith_39 rfl rfl rfl ?_
      refine qb_iload (pc' := 42) dX7_spoiltWith_40 rfl rfl ?_
      refine qb_iald (pc' := 43) (v := (hp 51 (hp 17 x7))) dX7_spoiltWith_42 rfl qb_s51 g1218.1 g1218.2 rfl ?_
      refine qb_ishr (pc' := 44) dX7_spoiltWith_43 rfl ?_
      refine qb_iconst (pc' := 45) dX7_spoiltWith_44 rfl rfl ?_
      refine qb_iand (pc' := 46) dX7_spoiltWith_45 rfl ?_
      refine qb_iconst (pc' := 47) dX7_spoiltWith_46 rfl rfl ?_
      have k272 : qb_R mX7_spoiltWith 0 0 qb_sh 55 [qb_a 11, qb_i x1, qb_i x2, qb_a 51, qb_i x4, qb_i x5, qb_i x6, qb_i x7, qb_i (hp 17 x7), none, none, none] [.inl (if (qb_and (qb_shr x2 (hp 51 (hp 17 x7))) 1) = 1 then (1 : Int) else 0)] hp (qb_I qb_sh K) := by
        refine qb_cut (L' := [qb_a 11, qb_i x1, qb_i x2, qb_a 51, qb_i x4, qb_i x5, qb_i x6, qb_i x7, qb_i (hp 17 x7), none, none, none]) [true, true, true, true, true, true, true, true, true, false, false, false] rfl ?_
        exact k271 _ (if_pos c628).symm
      refine qb_cne (tgt := 54) (pc' := 50) dX7_spoiltWith_47 rfl rfl (fun c630 => ?_) (fun c630 => ?_)
      · refine qb_iconst (pc' := 55) dX7_spoiltWith_54 rfl rfl ?_
        refine qb_cut (L' := [qb_a 11, qb_i x1, qb_i x2, qb_a 51, qb_i x4, qb_i x5, qb_i x6, qb_i x7, qb_i (hp 17 x7), none, none, none]) [true, true, true, true, true, true, true, true, true, false, false, false] rfl ?_
        simpa only [if_neg c630] using k272
      · refine qb_iconst (pc' := 51) dX7_spoiltWith_50 rfl rfl ?_
        refine qb_goto (tgt := 55) dX7_spoiltWith_51 rfl ?_
        refine qb_cut (L' := [qb_a 11, qb_i x1, qb_i x2, qb_a 51, qb_i x4, qb_i x5, qb_i x6, qb_i x7, qb_i (hp 17 x7), none, none, none]) [true, true, true, true, true, true, true, true, true, false, false, false] rfl ?_
        simpa only [if_pos c630] using k272
def c_sp_plan (x2 : Int) (hp : qb_H) (K : qb_H → Prop) : Prop := qb_R mX9_plan 0 0 qb_sh 0 [qb_a 50, qb_a 11, qb_i x2, none, none] [] hp (qb_U qb_sh K)
def r_sp_plan_7 (x2 : Int) (x3 : Int) (hp : qb_H) (K : qb_H → Prop) : Prop := qb_R mX9_plan 0 0 qb_sh 7 [qb_a 50, qb_a 11, qb_i x2, qb_i x3, none] [] hp (qb_U qb_sh K)
def r_sp_plan_78 (x3 : Int) (hp : qb_H) (K : qb_H → Prop) : Prop := qb_R mX9_plan 0 0 qb_sh 78 [qb_a 50, none, none, qb_i x3, none] [] hp (qb_U qb_sh K)
def r_sp_plan_15 (x2 : Int) (x3 : Int) (x4 : Int) (hp : qb_H) (K : qb_H → Prop) : Prop := qb_R mX9_plan 0 0 qb_sh 15 [qb_a 50, qb_a 11, qb_i x2, qb_i x3, qb_i x4] [] hp (qb_U qb_sh K)
theorem b_sp_plan {x2 : Int} {hp : qb_H} {K : qb_H → Prop} (h : c_sp_list hp (fun hp163 => r_sp_plan_7 x2 0 hp163 K)) : c_sp_plan x2 hp K := by
  unfold c_sp_plan
  refine qb_aloadn (pc' := 1) (i := 0) dX9_plan_0 rfl rfl rfl ?_
  refine qb_aloadn (pc' := 2) (i := 1) dX9_plan_1 rfl rfl rfl ?_
  refine qb_callVu (pc' := 5) (b := 50) (as := [.inr (.inl 11)]) (rest := []) dX9_plan_2 rfl qe_mX9_plan_mX9_list rfl rfl qb_s50 rfl rfl (Nat.le_of_ble_eq_true rfl) (Nat.le_of_ble_eq_true rfl) ⟨rfl, rfl⟩ h (fun hp163 h => ?_)
  refine qb_iconst (pc' := 6) dX9_plan_5 rfl rfl ?_
  refine qb_istoren (pc' := 7) (i := 3) (L' := [qb_a 50, qb_a 11, qb_i x2, qb_i 0, none]) dX9_plan_6 rfl rfl (Nat.le_of_ble_eq_true rfl) rfl rfl ?_
  refine qb_cut (L' := [qb_a 50, qb_a 11, qb_i x2, qb_i 0, none]) [true, true, true, true, false] rfl ?_
  exact h
theorem b_sp_plan_7 {x2 x3 : Int} {hp : qb_H} {K : qb_H → Prop} (h : (4 ≤ x3 → c_sp_spoiltBy 0 (qb_st hp 50 5 0) (fun v165 hp165 => r_sp_plan_78 1 (qb_st hp165 50 4 v165) K)) ∧ (¬ 4 ≤ x3 → r_sp_plan_15 x2 x3 0 hp K)) : r_sp_plan_7 x2 x3 hp K := by
  unfold r_sp_plan_7
  refine qb_iloadn (pc' := 8) (i := 3) dX9_plan_7 rfl rfl rfl ?_
  refine qb_iconst (pc' := 9) dX9_plan_8 rfl rfl ?_
  refine qb_cge (tgt := 62) (pc' := 12) dX9_plan_9 rfl rfl (fun c620 => ?_) (fun c620 => ?_)
  · have h := h.1 c620
    refine qb_aloadn (pc' := 63) (i := 0) dX9_plan_62 rfl rfl rfl ?_
    refine qb_iconst (pc' := 64) dX9_plan_63 rfl rfl ?_
    refine qb_puti (pc' := 67) (hp' := (qb_st hp 50 5 0)) dX9_plan_64 rfl qf_X9_35 (Or.inl rfl) qb_s50 rfl rfl ?_
    refine qb_aloadn (pc' := 68) (i := 0) dX9_plan_67 rfl rfl rfl ?_
    refine qb_aloadn (pc' := 69) (i := 0) dX9_plan_68 rfl rfl rfl ?_
    refine qb_iconst (pc' := 70) dX9_plan_69 rfl rfl ?_
    refine qb_callVi (pc' := 73) (b := 50) (as := [.inl 0]) (rest := [.inr (.inl 50)]) dX9_plan_70 rfl qe_mX9_plan_mX9_spoiltBy rfl rfl qb_s50 rfl rfl (Nat.le_of_ble_eq_true rfl) (Nat.le_of_ble_eq_true rfl) ⟨rfl, rfl⟩ h (fun v165 hp165 h => ?_)
    refine qb_puti (pc' := 76) (hp' := (qb_st hp165 50 4 v165)) dX9_plan_73 rfl qf_X9_42 (Or.inl rfl) qb_s50 rfl rfl ?_
    refine qb_iconst (pc' := 77) dX9_plan_76 rfl rfl ?_
    refine qb_istoren (pc' := 78) (i := 3) (L' := [qb_a 50, qb_a 11, qb_i x2, qb_i 1, none]) dX9_plan_77 rfl rfl (Nat.le_of_ble_eq_true rfl) rfl rfl ?_
    refine qb_cut (L' := [qb_a 50, none, none, qb_i 1, none]) [true, false, false, true, false] rfl ?_
    exact h
  · have h := h.2 c620
    refine qb_iconst (pc' := 13) dX9_plan_12 rfl rfl ?_
    refine qb_istore (pc' := 15) (L' := [qb_a 50, qb_a 11, qb_i x2, qb_i x3, qb_i 0]) dX9_plan_13 rfl (Nat.le_of_ble_eq_true rfl) rfl rfl ?_
    refine qb_cut (L' := [qb_a 50, qb_a 11, qb_i x2, qb_i x3, qb_i 0]) [true, true, true, true, true] rfl ?_
    exact h
theorem b_sp_plan_78 {x3 : Int} {hp : qb_H} {K : qb_H → Prop} (h : (qb_in (2 * (hp 50 3))) ∧ (((qb_shl 1 (2 * (hp 50 3))) ≤ x3 → K hp) ∧ (¬ (qb_shl 1 (2 * (hp 50 3))) ≤ x3 → c_sp_spoiltBy x3 hp (fun v166 hp166 => (∀ (hq167 : qb_H), hq167 = (if (hp166 50 4) ≤ v166 then hp166 else (qb_st (qb_st hp166 50 4 v166) 50 5 x3)) → (qb_in (x3 + 1)) ∧ r_sp_plan_78 (x3 + 1) hq167 K))))) : r_sp_plan_78 x3 hp K := by
  unfold r_sp_plan_78
  refine qb_iloadn (pc' := 79) (i := 3) dX9_plan_78 rfl rfl rfl ?_
  refine qb_iconst (pc' := 80) dX9_plan_79 rfl rfl ?_
  refine qb_iconst (pc' := 81) dX9_plan_80 rfl rfl ?_
  refine qb_aloadn (pc' := 82) (i := 0) dX9_plan_81 rfl rfl rfl ?_
  refine qb_geti (pc' := 85) (v := (hp 50 3)) dX9_plan_82 rfl qf_X9_25 qb_s50 rfl rfl ?_
  obtain ⟨g1212, h⟩ := h
  refine qb_imul (pc' := 86) dX9_plan_85 rfl g1212 ?_
  refine qb_ishl (pc' := 87) dX9_plan_86 rfl ?_
  refine qb_cge (tgt := 123) (pc' := 90) dX9_plan_87 rfl rfl (fun c624 => ?_) (fun c624 => ?_)
  · have h := h.1 c624
    exact qb_retv dX9_plan_123 rfl h
  · have h := h.2 c624
    refine qb_aloadn (pc' := 91) (i := 0) dX9_plan_90 rfl rfl rfl ?_
    refine qb_iloadn (pc' := 92) (i := 3) dX9_plan_91 rfl rfl rfl ?_
    refine qb_callVi (pc' := 95) (b := 50) (as := [.inl x3]) (rest := []) dX9_plan_92 rfl qe_mX9_plan_mX9_spoiltBy rfl rfl qb_s50 rfl rfl (Nat.le_of_ble_eq_true rfl) (Nat.le_of_ble_eq_true rfl) ⟨rfl, rfl⟩ h (fun v166 hp166 h => ?_)
    refine qb_istore (pc' := 97) (L' := [qb_a 50, none, none, qb_i x3, qb_i v166]) dX9_plan_95 rfl (Nat.le_of_ble_eq_true rfl) rfl rfl ?_
    refine qb_iload (pc' := 99) dX9_plan_97 rfl rfl ?_
    refine qb_aloadn (pc' := 100) (i := 0) dX9_plan_99 rfl rfl rfl ?_
    refine qb_geti (pc' := 103) (v := (hp166 50 4)) dX9_plan_100 rfl qf_X9_42 qb_s50 rfl rfl ?_
    have k269 : ∀ (hq167 : qb_H), hq167 = (if (hp166 50 4) ≤ v166 then hp166 else (qb_st (qb_st hp166 50 4 v166) 50 5 x3)) → qb_R mX9_plan 0 0 qb_sh 117 [qb_a 50, none, none, qb_i x3, none] [] hq167 (qb_U qb_sh K) := by
      intro hq167 ehq167
      have h := h hq167 ehq167
      obtain ⟨g1213, h⟩ := h
      refine qb_iinc (pc' := 120) (L' := [qb_a 50, none, none, qb_i (x3 + 1), none]) dX9_plan_117 rfl rfl g1213 (Nat.le_of_ble_eq_true rfl) rfl rfl ?_
      refine qb_goto (tgt := 78) dX9_plan_120 rfl ?_
      refine qb_cut (L' := [qb_a 50, none, none, qb_i (x3 + 1), none]) [true, false, false, true, false] rfl ?_
      exact h
    refine qb_cge (tgt := 117) (pc' := 106) dX9_plan_103 rfl rfl (fun c625 => ?_) (fun c625 => ?_)
    · refine qb_cut (L' := [qb_a 50, none, none, qb_i x3, none]) [true, false, false, true, false] rfl ?_
      exact k269 _ (if_pos c625).symm
    · refine qb_aloadn (pc' := 107) (i := 0) dX9_plan_106 rfl rfl rfl ?_
      refine qb_iload (pc' := 109) dX9_plan_107 rfl rfl ?_
      refine qb_puti (pc' := 112) (hp' := (qb_st hp166 50 4 v166)) dX9_plan_109 rfl qf_X9_42 (Or.inl rfl) qb_s50 rfl rfl ?_
      refine qb_aloadn (pc' := 113) (i := 0) dX9_plan_112 rfl rfl rfl ?_
      refine qb_iloadn (pc' := 114) (i := 3) dX9_plan_113 rfl rfl rfl ?_
      refine qb_puti (pc' := 117) (hp' := (qb_st (qb_st hp166 50 4 v166) 50 5 x3)) dX9_plan_114 rfl qf_X9_35 (Or.inl rfl) qb_s50 rfl rfl ?_
      refine qb_cut (L' := [qb_a 50, none, none, qb_i x3, none]) [true, false, false, true, false] rfl ?_
      exact k269 _ (if_neg c625).symm
theorem b_sp_plan_15 {x2 x3 x4 : Int} {hp : qb_H} {K : qb_H → Prop} (h : ((qb_shl 1 (hp 50 3)) ≤ x4 → (qb_in (x3 + 1)) ∧ r_sp_plan_7 x2 (x3 + 1) hp K) ∧ (¬ (qb_shl 1 (hp 50 3)) ≤ x4 → (qb_in (x3 * 32)) ∧ (qb_in ((x3 * 32) + x4)) ∧ c_la_spoiltWith x3 x4 x2 hp (fun v171 hp171 => (0 ≤ ((x3 * 32) + x4) ∧ ((x3 * 32) + x4) < 128) ∧ (qb_in (x4 + 1)) ∧ r_sp_plan_15 x2 x3 (x4 + 1) (qb_st hp171 53 ((x3 * 32) + x4) v171) K))) : r_sp_plan_15 x2 x3 x4 hp K := by
  unfold r_sp_plan_15
  refine qb_iload (pc' := 17) dX9_plan_15 rfl rfl ?_
  refine qb_iconst (pc' := 18) dX9_plan_17 rfl rfl ?_
  refine qb_aloadn (pc' := 19) (i := 0) dX9_plan_18 rfl rfl rfl ?_
  refine qb_geti (pc' := 22) (v := (hp 50 3)) dX9_plan_19 rfl qf_X9_25 qb_s50 rfl rfl ?_
  refine qb_ishl (pc' := 23) dX9_plan_22 rfl ?_
  refine qb_cge (tgt := 56) (pc' := 26) dX9_plan_23 rfl rfl (fun c626 => ?_) (fun c626 => ?_)
  · have h := h.1 c626
    obtain ⟨g1214, h⟩ := h
    refine qb_iinc (pc' := 59) (L' := [qb_a 50, qb_a 11, qb_i x2, qb_i (x3 + 1), qb_i x4]) dX9_plan_56 rfl rfl g1214 (Nat.le_of_ble_eq_true rfl) rfl rfl ?_
    refine qb_goto (tgt := 7) dX9_plan_59 rfl ?_
    refine qb_cut (L' := [qb_a 50, qb_a 11, qb_i x2, qb_i (x3 + 1), none]) [true, true, true, true, false] rfl ?_
    exact h
  · have h := h.2 c626
    refine qb_aloadn (pc' := 27) (i := 0) dX9_plan_26 rfl rfl rfl ?_
    refine qb_geta (pc' := 30) dX9_plan_27 rfl qf_X9_18 qb_s50 rfl ?_
    refine qb_iloadn (pc' := 31) (i := 3) dX9_plan_30 rfl rfl rfl ?_
    refine qb_bipush (pc' := 33) dX9_plan_31 rfl rfl rfl ?_
    obtain ⟨g1215, h⟩ := h
    refine qb_imul (pc' := 34) dX9_plan_33 rfl g1215 ?_
    refine qb_iload (pc' := 36) dX9_plan_34 rfl rfl ?_
    obtain ⟨g1216, h⟩ := h
    refine qb_iadd (pc' := 37) dX9_plan_36 rfl g1216 ?_
    refine qb_aloadn (pc' := 38) (i := 1) dX9_plan_37 rfl rfl rfl ?_
    refine qb_iloadn (pc' := 39) (i := 3) dX9_plan_38 rfl rfl rfl ?_
    refine qb_iload (pc' := 41) dX9_plan_39 rfl rfl ?_
    refine qb_aloadn (pc' := 42) (i := 0) dX9_plan_41 rfl rfl rfl ?_
    refine qb_geta (pc' := 45) dX9_plan_42 rfl qf_X9_9 qb_s50 rfl ?_
    refine qb_iloadn (pc' := 46) (i := 2) dX9_plan_45 rfl rfl rfl ?_
    refine qb_callVi (pc' := 49) (b := 11) (as := [.inl x3, .inl x4, .inr (.inl 51), .inl x2]) (rest := [.inl ((x3 * 32) + x4), .inr (.inl 53)]) dX9_plan_46 rfl qe_mX9_plan_mX7_spoiltWith rfl rfl qb_s11 rfl rfl (Nat.le_of_ble_eq_true rfl) (Nat.le_of_ble_eq_true rfl) ⟨rfl, rfl⟩ h (fun v171 hp171 h => ?_)
    obtain ⟨g1249, h⟩ := h
    refine qb_iast (pc' := 50) dX9_plan_49 rfl qb_s53 g1249.1 g1249.2 ?_
    obtain ⟨g1250, h⟩ := h
    refine qb_iinc (pc' := 53) (L' := [qb_a 50, qb_a 11, qb_i x2, qb_i x3, qb_i (x4 + 1)]) dX9_plan_50 rfl rfl g1250 (Nat.le_of_ble_eq_true rfl) rfl rfl ?_
    refine qb_goto (tgt := 15) dX9_plan_53 rfl ?_
    refine qb_cut (L' := [qb_a 50, qb_a 11, qb_i x2, qb_i x3, qb_i (x4 + 1)]) [true, true, true, true, true] rfl ?_
    exact h
def c_sp_quayOf (x1 : Int) (hp : qb_H) (K : Int → qb_H → Prop) : Prop := qb_R mX9_quayOf 0 0 qb_sh 0 [qb_a 50, qb_i x1] [] hp (qb_I qb_sh K)
theorem b_sp_quayOf {x1 : Int} {hp : qb_H} {K : Int → qb_H → Prop} (h : (g_sp_digit (hp 50 5) x1 hp) ∧ K (v_sp_digit (hp 50 5) x1 hp) hp) : c_sp_quayOf x1 hp K := by
  unfold c_sp_quayOf
  refine qb_aloadn (pc' := 1) (i := 0) dX9_quayOf_0 rfl rfl rfl ?_
  refine qb_aloadn (pc' := 2) (i := 0) dX9_quayOf_1 rfl rfl rfl ?_
  refine qb_geti (pc' := 5) (v := (hp 50 5)) dX9_quayOf_2 rfl qf_X9_35 qb_s50 rfl rfl ?_
  refine qb_iloadn (pc' := 6) (i := 1) dX9_quayOf_5 rfl rfl rfl ?_
  obtain ⟨g1253, h⟩ := h
  refine qb_callVi (pc' := 9) (b := 50) (as := [.inl (hp 50 5), .inl x1]) (rest := []) dX9_quayOf_6 rfl qe_mX9_quayOf_mX9_digit rfl rfl qb_s50 rfl rfl (Nat.le_of_ble_eq_true rfl) (Nat.le_of_ble_eq_true rfl) ⟨rfl, rfl⟩ (K := fun vz hpz => (v_sp_digit (hp 50 5) x1 hp) = vz ∧ hp = hpz) (s_sp_digit (hp 50 5) x1 hp _ g1253 ⟨rfl, rfl⟩) (fun vz hpz ez => ?_)
  obtain ⟨ez1, ez2⟩ := ez
  subst ez1
  subst ez2
  exact qb_reti dX9_quayOf_9 rfl h
def v_sp_quayOf (x1 : Int) (hp : qb_H) : Int := (v_sp_digit (hp 50 5) x1 hp)
def g_sp_quayOf (x1 : Int) (hp : qb_H) : Prop := g_sp_digit (hp 50 5) x1 hp
theorem s_sp_quayOf (x1 : Int) (hp : qb_H) (K : Int → qb_H → Prop) (hg : g_sp_quayOf x1 hp) (hK : K (v_sp_quayOf x1 hp) hp) : c_sp_quayOf x1 hp K := by
  refine b_sp_quayOf ?_
  unfold g_sp_quayOf at hg
  unfold v_sp_quayOf at hK
  refine ⟨hg, ?_⟩
  exact hK
def c_q_settle (hp : qb_H) (K : Int → qb_H → Prop) : Prop := qb_R mX10_settle 0 0 qb_sh 0 [qb_a 0, none] [] hp (qb_I qb_sh K)
def r_q_settle_19 (x1 : Int) (hp : qb_H) (K : Int → qb_H → Prop) : Prop := qb_R mX10_settle 0 0 qb_sh 19 [qb_a 0, qb_i x1] [] hp (qb_I qb_sh K)
theorem b_q_settle {hp : qb_H} {K : Int → qb_H → Prop} (h : c_sp_plan (hp 10 0) hp (fun hp173 => r_q_settle_19 0 hp173 K)) : c_q_settle hp K := by
  unfold c_q_settle
  refine qb_aloadn (pc' := 1) (i := 0) dX10_settle_0 rfl rfl rfl ?_
  refine qb_geta (pc' := 4) dX10_settle_1 rfl qf_X10_78 qb_s0 rfl ?_
  refine qb_aloadn (pc' := 5) (i := 0) dX10_settle_4 rfl rfl rfl ?_
  refine qb_geta (pc' := 8) dX10_settle_5 rfl qf_X10_30 qb_s0 rfl ?_
  refine qb_aloadn (pc' := 9) (i := 0) dX10_settle_8 rfl rfl rfl ?_
  refine qb_geta (pc' := 12) dX10_settle_9 rfl qf_X10_23 qb_s0 rfl ?_
  refine qb_iconst (pc' := 13) dX10_settle_12 rfl rfl ?_
  refine qb_iald (pc' := 14) (v := (hp 10 0)) dX10_settle_13 rfl qb_s10 (by decide) (by decide) rfl ?_
  refine qb_callVu (pc' := 17) (b := 50) (as := [.inr (.inl 11), .inl (hp 10 0)]) (rest := []) dX10_settle_14 rfl qe_mX10_settle_mX9_plan rfl rfl qb_s50 rfl rfl (Nat.le_of_ble_eq_true rfl) (Nat.le_of_ble_eq_true rfl) ⟨rfl, rfl⟩ h (fun hp173 h => ?_)
  refine qb_iconst (pc' := 18) dX10_settle_17 rfl rfl ?_
  refine qb_istoren (pc' := 19) (i := 1) (L' := [qb_a 0, qb_i 0]) dX10_settle_18 rfl rfl (Nat.le_of_ble_eq_true rfl) rfl rfl ?_
  refine qb_cut (L' := [qb_a 0, qb_i 0]) [true, true] rfl ?_
  exact h
theorem b_q_settle_19 {x1 : Int} {hp : qb_H} {K : Int → qb_H → Prop} (h : ((hp 50 3) ≤ x1 → K (hp 50 3) hp) ∧ (¬ (hp 50 3) ≤ x1 → (0 ≤ x1 ∧ x1 < 5) ∧ (g_sp_quayOf x1 hp) ∧ (0 ≤ (hp 52 x1) ∧ (hp 52 x1) < 30) ∧ r_q_settle_19 (x1 + 1) (qb_st hp 13 (hp 52 x1) (v_sp_quayOf x1 hp)) K)) : r_q_settle_19 x1 hp K := by
  unfold r_q_settle_19
  refine qb_iloadn (pc' := 20) (i := 1) dX10_settle_19 rfl rfl rfl ?_
  refine qb_aloadn (pc' := 21) (i := 0) dX10_settle_20 rfl rfl rfl ?_
  refine qb_geta (pc' := 24) dX10_settle_21 rfl qf_X10_78 qb_s0 rfl ?_
  refine qb_geti (pc' := 27) (v := (hp 50 3)) dX10_settle_24 rfl qf_X10_272 qb_s50 rfl rfl ?_
  refine qb_cge (tgt := 61) (pc' := 30) dX10_settle_27 rfl rfl (fun c634 => ?_) (fun c634 => ?_)
  · have h := h.1 c634
    refine qb_aloadn (pc' := 62) (i := 0) dX10_settle_61 rfl rfl rfl ?_
    refine qb_geta (pc' := 65) dX10_settle_62 rfl qf_X10_78 qb_s0 rfl ?_
    refine qb_geti (pc' := 68) (v := (hp 50 3)) dX10_settle_65 rfl qf_X10_272 qb_s50 rfl rfl ?_
    exact qb_reti dX10_settle_68 rfl h
  · have h := h.2 c634
    refine qb_aloadn (pc' := 31) (i := 0) dX10_settle_30 rfl rfl rfl ?_
    refine qb_geta (pc' := 34) dX10_settle_31 rfl qf_X10_30 qb_s0 rfl ?_
    refine qb_geta (pc' := 37) dX10_settle_34 rfl qf_X10_170 qb_s11 rfl ?_
    refine qb_aloadn (pc' := 38) (i := 0) dX10_settle_37 rfl rfl rfl ?_
    refine qb_geta (pc' := 41) dX10_settle_38 rfl qf_X10_78 qb_s0 rfl ?_
    refine qb_geta (pc' := 44) dX10_settle_41 rfl qf_X10_273 qb_s50 rfl ?_
    refine qb_iloadn (pc' := 45) (i := 1) dX10_settle_44 rfl rfl rfl ?_
    obtain ⟨g1251, h⟩ := h
    refine qb_iald (pc' := 46) (v := (hp 52 x1)) dX10_settle_45 rfl qb_s52 g1251.1 g1251.2 rfl ?_
    refine qb_aloadn (pc' := 47) (i := 0) dX10_settle_46 rfl rfl rfl ?_
    refine qb_geta (pc' := 50) dX10_settle_47 rfl qf_X10_78 qb_s0 rfl ?_
    refine qb_iloadn (pc' := 51) (i := 1) dX10_settle_50 rfl rfl rfl ?_
    obtain ⟨g1254, h⟩ := h
    refine qb_callVi (pc' := 54) (b := 50) (as := [.inl x1]) (rest := [.inl (hp 52 x1), .inr (.inl 13)]) dX10_settle_51 rfl qe_mX10_settle_mX9_quayOf rfl rfl qb_s50 rfl rfl (Nat.le_of_ble_eq_true rfl) (Nat.le_of_ble_eq_true rfl) ⟨rfl, rfl⟩ (K := fun vz hpz => (v_sp_quayOf x1 hp) = vz ∧ hp = hpz) (s_sp_quayOf x1 hp _ g1254 ⟨rfl, rfl⟩) (fun vz hpz ez => ?_)
    obtain ⟨ez1, ez2⟩ := ez
    subst ez1
    subst ez2
    obtain ⟨g1255, h⟩ := h
    refine qb_iast (pc' := 55) dX10_settle_54 rfl qb_s13 g1255.1 g1255.2 ?_
    refine qb_iinc (pc' := 58) (L' := [qb_a 0, qb_i (x1 + 1)]) dX10_settle_55 rfl rfl (qb_ina g1251 (by decide)) (Nat.le_of_ble_eq_true rfl) rfl rfl ?_
    refine qb_goto (tgt := 19) dX10_settle_58 rfl ?_
    refine qb_cut (L' := [qb_a 0, qb_i (x1 + 1)]) [true, true] rfl ?_
    exact h
def c_q_ship (x1 : Int) (x2 : Int) (x3 : Int) (hp : qb_H) (K : Int → qb_H → Prop) : Prop := qb_R mX10_ship 0 0 qb_sh 0 [qb_a 0, qb_i x1, qb_i x2, qb_i x3] [] hp (qb_I qb_sh K)
theorem b_q_ship {x1 x2 x3 : Int} {hp : qb_H} {K : Int → qb_H → Prop} (h : ((v_q_within x1 0 3) = 0 → K (-1) hp) ∧ (¬ (v_q_within x1 0 3) = 0 → ((v_q_isDay x2) = 0 → K (-2) hp) ∧ (¬ (v_q_isDay x2) = 0 → ((v_q_within x3 0 20) = 0 → K (-2) hp) ∧ (¬ (v_q_within x3 0 20) = 0 → (0 ≤ x1 ∧ x1 < 4) ∧ K 1 (qb_st (qb_st hp 55 x1 x2) 56 x1 x3))))) : c_q_ship x1 x2 x3 hp K := by
  unfold c_q_ship
  refine qb_iloadn (pc' := 1) (i := 1) dX10_ship_0 rfl rfl rfl ?_
  refine qb_iconst (pc' := 2) dX10_ship_1 rfl rfl ?_
  refine qb_iconst (pc' := 3) dX10_ship_2 rfl rfl ?_
  refine qb_callSi (pc' := 6) (as := [.inl x1, .inl 0, .inl 3]) (rest := []) dX10_ship_3 rfl qe_mX10_ship_mX10_within rfl rfl rfl (Nat.le_of_ble_eq_true rfl) (Nat.le_of_ble_eq_true rfl) ⟨rfl, rfl⟩ (K := fun vz hpz => (v_q_within x1 0 3) = vz ∧ hp = hpz) (s_q_within x1 0 3 hp _ trivial ⟨rfl, rfl⟩) (fun vz hpz ez => ?_)
  obtain ⟨ez1, ez2⟩ := ez
  subst ez1
  subst ez2
  refine qb_fne (tgt := 11) (pc' := 9) dX10_ship_6 rfl rfl (fun c638 => ?_) (fun c638 => ?_)
  · have h := h.2 c638
    refine qb_iloadn (pc' := 12) (i := 2) dX10_ship_11 rfl rfl rfl ?_
    refine qb_callSi (pc' := 15) (as := [.inl x2]) (rest := []) dX10_ship_12 rfl qe_mX10_ship_mX10_isDay rfl rfl rfl (Nat.le_of_ble_eq_true rfl) (Nat.le_of_ble_eq_true rfl) ⟨rfl, rfl⟩ (K := fun vz hpz => (v_q_isDay x2) = vz ∧ hp = hpz) (s_q_isDay x2 hp _ trivial ⟨rfl, rfl⟩) (fun vz hpz ez => ?_)
    obtain ⟨ez1, ez2⟩ := ez
    subst ez1
    subst ez2
    refine qb_feq (tgt := 28) (pc' := 18) dX10_ship_15 rfl rfl (fun c639 => ?_) (fun c639 => ?_)
    · have h := h.1 c639
      refine qb_bipush (pc' := 30) dX10_ship_28 rfl rfl rfl ?_
      exact qb_reti dX10_ship_30 rfl h
    · have h := h.2 c639
      refine qb_iloadn (pc' := 19) (i := 3) dX10_ship_18 rfl rfl rfl ?_
      refine qb_iconst (pc' := 20) dX10_ship_19 rfl rfl ?_
      refine qb_bipush (pc' := 22) dX10_ship_20 rfl rfl rfl ?_
      refine qb_callSi (pc' := 25) (as := [.inl x3, .inl 0, .inl 20]) (rest := []) dX10_ship_22 rfl qe_mX10_ship_mX10_within rfl rfl rfl (Nat.le_of_ble_eq_true rfl) (Nat.le_of_ble_eq_true rfl) ⟨rfl, rfl⟩ (K := fun vz hpz => (v_q_within x3 0 20) = vz ∧ hp = hpz) (s_q_within x3 0 20 hp _ trivial ⟨rfl, rfl⟩) (fun vz hpz ez => ?_)
      obtain ⟨ez1, ez2⟩ := ez
      subst ez1
      subst ez2
      refine qb_fne (tgt := 31) (pc' := 28) dX10_ship_25 rfl rfl (fun c640 => ?_) (fun c640 => ?_)
      · have h := h.2 c640
        refine qb_aloadn (pc' := 32) (i := 0) dX10_ship_31 rfl rfl rfl ?_
        refine qb_geta (pc' := 35) dX10_ship_32 rfl qf_X10_85 qb_s0 rfl ?_
        refine qb_geta (pc' := 38) dX10_ship_35 rfl qf_X10_276 qb_s54 rfl ?_
        refine qb_iloadn (pc' := 39) (i := 1) dX10_ship_38 rfl rfl rfl ?_
        refine qb_iloadn (pc' := 40) (i := 2) dX10_ship_39 rfl rfl rfl ?_
        obtain ⟨g1257, h⟩ := h
        refine qb_iast (pc' := 41) dX10_ship_40 rfl qb_s55 g1257.1 g1257.2 ?_
        refine qb_aloadn (pc' := 42) (i := 0) dX10_ship_41 rfl rfl rfl ?_
        refine qb_geta (pc' := 45) dX10_ship_42 rfl qf_X10_85 qb_s0 rfl ?_
        refine qb_geta (pc' := 48) dX10_ship_45 rfl qf_X10_279 qb_s54 rfl ?_
        refine qb_iloadn (pc' := 49) (i := 1) dX10_ship_48 rfl rfl rfl ?_
        refine qb_iloadn (pc' := 50) (i := 3) dX10_ship_49 rfl rfl rfl ?_
        refine qb_iast (pc' := 51) dX10_ship_50 rfl qb_s56 g1257.1 g1257.2 ?_
        refine qb_iconst (pc' := 52) dX10_ship_51 rfl rfl ?_
        exact qb_reti dX10_ship_52 rfl h
      · have h := h.1 c640
        refine qb_bipush (pc' := 30) dX10_ship_28 rfl rfl rfl ?_
        exact qb_reti dX10_ship_30 rfl h
  · have h := h.1 c638
    refine qb_iconst (pc' := 10) dX10_ship_9 rfl rfl ?_
    exact qb_reti dX10_ship_10 rfl h
def v_q_ship (x1 : Int) (x2 : Int) (x3 : Int) : Int := (if (v_q_within x1 0 3) = 0 then ((-1) : Int) else (if (v_q_isDay x2) = 0 then ((-2) : Int) else (if (v_q_within x3 0 20) = 0 then ((-2) : Int) else 1)))
def h_q_ship (x1 : Int) (x2 : Int) (x3 : Int) (hp : qb_H) : qb_H := (if (v_q_within x1 0 3) = 0 then hp else (if (v_q_isDay x2) = 0 then hp else (if (v_q_within x3 0 20) = 0 then hp else (qb_st (qb_st hp 55 x1 x2) 56 x1 x3))))
theorem hn_q_ship (x1 : Int) (x2 : Int) (x3 : Int) (hp : qb_H) (c : Nat) (h55 : c ≠ 55) (h56 : c ≠ 56) : h_q_ship x1 x2 x3 hp c = hp c := by
  unfold h_q_ship
  (repeat' split) <;> simp only [qb_st_ne, qb_cpy_ne, ne_eq, not_false_eq_true, h55, h56, ]
def g_q_ship (x1 : Int) (x2 : Int) (x3 : Int) : Prop := (¬ (v_q_within x1 0 3) = 0 → (¬ (v_q_isDay x2) = 0 → (¬ (v_q_within x3 0 20) = 0 → 0 ≤ x1 ∧ x1 < 4)))
theorem s_q_ship (x1 : Int) (x2 : Int) (x3 : Int) (hp : qb_H) (K : Int → qb_H → Prop) (hg : g_q_ship x1 x2 x3) (hK : K (v_q_ship x1 x2 x3) (h_q_ship x1 x2 x3 hp)) : c_q_ship x1 x2 x3 hp K := by
  refine b_q_ship ?_
  unfold g_q_ship at hg
  unfold v_q_ship h_q_ship at hK
  refine ⟨fun c641 => ?_, fun c641 => ?_⟩
  · simpa only [if_pos c641] using hK
  · have hg := hg c641
    refine ⟨fun c642 => ?_, fun c642 => ?_⟩
    · simpa only [if_neg c641, if_pos c642] using hK
    · have hg := hg c642
      refine ⟨fun c643 => ?_, fun c643 => ?_⟩
      · simpa only [if_neg c641, if_neg c642, if_pos c643] using hK
      · have hg := hg c643
        refine ⟨hg, ?_⟩
        simpa only [if_neg c641, if_neg c642, if_neg c643] using hK
def c_q_spread (x1 : Int) (hp : qb_H) (K : Int → qb_H → Prop) : Prop := qb_R mX10_spread 0 0 qb_sh 0 [qb_a 0, qb_i x1] [] hp (qb_I qb_sh K)
theorem b_q_spread {x1 : Int} {hp : qb_H} {K : Int → qb_H → Prop} (h : c_la_waiting hp (fun v176 hp176 => (qb_in (v176 - 1)) ∧ (((v_q_within x1 (-1) (v176 - 1)) = 0 → K (-6) hp176) ∧ (¬ (v_q_within x1 (-1) (v176 - 1)) = 0 → c_sp_plan (hp176 10 0) hp176 (fun hp177 => (¬ x1 = (-1) → g_sp_quayOf x1 hp177) ∧ (∀ (y178 : Int), y178 = (if x1 = (-1) then (hp177 50 4) else (v_sp_quayOf x1 hp177)) → K y178 hp177)))))) : c_q_spread x1 hp K := by
  unfold c_q_spread
  refine qb_iloadn (pc' := 1) (i := 1) dX10_spread_0 rfl rfl rfl ?_
  refine qb_iconst (pc' := 2) dX10_spread_1 rfl rfl ?_
  refine qb_aloadn (pc' := 3) (i := 0) dX10_spread_2 rfl rfl rfl ?_
  refine qb_geta (pc' := 6) dX10_spread_3 rfl qf_X10_30 qb_s0 rfl ?_
  refine qb_callVi (pc' := 9) (b := 11) (as := []) (rest := [.inl (-1), .inl x1]) dX10_spread_6 rfl qe_mX10_spread_mX7_waiting rfl rfl qb_s11 rfl rfl (Nat.le_of_ble_eq_true rfl) (Nat.le_of_ble_eq_true rfl) ⟨rfl, rfl⟩ h (fun v176 hp176 h => ?_)
  refine qb_iconst (pc' := 10) dX10_spread_9 rfl rfl ?_
  obtain ⟨g1261, h⟩ := h
  refine qb_isub (pc' := 11) dX10_spread_10 rfl g1261 ?_
  refine qb_callSi (pc' := 14) (as := [.inl x1, .inl (-1), .inl (v176 - 1)]) (rest := []) dX10_spread_11 rfl qe_mX10_spread_mX10_within rfl rfl rfl (Nat.le_of_ble_eq_true rfl) (Nat.le_of_ble_eq_true rfl) ⟨rfl, rfl⟩ (K := fun vz hpz => (v_q_within x1 (-1) (v176 - 1)) = vz ∧ hp176 = hpz) (s_q_within x1 (-1) (v176 - 1) hp176 _ trivial ⟨rfl, rfl⟩) (fun vz hpz ez => ?_)
  obtain ⟨ez1, ez2⟩ := ez
  subst ez1
  subst ez2
  refine qb_fne (tgt := 20) (pc' := 17) dX10_spread_14 rfl rfl (fun c646 => ?_) (fun c646 => ?_)
  · have h := h.2 c646
    refine qb_aloadn (pc' := 21) (i := 0) dX10_spread_20 rfl rfl rfl ?_
    refine qb_geta (pc' := 24) dX10_spread_21 rfl qf_X10_78 qb_s0 rfl ?_
    refine qb_aloadn (pc' := 25) (i := 0) dX10_spread_24 rfl rfl rfl ?_
    refine qb_geta (pc' := 28) dX10_spread_25 rfl qf_X10_30 qb_s0 rfl ?_
    refine qb_aloadn (pc' := 29) (i := 0) dX10_spread_28 rfl rfl rfl ?_
    refine qb_geta (pc' := 32) dX10_spread_29 rfl qf_X10_23 qb_s0 rfl ?_
    refine qb_iconst (pc' := 33) dX10_spread_32 rfl rfl ?_
    refine qb_iald (pc' := 34) (v := (hp176 10 0)) dX10_spread_33 rfl qb_s10 (by decide) (by decide) rfl ?_
    refine qb_callVu (pc' := 37) (b := 50) (as := [.inr (.inl 11), .inl (hp176 10 0)]) (rest := []) dX10_spread_34 rfl qe_mX10_spread_mX9_plan rfl rfl qb_s50 rfl rfl (Nat.le_of_ble_eq_true rfl) (Nat.le_of_ble_eq_true rfl) ⟨rfl, rfl⟩ h (fun hp177 h => ?_)
    refine qb_iloadn (pc' := 38) (i := 1) dX10_spread_37 rfl rfl rfl ?_
    refine qb_iconst (pc' := 39) dX10_spread_38 rfl rfl ?_
    obtain ⟨gb, h⟩ := h
    have k277 : ∀ (y178 : Int), y178 = (if x1 = (-1) then (hp177 50 4) else (v_sp_quayOf x1 hp177)) → qb_R mX10_spread 0 0 qb_sh 60 [none, none] [.inl y178] hp177 (qb_I qb_sh K) := by
      intro y178 ey178
      have h := h y178 ey178
      exact qb_reti dX10_spread_60 rfl h
    refine qb_cne (tgt := 52) (pc' := 42) dX10_spread_39 rfl rfl (fun c647 => ?_) (fun c647 => ?_)
    · have h := gb c647
      refine qb_aloadn (pc' := 53) (i := 0) dX10_spread_52 rfl rfl rfl ?_
      refine qb_geta (pc' := 56) dX10_spread_53 rfl qf_X10_78 qb_s0 rfl ?_
      refine qb_iloadn (pc' := 57) (i := 1) dX10_spread_56 rfl rfl rfl ?_
      have g1263 := h
      refine qb_callVi (pc' := 60) (b := 50) (as := [.inl x1]) (rest := []) dX10_spread_57 rfl qe_mX10_spread_mX9_quayOf rfl rfl qb_s50 rfl rfl (Nat.le_of_ble_eq_true rfl) (Nat.le_of_ble_eq_true rfl) ⟨rfl, rfl⟩ (K := fun vz hpz => (v_sp_quayOf x1 hp177) = vz ∧ hp177 = hpz) (s_sp_quayOf x1 hp177 _ g1263 ⟨rfl, rfl⟩) (fun vz hpz ez => ?_)
      obtain ⟨ez1, ez2⟩ := ez
      subst ez1
      subst ez2
      refine qb_cut (L' := [none, none]) [false, false] rfl ?_
      exact k277 _ (if_neg c647).symm
    · refine qb_aloadn (pc' := 43) (i := 0) dX10_spread_42 rfl rfl rfl ?_
      refine qb_geta (pc' := 46) dX10_spread_43 rfl qf_X10_78 qb_s0 rfl ?_
      refine qb_geti (pc' := 49) (v := (hp177 50 4)) dX10_spread_46 rfl qf_X10_267 qb_s50 rfl rfl ?_
      refine qb_goto (tgt := 60) dX10_spread_49 rfl ?_
      refine qb_cut (L' := [none, none]) [false, false] rfl ?_
      exact k277 _ (if_pos c647).symm
  · have h := h.1 c646
    refine qb_bipush (pc' := 19) dX10_spread_17 rfl rfl rfl ?_
    exact qb_reti dX10_spread_19 rfl h
def c_q_spoiltOfAll (hp : qb_H) (K : Int → qb_H → Prop) : Prop := qb_R mX10_spoiltOfAll 0 0 qb_sh 0 [qb_a 0, none, none] [] hp (qb_I qb_sh K)
def r_q_spoiltOfAll_8 (x1 : Int) (x2 : Int) (hp : qb_H) (K : Int → qb_H → Prop) : Prop := qb_R mX10_spoiltOfAll 0 0 qb_sh 8 [qb_a 0, qb_i x1, qb_i x2] [] hp (qb_I qb_sh K)
theorem b_q_spoiltOfAll {hp : qb_H} {K : Int → qb_H → Prop} (h : c_q_work hp (fun hp181 => r_q_spoiltOfAll_8 0 0 hp181 K)) : c_q_spoiltOfAll hp K := by
  unfold c_q_spoiltOfAll
  refine qb_aloadn (pc' := 1) (i := 0) dX10_spoiltOfAll_0 rfl rfl rfl ?_
  refine qb_callVu (pc' := 4) (b := 0) (as := []) (rest := []) dX10_spoiltOfAll_1 rfl qe_mX10_spoiltOfAll_mX10_work rfl rfl qb_s0 rfl rfl (Nat.le_of_ble_eq_true rfl) (Nat.le_of_ble_eq_true rfl) ⟨rfl, rfl⟩ h (fun hp181 h => ?_)
  refine qb_iconst (pc' := 5) dX10_spoiltOfAll_4 rfl rfl ?_
  refine qb_istoren (pc' := 6) (i := 1) (L' := [qb_a 0, qb_i 0, none]) dX10_spoiltOfAll_5 rfl rfl (Nat.le_of_ble_eq_true rfl) rfl rfl ?_
  refine qb_iconst (pc' := 7) dX10_spoiltOfAll_6 rfl rfl ?_
  refine qb_istoren (pc' := 8) (i := 2) (L' := [qb_a 0, qb_i 0, qb_i 0]) dX10_spoiltOfAll_7 rfl rfl (Nat.le_of_ble_eq_true rfl) rfl rfl ?_
  refine qb_cut (L' := [qb_a 0, qb_i 0, qb_i 0]) [true, true, true] rfl ?_
  exact h
theorem b_q_spoiltOfAll_8 {x1 x2 : Int} {hp : qb_H} {K : Int → qb_H → Prop} (h : (4 ≤ x2 → K x1 hp) ∧ (¬ 4 ≤ x2 → c_la_spoiltAt x2 hp (fun v182 hp182 => (qb_in (x1 + v182)) ∧ (qb_in (x2 + 1)) ∧ r_q_spoiltOfAll_8 (x1 + v182) (x2 + 1) hp182 K))) : r_q_spoiltOfAll_8 x1 x2 hp K := by
  unfold r_q_spoiltOfAll_8
  refine qb_iloadn (pc' := 9) (i := 2) dX10_spoiltOfAll_8 rfl rfl rfl ?_
  refine qb_iconst (pc' := 10) dX10_spoiltOfAll_9 rfl rfl ?_
  refine qb_cge (tgt := 30) (pc' := 13) dX10_spoiltOfAll_10 rfl rfl (fun c657 => ?_) (fun c657 => ?_)
  · have h := h.1 c657
    refine qb_iloadn (pc' := 31) (i := 1) dX10_spoiltOfAll_30 rfl rfl rfl ?_
    exact qb_reti dX10_spoiltOfAll_31 rfl h
  · have h := h.2 c657
    refine qb_iloadn (pc' := 14) (i := 1) dX10_spoiltOfAll_13 rfl rfl rfl ?_
    refine qb_aloadn (pc' := 15) (i := 0) dX10_spoiltOfAll_14 rfl rfl rfl ?_
    refine qb_geta (pc' := 18) dX10_spoiltOfAll_15 rfl qf_X10_30 qb_s0 rfl ?_
    refine qb_iloadn (pc' := 19) (i := 2) dX10_spoiltOfAll_18 rfl rfl rfl ?_
    refine qb_callVi (pc' := 22) (b := 11) (as := [.inl x2]) (rest := [.inl x1]) dX10_spoiltOfAll_19 rfl qe_mX10_spoiltOfAll_mX7_spoiltAt rfl rfl qb_s11 rfl rfl (Nat.le_of_ble_eq_true rfl) (Nat.le_of_ble_eq_true rfl) ⟨rfl, rfl⟩ h (fun v182 hp182 h => ?_)
    obtain ⟨g1264, h⟩ := h
    refine qb_iadd (pc' := 23) dX10_spoiltOfAll_22 rfl g1264 ?_
    refine qb_istoren (pc' := 24) (i := 1) (L' := [qb_a 0, qb_i (x1 + v182), qb_i x2]) dX10_spoiltOfAll_23 rfl rfl (Nat.le_of_ble_eq_true rfl) rfl rfl ?_
    obtain ⟨g1265, h⟩ := h
    refine qb_iinc (pc' := 27) (L' := [qb_a 0, qb_i (x1 + v182), qb_i (x2 + 1)]) dX10_spoiltOfAll_24 rfl rfl g1265 (Nat.le_of_ble_eq_true rfl) rfl rfl ?_
    refine qb_goto (tgt := 8) dX10_spoiltOfAll_27 rfl ?_
    refine qb_cut (L' := [qb_a 0, qb_i (x1 + v182), qb_i (x2 + 1)]) [true, true, true] rfl ?_
    exact h
def c_q_barrelsOfAll (hp : qb_H) (K : Int → qb_H → Prop) : Prop := qb_R mX10_barrelsOfAll 0 0 qb_sh 0 [qb_a 0, none, none] [] hp (qb_I qb_sh K)
def r_q_barrelsOfAll_8 (x1 : Int) (x2 : Int) (hp : qb_H) (K : Int → qb_H → Prop) : Prop := qb_R mX10_barrelsOfAll 0 0 qb_sh 8 [qb_a 0, qb_i x1, qb_i x2] [] hp (qb_I qb_sh K)
theorem b_q_barrelsOfAll {hp : qb_H} {K : Int → qb_H → Prop} (h : c_q_work hp (fun hp185 => r_q_barrelsOfAll_8 0 0 hp185 K)) : c_q_barrelsOfAll hp K := by
  unfold c_q_barrelsOfAll
  refine qb_aloadn (pc' := 1) (i := 0) dX10_barrelsOfAll_0 rfl rfl rfl ?_
  refine qb_callVu (pc' := 4) (b := 0) (as := []) (rest := []) dX10_barrelsOfAll_1 rfl qe_mX10_barrelsOfAll_mX10_work rfl rfl qb_s0 rfl rfl (Nat.le_of_ble_eq_true rfl) (Nat.le_of_ble_eq_true rfl) ⟨rfl, rfl⟩ h (fun hp185 h => ?_)
  refine qb_iconst (pc' := 5) dX10_barrelsOfAll_4 rfl rfl ?_
  refine qb_istoren (pc' := 6) (i := 1) (L' := [qb_a 0, qb_i 0, none]) dX10_barrelsOfAll_5 rfl rfl (Nat.le_of_ble_eq_true rfl) rfl rfl ?_
  refine qb_iconst (pc' := 7) dX10_barrelsOfAll_6 rfl rfl ?_
  refine qb_istoren (pc' := 8) (i := 2) (L' := [qb_a 0, qb_i 0, qb_i 0]) dX10_barrelsOfAll_7 rfl rfl (Nat.le_of_ble_eq_true rfl) rfl rfl ?_
  refine qb_cut (L' := [qb_a 0, qb_i 0, qb_i 0]) [true, true, true] rfl ?_
  exact h
theorem b_q_barrelsOfAll_8 {x1 x2 : Int} {hp : qb_H} {K : Int → qb_H → Prop} (h : (4 ≤ x2 → K x1 hp) ∧ (¬ 4 ≤ x2 → (g_q_barrelsAt x2 hp) ∧ (qb_in (x1 + (v_q_barrelsAt x2 hp))) ∧ (∀ (y186 : Int), y186 = (x1 + (v_q_barrelsAt x2 hp)) → (qb_in (x2 + 1)) ∧ r_q_barrelsOfAll_8 y186 (x2 + 1) hp K))) : r_q_barrelsOfAll_8 x1 x2 hp K := by
  unfold r_q_barrelsOfAll_8
  refine qb_iloadn (pc' := 9) (i := 2) dX10_barrelsOfAll_8 rfl rfl rfl ?_
  refine qb_iconst (pc' := 10) dX10_barrelsOfAll_9 rfl rfl ?_
  refine qb_cge (tgt := 27) (pc' := 13) dX10_barrelsOfAll_10 rfl rfl (fun c659 => ?_) (fun c659 => ?_)
  · have h := h.1 c659
    refine qb_iloadn (pc' := 28) (i := 1) dX10_barrelsOfAll_27 rfl rfl rfl ?_
    exact qb_reti dX10_barrelsOfAll_28 rfl h
  · have h := h.2 c659
    refine qb_iloadn (pc' := 14) (i := 1) dX10_barrelsOfAll_13 rfl rfl rfl ?_
    refine qb_aloadn (pc' := 15) (i := 0) dX10_barrelsOfAll_14 rfl rfl rfl ?_
    refine qb_iloadn (pc' := 16) (i := 2) dX10_barrelsOfAll_15 rfl rfl rfl ?_
    obtain ⟨g1266, h⟩ := h
    refine qb_callVi (pc' := 19) (b := 0) (as := [.inl x2]) (rest := [.inl x1]) dX10_barrelsOfAll_16 rfl qe_mX10_barrelsOfAll_mX10_barrelsAt rfl rfl qb_s0 rfl rfl (Nat.le_of_ble_eq_true rfl) (Nat.le_of_ble_eq_true rfl) ⟨rfl, rfl⟩ (K := fun vz hpz => (v_q_barrelsAt x2 hp) = vz ∧ hp = hpz) (s_q_barrelsAt x2 hp _ g1266 ⟨rfl, rfl⟩) (fun vz hpz ez => ?_)
    obtain ⟨ez1, ez2⟩ := ez
    subst ez1
    subst ez2
    obtain ⟨g1267, h⟩ := h
    refine qb_iadd (pc' := 20) dX10_barrelsOfAll_19 rfl g1267 ?_
    refine qb_istoreny (pc' := 21) (Lf := fun y186 => [qb_a 0, qb_i y186, qb_i x2]) dX10_barrelsOfAll_20 rfl rfl (Nat.le_of_ble_eq_true rfl) rfl (fun _ => rfl) (fun y186 ey186 => ?_)
    have h := h y186 ey186
    obtain ⟨g1268, h⟩ := h
    refine qb_iinc (pc' := 24) (L' := [qb_a 0, qb_i y186, qb_i (x2 + 1)]) dX10_barrelsOfAll_21 rfl rfl g1268 (Nat.le_of_ble_eq_true rfl) rfl rfl ?_
    refine qb_goto (tgt := 8) dX10_barrelsOfAll_24 rfl ?_
    refine qb_cut (L' := [qb_a 0, qb_i y186, qb_i (x2 + 1)]) [true, true, true] rfl ?_
    exact h
def c_q_told (x1 : Int) (hp : qb_H) (K : Int → qb_H → Prop) : Prop := qb_R mX10_told 0 0 qb_sh 0 [qb_a 0, qb_i x1] [] hp (qb_I qb_sh K)
theorem b_q_told {x1 : Int} {hp : qb_H} {K : Int → qb_H → Prop} (h : (x1 = 0 → K (hp 1 1) hp) ∧ (¬ x1 = 0 → (x1 = 1 → K (hp 3 6) hp) ∧ (¬ x1 = 1 → (x1 = 2 → K (hp 11 13) hp) ∧ (¬ x1 = 2 → (x1 = 3 → c_la_waiting hp (fun v188 hp188 => K v188 hp188)) ∧ (¬ x1 = 3 → (x1 = 4 → K (hp 26 4) hp) ∧ (¬ x1 = 4 → (x1 = 5 → K (hp 32 4) hp) ∧ (¬ x1 = 5 → (x1 = 6 → K (hp 40 4) hp) ∧ (¬ x1 = 6 → (x1 = 7 → K (hp 45 4) hp) ∧ (¬ x1 = 7 → (x1 = 8 → c_q_spoiltOfAll hp (fun v189 hp189 => K v189 hp189)) ∧ (¬ x1 = 8 → (x1 = 9 → c_q_barrelsOfAll hp (fun v190 hp190 => K v190 hp190)) ∧ (¬ x1 = 9 → K (-2) hp))))))))))) : c_q_told x1 hp K := by
  unfold c_q_told
  refine qb_iloadn (pc' := 1) (i := 1) dX10_told_0 rfl rfl rfl ?_
  by_cases c660 : x1 = 0
  · have h := h.1 c660
    refine qb_tabj (tgt := 56) dX10_told_1 0 (c660.trans rfl) (by decide) rfl rfl ?_
    refine qb_aloadn (pc' := 57) (i := 0) dX10_told_56 rfl rfl rfl ?_
    refine qb_geta (pc' := 60) dX10_told_57 rfl qf_X10_10 qb_s0 rfl ?_
    refine qb_geti (pc' := 63) (v := (hp 1 1)) dX10_told_60 rfl qf_X10_93 qb_s1 rfl rfl ?_
    exact qb_reti dX10_told_63 rfl h
  · have h := h.2 c660
    by_cases c661 : x1 = 1
    · have h := h.1 c661
      refine qb_tabj (tgt := 64) dX10_told_1 1 (c661.trans rfl) (by decide) rfl rfl ?_
      refine qb_aloadn (pc' := 65) (i := 0) dX10_told_64 rfl rfl rfl ?_
      refine qb_geta (pc' := 68) dX10_told_65 rfl qf_X10_19 qb_s0 rfl ?_
      refine qb_geti (pc' := 71) (v := (hp 3 6)) dX10_told_68 rfl qf_X10_112 qb_s3 rfl rfl ?_
      exact qb_reti dX10_told_71 rfl h
    · have h := h.2 c661
      by_cases c662 : x1 = 2
      · have h := h.1 c662
        refine qb_tabj (tgt := 72) dX10_told_1 2 (c662.trans rfl) (by decide) rfl rfl ?_
        refine qb_aloadn (pc' := 73) (i := 0) dX10_told_72 rfl rfl rfl ?_
        refine qb_geta (pc' := 76) dX10_told_73 rfl qf_X10_30 qb_s0 rfl ?_
        refine qb_geti (pc' := 79) (v := (hp 11 13)) dX10_told_76 rfl qf_X10_160 qb_s11 rfl rfl ?_
        exact qb_reti dX10_told_79 rfl h
      · have h := h.2 c662
        by_cases c663 : x1 = 3
        · have h := h.1 c663
          refine qb_tabj (tgt := 80) dX10_told_1 3 (c663.trans rfl) (by decide) rfl rfl ?_
          refine qb_aloadn (pc' := 81) (i := 0) dX10_told_80 rfl rfl rfl ?_
          refine qb_geta (pc' := 84) dX10_told_81 rfl qf_X10_30 qb_s0 rfl ?_
          refine qb_callVi (pc' := 87) (b := 11) (as := []) (rest := []) dX10_told_84 rfl qe_mX10_told_mX7_waiting rfl rfl qb_s11 rfl rfl (Nat.le_of_ble_eq_true rfl) (Nat.le_of_ble_eq_true rfl) ⟨rfl, rfl⟩ h (fun v188 hp188 h => ?_)
          exact qb_reti dX10_told_87 rfl h
        · have h := h.2 c663
          by_cases c664 : x1 = 4
          · have h := h.1 c664
            refine qb_tabj (tgt := 88) dX10_told_1 4 (c664.trans rfl) (by decide) rfl rfl ?_
            refine qb_aloadn (pc' := 89) (i := 0) dX10_told_88 rfl rfl rfl ?_
            refine qb_geta (pc' := 92) dX10_told_89 rfl qf_X10_44 qb_s0 rfl ?_
            refine qb_geti (pc' := 95) (v := (hp 26 4)) dX10_told_92 rfl qf_X10_190 qb_s26 rfl rfl ?_
            exact qb_reti dX10_told_95 rfl h
          · have h := h.2 c664
            by_cases c665 : x1 = 5
            · have h := h.1 c665
              refine qb_tabj (tgt := 96) dX10_told_1 5 (c665.trans rfl) (by decide) rfl rfl ?_
              refine qb_aloadn (pc' := 97) (i := 0) dX10_told_96 rfl rfl rfl ?_
              refine qb_geta (pc' := 100) dX10_told_97 rfl qf_X10_54 qb_s0 rfl ?_
              refine qb_geti (pc' := 103) (v := (hp 32 4)) dX10_told_100 rfl qf_X10_207 qb_s32 rfl rfl ?_
              exact qb_reti dX10_told_103 rfl h
            · have h := h.2 c665
              by_cases c666 : x1 = 6
              · have h := h.1 c666
                refine qb_tabj (tgt := 104) dX10_told_1 6 (c666.trans rfl) (by decide) rfl rfl ?_
                refine qb_aloadn (pc' := 105) (i := 0) dX10_told_104 rfl rfl rfl ?_
                refine qb_geta (pc' := 108) dX10_told_105 rfl qf_X10_68 qb_s0 rfl ?_
                refine qb_geti (pc' := 111) (v := (hp 40 4)) dX10_told_108 rfl qf_X10_228 qb_s40 rfl rfl ?_
                exact qb_reti dX10_told_111 rfl h
              · have h := h.2 c666
                by_cases c667 : x1 = 7
                · have h := h.1 c667
                  refine qb_tabj (tgt := 112) dX10_told_1 7 (c667.trans rfl) (by decide) rfl rfl ?_
                  refine qb_aloadn (pc' := 113) (i := 0) dX10_told_112 rfl rfl rfl ?_
                  refine qb_geta (pc' := 116) dX10_told_113 rfl qf_X10_72 qb_s0 rfl ?_
                  refine qb_geti (pc' := 119) (v := (hp 45 4)) dX10_told_116 rfl qf_X10_228 qb_s45 rfl rfl ?_
                  exact qb_reti dX10_told_119 rfl h
                · have h := h.2 c667
                  by_cases c668 : x1 = 8
                  · have h := h.1 c668
                    refine qb_tabj (tgt := 120) dX10_told_1 8 (c668.trans rfl) (by decide) rfl rfl ?_
                    refine qb_aloadn (pc' := 121) (i := 0) dX10_told_120 rfl rfl rfl ?_
                    refine qb_callVi (pc' := 124) (b := 0) (as := []) (rest := []) dX10_told_121 rfl qe_mX10_told_mX10_spoiltOfAll rfl rfl qb_s0 rfl rfl (Nat.le_of_ble_eq_true rfl) (Nat.le_of_ble_eq_true rfl) ⟨rfl, rfl⟩ h (fun v189 hp189 h => ?_)
                    exact qb_reti dX10_told_124 rfl h
                  · have h := h.2 c668
                    by_cases c669 : x1 = 9
                    · have h := h.1 c669
                      refine qb_tabj (tgt := 125) dX10_told_1 9 (c669.trans rfl) (by decide) rfl rfl ?_
                      refine qb_aloadn (pc' := 126) (i := 0) dX10_told_125 rfl rfl rfl ?_
                      refine qb_callVi (pc' := 129) (b := 0) (as := []) (rest := []) dX10_told_126 rfl qe_mX10_told_mX10_barrelsOfAll rfl rfl qb_s0 rfl rfl (Nat.le_of_ble_eq_true rfl) (Nat.le_of_ble_eq_true rfl) ⟨rfl, rfl⟩ h (fun v190 hp190 h => ?_)
                      exact qb_reti dX10_told_129 rfl h
                    · have h := h.2 c669
                      refine qb_tabOut (tgt := 130) dX10_told_1 (qb_sw1 (qb_sw1 (qb_sw1 (qb_sw1 (qb_sw1 (qb_sw1 (qb_sw1 (qb_sw1 (qb_sw1 (qb_sw1 (Int.lt_or_le x1 0) c660) c661) c662) c663) c664) c665) c666) c667) c668) c669) rfl ?_
                      refine qb_bipush (pc' := 132) dX10_told_130 rfl rfl rfl ?_
                      exact qb_reti dX10_told_132 rfl h
def c_q_wipe (hp : qb_H) (K : Int → qb_H → Prop) : Prop := qb_R mX10_wipe 0 0 qb_sh 0 [qb_a 0] [] hp (qb_I qb_sh K)
theorem b_q_wipe {hp : qb_H} {K : Int → qb_H → Prop} (h : K (v_dr_clear hp) (h_dr_clear hp)) : c_q_wipe hp K := by
  unfold c_q_wipe
  refine qb_aloadn (pc' := 1) (i := 0) dX10_wipe_0 rfl rfl rfl ?_
  refine qb_geta (pc' := 4) dX10_wipe_1 rfl qf_X10_10 qb_s0 rfl ?_
  refine qb_callVi (pc' := 7) (b := 1) (as := []) (rest := []) dX10_wipe_4 rfl qe_mX10_wipe_mX3_clear rfl rfl qb_s1 rfl rfl (Nat.le_of_ble_eq_true rfl) (Nat.le_of_ble_eq_true rfl) ⟨rfl, rfl⟩ (K := fun vz hpz => (v_dr_clear hp) = vz ∧ (h_dr_clear hp) = hpz) (s_dr_clear  hp _ trivial ⟨rfl, rfl⟩) (fun vz hpz ez => ?_)
  obtain ⟨ez1, ez2⟩ := ez
  subst ez1
  subst ez2
  exact qb_reti dX10_wipe_7 rfl h
def v_q_wipe (hp : qb_H) : Int := (v_dr_clear hp)
def h_q_wipe (hp : qb_H) : qb_H := (h_dr_clear hp)
theorem hn_q_wipe (hp : qb_H) (c : Nat) (h1 : c ≠ 1) : h_q_wipe hp c = hp c := by
  unfold h_q_wipe
  (repeat' split) <;> simp only [qb_st_ne, qb_cpy_ne, ne_eq, not_false_eq_true, h1, hn_dr_clear,]
theorem s_q_wipe (hp : qb_H) (K : Int → qb_H → Prop) (hg : True) (hK : K (v_q_wipe hp) (h_q_wipe hp)) : c_q_wipe hp K := by
  refine b_q_wipe ?_
  unfold v_q_wipe h_q_wipe at hK
  exact hK
