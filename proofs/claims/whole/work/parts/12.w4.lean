/-! walks by program -/
def c_m_grade (x1 : Int) (x2 : Int) (hp : qb_H) (K : Int → qb_H → Prop) : Prop := qb_R mX11_grade 0 0 qb_sh 0 [qb_a 60, qb_i x1, qb_i x2, none, none, none, none] [] hp (qb_I qb_sh K)
def r_m_grade_22 (x2 : Int) (x3 : Int) (x4 : Int) (x5 : Int) (hp : qb_H) (K : Int → qb_H → Prop) : Prop := qb_R mX11_grade 0 0 qb_sh 22 [qb_a 60, none, qb_i x2, qb_i x3, qb_i x4, qb_i x5, none] [] hp (qb_I qb_sh K)
theorem b_m_grade {x1 x2 : Int} {hp : qb_H} {K : Int → qb_H → Prop} (h : ((v_m_isDay x1) = 0 → K (-2) hp) ∧ (¬ (v_m_isDay x1) = 0 → c_m_actOn x1 hp (fun v314 hp314 => r_m_grade_22 x2 v314 0 0 hp314 K))) : c_m_grade x1 x2 hp K := by
  unfold c_m_grade
  refine qb_iloadn (pc' := 1) (i := 1) dX11_grade_0 rfl rfl rfl ?_
  refine qb_callSi (pc' := 4) (as := [.inl x1]) (rest := []) dX11_grade_1 rfl qe_mX11_grade_mX11_isDay rfl rfl rfl (Nat.le_of_ble_eq_true rfl) (Nat.le_of_ble_eq_true rfl) ⟨rfl, rfl⟩ (K := fun vz hpz => (v_m_isDay x1) = vz ∧ hp = hpz) (s_m_isDay x1 hp _ trivial ⟨rfl, rfl⟩) (fun vz hpz ez => ?_)
  obtain ⟨ez1, ez2⟩ := ez
  subst ez1
  subst ez2
  refine qb_fne (tgt := 10) (pc' := 7) dX11_grade_4 rfl rfl (fun c2076 => ?_) (fun c2076 => ?_)
  · have h := h.2 c2076
    refine qb_aloadn (pc' := 11) (i := 0) dX11_grade_10 rfl rfl rfl ?_
    refine qb_iloadn (pc' := 12) (i := 1) dX11_grade_11 rfl rfl rfl ?_
    refine qb_callVi (pc' := 15) (b := 60) (as := [.inl x1]) (rest := []) dX11_grade_12 rfl qe_mX11_grade_mX11_actOn rfl rfl qb_s60 rfl rfl (Nat.le_of_ble_eq_true rfl) (Nat.le_of_ble_eq_true rfl) ⟨rfl, rfl⟩ h (fun v314 hp314 h => ?_)
    refine qb_istoren (pc' := 16) (i := 3) (L' := [qb_a 60, qb_i x1, qb_i x2, qb_i v314, none, none, none]) dX11_grade_15 rfl rfl (Nat.le_of_ble_eq_true rfl) rfl rfl ?_
    refine qb_iconst (pc' := 17) dX11_grade_16 rfl rfl ?_
    refine qb_istore (pc' := 19) (L' := [qb_a 60, qb_i x1, qb_i x2, qb_i v314, qb_i 0, none, none]) dX11_grade_17 rfl (Nat.le_of_ble_eq_true rfl) rfl rfl ?_
    refine qb_iconst (pc' := 20) dX11_grade_19 rfl rfl ?_
    refine qb_istore (pc' := 22) (L' := [qb_a 60, qb_i x1, qb_i x2, qb_i v314, qb_i 0, qb_i 0, none]) dX11_grade_20 rfl (Nat.le_of_ble_eq_true rfl) rfl rfl ?_
    refine qb_cut (L' := [qb_a 60, none, qb_i x2, qb_i v314, qb_i 0, qb_i 0, none]) [true, false, true, true, true, true, false] rfl ?_
    exact h
  · have h := h.1 c2076
    refine qb_bipush (pc' := 9) dX11_grade_7 rfl rfl rfl ?_
    exact qb_reti dX11_grade_9 rfl h
theorem b_m_grade_22 {x2 x3 x4 x5 : Int} {hp : qb_H} {K : Int → qb_H → Prop} (h : (x3 < 0 → (∀ (y315 : Int), y315 = (if x2 = (-1) then x4 else (-6)) → K y315 hp)) ∧ (¬ x3 < 0 → (0 ≤ x3 ∧ x3 < 8) ∧ (((hp 63 x3) ≤ x5 → (∀ (y316 : Int), y316 = (if x2 = (-1) then x4 else (-6)) → K y316 hp)) ∧ (¬ (hp 63 x3) ≤ x5 → (qb_in (60 * x3)) ∧ (qb_in ((60 * x3) + x5)) ∧ (0 ≤ ((60 * x3) + x5) ∧ ((60 * x3) + x5) < 480) ∧ (∀ (y317 : Int), y317 = (hp 64 ((60 * x3) + x5)) → ((v_m_in y317 65 70) = 0 → (qb_in (x5 + 1)) ∧ r_m_grade_22 x2 x3 x4 (x5 + 1) hp K) ∧ (¬ (v_m_in y317 65 70) = 0 → (x4 = x2 → (qb_in (y317 - 65)) ∧ K (y317 - 65) hp) ∧ (¬ x4 = x2 → (qb_in (x4 + 1)) ∧ (qb_in (x5 + 1)) ∧ r_m_grade_22 x2 x3 (x4 + 1) (x5 + 1) hp K))))))) : r_m_grade_22 x2 x3 x4 x5 hp K := by
  unfold r_m_grade_22
  refine qb_iloadn (pc' := 23) (i := 3) dX11_grade_22 rfl rfl rfl ?_
  refine qb_flt (tgt := 84) (pc' := 26) dX11_grade_23 rfl rfl (fun c2077 => ?_) (fun c2077 => ?_)
  · have h := h.1 c2077
    refine qb_iloadn (pc' := 85) (i := 2) dX11_grade_84 rfl rfl rfl ?_
    refine qb_iconst (pc' := 86) dX11_grade_85 rfl rfl ?_
    have k1469 : ∀ (y315 : Int), y315 = (if x2 = (-1) then x4 else (-6)) → qb_R mX11_grade 0 0 qb_sh 96 [none, none, none, none, none, none, none] [.inl y315] hp (qb_I qb_sh K) := by
      intro y315 ey315
      have h := h y315 ey315
      exact qb_reti dX11_grade_96 rfl h
    refine qb_cne (tgt := 94) (pc' := 89) dX11_grade_86 rfl rfl (fun c2078 => ?_) (fun c2078 => ?_)
    · refine qb_bipush (pc' := 96) dX11_grade_94 rfl rfl rfl ?_
      refine qb_cut (L' := [none, none, none, none, none, none, none]) [false, false, false, false, false, false, false] rfl ?_
      exact k1469 _ (if_neg c2078).symm
    · refine qb_iload (pc' := 91) dX11_grade_89 rfl rfl ?_
      refine qb_goto (tgt := 96) dX11_grade_91 rfl ?_
      refine qb_cut (L' := [none, none, none, none, none, none, none]) [false, false, false, false, false, false, false] rfl ?_
      exact k1469 _ (if_pos c2078).symm
  · have h := h.2 c2077
    refine qb_iload (pc' := 28) dX11_grade_26 rfl rfl ?_
    refine qb_aloadn (pc' := 29) (i := 0) dX11_grade_28 rfl rfl rfl ?_
    refine qb_geta (pc' := 32) dX11_grade_29 rfl qf_X11_16 qb_s60 rfl ?_
    refine qb_iloadn (pc' := 33) (i := 3) dX11_grade_32 rfl rfl rfl ?_
    obtain ⟨g1831, h⟩ := h
    refine qb_iald (pc' := 34) (v := (hp 63 x3)) dX11_grade_33 rfl qb_s63 g1831.1 g1831.2 rfl ?_
    refine qb_cge (tgt := 84) (pc' := 37) dX11_grade_34 rfl rfl (fun c2079 => ?_) (fun c2079 => ?_)
    · have h := h.1 c2079
      refine qb_iloadn (pc' := 85) (i := 2) dX11_grade_84 rfl rfl rfl ?_
      refine qb_iconst (pc' := 86) dX11_grade_85 rfl rfl ?_
      have k1470 : ∀ (y316 : Int), y316 = (if x2 = (-1) then x4 else (-6)) → qb_R mX11_grade 0 0 qb_sh 96 [none, none, none, none, none, none, none] [.inl y316] hp (qb_I qb_sh K) := by
        intro y316 ey316
        have h := h y316 ey316
        exact qb_reti dX11_grade_96 rfl h
      refine qb_cne (tgt := 94) (pc' := 89) dX11_grade_86 rfl rfl (fun c2080 => ?_) (fun c2080 => ?_)
      · refine qb_bipush (pc' := 96) dX11_grade_94 rfl rfl rfl ?_
        refine qb_cut (L' := [none, none, none, none, none, none, none]) [false, false, false, false, false, false, false] rfl ?_
        exact k1470 _ (if_neg c2080).symm
      · refine qb_iload (pc' := 91) dX11_grade_89 rfl rfl ?_
        refine qb_goto (tgt := 96) dX11_grade_91 rfl ?_
        refine qb_cut (L' := [none, none, none, none, none, none, none]) [false, false, false, false, false, false, false] rfl ?_
        exact k1470 _ (if_pos c2080).symm
    · have h := h.2 c2079
      refine qb_aloadn (pc' := 38) (i := 0) dX11_grade_37 rfl rfl rfl ?_
      refine qb_geta (pc' := 41) dX11_grade_38 rfl qf_X11_19 qb_s60 rfl ?_
      refine qb_bipush (pc' := 43) dX11_grade_41 rfl rfl rfl ?_
      refine qb_iloadn (pc' := 44) (i := 3) dX11_grade_43 rfl rfl rfl ?_
      obtain ⟨g1832, h⟩ := h
      refine qb_imul (pc' := 45) dX11_grade_44 rfl g1832 ?_
      refine qb_iload (pc' := 47) dX11_grade_45 rfl rfl ?_
      obtain ⟨g1833, h⟩ := h
      refine qb_iadd (pc' := 48) dX11_grade_47 rfl g1833 ?_
      obtain ⟨g1834, h⟩ := h
      refine qb_iald (pc' := 49) (v := (hp 64 ((60 * x3) + x5))) dX11_grade_48 rfl qb_s64 g1834.1 g1834.2 rfl ?_
      refine qb_istorey (pc' := 51) (Lf := fun y317 => [qb_a 60, none, qb_i x2, qb_i x3, qb_i x4, qb_i x5, qb_i y317]) dX11_grade_49 rfl (Nat.le_of_ble_eq_true rfl) rfl (fun _ => rfl) (fun y317 ey317 => ?_)
      have h := h y317 ey317
      refine qb_iload (pc' := 53) dX11_grade_51 rfl rfl ?_
      refine qb_bipush (pc' := 55) dX11_grade_53 rfl rfl rfl ?_
      refine qb_bipush (pc' := 57) dX11_grade_55 rfl rfl rfl ?_
      refine qb_callSi (pc' := 60) (as := [.inl y317, .inl 65, .inl 70]) (rest := []) dX11_grade_57 rfl qe_mX11_grade_mX11_in rfl rfl rfl (Nat.le_of_ble_eq_true rfl) (Nat.le_of_ble_eq_true rfl) ⟨rfl, rfl⟩ (K := fun vz hpz => (v_m_in y317 65 70) = vz ∧ hp = hpz) (s_m_in y317 65 70 hp _ trivial ⟨rfl, rfl⟩) (fun vz hpz ez => ?_)
      obtain ⟨ez1, ez2⟩ := ez
      subst ez1
      subst ez2
      refine qb_feq (tgt := 78) (pc' := 63) dX11_grade_60 rfl rfl (fun c2081 => ?_) (fun c2081 => ?_)
      · have h := h.1 c2081
        obtain ⟨g1835, h⟩ := h
        refine qb_iinc (pc' := 81) (L' := [qb_a 60, none, qb_i x2, qb_i x3, qb_i x4, qb_i (x5 + 1), qb_i y317]) dX11_grade_78 rfl rfl g1835 (Nat.le_of_ble_eq_true rfl) rfl rfl ?_
        refine qb_goto (tgt := 22) dX11_grade_81 rfl ?_
        refine qb_cut (L' := [qb_a 60, none, qb_i x2, qb_i x3, qb_i x4, qb_i (x5 + 1), none]) [true, false, true, true, true, true, false] rfl ?_
        exact h
      · have h := h.2 c2081
        refine qb_iload (pc' := 65) dX11_grade_63 rfl rfl ?_
        refine qb_iloadn (pc' := 66) (i := 2) dX11_grade_65 rfl rfl rfl ?_
        refine qb_cne (tgt := 75) (pc' := 69) dX11_grade_66 rfl rfl (fun c2082 => ?_) (fun c2082 => ?_)
        · have h := h.2 c2082
          obtain ⟨g1837, h⟩ := h
          refine qb_iinc (pc' := 78) (L' := [qb_a 60, none, qb_i x2, qb_i x3, qb_i (x4 + 1), qb_i x5, qb_i y317]) dX11_grade_75 rfl rfl g1837 (Nat.le_of_ble_eq_true rfl) rfl rfl ?_
          obtain ⟨g1838, h⟩ := h
          refine qb_iinc (pc' := 81) (L' := [qb_a 60, none, qb_i x2, qb_i x3, qb_i (x4 + 1), qb_i (x5 + 1), qb_i y317]) dX11_grade_78 rfl rfl g1838 (Nat.le_of_ble_eq_true rfl) rfl rfl ?_
          refine qb_goto (tgt := 22) dX11_grade_81 rfl ?_
          refine qb_cut (L' := [qb_a 60, none, qb_i x2, qb_i x3, qb_i (x4 + 1), qb_i (x5 + 1), none]) [true, false, true, true, true, true, false] rfl ?_
          exact h
        · have h := h.1 c2082
          refine qb_iload (pc' := 71) dX11_grade_69 rfl rfl ?_
          refine qb_bipush (pc' := 73) dX11_grade_71 rfl rfl rfl ?_
          obtain ⟨g1836, h⟩ := h
          refine qb_isub (pc' := 74) dX11_grade_73 rfl g1836 ?_
          exact qb_reti dX11_grade_74 rfl h
def c_m_judge (x1 : Int) (x2 : Int) (x3 : Int) (x4 : Int) (hp : qb_H) (K : Int → qb_H → Prop) : Prop := qb_R mX11_judge 0 0 qb_sh 0 [qb_a 60, qb_i x1, qb_i x2, qb_i x3, qb_i x4] [] hp (qb_I qb_sh K)
theorem b_m_judge {x1 x2 x3 x4 : Int} {hp : qb_H} {K : Int → qb_H → Prop} (h : ((v_m_in x1 0 9) = 0 → K (-2) hp) ∧ (¬ (v_m_in x1 0 9) = 0 → ((v_m_in x2 0 9) = 0 → K (-2) hp) ∧ (¬ (v_m_in x2 0 9) = 0 → ((v_m_in x3 0 9) = 0 → K (-2) hp) ∧ (¬ (v_m_in x3 0 9) = 0 → ((hp 60 13) = 24 → K (-4) hp) ∧ (¬ (hp 60 13) = 24 → (qb_in (4 * (hp 60 13))) ∧ (0 ≤ (4 * (hp 60 13)) ∧ (4 * (hp 60 13)) < 96) ∧ (0 ≤ ((4 * (hp 60 13)) + 1) ∧ ((4 * (hp 60 13)) + 1) < 96) ∧ (0 ≤ ((4 * (hp 60 13)) + 2) ∧ ((4 * (hp 60 13)) + 2) < 96) ∧ (0 ≤ ((4 * (hp 60 13)) + 3) ∧ ((4 * (hp 60 13)) + 3) < 96) ∧ (qb_in ((hp 60 13) + 1)) ∧ K ((hp 60 13) + 1) (qb_st (qb_st (qb_st (qb_st (qb_st hp 70 (4 * (hp 60 13)) x1) 70 ((4 * (hp 60 13)) + 1) x2) 70 ((4 * (hp 60 13)) + 2) x3) 70 ((4 * (hp 60 13)) + 3) (if x4 = 0 then (0 : Int) else 1)) 60 13 ((hp 60 13) + 1))))))) : c_m_judge x1 x2 x3 x4 hp K := by
  unfold c_m_judge
  refine qb_iloadn (pc' := 1) (i := 1) dX11_judge_0 rfl rfl rfl ?_
  refine qb_iconst (pc' := 2) dX11_judge_1 rfl rfl ?_
  refine qb_bipush (pc' := 4) dX11_judge_2 rfl rfl rfl ?_
  refine qb_callSi (pc' := 7) (as := [.inl x1, .inl 0, .inl 9]) (rest := []) dX11_judge_4 rfl qe_mX11_judge_mX11_in rfl rfl rfl (Nat.le_of_ble_eq_true rfl) (Nat.le_of_ble_eq_true rfl) ⟨rfl, rfl⟩ (K := fun vz hpz => (v_m_in x1 0 9) = vz ∧ hp = hpz) (s_m_in x1 0 9 hp _ trivial ⟨rfl, rfl⟩) (fun vz hpz ez => ?_)
  obtain ⟨ez1, ez2⟩ := ez
  subst ez1
  subst ez2
  refine qb_feq (tgt := 30) (pc' := 10) dX11_judge_7 rfl rfl (fun c2088 => ?_) (fun c2088 => ?_)
  · have h := h.1 c2088
    refine qb_bipush (pc' := 32) dX11_judge_30 rfl rfl rfl ?_
    exact qb_reti dX11_judge_32 rfl h
  · have h := h.2 c2088
    refine qb_iloadn (pc' := 11) (i := 2) dX11_judge_10 rfl rfl rfl ?_
    refine qb_iconst (pc' := 12) dX11_judge_11 rfl rfl ?_
    refine qb_bipush (pc' := 14) dX11_judge_12 rfl rfl rfl ?_
    refine qb_callSi (pc' := 17) (as := [.inl x2, .inl 0, .inl 9]) (rest := []) dX11_judge_14 rfl qe_mX11_judge_mX11_in rfl rfl rfl (Nat.le_of_ble_eq_true rfl) (Nat.le_of_ble_eq_true rfl) ⟨rfl, rfl⟩ (K := fun vz hpz => (v_m_in x2 0 9) = vz ∧ hp = hpz) (s_m_in x2 0 9 hp _ trivial ⟨rfl, rfl⟩) (fun vz hpz ez => ?_)
    obtain ⟨ez1, ez2⟩ := ez
    subst ez1
    subst ez2
    refine qb_feq (tgt := 30) (pc' := 20) dX11_judge_17 rfl rfl (fun c2089 => ?_) (fun c2089 => ?_)
    · have h := h.1 c2089
      refine qb_bipush (pc' := 32) dX11_judge_30 rfl rfl rfl ?_
      exact qb_reti dX11_judge_32 rfl h
    · have h := h.2 c2089
      refine qb_iloadn (pc' := 21) (i := 3) dX11_judge_20 rfl rfl rfl ?_
      refine qb_iconst (pc' := 22) dX11_judge_21 rfl rfl ?_
      refine qb_bipush (pc' := 24) dX11_judge_22 rfl rfl rfl ?_
      refine qb_callSi (pc' := 27) (as := [.inl x3, .inl 0, .inl 9]) (rest := []) dX11_judge_24 rfl qe_mX11_judge_mX11_in rfl rfl rfl (Nat.le_of_ble_eq_true rfl) (Nat.le_of_ble_eq_true rfl) ⟨rfl, rfl⟩ (K := fun vz hpz => (v_m_in x3 0 9) = vz ∧ hp = hpz) (s_m_in x3 0 9 hp _ trivial ⟨rfl, rfl⟩) (fun vz hpz ez => ?_)
      obtain ⟨ez1, ez2⟩ := ez
      subst ez1
      subst ez2
      refine qb_fne (tgt := 33) (pc' := 30) dX11_judge_27 rfl rfl (fun c2090 => ?_) (fun c2090 => ?_)
      · have h := h.2 c2090
        refine qb_aloadn (pc' := 34) (i := 0) dX11_judge_33 rfl rfl rfl ?_
        refine qb_geti (pc' := 37) (v := (hp 60 13)) dX11_judge_34 rfl qf_X11_201 qb_s60 rfl rfl ?_
        refine qb_bipush (pc' := 39) dX11_judge_37 rfl rfl rfl ?_
        refine qb_cne (tgt := 45) (pc' := 42) dX11_judge_39 rfl rfl (fun c2091 => ?_) (fun c2091 => ?_)
        · have h := h.2 c2091
          refine qb_aloadn (pc' := 46) (i := 0) dX11_judge_45 rfl rfl rfl ?_
          refine qb_geta (pc' := 49) dX11_judge_46 rfl qf_X11_37 qb_s60 rfl ?_
          refine qb_iconst (pc' := 50) dX11_judge_49 rfl rfl ?_
          refine qb_aloadn (pc' := 51) (i := 0) dX11_judge_50 rfl rfl rfl ?_
          refine qb_geti (pc' := 54) (v := (hp 60 13)) dX11_judge_51 rfl qf_X11_201 qb_s60 rfl rfl ?_
          obtain ⟨g1845, h⟩ := h
          refine qb_imul (pc' := 55) dX11_judge_54 rfl g1845 ?_
          refine qb_iloadn (pc' := 56) (i := 1) dX11_judge_55 rfl rfl rfl ?_
          obtain ⟨g1846, h⟩ := h
          refine qb_iast (pc' := 57) dX11_judge_56 rfl qb_s70 g1846.1 g1846.2 ?_
          refine qb_aloadn (pc' := 58) (i := 0) dX11_judge_57 rfl rfl rfl ?_
          refine qb_geta (pc' := 61) dX11_judge_58 rfl qf_X11_37 qb_s60 rfl ?_
          refine qb_iconst (pc' := 62) dX11_judge_61 rfl rfl ?_
          refine qb_aloadn (pc' := 63) (i := 0) dX11_judge_62 rfl rfl rfl ?_
          refine qb_geti (pc' := 66) (v := (hp 60 13)) dX11_judge_63 rfl qf_X11_201 qb_s60 rfl (qb_rdn rfl rfl) ?_
          refine qb_imul (pc' := 67) dX11_judge_66 rfl g1845 ?_
          refine qb_iconst (pc' := 68) dX11_judge_67 rfl rfl ?_
          refine qb_iadd (pc' := 69) dX11_judge_68 rfl (qb_ina g1846 (by decide)) ?_
          refine qb_iloadn (pc' := 70) (i := 2) dX11_judge_69 rfl rfl rfl ?_
          obtain ⟨g1847, h⟩ := h
          refine qb_iast (pc' := 71) dX11_judge_70 rfl qb_s70 g1847.1 g1847.2 ?_
          refine qb_aloadn (pc' := 72) (i := 0) dX11_judge_71 rfl rfl rfl ?_
          refine qb_geta (pc' := 75) dX11_judge_72 rfl qf_X11_37 qb_s60 rfl ?_
          refine qb_iconst (pc' := 76) dX11_judge_75 rfl rfl ?_
          refine qb_aloadn (pc' := 77) (i := 0) dX11_judge_76 rfl rfl rfl ?_
          refine qb_geti (pc' := 80) (v := (hp 60 13)) dX11_judge_77 rfl qf_X11_201 qb_s60 rfl (qb_rdn rfl (qb_rdn rfl rfl)) ?_
          refine qb_imul (pc' := 81) dX11_judge_80 rfl g1845 ?_
          refine qb_iconst (pc' := 82) dX11_judge_81 rfl rfl ?_
          refine qb_iadd (pc' := 83) dX11_judge_82 rfl (qb_ina g1846 (by decide)) ?_
          refine qb_iloadn (pc' := 84) (i := 3) dX11_judge_83 rfl rfl rfl ?_
          obtain ⟨g1848, h⟩ := h
          refine qb_iast (pc' := 85) dX11_judge_84 rfl qb_s70 g1848.1 g1848.2 ?_
          refine qb_aloadn (pc' := 86) (i := 0) dX11_judge_85 rfl rfl rfl ?_
          refine qb_geta (pc' := 89) dX11_judge_86 rfl qf_X11_37 qb_s60 rfl ?_
          refine qb_iconst (pc' := 90) dX11_judge_89 rfl rfl ?_
          refine qb_aloadn (pc' := 91) (i := 0) dX11_judge_90 rfl rfl rfl ?_
          refine qb_geti (pc' := 94) (v := (hp 60 13)) dX11_judge_91 rfl qf_X11_201 qb_s60 rfl (qb_rdn rfl (qb_rdn rfl (qb_rdn rfl rfl))) ?_
          refine qb_imul (pc' := 95) dX11_judge_94 rfl g1845 ?_
          refine qb_iconst (pc' := 96) dX11_judge_95 rfl rfl ?_
          refine qb_iadd (pc' := 97) dX11_judge_96 rfl (qb_ina g1846 (by decide)) ?_
          refine qb_iload (pc' := 99) dX11_judge_97 rfl rfl ?_
          have k1472 : qb_R mX11_judge 0 0 qb_sh 107 [qb_a 60, none, none, none, none] [.inl (if x4 = 0 then (0 : Int) else 1), .inl ((4 * (hp 60 13)) + 3), .inr (.inl 70)] (qb_st (qb_st (qb_st hp 70 (4 * (hp 60 13)) x1) 70 ((4 * (hp 60 13)) + 1) x2) 70 ((4 * (hp 60 13)) + 2) x3) (qb_I qb_sh K) := by
            obtain ⟨g1849, h⟩ := h
            refine qb_iast (pc' := 108) dX11_judge_107 rfl qb_s70 g1849.1 g1849.2 ?_
            refine qb_aloadn (pc' := 109) (i := 0) dX11_judge_108 rfl rfl rfl ?_
            refine qb_dup (pc' := 110) dX11_judge_109 rfl rfl ?_
            refine qb_geti (pc' := 113) (v := (hp 60 13)) dX11_judge_110 rfl qf_X11_201 qb_s60 rfl (qb_rdn rfl (qb_rdn rfl (qb_rdn rfl (qb_rdn rfl rfl)))) ?_
            refine qb_iconst (pc' := 114) dX11_judge_113 rfl rfl ?_
            obtain ⟨g1850, h⟩ := h
            refine qb_iadd (pc' := 115) dX11_judge_114 rfl g1850 ?_
            refine qb_puti (pc' := 118) (hp' := (qb_st (qb_st (qb_st (qb_st (qb_st hp 70 (4 * (hp 60 13)) x1) 70 ((4 * (hp 60 13)) + 1) x2) 70 ((4 * (hp 60 13)) + 2) x3) 70 ((4 * (hp 60 13)) + 3) (if x4 = 0 then (0 : Int) else 1)) 60 13 ((hp 60 13) + 1))) dX11_judge_115 rfl qf_X11_201 (Or.inl rfl) qb_s60 rfl rfl ?_
            refine qb_aloadn (pc' := 119) (i := 0) dX11_judge_118 rfl rfl rfl ?_
            refine qb_geti (pc' := 122) (v := ((hp 60 13) + 1)) dX11_judge_119 rfl qf_X11_201 qb_s60 rfl qb_rds ?_
            exact qb_reti dX11_judge_122 rfl h
          refine qb_feq (tgt := 106) (pc' := 102) dX11_judge_99 rfl rfl (fun c2092 => ?_) (fun c2092 => ?_)
          · refine qb_iconst (pc' := 107) dX11_judge_106 rfl rfl ?_
            refine qb_cut (L' := [qb_a 60, none, none, none, none]) [true, false, false, false, false] rfl ?_
            simpa only [if_pos c2092] using k1472
          · refine qb_iconst (pc' := 103) dX11_judge_102 rfl rfl ?_
            refine qb_goto (tgt := 107) dX11_judge_103 rfl ?_
            refine qb_cut (L' := [qb_a 60, none, none, none, none]) [true, false, false, false, false] rfl ?_
            simpa only [if_neg c2092] using k1472
        · have h := h.1 c2091
          refine qb_bipush (pc' := 44) dX11_judge_42 rfl rfl rfl ?_
          exact qb_reti dX11_judge_44 rfl h
      · have h := h.1 c2090
        refine qb_bipush (pc' := 32) dX11_judge_30 rfl rfl rfl ?_
        exact qb_reti dX11_judge_32 rfl h
def v_m_judge (x1 : Int) (x2 : Int) (x3 : Int) (x4 : Int) (hp : qb_H) : Int := (if (v_m_in x1 0 9) = 0 then ((-2) : Int) else (if (v_m_in x2 0 9) = 0 then ((-2) : Int) else (if (v_m_in x3 0 9) = 0 then ((-2) : Int) else (if (hp 60 13) = 24 then ((-4) : Int) else ((hp 60 13) + 1)))))
def h_m_judge (x1 : Int) (x2 : Int) (x3 : Int) (x4 : Int) (hp : qb_H) : qb_H := (if (v_m_in x1 0 9) = 0 then hp else (if (v_m_in x2 0 9) = 0 then hp else (if (v_m_in x3 0 9) = 0 then hp else (if (hp 60 13) = 24 then hp else (qb_st (qb_st (qb_st (qb_st (qb_st hp 70 (4 * (hp 60 13)) x1) 70 ((4 * (hp 60 13)) + 1) x2) 70 ((4 * (hp 60 13)) + 2) x3) 70 ((4 * (hp 60 13)) + 3) (if x4 = 0 then (0 : Int) else 1)) 60 13 ((hp 60 13) + 1))))))
theorem hn_m_judge (x1 : Int) (x2 : Int) (x3 : Int) (x4 : Int) (hp : qb_H) (c : Nat) (h60 : c ≠ 60) (h70 : c ≠ 70) : h_m_judge x1 x2 x3 x4 hp c = hp c := by
  unfold h_m_judge
  (repeat' split) <;> simp only [qb_st_ne, qb_cpy_ne, ne_eq, not_false_eq_true, h60, h70, ]
def g_m_judge (x1 : Int) (x2 : Int) (x3 : Int) (x4 : Int) (hp : qb_H) : Prop := (¬ (v_m_in x1 0 9) = 0 → (¬ (v_m_in x2 0 9) = 0 → (¬ (v_m_in x3 0 9) = 0 → (¬ (hp 60 13) = 24 → (qb_in (4 * (hp 60 13))) ∧ (0 ≤ (4 * (hp 60 13)) ∧ (4 * (hp 60 13)) < 96) ∧ (0 ≤ ((4 * (hp 60 13)) + 1) ∧ ((4 * (hp 60 13)) + 1) < 96) ∧ (0 ≤ ((4 * (hp 60 13)) + 2) ∧ ((4 * (hp 60 13)) + 2) < 96) ∧ (0 ≤ ((4 * (hp 60 13)) + 3) ∧ ((4 * (hp 60 13)) + 3) < 96) ∧ qb_in ((hp 60 13) + 1)))))
theorem s_m_judge (x1 : Int) (x2 : Int) (x3 : Int) (x4 : Int) (hp : qb_H) (K : Int → qb_H → Prop) (hg : g_m_judge x1 x2 x3 x4 hp) (hK : K (v_m_judge x1 x2 x3 x4 hp) (h_m_judge x1 x2 x3 x4 hp)) : c_m_judge x1 x2 x3 x4 hp K := by
  refine b_m_judge ?_
  unfold g_m_judge at hg
  unfold v_m_judge h_m_judge at hK
  refine ⟨fun c2093 => ?_, fun c2093 => ?_⟩
  · simpa only [if_pos c2093] using hK
  · have hg := hg c2093
    refine ⟨fun c2094 => ?_, fun c2094 => ?_⟩
    · simpa only [if_neg c2093, if_pos c2094] using hK
    · have hg := hg c2094
      refine ⟨fun c2095 => ?_, fun c2095 => ?_⟩
      · simpa only [if_neg c2093, if_neg c2094, if_pos c2095] using hK
      · have hg := hg c2095
        refine ⟨fun c2096 => ?_, fun c2096 => ?_⟩
        · simpa only [if_neg c2093, if_neg c2094, if_neg c2095, if_pos c2096] using hK
        · have hg := hg c2096
          refine ⟨hg.1, ?_⟩
          have hg := hg.2
          refine ⟨hg.1, ?_⟩
          have hg := hg.2
          refine ⟨hg.1, ?_⟩
          have hg := hg.2
          refine ⟨hg.1, ?_⟩
          have hg := hg.2
          refine ⟨hg.1, ?_⟩
          have hg := hg.2
          refine ⟨hg, ?_⟩
          simpa only [if_neg c2093, if_neg c2094, if_neg c2095, if_neg c2096] using hK
def c_m_waiting (hp : qb_H) (K : Int → qb_H → Prop) : Prop := qb_R mX11_waiting 0 0 qb_sh 0 [qb_a 60, none, none] [] hp (qb_I qb_sh K)
def r_m_waiting_4 (x1 : Int) (x2 : Int) (hp : qb_H) (K : Int → qb_H → Prop) : Prop := qb_R mX11_waiting 0 0 qb_sh 4 [qb_a 60, qb_i x1, qb_i x2] [] hp (qb_I qb_sh K)
theorem b_m_waiting {hp : qb_H} {K : Int → qb_H → Prop} (h : r_m_waiting_4 0 0 hp K) : c_m_waiting hp K := by
  unfold c_m_waiting
  refine qb_iconst (pc' := 1) dX11_waiting_0 rfl rfl ?_
  refine qb_istoren (pc' := 2) (i := 1) (L' := [qb_a 60, qb_i 0, none]) dX11_waiting_1 rfl rfl (Nat.le_of_ble_eq_true rfl) rfl rfl ?_
  refine qb_iconst (pc' := 3) dX11_waiting_2 rfl rfl ?_
  refine qb_istoren (pc' := 4) (i := 2) (L' := [qb_a 60, qb_i 0, qb_i 0]) dX11_waiting_3 rfl rfl (Nat.le_of_ble_eq_true rfl) rfl rfl ?_
  refine qb_cut (L' := [qb_a 60, qb_i 0, qb_i 0]) [true, true, true] rfl ?_
  exact h
theorem b_m_waiting_4 {x1 x2 : Int} {hp : qb_H} {K : Int → qb_H → Prop} (h : ((hp 60 9) ≤ x2 → K x1 hp) ∧ (¬ (hp 60 9) ≤ x2 → (qb_in (7 * x2)) ∧ (qb_in ((7 * x2) + 1)) ∧ (0 ≤ ((7 * x2) + 1) ∧ ((7 * x2) + 1) < 210) ∧ (∀ (y318 : Int), y318 = (if 0 ≤ (hp 68 ((7 * x2) + 1)) then (0 : Int) else 1) → (qb_in (x1 + y318)) ∧ (qb_in (x2 + 1)) ∧ r_m_waiting_4 (x1 + y318) (x2 + 1) hp K))) : r_m_waiting_4 x1 x2 hp K := by
  unfold r_m_waiting_4
  refine qb_iloadn (pc' := 5) (i := 2) dX11_waiting_4 rfl rfl rfl ?_
  refine qb_aloadn (pc' := 6) (i := 0) dX11_waiting_5 rfl rfl rfl ?_
  refine qb_geti (pc' := 9) (v := (hp 60 9)) dX11_waiting_6 rfl qf_X11_136 qb_s60 rfl rfl ?_
  refine qb_cge (tgt := 40) (pc' := 12) dX11_waiting_9 rfl rfl (fun c2104 => ?_) (fun c2104 => ?_)
  · have h := h.1 c2104
    refine qb_iloadn (pc' := 41) (i := 1) dX11_waiting_40 rfl rfl rfl ?_
    exact qb_reti dX11_waiting_41 rfl h
  · have h := h.2 c2104
    refine qb_iloadn (pc' := 13) (i := 1) dX11_waiting_12 rfl rfl rfl ?_
    refine qb_aloadn (pc' := 14) (i := 0) dX11_waiting_13 rfl rfl rfl ?_
    refine qb_geta (pc' := 17) dX11_waiting_14 rfl qf_X11_31 qb_s60 rfl ?_
    refine qb_bipush (pc' := 19) dX11_waiting_17 rfl rfl rfl ?_
    refine qb_iloadn (pc' := 20) (i := 2) dX11_waiting_19 rfl rfl rfl ?_
    obtain ⟨g1859, h⟩ := h
    refine qb_imul (pc' := 21) dX11_waiting_20 rfl g1859 ?_
    refine qb_iconst (pc' := 22) dX11_waiting_21 rfl rfl ?_
    obtain ⟨g1860, h⟩ := h
    refine qb_iadd (pc' := 23) dX11_waiting_22 rfl g1860 ?_
    obtain ⟨g1861, h⟩ := h
    refine qb_iald (pc' := 24) (v := (hp 68 ((7 * x2) + 1))) dX11_waiting_23 rfl qb_s68 g1861.1 g1861.2 rfl ?_
    have k1473 : ∀ (y318 : Int), y318 = (if 0 ≤ (hp 68 ((7 * x2) + 1)) then (0 : Int) else 1) → qb_R mX11_waiting 0 0 qb_sh 32 [qb_a 60, none, qb_i x2] [.inl y318, .inl x1] hp (qb_I qb_sh K) := by
      intro y318 ey318
      have h := h y318 ey318
      obtain ⟨g1862, h⟩ := h
      refine qb_iadd (pc' := 33) dX11_waiting_32 rfl g1862 ?_
      refine qb_istoren (pc' := 34) (i := 1) (L' := [qb_a 60, qb_i (x1 + y318), qb_i x2]) dX11_waiting_33 rfl rfl (Nat.le_of_ble_eq_true rfl) rfl rfl ?_
      obtain ⟨g1863, h⟩ := h
      refine qb_iinc (pc' := 37) (L' := [qb_a 60, qb_i (x1 + y318), qb_i (x2 + 1)]) dX11_waiting_34 rfl rfl g1863 (Nat.le_of_ble_eq_true rfl) rfl rfl ?_
      refine qb_goto (tgt := 4) dX11_waiting_37 rfl ?_
      refine qb_cut (L' := [qb_a 60, qb_i (x1 + y318), qb_i (x2 + 1)]) [true, true, true] rfl ?_
      exact h
    refine qb_fge (tgt := 31) (pc' := 27) dX11_waiting_24 rfl rfl (fun c2105 => ?_) (fun c2105 => ?_)
    · refine qb_iconst (pc' := 32) dX11_waiting_31 rfl rfl ?_
      refine qb_cut (L' := [qb_a 60, none, qb_i x2]) [true, false, true] rfl ?_
      exact k1473 _ (if_pos c2105).symm
    · refine qb_iconst (pc' := 28) dX11_waiting_27 rfl rfl ?_
      refine qb_goto (tgt := 32) dX11_waiting_28 rfl ?_
      refine qb_cut (L' := [qb_a 60, none, qb_i x2]) [true, false, true] rfl ?_
      exact k1473 _ (if_neg c2105).symm
def c_m_land (x1 : Int) (x2 : Int) (x3 : Int) (x4 : Int) (x5 : Int) (hp : qb_H) (K : Int → qb_H → Prop) : Prop := qb_R mX11_land 0 0 qb_sh 0 [qb_a 60, qb_i x1, qb_i x2, qb_i x3, qb_i x4, qb_i x5, none] [] hp (qb_I qb_sh K)
theorem b_m_land {x1 x2 x3 x4 x5 : Int} {hp : qb_H} {K : Int → qb_H → Prop} (h : ((v_m_in x1 0 9) = 0 → K (-1) hp) ∧ (¬ (v_m_in x1 0 9) = 0 → (x2 = (-1) → ((v_m_isHour x3) = 0 → K (-2) hp) ∧ (¬ (v_m_isHour x3) = 0 → ((v_m_in x4 1 20000) = 0 → K (-2) hp) ∧ (¬ (v_m_in x4 1 20000) = 0 → ((v_m_in x5 1 9) = 0 → K (-2) hp) ∧ (¬ (v_m_in x5 1 9) = 0 → ((hp 60 9) = 30 → K (-4) hp) ∧ (¬ (hp 60 9) = 30 → (0 ≤ x2 → (qb_in (7 * (hp 60 9))) ∧ (∀ (y321 : Int), y321 = (7 * (hp 60 9)) → (0 ≤ y321 ∧ y321 < 210) ∧ (0 ≤ (y321 + 1) ∧ (y321 + 1) < 210) ∧ (0 ≤ (y321 + 2) ∧ (y321 + 2) < 210) ∧ (0 ≤ (y321 + 3) ∧ (y321 + 3) < 210) ∧ (0 ≤ (y321 + 4) ∧ (y321 + 4) < 210) ∧ (qb_in ((hp 60 9) + 1)) ∧ (qb_in (((hp 60 9) + 1) - 1)) ∧ K (((hp 60 9) + 1) - 1) (qb_st (qb_st (qb_st (qb_st (qb_st (qb_st hp 68 y321 x1) 68 (y321 + 1) x2) 68 (y321 + 2) x3) 68 (y321 + 3) x4) 68 (y321 + 4) x5) 60 9 ((hp 60 9) + 1)))) ∧ (¬ 0 ≤ x2 → c_m_waiting hp (fun v322 hp322 => (v322 = 5 → K (-5) hp322) ∧ (¬ v322 = 5 → (qb_in (7 * (hp322 60 9))) ∧ (∀ (y323 : Int), y323 = (7 * (hp322 60 9)) → (0 ≤ y323 ∧ y323 < 210) ∧ (0 ≤ (y323 + 1) ∧ (y323 + 1) < 210) ∧ (0 ≤ (y323 + 2) ∧ (y323 + 2) < 210) ∧ (0 ≤ (y323 + 3) ∧ (y323 + 3) < 210) ∧ (0 ≤ (y323 + 4) ∧ (y323 + 4) < 210) ∧ (qb_in ((hp322 60 9) + 1)) ∧ (qb_in (((hp322 60 9) + 1) - 1)) ∧ K (((hp322 60 9) + 1) - 1) (qb_st (qb_st (qb_st (qb_st (qb_st (qb_st hp322 68 y323 x1) 68 (y323 + 1) x2) 68 (y323 + 2) x3) 68 (y323 + 3) x4) 68 (y323 + 4) x5) 60 9 ((hp322 60 9) + 1))))))))))) ∧ (¬ x2 = (-1) → ((v_m_isQuay x2) = 0 → K (-1) hp) ∧ (¬ (v_m_isQuay x2) = 0 → ((v_m_isHour x3) = 0 → K (-2) hp) ∧ (¬ (v_m_isHour x3) = 0 → ((v_m_in x4 1 20000) = 0 → K (-2) hp) ∧ (¬ (v_m_in x4 1 20000) = 0 → ((v_m_in x5 1 9) = 0 → K (-2) hp) ∧ (¬ (v_m_in x5 1 9) = 0 → ((hp 60 9) = 30 → K (-4) hp) ∧ (¬ (hp 60 9) = 30 → (0 ≤ x2 → (qb_in (7 * (hp 60 9))) ∧ (∀ (y324 : Int), y324 = (7 * (hp 60 9)) → (0 ≤ y324 ∧ y324 < 210) ∧ (0 ≤ (y324 + 1) ∧ (y324 + 1) < 210) ∧ (0 ≤ (y324 + 2) ∧ (y324 + 2) < 210) ∧ (0 ≤ (y324 + 3) ∧ (y324 + 3) < 210) ∧ (0 ≤ (y324 + 4) ∧ (y324 + 4) < 210) ∧ (qb_in ((hp 60 9) + 1)) ∧ (qb_in (((hp 60 9) + 1) - 1)) ∧ K (((hp 60 9) + 1) - 1) (qb_st (qb_st (qb_st (qb_st (qb_st (qb_st hp 68 y324 x1) 68 (y324 + 1) x2) 68 (y324 + 2) x3) 68 (y324 + 3) x4) 68 (y324 + 4) x5) 60 9 ((hp 60 9) + 1)))) ∧ (¬ 0 ≤ x2 → c_m_waiting hp (fun v325 hp325 => (v325 = 5 → K (-5) hp325) ∧ (¬ v325 = 5 → (qb_in (7 * (hp325 60 9))) ∧ (∀ (y326 : Int), y326 = (7 * (hp325 60 9)) → (0 ≤ y326 ∧ y326 < 210) ∧ (0 ≤ (y326 + 1) ∧ (y326 + 1) < 210) ∧ (0 ≤ (y326 + 2) ∧ (y326 + 2) < 210) ∧ (0 ≤ (y326 + 3) ∧ (y326 + 3) < 210) ∧ (0 ≤ (y326 + 4) ∧ (y326 + 4) < 210) ∧ (qb_in ((hp325 60 9) + 1)) ∧ (qb_in (((hp325 60 9) + 1) - 1)) ∧ K (((hp325 60 9) + 1) - 1) (qb_st (qb_st (qb_st (qb_st (qb_st (qb_st hp325 68 y326 x1) 68 (y326 + 1) x2) 68 (y326 + 2) x3) 68 (y326 + 3) x4) 68 (y326 + 4) x5) 60 9 ((hp325 60 9) + 1)))))))))))))) : c_m_land x1 x2 x3 x4 x5 hp K := by
  unfold c_m_land
  refine qb_iloadn (pc' := 1) (i := 1) dX11_land_0 rfl rfl rfl ?_
  refine qb_iconst (pc' := 2) dX11_land_1 rfl rfl ?_
  refine qb_bipush (pc' := 4) dX11_land_2 rfl rfl rfl ?_
  refine qb_callSi (pc' := 7) (as := [.inl x1, .inl 0, .inl 9]) (rest := []) dX11_land_4 rfl qe_mX11_land_mX11_in rfl rfl rfl (Nat.le_of_ble_eq_true rfl) (Nat.le_of_ble_eq_true rfl) ⟨rfl, rfl⟩ (K := fun vz hpz => (v_m_in x1 0 9) = vz ∧ hp = hpz) (s_m_in x1 0 9 hp _ trivial ⟨rfl, rfl⟩) (fun vz hpz ez => ?_)
  obtain ⟨ez1, ez2⟩ := ez
  subst ez1
  subst ez2
  refine qb_feq (tgt := 22) (pc' := 10) dX11_land_7 rfl rfl (fun c2114 => ?_) (fun c2114 => ?_)
  · have h := h.1 c2114
    refine qb_iconst (pc' := 23) dX11_land_22 rfl rfl ?_
    exact qb_reti dX11_land_23 rfl h
  · have h := h.2 c2114
    refine qb_iloadn (pc' := 11) (i := 2) dX11_land_10 rfl rfl rfl ?_
    refine qb_iconst (pc' := 12) dX11_land_11 rfl rfl ?_
    refine qb_ceq (tgt := 24) (pc' := 15) dX11_land_12 rfl rfl (fun c2115 => ?_) (fun c2115 => ?_)
    · have h := h.1 c2115
      refine qb_iloadn (pc' := 25) (i := 3) dX11_land_24 rfl rfl rfl ?_
      refine qb_callSi (pc' := 28) (as := [.inl x3]) (rest := []) dX11_land_25 rfl qe_mX11_land_mX11_isHour rfl rfl rfl (Nat.le_of_ble_eq_true rfl) (Nat.le_of_ble_eq_true rfl) ⟨rfl, rfl⟩ (K := fun vz hpz => (v_m_isHour x3) = vz ∧ hp = hpz) (s_m_isHour x3 hp _ trivial ⟨rfl, rfl⟩) (fun vz hpz ez => ?_)
      obtain ⟨ez1, ez2⟩ := ez
      subst ez1
      subst ez2
      refine qb_feq (tgt := 54) (pc' := 31) dX11_land_28 rfl rfl (fun c2116 => ?_) (fun c2116 => ?_)
      · have h := h.1 c2116
        refine qb_bipush (pc' := 56) dX11_land_54 rfl rfl rfl ?_
        exact qb_reti dX11_land_56 rfl h
      · have h := h.2 c2116
        refine qb_iload (pc' := 33) dX11_land_31 rfl rfl ?_
        refine qb_iconst (pc' := 34) dX11_land_33 rfl rfl ?_
        refine qb_sipush (pc' := 37) dX11_land_34 rfl rfl rfl ?_
        refine qb_callSi (pc' := 40) (as := [.inl x4, .inl 1, .inl 20000]) (rest := []) dX11_land_37 rfl qe_mX11_land_mX11_in rfl rfl rfl (Nat.le_of_ble_eq_true rfl) (Nat.le_of_ble_eq_true rfl) ⟨rfl, rfl⟩ (K := fun vz hpz => (v_m_in x4 1 20000) = vz ∧ hp = hpz) (s_m_in x4 1 20000 hp _ trivial ⟨rfl, rfl⟩) (fun vz hpz ez => ?_)
        obtain ⟨ez1, ez2⟩ := ez
        subst ez1
        subst ez2
        refine qb_feq (tgt := 54) (pc' := 43) dX11_land_40 rfl rfl (fun c2117 => ?_) (fun c2117 => ?_)
        · have h := h.1 c2117
          refine qb_bipush (pc' := 56) dX11_land_54 rfl rfl rfl ?_
          exact qb_reti dX11_land_56 rfl h
        · have h := h.2 c2117
          refine qb_iload (pc' := 45) dX11_land_43 rfl rfl ?_
          refine qb_iconst (pc' := 46) dX11_land_45 rfl rfl ?_
          refine qb_bipush (pc' := 48) dX11_land_46 rfl rfl rfl ?_
          refine qb_callSi (pc' := 51) (as := [.inl x5, .inl 1, .inl 9]) (rest := []) dX11_land_48 rfl qe_mX11_land_mX11_in rfl rfl rfl (Nat.le_of_ble_eq_true rfl) (Nat.le_of_ble_eq_true rfl) ⟨rfl, rfl⟩ (K := fun vz hpz => (v_m_in x5 1 9) = vz ∧ hp = hpz) (s_m_in x5 1 9 hp _ trivial ⟨rfl, rfl⟩) (fun vz hpz ez => ?_)
          obtain ⟨ez1, ez2⟩ := ez
          subst ez1
          subst ez2
          refine qb_fne (tgt := 57) (pc' := 54) dX11_land_51 rfl rfl (fun c2118 => ?_) (fun c2118 => ?_)
          · have h := h.2 c2118
            refine qb_aloadn (pc' := 58) (i := 0) dX11_land_57 rfl rfl rfl ?_
            refine qb_geti (pc' := 61) (v := (hp 60 9)) dX11_land_58 rfl qf_X11_136 qb_s60 rfl rfl ?_
            refine qb_bipush (pc' := 63) dX11_land_61 rfl rfl rfl ?_
            refine qb_cne (tgt := 69) (pc' := 66) dX11_land_63 rfl rfl (fun c2119 => ?_) (fun c2119 => ?_)
            · have h := h.2 c2119
              refine qb_iloadn (pc' := 70) (i := 2) dX11_land_69 rfl rfl rfl ?_
              refine qb_fge (tgt := 84) (pc' := 73) dX11_land_70 rfl rfl (fun c2120 => ?_) (fun c2120 => ?_)
              · have h := h.1 c2120
                refine qb_bipush (pc' := 86) dX11_land_84 rfl rfl rfl ?_
                refine qb_aloadn (pc' := 87) (i := 0) dX11_land_86 rfl rfl rfl ?_
                refine qb_geti (pc' := 90) (v := (hp 60 9)) dX11_land_87 rfl qf_X11_136 qb_s60 rfl rfl ?_
                obtain ⟨g1888, h⟩ := h
                refine qb_imul (pc' := 91) dX11_land_90 rfl g1888 ?_
                refine qb_istorey (pc' := 93) (Lf := fun y321 => [qb_a 60, qb_i x1, qb_i x2, qb_i x3, qb_i x4, qb_i x5, qb_i y321]) dX11_land_91 rfl (Nat.le_of_ble_eq_true rfl) rfl (fun _ => rfl) (fun y321 ey321 => ?_)
                have h := h y321 ey321
                refine qb_aloadn (pc' := 94) (i := 0) dX11_land_93 rfl rfl rfl ?_
                refine qb_geta (pc' := 97) dX11_land_94 rfl qf_X11_31 qb_s60 rfl ?_
                refine qb_iload (pc' := 99) dX11_land_97 rfl rfl ?_
                refine qb_iloadn (pc' := 100) (i := 1) dX11_land_99 rfl rfl rfl ?_
                obtain ⟨g1889, h⟩ := h
                refine qb_iast (pc' := 101) dX11_land_100 rfl qb_s68 g1889.1 g1889.2 ?_
                refine qb_aloadn (pc' := 102) (i := 0) dX11_land_101 rfl rfl rfl ?_
                refine qb_geta (pc' := 105) dX11_land_102 rfl qf_X11_31 qb_s60 rfl ?_
                refine qb_iload (pc' := 107) dX11_land_105 rfl rfl ?_
                refine qb_iconst (pc' := 108) dX11_land_107 rfl rfl ?_
                refine qb_iadd (pc' := 109) dX11_land_108 rfl (qb_ina g1889 (by decide)) ?_
                refine qb_iloadn (pc' := 110) (i := 2) dX11_land_109 rfl rfl rfl ?_
                obtain ⟨g1890, h⟩ := h
                refine qb_iast (pc' := 111) dX11_land_110 rfl qb_s68 g1890.1 g1890.2 ?_
                refine qb_aloadn (pc' := 112) (i := 0) dX11_land_111 rfl rfl rfl ?_
                refine qb_geta (pc' := 115) dX11_land_112 rfl qf_X11_31 qb_s60 rfl ?_
                refine qb_iload (pc' := 117) dX11_land_115 rfl rfl ?_
                refine qb_iconst (pc' := 118) dX11_land_117 rfl rfl ?_
                refine qb_iadd (pc' := 119) dX11_land_118 rfl (qb_ina g1889 (by decide)) ?_
                refine qb_iloadn (pc' := 120) (i := 3) dX11_land_119 rfl rfl rfl ?_
                obtain ⟨g1891, h⟩ := h
                refine qb_iast (pc' := 121) dX11_land_120 rfl qb_s68 g1891.1 g1891.2 ?_
                refine qb_aloadn (pc' := 122) (i := 0) dX11_land_121 rfl rfl rfl ?_
                refine qb_geta (pc' := 125) dX11_land_122 rfl qf_X11_31 qb_s60 rfl ?_
                refine qb_iload (pc' := 127) dX11_land_125 rfl rfl ?_
                refine qb_iconst (pc' := 128) dX11_land_127 rfl rfl ?_
                refine qb_iadd (pc' := 129) dX11_land_128 rfl (qb_ina g1889 (by decide)) ?_
                refine qb_iload (pc' := 131) dX11_land_129 rfl rfl ?_
                obtain ⟨g1892, h⟩ := h
                refine qb_iast (pc' := 132) dX11_land_131 rfl qb_s68 g1892.1 g1892.2 ?_
                refine qb_aloadn (pc' := 133) (i := 0) dX11_land_132 rfl rfl rfl ?_
                refine qb_geta (pc' := 136) dX11_land_133 rfl qf_X11_31 qb_s60 rfl ?_
                refine qb_iload (pc' := 138) dX11_land_136 rfl rfl ?_
                refine qb_iconst (pc' := 139) dX11_land_138 rfl rfl ?_
                refine qb_iadd (pc' := 140) dX11_land_139 rfl (qb_ina g1889 (by decide)) ?_
                refine qb_iload (pc' := 142) dX11_land_140 rfl rfl ?_
                obtain ⟨g1893, h⟩ := h
                refine qb_iast (pc' := 143) dX11_land_142 rfl qb_s68 g1893.1 g1893.2 ?_
                refine qb_aloadn (pc' := 144) (i := 0) dX11_land_143 rfl rfl rfl ?_
                refine qb_dup (pc' := 145) dX11_land_144 rfl rfl ?_
                refine qb_geti (pc' := 148) (v := (hp 60 9)) dX11_land_145 rfl qf_X11_136 qb_s60 rfl (qb_rdn rfl (qb_rdn rfl (qb_rdn rfl (qb_rdn rfl (qb_rdn rfl rfl))))) ?_
                refine qb_iconst (pc' := 149) dX11_land_148 rfl rfl ?_
                obtain ⟨g1894, h⟩ := h
                refine qb_iadd (pc' := 150) dX11_land_149 rfl g1894 ?_
                refine qb_puti (pc' := 153) (hp' := (qb_st (qb_st (qb_st (qb_st (qb_st (qb_st hp 68 y321 x1) 68 (y321 + 1) x2) 68 (y321 + 2) x3) 68 (y321 + 3) x4) 68 (y321 + 4) x5) 60 9 ((hp 60 9) + 1))) dX11_land_150 rfl qf_X11_136 (Or.inl rfl) qb_s60 rfl rfl ?_
                refine qb_aloadn (pc' := 154) (i := 0) dX11_land_153 rfl rfl rfl ?_
                refine qb_geti (pc' := 157) (v := ((hp 60 9) + 1)) dX11_land_154 rfl qf_X11_136 qb_s60 rfl qb_rds ?_
                refine qb_iconst (pc' := 158) dX11_land_157 rfl rfl ?_
                obtain ⟨g1895, h⟩ := h
                refine qb_isub (pc' := 159) dX11_land_158 rfl g1895 ?_
                exact qb_reti dX11_land_159 rfl h
              · have h := h.2 c2120
                refine qb_aloadn (pc' := 74) (i := 0) dX11_land_73 rfl rfl rfl ?_
                refine qb_callVi (pc' := 77) (b := 60) (as := []) (rest := []) dX11_land_74 rfl qe_mX11_land_mX11_waiting rfl rfl qb_s60 rfl rfl (Nat.le_of_ble_eq_true rfl) (Nat.le_of_ble_eq_true rfl) ⟨rfl, rfl⟩ h (fun v322 hp322 h => ?_)
                refine qb_iconst (pc' := 78) dX11_land_77 rfl rfl ?_
                refine qb_cne (tgt := 84) (pc' := 81) dX11_land_78 rfl rfl (fun c2121 => ?_) (fun c2121 => ?_)
                · have h := h.2 c2121
                  refine qb_bipush (pc' := 86) dX11_land_84 rfl rfl rfl ?_
                  refine qb_aloadn (pc' := 87) (i := 0) dX11_land_86 rfl rfl rfl ?_
                  refine qb_geti (pc' := 90) (v := (hp322 60 9)) dX11_land_87 rfl qf_X11_136 qb_s60 rfl rfl ?_
                  obtain ⟨g1896, h⟩ := h
                  refine qb_imul (pc' := 91) dX11_land_90 rfl g1896 ?_
                  refine qb_istorey (pc' := 93) (Lf := fun y323 => [qb_a 60, qb_i x1, qb_i x2, qb_i x3, qb_i x4, qb_i x5, qb_i y323]) dX11_land_91 rfl (Nat.le_of_ble_eq_true rfl) rfl (fun _ => rfl) (fun y323 ey323 => ?_)
                  have h := h y323 ey323
                  refine qb_aloadn (pc' := 94) (i := 0) dX11_land_93 rfl rfl rfl ?_
                  refine qb_geta (pc' := 97) dX11_land_94 rfl qf_X11_31 qb_s60 rfl ?_
                  refine qb_iload (pc' := 99) dX11_land_97 rfl rfl ?_
                  refine qb_iloadn (pc' := 100) (i := 1) dX11_land_99 rfl rfl rfl ?_
                  obtain ⟨g1897, h⟩ := h
                  refine qb_iast (pc' := 101) dX11_land_100 rfl qb_s68 g1897.1 g1897.2 ?_
                  refine qb_aloadn (pc' := 102) (i := 0) dX11_land_101 rfl rfl rfl ?_
                  refine qb_geta (pc' := 105) dX11_land_102 rfl qf_X11_31 qb_s60 rfl ?_
                  refine qb_iload (pc' := 107) dX11_land_105 rfl rfl ?_
                  refine qb_iconst (pc' := 108) dX11_land_107 rfl rfl ?_
                  refine qb_iadd (pc' := 109) dX11_land_108 rfl (qb_ina g1897 (by decide)) ?_
                  refine qb_iloadn (pc' := 110) (i := 2) dX11_land_109 rfl rfl rfl ?_
                  obtain ⟨g1898, h⟩ := h
                  refine qb_iast (pc' := 111) dX11_land_110 rfl qb_s68 g1898.1 g1898.2 ?_
                  refine qb_aloadn (pc' := 112) (i := 0) dX11_land_111 rfl rfl rfl ?_
                  refine qb_geta (pc' := 115) dX11_land_112 rfl qf_X11_31 qb_s60 rfl ?_
                  refine qb_iload (pc' := 117) dX11_land_115 rfl rfl ?_
                  refine qb_iconst (pc' := 118) dX11_land_117 rfl rfl ?_
                  refine qb_iadd (pc' := 119) dX11_land_118 rfl (qb_ina g1897 (by decide)) ?_
                  refine qb_iloadn (pc' := 120) (i := 3) dX11_land_119 rfl rfl rfl ?_
                  obtain ⟨g1899, h⟩ := h
                  refine qb_iast (pc' := 121) dX11_land_120 rfl qb_s68 g1899.1 g1899.2 ?_
                  refine qb_aloadn (pc' := 122) (i := 0) dX11_land_121 rfl rfl rfl ?_
                  refine qb_geta (pc' := 125) dX11_land_122 rfl qf_X11_31 qb_s60 rfl ?_
                  refine qb_iload (pc' := 127) dX11_land_125 rfl rfl ?_
                  refine qb_iconst (pc' := 128) dX11_land_127 rfl rfl ?_
                  refine qb_iadd (pc' := 129) dX11_land_128 rfl (qb_ina g1897 (by decide)) ?_
                  refine qb_iload (pc' := 131) dX11_land_129 rfl rfl ?_
                  obtain ⟨g1900, h⟩ := h
                  refine qb_iast (pc' := 132) dX11_land_131 rfl qb_s68 g1900.1 g1900.2 ?_
                  refine qb_aloadn (pc' := 133) (i := 0) dX11_land_132 rfl rfl rfl ?_
                  refine qb_geta (pc' := 136) dX11_land_133 rfl qf_X11_31 qb_s60 rfl ?_
                  refine qb_iload (pc' := 138) dX11_land_136 rfl rfl ?_
                  refine qb_iconst (pc' := 139) dX11_land_138 rfl rfl ?_
                  refine qb_iadd (pc' := 140) dX11_land_139 rfl (qb_ina g1897 (by decide)) ?_
                  refine qb_iload (pc' := 142) dX11_land_140 rfl rfl ?_
                  obtain ⟨g1901, h⟩ := h
                  refine qb_iast (pc' := 143) dX11_land_142 rfl qb_s68 g1901.1 g1901.2 ?_
                  refine qb_aloadn (pc' := 144) (i := 0) dX11_land_143 rfl rfl rfl ?_
                  refine qb_dup (pc' := 145) dX11_land_144 rfl rfl ?_
                  refine qb_geti (pc' := 148) (v := (hp322 60 9)) dX11_land_145 rfl qf_X11_136 qb_s60 rfl (qb_rdn rfl (qb_rdn rfl (qb_rdn rfl (qb_rdn rfl (qb_rdn rfl rfl))))) ?_
                  refine qb_iconst (pc' := 149) dX11_land_148 rfl rfl ?_
                  obtain ⟨g1902, h⟩ := h
                  refine qb_iadd (pc' := 150) dX11_land_149 rfl g1902 ?_
                  refine qb_puti (pc' := 153) (hp' := (qb_st (qb_st (qb_st (qb_st (qb_st (qb_st hp322 68 y323 x1) 68 (y323 + 1) x2) 68 (y323 + 2) x3) 68 (y323 + 3) x4) 68 (y323 + 4) x5) 60 9 ((hp322 60 9) + 1))) dX11_land_150 rfl qf_X11_136 (Or.inl rfl) qb_s60 rfl rfl ?_
                  refine qb_aloadn (pc' := 154) (i := 0) dX11_land_153 rfl rfl rfl ?_
                  refine qb_geti (pc' := 157) (v := ((hp322 60 9) + 1)) dX11_land_154 rfl qf_X11_136 qb_s60 rfl qb_rds ?_
                  refine qb_iconst (pc' := 158) dX11_land_157 rfl rfl ?_
                  obtain ⟨g1903, h⟩ := h
                  refine qb_isub (pc' := 159) dX11_land_158 rfl g1903 ?_
                  exact qb_reti dX11_land_159 rfl h
                · have h := h.1 c2121
                  refine qb_bipush (pc' := 83) dX11_land_81 rfl rfl rfl ?_
                  exact qb_reti dX11_land_83 rfl h
            · have h := h.1 c2119
              refine qb_bipush (pc' := 68) dX11_land_66 rfl rfl rfl ?_
              exact qb_reti dX11_land_68 rfl h
          · have h := h.1 c2118
            refine qb_bipush (pc' := 56) dX11_land_54 rfl rfl rfl ?_
            exact qb_reti dX11_land_56 rfl h
    · have h := h.2 c2115
      refine qb_iloadn (pc' := 16) (i := 2) dX11_land_15 rfl rfl rfl ?_
      refine qb_callSi (pc' := 19) (as := [.inl x2]) (rest := []) dX11_land_16 rfl qe_mX11_land_mX11_isQuay rfl rfl rfl (Nat.le_of_ble_eq_true rfl) (Nat.le_of_ble_eq_true rfl) ⟨rfl, rfl⟩ (K := fun vz hpz => (v_m_isQuay x2) = vz ∧ hp = hpz) (s_m_isQuay x2 hp _ trivial ⟨rfl, rfl⟩) (fun vz hpz ez => ?_)
      obtain ⟨ez1, ez2⟩ := ez
      subst ez1
      subst ez2
      refine qb_fne (tgt := 24) (pc' := 22) dX11_land_19 rfl rfl (fun c2122 => ?_) (fun c2122 => ?_)
      · have h := h.2 c2122
        refine qb_iloadn (pc' := 25) (i := 3) dX11_land_24 rfl rfl rfl ?_
        refine qb_callSi (pc' := 28) (as := [.inl x3]) (rest := []) dX11_land_25 rfl qe_mX11_land_mX11_isHour rfl rfl rfl (Nat.le_of_ble_eq_true rfl) (Nat.le_of_ble_eq_true rfl) ⟨rfl, rfl⟩ (K := fun vz hpz => (v_m_isHour x3) = vz ∧ hp = hpz) (s_m_isHour x3 hp _ trivial ⟨rfl, rfl⟩) (fun vz hpz ez => ?_)
        obtain ⟨ez1, ez2⟩ := ez
        subst ez1
        subst ez2
        refine qb_feq (tgt := 54) (pc' := 31) dX11_land_28 rfl rfl (fun c2123 => ?_) (fun c2123 => ?_)
        · have h := h.1 c2123
          refine qb_bipush (pc' := 56) dX11_land_54 rfl rfl rfl ?_
          exact qb_reti dX11_land_56 rfl h
        · have h := h.2 c2123
          refine qb_iload (pc' := 33) dX11_land_31 rfl rfl ?_
          refine qb_iconst (pc' := 34) dX11_land_33 rfl rfl ?_
          refine qb_sipush (pc' := 37) dX11_land_34 rfl rfl rfl ?_
          refine qb_callSi (pc' := 40) (as := [.inl x4, .inl 1, .inl 20000]) (rest := []) dX11_land_37 rfl qe_mX11_land_mX11_in rfl rfl rfl (Nat.le_of_ble_eq_true rfl) (Nat.le_of_ble_eq_true rfl) ⟨rfl, rfl⟩ (K := fun vz hpz => (v_m_in x4 1 20000) = vz ∧ hp = hpz) (s_m_in x4 1 20000 hp _ trivial ⟨rfl, rfl⟩) (fun vz hpz ez => ?_)
          obtain ⟨ez1, ez2⟩ := ez
          subst ez1
          subst ez2
          refine qb_feq (tgt := 54) (pc' := 43) dX11_land_40 rfl rfl (fun c2124 => ?_) (fun c2124 => ?_)
          · have h := h.1 c2124
            refine qb_bipush (pc' := 56) dX11_land_54 rfl rfl rfl ?_
            exact qb_reti dX11_land_56 rfl h
          · have h := h.2 c2124
            refine qb_iload (pc' := 45) dX11_land_43 rfl rfl ?_
            refine qb_iconst (pc' := 46) dX11_land_45 rfl rfl ?_
            refine qb_bipush (pc' := 48) dX11_land_46 rfl rfl rfl ?_
            refine qb_callSi (pc' := 51) (as := [.inl x5, .inl 1, .inl 9]) (rest := []) dX11_land_48 rfl qe_mX11_land_mX11_in rfl rfl rfl (Nat.le_of_ble_eq_true rfl) (Nat.le_of_ble_eq_true rfl) ⟨rfl, rfl⟩ (K := fun vz hpz => (v_m_in x5 1 9) = vz ∧ hp = hpz) (s_m_in x5 1 9 hp _ trivial ⟨rfl, rfl⟩) (fun vz hpz ez => ?_)
            obtain ⟨ez1, ez2⟩ := ez
            subst ez1
            subst ez2
            refine qb_fne (tgt := 57) (pc' := 54) dX11_land_51 rfl rfl (fun c2125 => ?_) (fun c2125 => ?_)
            · have h := h.2 c2125
              refine qb_aloadn (pc' := 58) (i := 0) dX11_land_57 rfl rfl rfl ?_
              refine qb_geti (pc' := 61) (v := (hp 60 9)) dX11_land_58 rfl qf_X11_136 qb_s60 rfl rfl ?_
              refine qb_bipush (pc' := 63) dX11_land_61 rfl rfl rfl ?_
              refine qb_cne (tgt := 69) (pc' := 66) dX11_land_63 rfl rfl (fun c2126 => ?_) (fun c2126 => ?_)
              · have h := h.2 c2126
                refine qb_iloadn (pc' := 70) (i := 2) dX11_land_69 rfl rfl rfl ?_
                refine qb_fge (tgt := 84) (pc' := 73) dX11_land_70 rfl rfl (fun c2127 => ?_) (fun c2127 => ?_)
                · have h := h.1 c2127
                  refine qb_bipush (pc' := 86) dX11_land_84 rfl rfl rfl ?_
                  refine qb_aloadn (pc' := 87) (i := 0) dX11_land_86 rfl rfl rfl ?_
                  refine qb_geti (pc' := 90) (v := (hp 60 9)) dX11_land_87 rfl qf_X11_136 qb_s60 rfl rfl ?_
                  obtain ⟨g1904, h⟩ := h
                  refine qb_imul (pc' := 91) dX11_land_90 rfl g1904 ?_
                  refine qb_istorey (pc' := 93) (Lf := fun y324 => [qb_a 60, qb_i x1, qb_i x2, qb_i x3, qb_i x4, qb_i x5, qb_i y324]) dX11_land_91 rfl (Nat.le_of_ble_eq_true rfl) rfl (fun _ => rfl) (fun y324 ey324 => ?_)
                  have h := h y324 ey324
                  refine qb_aloadn (pc' := 94) (i := 0) dX11_land_93 rfl rfl rfl ?_
                  refine qb_geta (pc' := 97) dX11_land_94 rfl qf_X11_31 qb_s60 rfl ?_
                  refine qb_iload (pc' := 99) dX11_land_97 rfl rfl ?_
                  refine qb_iloadn (pc' := 100) (i := 1) dX11_land_99 rfl rfl rfl ?_
                  obtain ⟨g1905, h⟩ := h
                  refine qb_iast (pc' := 101) dX11_land_100 rfl qb_s68 g1905.1 g1905.2 ?_
                  refine qb_aloadn (pc' := 102) (i := 0) dX11_land_101 rfl rfl rfl ?_
                  refine qb_geta (pc' := 105) dX11_land_102 rfl qf_X11_31 qb_s60 rfl ?_
                  refine qb_iload (pc' := 107) dX11_land_105 rfl rfl ?_
                  refine qb_iconst (pc' := 108) dX11_land_107 rfl rfl ?_
                  refine qb_iadd (pc' := 109) dX11_land_108 rfl (qb_ina g1905 (by decide)) ?_
                  refine qb_iloadn (pc' := 110) (i := 2) dX11_land_109 rfl rfl rfl ?_
                  obtain ⟨g1906, h⟩ := h
                  refine qb_iast (pc' := 111) dX11_land_110 rfl qb_s68 g1906.1 g1906.2 ?_
                  refine qb_aloadn (pc' := 112) (i := 0) dX11_land_111 rfl rfl rfl ?_
                  refine qb_geta (pc' := 115) dX11_land_112 rfl qf_X11_31 qb_s60 rfl ?_
                  refine qb_iload (pc' := 117) dX11_land_115 rfl rfl ?_
                  refine qb_iconst (pc' := 118) dX11_land_117 rfl rfl ?_
                  refine qb_iadd (pc' := 119) dX11_land_118 rfl (qb_ina g1905 (by decide)) ?_
                  refine qb_iloadn (pc' := 120) (i := 3) dX11_land_119 rfl rfl rfl ?_
                  obtain ⟨g1907, h⟩ := h
                  refine qb_iast (pc' := 121) dX11_land_120 rfl qb_s68 g1907.1 g1907.2 ?_
                  refine qb_aloadn (pc' := 122) (i := 0) dX11_land_121 rfl rfl rfl ?_
                  refine qb_geta (pc' := 125) dX11_land_122 rfl qf_X11_31 qb_s60 rfl ?_
                  refine qb_iload (pc' := 127) dX11_land_125 rfl rfl ?_
                  refine qb_iconst (pc' := 128) dX11_land_127 rfl rfl ?_
                  refine qb_iadd (pc' := 129) dX11_land_128 rfl (qb_ina g1905 (by decide)) ?_
                  refine qb_iload (pc' := 131) dX11_land_129 rfl rfl ?_
                  obtain ⟨g1908, h⟩ := h
                  refine qb_iast (pc' := 132) dX11_land_131 rfl qb_s68 g1908.1 g1908.2 ?_
                  refine qb_aloadn (pc' := 133) (i := 0) dX11_land_132 rfl rfl rfl ?_
                  refine qb_geta (pc' := 136) dX11_land_133 rfl qf_X11_31 qb_s60 rfl ?_
                  refine qb_iload (pc' := 138) dX11_land_136 rfl rfl ?_
                  refine qb_iconst (pc' := 139) dX11_land_138 rfl rfl ?_
                  refine qb_iadd (pc' := 140) dX11_land_139 rfl (qb_ina g1905 (by decide)) ?_
                  refine qb_iload (pc' := 142) dX11_land_140 rfl rfl ?_
                  obtain ⟨g1909, h⟩ := h
                  refine qb_iast (pc' := 143) dX11_land_142 rfl qb_s68 g1909.1 g1909.2 ?_
                  refine qb_aloadn (pc' := 144) (i := 0) dX11_land_143 rfl rfl rfl ?_
                  refine qb_dup (pc' := 145) dX11_land_144 rfl rfl ?_
                  refine qb_geti (pc' := 148) (v := (hp 60 9)) dX11_land_145 rfl qf_X11_136 qb_s60 rfl (qb_rdn rfl (qb_rdn rfl (qb_rdn rfl (qb_rdn rfl (qb_rdn rfl rfl))))) ?_
                  refine qb_iconst (pc' := 149) dX11_land_148 rfl rfl ?_
                  obtain ⟨g1910, h⟩ := h
                  refine qb_iadd (pc' := 150) dX11_land_149 rfl g1910 ?_
                  refine qb_puti (pc' := 153) (hp' := (qb_st (qb_st (qb_st (qb_st (qb_st (qb_st hp 68 y324 x1) 68 (y324 + 1) x2) 68 (y324 + 2) x3) 68 (y324 + 3) x4) 68 (y324 + 4) x5) 60 9 ((hp 60 9) + 1))) dX11_land_150 rfl qf_X11_136 (Or.inl rfl) qb_s60 rfl rfl ?_
                  refine qb_aloadn (pc' := 154) (i := 0) dX11_land_153 rfl rfl rfl ?_
                  refine qb_geti (pc' := 157) (v := ((hp 60 9) + 1)) dX11_land_154 rfl qf_X11_136 qb_s60 rfl qb_rds ?_
                  refine qb_iconst (pc' := 158) dX11_land_157 rfl rfl ?_
                  obtain ⟨g1911, h⟩ := h
                  refine qb_isub (pc' := 159) dX11_land_158 rfl g1911 ?_
                  exact qb_reti dX11_land_159 rfl h
                · have h := h.2 c2127
                  refine qb_aloadn (pc' := 74) (i := 0) dX11_land_73 rfl rfl rfl ?_
                  refine qb_callVi (pc' := 77) (b := 60) (as := []) (rest := []) dX11_land_74 rfl qe_mX11_land_mX11_waiting rfl rfl qb_s60 rfl rfl (Nat.le_of_ble_eq_true rfl) (Nat.le_of_ble_eq_true rfl) ⟨rfl, rfl⟩ h (fun v325 hp325 h => ?_)
                  refine qb_iconst (pc' := 78) dX11_land_77 rfl rfl ?_
                  refine qb_cne (tgt := 84) (pc' := 81) dX11_land_78 rfl rfl (fun c2128 => ?_) (fun c2128 => ?_)
                  · have h := h.2 c2128
                    refine qb_bipush (pc' := 86) dX11_land_84 rfl rfl rfl ?_
                    refine qb_aloadn (pc' := 87) (i := 0) dX11_land_86 rfl rfl rfl ?_
                    refine qb_geti (pc' := 90) (v := (hp325 60 9)) dX11_land_87 rfl qf_X11_136 qb_s60 rfl rfl ?_
                    obtain ⟨g1912, h⟩ := h
                    refine qb_imul (pc' := 91) dX11_land_90 rfl g1912 ?_
                    refine qb_istorey (pc' := 93) (Lf := fun y326 => [qb_a 60, qb_i x1, qb_i x2, qb_i x3, qb_i x4, qb_i x5, qb_i y326]) dX11_land_91 rfl (Nat.le_of_ble_eq_true rfl) rfl (fun _ => rfl) (fun y326 ey326 => ?_)
                    have h := h y326 ey326
                    refine qb_aloadn (pc' := 94) (i := 0) dX11_land_93 rfl rfl rfl ?_
                    refine qb_geta (pc' := 97) dX11_land_94 rfl qf_X11_31 qb_s60 rfl ?_
                    refine qb_iload (pc' := 99) dX11_land_97 rfl rfl ?_
                    refine qb_iloadn (pc' := 100) (i := 1) dX11_land_99 rfl rfl rfl ?_
                    obtain ⟨g1913, h⟩ := h
                    refine qb_iast (pc' := 101) dX11_land_100 rfl qb_s68 g1913.1 g1913.2 ?_
                    refine qb_aloadn (pc' := 102) (i := 0) dX11_land_101 rfl rfl rfl ?_
                    refine qb_geta (pc' := 105) dX11_land_102 rfl qf_X11_31 qb_s60 rfl ?_
                    refine qb_iload (pc' := 107) dX11_land_105 rfl rfl ?_
                    refine qb_iconst (pc' := 108) dX11_land_107 rfl rfl ?_
                    refine qb_iadd (pc' := 109) dX11_land_108 rfl (qb_ina g1913 (by decide)) ?_
                    refine qb_iloadn (pc' := 110) (i := 2) dX11_land_109 rfl rfl rfl ?_
                    obtain ⟨g1914, h⟩ := h
                    refine qb_iast (pc' := 111) dX11_land_110 rfl qb_s68 g1914.1 g1914.2 ?_
                    refine qb_aloadn (pc' := 112) (i := 0) dX11_land_111 rfl rfl rfl ?_
                    refine qb_geta (pc' := 115) dX11_land_112 rfl qf_X11_31 qb_s60 rfl ?_
                    refine qb_iload (pc' := 117) dX11_land_115 rfl rfl ?_
                    refine qb_iconst (pc' := 118) dX11_land_117 rfl rfl ?_
                    refine qb_iadd (pc' := 119) dX11_land_118 rfl (qb_ina g1913 (by decide)) ?_
                    refine qb_iloadn (pc' := 120) (i := 3) dX11_land_119 rfl rfl rfl ?_
                    obtain ⟨g1915, h⟩ := h
                    refine qb_iast (pc' := 121) dX11_land_120 rfl qb_s68 g1915.1 g1915.2 ?_
                    refine qb_aloadn (pc' := 122) (i := 0) dX11_land_121 rfl rfl rfl ?_
                    refine qb_geta (pc' := 125) dX11_land_122 rfl qf_X11_31 qb_s60 rfl ?_
                    refine qb_iload (pc' := 127) dX11_land_125 rfl rfl ?_
                    refine qb_iconst (pc' := 128) dX11_land_127 rfl rfl ?_
                    refine qb_iadd (pc' := 129) dX11_land_128 rfl (qb_ina g1913 (by decide)) ?_
                    refine qb_iload (pc' := 131) dX11_land_129 rfl rfl ?_
                    obtain ⟨g1916, h⟩ := h
                    refine qb_iast (pc' := 132) dX11_land_131 rfl qb_s68 g1916.1 g1916.2 ?_
                    refine qb_aloadn (pc' := 133) (i := 0) dX11_land_132 rfl rfl rfl ?_
                    refine qb_geta (pc' := 136) dX11_land_133 rfl qf_X11_31 qb_s60 rfl ?_
                    refine qb_iload (pc' := 138) dX11_land_136 rfl rfl ?_
                    refine qb_iconst (pc' := 139) dX11_land_138 rfl rfl ?_
                    refine qb_iadd (pc' := 140) dX11_land_139 rfl (qb_ina g1913 (by decide)) ?_
                    refine qb_iload (pc' := 142) dX11_land_140 rfl rfl ?_
                    obtain ⟨g1917, h⟩ := h
                    refine qb_iast (pc' := 143) dX11_land_142 rfl qb_s68 g1917.1 g1917.2 ?_
                    refine qb_aloadn (pc' := 144) (i := 0) dX11_land_143 rfl rfl rfl ?_
                    refine qb_dup (pc' := 145) dX11_land_144 rfl rfl ?_
                    refine qb_geti (pc' := 148) (v := (hp325 60 9)) dX11_land_145 rfl qf_X11_136 qb_s60 rfl (qb_rdn rfl (qb_rdn rfl (qb_rdn rfl (qb_rdn rfl (qb_rdn rfl rfl))))) ?_
                    refine qb_iconst (pc' := 149) dX11_land_148 rfl rfl ?_
                    obtain ⟨g1918, h⟩ := h
                    refine qb_iadd (pc' := 150) dX11_land_149 rfl g1918 ?_
                    refine qb_puti (pc' := 153) (hp' := (qb_st (qb_st (qb_st (qb_st (qb_st (qb_st hp325 68 y326 x1) 68 (y326 + 1) x2) 68 (y326 + 2) x3) 68 (y326 + 3) x4) 68 (y326 + 4) x5) 60 9 ((hp325 60 9) + 1))) dX11_land_150 rfl qf_X11_136 (Or.inl rfl) qb_s60 rfl rfl ?_
                    refine qb_aloadn (pc' := 154) (i := 0) dX11_land_153 rfl rfl rfl ?_
                    refine qb_geti (pc' := 157) (v := ((hp325 60 9) + 1)) dX11_land_154 rfl qf_X11_136 qb_s60 rfl qb_rds ?_
                    refine qb_iconst (pc' := 158) dX11_land_157 rfl rfl ?_
                    obtain ⟨g1919, h⟩ := h
                    refine qb_isub (pc' := 159) dX11_land_158 rfl g1919 ?_
                    exact qb_reti dX11_land_159 rfl h
                  · have h := h.1 c2128
                    refine qb_bipush (pc' := 83) dX11_land_81 rfl rfl rfl ?_
                    exact qb_reti dX11_land_83 rfl h
              · have h := h.1 c2126
                refine qb_bipush (pc' := 68) dX11_land_66 rfl rfl rfl ?_
                exact qb_reti dX11_land_68 rfl h
            · have h := h.1 c2125
              refine qb_bipush (pc' := 56) dX11_land_54 rfl rfl rfl ?_
              exact qb_reti dX11_land_56 rfl h
      · have h := h.1 c2122
        refine qb_iconst (pc' := 23) dX11_land_22 rfl rfl ?_
        exact qb_reti dX11_land_23 rfl h
def c_m_landing (x1 : Int) (x2 : Int) (hp : qb_H) (K : Int → qb_H → Prop) : Prop := qb_R mX11_landing 0 0 qb_sh 0 [qb_a 60, qb_i x1, qb_i x2, none] [] hp (qb_I qb_sh K)
theorem b_m_landing {x1 x2 : Int} {hp : qb_H} {K : Int → qb_H → Prop} (h : (qb_in ((hp 60 9) - 1)) ∧ (((v_m_in x1 0 ((hp 60 9) - 1)) = 0 → K (-1) hp) ∧ (¬ (v_m_in x1 0 ((hp 60 9) - 1)) = 0 → ((v_m_in x2 0 6) = 0 → K (-2) hp) ∧ (¬ (v_m_in x2 0 6) = 0 → (qb_in (7 * x1)) ∧ (qb_in ((7 * x1) + 1)) ∧ (0 ≤ ((7 * x1) + 1) ∧ ((7 * x1) + 1) < 210) ∧ (∀ (y329 : Int), y329 = (hp 68 ((7 * x1) + 1)) → (x2 ≤ 4 → (x2 ≤ 4 → (qb_in ((7 * x1) + x2)) ∧ (0 ≤ ((7 * x1) + x2) ∧ ((7 * x1) + x2) < 210) ∧ K (hp 68 ((7 * x1) + x2)) hp) ∧ (¬ x2 ≤ 4 → c_m_workQuay y329 hp (fun hp330 => (qb_in ((7 * x1) + x2)) ∧ (0 ≤ ((7 * x1) + x2) ∧ ((7 * x1) + x2) < 210) ∧ K (hp330 68 ((7 * x1) + x2)) hp330))) ∧ (¬ x2 ≤ 4 → (0 ≤ y329 → (x2 ≤ 4 → (qb_in ((7 * x1) + x2)) ∧ (0 ≤ ((7 * x1) + x2) ∧ ((7 * x1) + x2) < 210) ∧ K (hp 68 ((7 * x1) + x2)) hp) ∧ (¬ x2 ≤ 4 → c_m_workQuay y329 hp (fun hp331 => (qb_in ((7 * x1) + x2)) ∧ (0 ≤ ((7 * x1) + x2) ∧ ((7 * x1) + x2) < 210) ∧ K (hp331 68 ((7 * x1) + x2)) hp331))) ∧ (¬ 0 ≤ y329 → (∀ (y332 : Int), y332 = (if x2 = 5 then (0 : Int) else (-6)) → K y332 hp)))))))) : c_m_landing x1 x2 hp K := by
  unfold c_m_landing
  refine qb_iloadn (pc' := 1) (i := 1) dX11_landing_0 rfl rfl rfl ?_
  refine qb_iconst (pc' := 2) dX11_landing_1 rfl rfl ?_
  refine qb_aloadn (pc' := 3) (i := 0) dX11_landing_2 rfl rfl rfl ?_
  refine qb_geti (pc' := 6) (v := (hp 60 9)) dX11_landing_3 rfl qf_X11_136 qb_s60 rfl rfl ?_
  refine qb_iconst (pc' := 7) dX11_landing_6 rfl rfl ?_
  obtain ⟨g1932, h⟩ := h
  refine qb_isub (pc' := 8) dX11_landing_7 rfl g1932 ?_
  refine qb_callSi (pc' := 11) (as := [.inl x1, .inl 0, .inl ((hp 60 9) - 1)]) (rest := []) dX11_landing_8 rfl qe_mX11_landing_mX11_in rfl rfl rfl (Nat.le_of_ble_eq_true rfl) (Nat.le_of_ble_eq_true rfl) ⟨rfl, rfl⟩ (K := fun vz hpz => (v_m_in x1 0 ((hp 60 9) - 1)) = vz ∧ hp = hpz) (s_m_in x1 0 ((hp 60 9) - 1) hp _ trivial ⟨rfl, rfl⟩) (fun vz hpz ez => ?_)
  obtain ⟨ez1, ez2⟩ := ez
  subst ez1
  subst ez2
  refine qb_fne (tgt := 16) (pc' := 14) dX11_landing_11 rfl rfl (fun c2136 => ?_) (fun c2136 => ?_)
  · have h := h.2 c2136
    refine qb_iloadn (pc' := 17) (i := 2) dX11_landing_16 rfl rfl rfl ?_
    refine qb_iconst (pc' := 18) dX11_landing_17 rfl rfl ?_
    refine qb_bipush (pc' := 20) dX11_landing_18 rfl rfl rfl ?_
    refine qb_callSi (pc' := 23) (as := [.inl x2, .inl 0, .inl 6]) (rest := []) dX11_landing_20 rfl qe_mX11_landing_mX11_in rfl rfl rfl (Nat.le_of_ble_eq_true rfl) (Nat.le_of_ble_eq_true rfl) ⟨rfl, rfl⟩ (K := fun vz hpz => (v_m_in x2 0 6) = vz ∧ hp = hpz) (s_m_in x2 0 6 hp _ trivial ⟨rfl, rfl⟩) (fun vz hpz ez => ?_)
    obtain ⟨ez1, ez2⟩ := ez
    subst ez1
    subst ez2
    refine qb_fne (tgt := 29) (pc' := 26) dX11_landing_23 rfl rfl (fun c2137 => ?_) (fun c2137 => ?_)
    · have h := h.2 c2137
      refine qb_aloadn (pc' := 30) (i := 0) dX11_landing_29 rfl rfl rfl ?_
      refine qb_geta (pc' := 33) dX11_landing_30 rfl qf_X11_31 qb_s60 rfl ?_
      refine qb_bipush (pc' := 35) dX11_landing_33 rfl rfl rfl ?_
      refine qb_iloadn (pc' := 36) (i := 1) dX11_landing_35 rfl rfl rfl ?_
      obtain ⟨g1933, h⟩ := h
      refine qb_imul (pc' := 37) dX11_landing_36 rfl g1933 ?_
      refine qb_iconst (pc' := 38) dX11_landing_37 rfl rfl ?_
      obtain ⟨g1934, h⟩ := h
      refine qb_iadd (pc' := 39) dX11_landing_38 rfl g1934 ?_
      obtain ⟨g1935, h⟩ := h
      refine qb_iald (pc' := 40) (v := (hp 68 ((7 * x1) + 1))) dX11_landing_39 rfl qb_s68 g1935.1 g1935.2 rfl ?_
      refine qb_istoreny (pc' := 41) (Lf := fun y329 => [qb_a 60, qb_i x1, qb_i x2, qb_i y329]) dX11_landing_40 rfl rfl (Nat.le_of_ble_eq_true rfl) rfl (fun _ => rfl) (fun y329 ey329 => ?_)
      have h := h y329 ey329
      refine qb_iloadn (pc' := 42) (i := 2) dX11_landing_41 rfl rfl rfl ?_
      refine qb_iconst (pc' := 43) dX11_landing_42 rfl rfl ?_
      refine qb_cle (tgt := 62) (pc' := 46) dX11_landing_43 rfl rfl (fun c2138 => ?_) (fun c2138 => ?_)
      · have h := h.1 c2138
        refine qb_iloadn (pc' := 63) (i := 2) dX11_landing_62 rfl rfl rfl ?_
        refine qb_iconst (pc' := 64) dX11_landing_63 rfl rfl ?_
        refine qb_cle (tgt := 72) (pc' := 67) dX11_landing_64 rfl rfl (fun c2139 => ?_) (fun c2139 => ?_)
        · have h := h.1 c2139
          refine qb_aloadn (pc' := 73) (i := 0) dX11_landing_72 rfl rfl rfl ?_
          refine qb_geta (pc' := 76) dX11_landing_73 rfl qf_X11_31 qb_s60 rfl ?_
          refine qb_bipush (pc' := 78) dX11_landing_76 rfl rfl rfl ?_
          refine qb_iloadn (pc' := 79) (i := 1) dX11_landing_78 rfl rfl rfl ?_
          refine qb_imul (pc' := 80) dX11_landing_79 rfl g1933 ?_
          refine qb_iloadn (pc' := 81) (i := 2) dX11_landing_80 rfl rfl rfl ?_
          obtain ⟨g1936, h⟩ := h
          refine qb_iadd (pc' := 82) dX11_landing_81 rfl g1936 ?_
          obtain ⟨g1937, h⟩ := h
          refine qb_iald (pc' := 83) (v := (hp 68 ((7 * x1) + x2))) dX11_landing_82 rfl qb_s68 g1937.1 g1937.2 rfl ?_
          exact qb_reti dX11_landing_83 rfl h
        · have h := h.2 c2139
          refine qb_aloadn (pc' := 68) (i := 0) dX11_landing_67 rfl rfl rfl ?_
          refine qb_iloadn (pc' := 69) (i := 3) dX11_landing_68 rfl rfl rfl ?_
          refine qb_callVu (pc' := 72) (b := 60) (as := [.inl y329]) (rest := []) dX11_landing_69 rfl qe_mX11_landing_mX11_workQuay rfl rfl qb_s60 rfl rfl (Nat.le_of_ble_eq_true rfl) (Nat.le_of_ble_eq_true rfl) ⟨rfl, rfl⟩ h (fun hp330 h => ?_)
          refine qb_aloadn (pc' := 73) (i := 0) dX11_landing_72 rfl rfl rfl ?_
          refine qb_geta (pc' := 76) dX11_landing_73 rfl qf_X11_31 qb_s60 rfl ?_
          refine qb_bipush (pc' := 78) dX11_landing_76 rfl rfl rfl ?_
          refine qb_iloadn (pc' := 79) (i := 1) dX11_landing_78 rfl rfl rfl ?_
          refine qb_imul (pc' := 80) dX11_landing_79 rfl g1933 ?_
          refine qb_iloadn (pc' := 81) (i := 2) dX11_landing_80 rfl rfl rfl ?_
          obtain ⟨g1938, h⟩ := h
          refine qb_iadd (pc' := 82) dX11_landing_81 rfl g1938 ?_
          obtain ⟨g1939, h⟩ := h
          refine qb_iald (pc' := 83) (v := (hp330 68 ((7 * x1) + x2))) dX11_landing_82 rfl qb_s68 g1939.1 g1939.2 rfl ?_
          exact qb_reti dX11_landing_83 rfl h
      · have h := h.2 c2138
        refine qb_iloadn (pc' := 47) (i := 3) dX11_landing_46 rfl rfl rfl ?_
        refine qb_fge (tgt := 62) (pc' := 50) dX11_landing_47 rfl rfl (fun c2140 => ?_) (fun c2140 => ?_)
        · have h := h.1 c2140
          refine qb_iloadn (pc' := 63) (i := 2) dX11_landing_62 rfl rfl rfl ?_
          refine qb_iconst (pc' := 64) dX11_landing_63 rfl rfl ?_
          refine qb_cle (tgt := 72) (pc' := 67) dX11_landing_64 rfl rfl (fun c2141 => ?_) (fun c2141 => ?_)
          · have h := h.1 c2141
            refine qb_aloadn (pc' := 73) (i := 0) dX11_landing_72 rfl rfl rfl ?_
            refine qb_geta (pc' := 76) dX11_landing_73 rfl qf_X11_31 qb_s60 rfl ?_
            refine qb_bipush (pc' := 78) dX11_landing_76 rfl rfl rfl ?_
            refine qb_iloadn (pc' := 79) (i := 1) dX11_landing_78 rfl rfl rfl ?_
            refine qb_imul (pc' := 80) dX11_landing_79 rfl g1933 ?_
            refine qb_iloadn (pc' := 81) (i := 2) dX11_landing_80 rfl rfl rfl ?_
            obtain ⟨g1940, h⟩ := h
            refine qb_iadd (pc' := 82) dX11_landing_81 rfl g1940 ?_
            obtain ⟨g1941, h⟩ := h
            refine qb_iald (pc' := 83) (v := (hp 68 ((7 * x1) + x2))) dX11_landing_82 rfl qb_s68 g1941.1 g1941.2 rfl ?_
            exact qb_reti dX11_landing_83 rfl h
          · have h := h.2 c2141
            refine qb_aloadn (pc' := 68) (i := 0) dX11_landing_67 rfl rfl rfl ?_
            refine qb_iloadn (pc' := 69) (i := 3) dX11_landing_68 rfl rfl rfl ?_
            refine qb_callVu (pc' := 72) (b := 60) (as := [.inl y329]) (rest := []) dX11_landing_69 rfl qe_mX11_landing_mX11_workQuay rfl rfl qb_s60 rfl rfl (Nat.le_of_ble_eq_true rfl) (Nat.le_of_ble_eq_true rfl) ⟨rfl, rfl⟩ h (fun hp331 h => ?_)
            refine qb_aloadn (pc' := 73) (i := 0) dX11_landing_72 rfl rfl rfl ?_
            refine qb_geta (pc' := 76) dX11_landing_73 rfl qf_X11_31 qb_s60 rfl ?_
            refine qb_bipush (pc' := 78) dX11_landing_76 rfl rfl rfl ?_
            refine qb_iloadn (pc' := 79) (i := 1) dX11_landing_78 rfl rfl rfl ?_
            refine qb_imul (pc' := 80) dX11_landing_79 rfl g1933 ?_
            refine qb_iloadn (pc' := 81) (i := 2) dX11_landing_80 rfl rfl rfl ?_
            obtain ⟨g1942, h⟩ := h
            refine qb_iadd (pc' := 82) dX11_landing_81 rfl g1942 ?_
            obtain ⟨g1943, h⟩ := h
            refine qb_iald (pc' := 83) (v := (hp331 68 ((7 * x1) + x2))) dX11_landing_82 rfl qb_s68 g1943.1 g1943.2 rfl ?_
            exact qb_reti dX11_landing_83 rfl h
        · have h := h.2 c2140
          refine qb_iloadn (pc' := 51) (i := 2) dX11_landing_50 rfl rfl rfl ?_
          refine qb_iconst (pc' := 52) dX11_landing_51 rfl rfl ?_
          have k1475 : ∀ (y332 : Int), y332 = (if x2 = 5 then (0 : Int) else (-6)) → qb_R mX11_landing 0 0 qb_sh 61 [none, none, none, none] [.inl y332] hp (qb_I qb_sh K) := by
            intro y332 ey332
            have h := h y332 ey332
            exact qb_reti dX11_landing_61 rfl h
          refine qb_cne (tgt := 59) (pc' := 55) dX11_landing_52 rfl rfl (fun c2142 => ?_) (fun c2142 => ?_)
          · refine qb_bipush (pc' := 61) dX11_landing_59 rfl rfl rfl ?_
            refine qb_cut (L' := [none, none, none, none]) [false, false, false, false] rfl ?_
            exact k1475 _ (if_neg c2142).symm
          · refine qb_iconst (pc' := 56) dX11_landing_55 rfl rfl ?_
            refine qb_goto (tgt := 61) dX11_landing_56 rfl ?_
            refine qb_cut (L' := [none, none, none, none]) [false, false, false, false] rfl ?_
            exact k1475 _ (if_pos c2142).symm
    · have h := h.1 c2137
      refine qb_bipush (pc' := 28) dX11_landing_26 rfl rfl rfl ?_
      exact qb_reti dX11_landing_28 rfl h
  · have h := h.1 c2136
    refine qb_iconst (pc' := 15) dX11_landing_14 rfl rfl ?_
    exact qb_reti dX11_landing_15 rfl h
def c_m_lead (x1 : Int) (x2 : Int) (hp : qb_H) (K : Int → qb_H → Prop) : Prop := qb_R mX11_lead 0 0 qb_sh 0 [qb_a 60, qb_i x1, qb_i x2, none] [] hp (qb_I qb_sh K)
theorem b_m_lead {x1 x2 : Int} {hp : qb_H} {K : Int → qb_H → Prop} (h : (qb_in ((hp 60 9) - 1)) ∧ (((v_m_in x1 0 ((hp 60 9) - 1)) = 0 → K (-1) hp) ∧ (¬ (v_m_in x1 0 ((hp 60 9) - 1)) = 0 → (x2 = (-1) → (qb_in (7 * x1)) ∧ (qb_in ((7 * x1) + 1)) ∧ (0 ≤ ((7 * x1) + 1) ∧ ((7 * x1) + 1) < 210) ∧ (∀ (y335 : Int), y335 = (hp 68 ((7 * x1) + 1)) → (0 ≤ x2 → K y335 (qb_st hp 68 ((7 * x1) + 1) x2)) ∧ (¬ 0 ≤ x2 → (y335 < 0 → K y335 (qb_st hp 68 ((7 * x1) + 1) x2)) ∧ (¬ y335 < 0 → c_m_waiting hp (fun v336 hp336 => (v336 = 5 → K (-5) hp336) ∧ (¬ v336 = 5 → K y335 (qb_st hp336 68 ((7 * x1) + 1) x2))))))) ∧ (¬ x2 = (-1) → ((v_m_isQuay x2) = 0 → K (-1) hp) ∧ (¬ (v_m_isQuay x2) = 0 → (qb_in (7 * x1)) ∧ (qb_in ((7 * x1) + 1)) ∧ (0 ≤ ((7 * x1) + 1) ∧ ((7 * x1) + 1) < 210) ∧ (∀ (y337 : Int), y337 = (hp 68 ((7 * x1) + 1)) → (0 ≤ x2 → K y337 (qb_st hp 68 ((7 * x1) + 1) x2)) ∧ (¬ 0 ≤ x2 → (y337 < 0 → K y337 (qb_st hp 68 ((7 * x1) + 1) x2)) ∧ (¬ y337 < 0 → c_m_waiting hp (fun v338 hp338 => (v338 = 5 → K (-5) hp338) ∧ (¬ v338 = 5 → K y337 (qb_st hp338 68 ((7 * x1) + 1) x2))))))))))) : c_m_lead x1 x2 hp K := by
  unfold c_m_lead
  refine qb_iloadn (pc' := 1) (i := 1) dX11_lead_0 rfl rfl rfl ?_
  refine qb_iconst (pc' := 2) dX11_lead_1 rfl rfl ?_
  refine qb_aloadn (pc' := 3) (i := 0) dX11_lead_2 rfl rfl rfl ?_
  refine qb_geti (pc' := 6) (v := (hp 60 9)) dX11_lead_3 rfl qf_X11_136 qb_s60 rfl rfl ?_
  refine qb_iconst (pc' := 7) dX11_lead_6 rfl rfl ?_
  obtain ⟨g1951, h⟩ := h
  refine qb_isub (pc' := 8) dX11_lead_7 rfl g1951 ?_
  refine qb_callSi (pc' := 11) (as := [.inl x1, .inl 0, .inl ((hp 60 9) - 1)]) (rest := []) dX11_lead_8 rfl qe_mX11_lead_mX11_in rfl rfl rfl (Nat.le_of_ble_eq_true rfl) (Nat.le_of_ble_eq_true rfl) ⟨rfl, rfl⟩ (K := fun vz hpz => (v_m_in x1 0 ((hp 60 9) - 1)) = vz ∧ hp = hpz) (s_m_in x1 0 ((hp 60 9) - 1) hp _ trivial ⟨rfl, rfl⟩) (fun vz hpz ez => ?_)
  obtain ⟨ez1, ez2⟩ := ez
  subst ez1
  subst ez2
  refine qb_feq (tgt := 26) (pc' := 14) dX11_lead_11 rfl rfl (fun c2152 => ?_) (fun c2152 => ?_)
  · have h := h.1 c2152
    refine qb_iconst (pc' := 27) dX11_lead_26 rfl rfl ?_
    exact qb_reti dX11_lead_27 rfl h
  · have h := h.2 c2152
    refine qb_iloadn (pc' := 15) (i := 2) dX11_lead_14 rfl rfl rfl ?_
    refine qb_iconst (pc' := 16) dX11_lead_15 rfl rfl ?_
    refine qb_ceq (tgt := 28) (pc' := 19) dX11_lead_16 rfl rfl (fun c2153 => ?_) (fun c2153 => ?_)
    · have h := h.1 c2153
      refine qb_aloadn (pc' := 29) (i := 0) dX11_lead_28 rfl rfl rfl ?_
      refine qb_geta (pc' := 32) dX11_lead_29 rfl qf_X11_31 qb_s60 rfl ?_
      refine qb_bipush (pc' := 34) dX11_lead_32 rfl rfl rfl ?_
      refine qb_iloadn (pc' := 35) (i := 1) dX11_lead_34 rfl rfl rfl ?_
      obtain ⟨g1952, h⟩ := h
      refine qb_imul (pc' := 36) dX11_lead_35 rfl g1952 ?_
      refine qb_iconst (pc' := 37) dX11_lead_36 rfl rfl ?_
      obtain ⟨g1953, h⟩ := h
      refine qb_iadd (pc' := 38) dX11_lead_37 rfl g1953 ?_
      obtain ⟨g1954, h⟩ := h
      refine qb_iald (pc' := 39) (v := (hp 68 ((7 * x1) + 1))) dX11_lead_38 rfl qb_s68 g1954.1 g1954.2 rfl ?_
      refine qb_istoreny (pc' := 40) (Lf := fun y335 => [qb_a 60, qb_i x1, qb_i x2, qb_i y335]) dX11_lead_39 rfl rfl (Nat.le_of_ble_eq_true rfl) rfl (fun _ => rfl) (fun y335 ey335 => ?_)
      have h := h y335 ey335
      refine qb_iloadn (pc' := 41) (i := 2) dX11_lead_40 rfl rfl rfl ?_
      refine qb_fge (tgt := 59) (pc' := 44) dX11_lead_41 rfl rfl (fun c2154 => ?_) (fun c2154 => ?_)
      · have h := h.1 c2154
        refine qb_aloadn (pc' := 60) (i := 0) dX11_lead_59 rfl rfl rfl ?_
        refine qb_geta (pc' := 63) dX11_lead_60 rfl qf_X11_31 qb_s60 rfl ?_
        refine qb_bipush (pc' := 65) dX11_lead_63 rfl rfl rfl ?_
        refine qb_iloadn (pc' := 66) (i := 1) dX11_lead_65 rfl rfl rfl ?_
        refine qb_imul (pc' := 67) dX11_lead_66 rfl g1952 ?_
        refine qb_iconst (pc' := 68) dX11_lead_67 rfl rfl ?_
        refine qb_iadd (pc' := 69) dX11_lead_68 rfl g1953 ?_
        refine qb_iloadn (pc' := 70) (i := 2) dX11_lead_69 rfl rfl rfl ?_
        refine qb_iast (pc' := 71) dX11_lead_70 rfl qb_s68 g1954.1 g1954.2 ?_
        refine qb_iloadn (pc' := 72) (i := 3) dX11_lead_71 rfl rfl rfl ?_
        exact qb_reti dX11_lead_72 rfl h
      · have h := h.2 c2154
        refine qb_iloadn (pc' := 45) (i := 3) dX11_lead_44 rfl rfl rfl ?_
        refine qb_flt (tgt := 59) (pc' := 48) dX11_lead_45 rfl rfl (fun c2155 => ?_) (fun c2155 => ?_)
        · have h := h.1 c2155
          refine qb_aloadn (pc' := 60) (i := 0) dX11_lead_59 rfl rfl rfl ?_
          refine qb_geta (pc' := 63) dX11_lead_60 rfl qf_X11_31 qb_s60 rfl ?_
          refine qb_bipush (pc' := 65) dX11_lead_63 rfl rfl rfl ?_
          refine qb_iloadn (pc' := 66) (i := 1) dX11_lead_65 rfl rfl rfl ?_
          refine qb_imul (pc' := 67) dX11_lead_66 rfl g1952 ?_
          refine qb_iconst (pc' := 68) dX11_lead_67 rfl rfl ?_
          refine qb_iadd (pc' := 69) dX11_lead_68 rfl g1953 ?_
          refine qb_iloadn (pc' := 70) (i := 2) dX11_lead_69 rfl rfl rfl ?_
          refine qb_iast (pc' := 71) dX11_lead_70 rfl qb_s68 g1954.1 g1954.2 ?_
          refine qb_iloadn (pc' := 72) (i := 3) dX11_lead_71 rfl rfl rfl ?_
          exact qb_reti dX11_lead_72 rfl h
        · have h := h.2 c2155
          refine qb_aloadn (pc' := 49) (i := 0) dX11_lead_48 rfl rfl rfl ?_
          refine qb_callVi (pc' := 52) (b := 60) (as := []) (rest := []) dX11_lead_49 rfl qe_mX11_lead_mX11_waiting rfl rfl qb_s60 rfl rfl (Nat.le_of_ble_eq_true rfl) (Nat.le_of_ble_eq_true rfl) ⟨rfl, rfl⟩ h (fun v336 hp336 h => ?_)
          refine qb_iconst (pc' := 53) dX11_lead_52 rfl rfl ?_
          refine qb_cne (tgt := 59) (pc' := 56) dX11_lead_53 rfl rfl (fun c2156 => ?_) (fun c2156 => ?_)
          · have h := h.2 c2156
            refine qb_aloadn (pc' := 60) (i := 0) dX11_lead_59 rfl rfl rfl ?_
            refine qb_geta (pc' := 63) dX11_lead_60 rfl qf_X11_31 qb_s60 rfl ?_
            refine qb_bipush (pc' := 65) dX11_lead_63 rfl rfl rfl ?_
            refine qb_iloadn (pc' := 66) (i := 1) dX11_lead_65 rfl rfl rfl ?_
            refine qb_imul (pc' := 67) dX11_lead_66 rfl g1952 ?_
            refine qb_iconst (pc' := 68) dX11_lead_67 rfl rfl ?_
            refine qb_iadd (pc' := 69) dX11_lead_68 rfl g1953 ?_
            refine qb_iloadn (pc' := 70) (i := 2) dX11_lead_69 rfl rfl rfl ?_
            refine qb_iast (pc' := 71) dX11_lead_70 rfl qb_s68 g1954.1 g1954.2 ?_
            refine qb_iloadn (pc' := 72) (i := 3) dX11_lead_71 rfl rfl rfl ?_
            exact qb_reti dX11_lead_72 rfl h
          · have h := h.1 c2156
            refine qb_bipush (pc' := 58) dX11_lead_56 rfl rfl rfl ?_
            exact qb_reti dX11_lead_58 rfl h
    · have h := h.2 c2153
      refine qb_iloadn (pc' := 20) (i := 2) dX11_lead_19 rfl rfl rfl ?_
      refine qb_callSi (pc' := 23) (as := [.inl x2]) (rest := []) dX11_lead_20 rfl qe_mX11_lead_mX11_isQuay rfl rfl rfl (Nat.le_of_ble_eq_true rfl) (Nat.le_of_ble_eq_true rfl) ⟨rfl, rfl⟩ (K := fun vz hpz => (v_m_isQuay x2) = vz ∧ hp = hpz) (s_m_isQuay x2 hp _ trivial ⟨rfl, rfl⟩) (fun vz hpz ez => ?_)
      obtain ⟨ez1, ez2⟩ := ez
      subst ez1
      subst ez2
      refine qb_fne (tgt := 28) (pc' := 26) dX11_lead_23 rfl rfl (fun c2157 => ?_) (fun c2157 => ?_)
      · have h := h.2 c2157
        refine qb_aloadn (pc' := 29) (i := 0) dX11_lead_28 rfl rfl rfl ?_
        refine qb_geta (pc' := 32) dX11_lead_29 rfl qf_X11_31 qb_s60 rfl ?_
        refine qb_bipush (pc' := 34) dX11_lead_32 rfl rfl rfl ?_
        refine qb_iloadn (pc' := 35) (i := 1) dX11_lead_34 rfl rfl rfl ?_
        obtain ⟨g1955, h⟩ := h
        refine qb_imul (pc' := 36) dX11_lead_35 rfl g1955 ?_
        refine qb_iconst (pc' := 37) dX11_lead_36 rfl rfl ?_
        obtain ⟨g1956, h⟩ := h
        refine qb_iadd (pc' := 38) dX11_lead_37 rfl g1956 ?_
        obtain ⟨g1957, h⟩ := h
        refine qb_iald (pc' := 39) (v := (hp 68 ((7 * x1) + 1))) dX11_lead_38 rfl qb_s68 g1957.1 g1957.2 rfl ?_
        refine qb_istoreny (pc' := 40) (Lf := fun y337 => [qb_a 60, qb_i x1, qb_i x2, qb_i y337]) dX11_lead_39 rfl rfl (Nat.le_of_ble_eq_true rfl) rfl (fun _ => rfl) (fun y337 ey337 => ?_)
        have h := h y337 ey337
        refine qb_iloadn (pc' := 41) (i := 2) dX11_lead_40 rfl rfl rfl ?_
        refine qb_fge (tgt := 59) (pc' := 44) dX11_lead_41 rfl rfl (fun c2158 => ?_) (fun c2158 => ?_)
        · have h := h.1 c2158
          refine qb_aloadn (pc' := 60) (i := 0) dX11_lead_59 rfl rfl rfl ?_
          refine qb_geta (pc' := 63) dX11_lead_60 rfl qf_X11_31 qb_s60 rfl ?_
          refine qb_bipush (pc' := 65) dX11_lead_63 rfl rfl rfl ?_
          refine qb_iloadn (pc' := 66) (i := 1) dX11_lead_65 rfl rfl rfl ?_
          refine qb_imul (pc' := 67) dX11_lead_66 rfl g1955 ?_
          refine qb_iconst (pc' := 68) dX11_lead_67 rfl rfl ?_
          refine qb_iadd (pc' := 69) dX11_lead_68 rfl g1956 ?_
          refine qb_iloadn (pc' := 70) (i := 2) dX11_lead_69 rfl rfl rfl ?_
          refine qb_iast (pc' := 71) dX11_lead_70 rfl qb_s68 g1957.1 g1957.2 ?_
          refine qb_iloadn (pc' := 72) (i := 3) dX11_lead_71 rfl rfl rfl ?_
          exact qb_reti dX11_lead_72 rfl h
        · have h := h.2 c2158
          refine qb_iloadn (pc' := 45) (i := 3) dX11_lead_44 rfl rfl rfl ?_
          refine qb_flt (tgt := 59) (pc' := 48) dX11_lead_45 rfl rfl (fun c2159 => ?_) (fun c2159 => ?_)
          · have h := h.1 c2159
            refine qb_aloadn (pc' := 60) (i := 0) dX11_lead_59 rfl rfl rfl ?_
            refine qb_geta (pc' := 63) dX11_lead_60 rfl qf_X11_31 qb_s60 rfl ?_
            refine qb_bipush (pc' := 65) dX11_lead_63 rfl rfl rfl ?_
            refine qb_iloadn (pc' := 66) (i := 1) dX11_lead_65 rfl rfl rfl ?_
            refine qb_imul (pc' := 67) dX11_lead_66 rfl g1955 ?_
            refine qb_iconst (pc' := 68) dX11_lead_67 rfl rfl ?_
            refine qb_iadd (pc' := 69) dX11_lead_68 rfl g1956 ?_
            refine qb_iloadn (pc' := 70) (i := 2) dX11_lead_69 rfl rfl rfl ?_
            refine qb_iast (pc' := 71) dX11_lead_70 rfl qb_s68 g1957.1 g1957.2 ?_
            refine qb_iloadn (pc' := 72) (i := 3) dX11_lead_71 rfl rfl rfl ?_
            exact qb_reti dX11_lead_72 rfl h
          · have h := h.2 c2159
            refine qb_aloadn (pc' := 49) (i := 0) dX11_lead_48 rfl rfl rfl ?_
            refine qb_callVi (pc' := 52) (b := 60) (as := []) (rest := []) dX11_lead_49 rfl qe_mX11_lead_mX11_waiting rfl rfl qb_s60 rfl rfl (Nat.le_of_ble_eq_true rfl) (Nat.le_of_ble_eq_true rfl) ⟨rfl, rfl⟩ h (fun v338 hp338 h => ?_)
            refine qb_iconst (pc' := 53) dX11_lead_52 rfl rfl ?_
            refine qb_cne (tgt := 59) (pc' := 56) dX11_lead_53 rfl rfl (fun c2160 => ?_) (fun c2160 => ?_)
            · have h := h.2 c2160
              refine qb_aloadn (pc' := 60) (i := 0) dX11_lead_59 rfl rfl rfl ?_
              refine qb_geta (pc' := 63) dX11_lead_60 rfl qf_X11_31 qb_s60 rfl ?_
              refine qb_bipush (pc' := 65) dX11_lead_63 rfl rfl rfl ?_
              refine qb_iloadn (pc' := 66) (i := 1) dX11_lead_65 rfl rfl rfl ?_
              refine qb_imul (pc' := 67) dX11_lead_66 rfl g1955 ?_
              refine qb_iconst (pc' := 68) dX11_lead_67 rfl rfl ?_
              refine qb_iadd (pc' := 69) dX11_lead_68 rfl g1956 ?_
              refine qb_iloadn (pc' := 70) (i := 2) dX11_lead_69 rfl rfl rfl ?_
              refine qb_iast (pc' := 71) dX11_lead_70 rfl qb_s68 g1957.1 g1957.2 ?_
              refine qb_iloadn (pc' := 72) (i := 3) dX11_lead_71 rfl rfl rfl ?_
              exact qb_reti dX11_lead_72 rfl h
            · have h := h.1 c2160
              refine qb_bipush (pc' := 58) dX11_lead_56 rfl rfl rfl ?_
              exact qb_reti dX11_lead_58 rfl h
      · have h := h.1 c2157
        refine qb_iconst (pc' := 27) dX11_lead_26 rfl rfl ?_
        exact qb_reti dX11_lead_27 rfl h
def c_m_priceAt (x1 : Int) (x2 : Int) (x3 : Int) (hp : qb_H) (K : Int → qb_H → Prop) : Prop := qb_R mX11_priceAt 0 0 qb_sh 0 [qb_a 60, qb_i x1, qb_i x2, qb_i x3, none, none, none] [] hp (qb_I qb_sh K)
def r_m_priceAt_7 (x1 : Int) (x2 : Int) (x3 : Int) (x4 : Int) (x5 : Int) (hp : qb_H) (K : Int → qb_H → Prop) : Prop := qb_R mX11_priceAt 0 0 qb_sh 7 [qb_a 60, qb_i x1, qb_i x2, qb_i x3, qb_i x4, qb_i x5, none] [] hp (qb_I qb_sh K)
theorem b_m_priceAt {x1 x2 x3 : Int} {hp : qb_H} {K : Int → qb_H → Prop} (h : r_m_priceAt_7 x1 x2 x3 (-6) 0 hp K) : c_m_priceAt x1 x2 x3 hp K := by
  unfold c_m_priceAt
  refine qb_bipush (pc' := 2) dX11_priceAt_0 rfl rfl rfl ?_
  refine qb_istore (pc' := 4) (L' := [qb_a 60, qb_i x1, qb_i x2, qb_i x3, qb_i (-6), none, none]) dX11_priceAt_2 rfl (Nat.le_of_ble_eq_true rfl) rfl rfl ?_
  refine qb_iconst (pc' := 5) dX11_priceAt_4 rfl rfl ?_
  refine qb_istore (pc' := 7) (L' := [qb_a 60, qb_i x1, qb_i x2, qb_i x3, qb_i (-6), qb_i 0, none]) dX11_priceAt_5 rfl (Nat.le_of_ble_eq_true rfl) rfl rfl ?_
  refine qb_cut (L' := [qb_a 60, qb_i x1, qb_i x2, qb_i x3, qb_i (-6), qb_i 0, none]) [true, true, true, true, true, true, false] rfl ?_
  exact h
theorem b_m_priceAt_7 {x1 x2 x3 x4 x5 : Int} {hp : qb_H} {K : Int → qb_H → Prop} (h : ((hp 60 24) ≤ x5 → (0 ≤ x4 → 0 ≤ x4 ∧ x4 < 60) ∧ (∀ (y339 : Int), y339 = (if 0 ≤ x4 then (hp 81 x4) else 0) → K y339 hp)) ∧ (¬ (hp 60 24) ≤ x5 → (0 ≤ x5 ∧ x5 < 60) ∧ (∀ (y340 : Int), y340 = (if (hp 79 x5) = x1 then (if x3 < (hp 82 x5) then (0 : Int) else (if x2 < (hp 80 x5) then (0 : Int) else 1)) else 0) → (¬ y340 = 0 → (¬ x4 < 0 → 0 ≤ x4 ∧ x4 < 60)) ∧ (∀ (y341 : Int), y341 = (if y340 = 0 then x4 else (if x4 < 0 then x5 else (if (hp 80 x5) < (hp 80 x4) then x4 else x5))) → r_m_priceAt_7 x1 x2 x3 y341 (x5 + 1) hp K)))) : r_m_priceAt_7 x1 x2 x3 x4 x5 hp K := by
  unfold r_m_priceAt_7
  refine qb_iload (pc' := 9) dX11_priceAt_7 rfl rfl ?_
  refine qb_aloadn (pc' := 10) (i := 0) dX11_priceAt_9 rfl rfl rfl ?_
  refine qb_geti (pc' := 13) (v := (hp 60 24)) dX11_priceAt_10 rfl qf_X11_266 qb_s60 rfl rfl ?_
  refine qb_cge (tgt := 98) (pc' := 16) dX11_priceAt_13 rfl rfl (fun c2166 => ?_) (fun c2166 => ?_)
  · have h := h.1 c2166
    refine qb_iload (pc' := 100) dX11_priceAt_98 rfl rfl ?_
    obtain ⟨ga, h⟩ := h
    have k1476 : ∀ (y339 : Int), y339 = (if 0 ≤ x4 then (hp 81 x4) else 0) → qb_R mX11_priceAt 0 0 qb_sh 114 [none, none, none, none, none, none, none] [.inl y339] hp (qb_I qb_sh K) := by
      intro y339 ey339
      have h := h y339 ey339
      exact qb_reti dX11_priceAt_114 rfl h
    refine qb_fge (tgt := 107) (pc' := 103) dX11_priceAt_100 rfl rfl (fun c2167 => ?_) (fun c2167 => ?_)
    · have h := ga c2167
      refine qb_aloadn (pc' := 108) (i := 0) dX11_priceAt_107 rfl rfl rfl ?_
      refine qb_geta (pc' := 111) dX11_priceAt_108 rfl qf_X11_70 qb_s60 rfl ?_
      refine qb_iload (pc' := 113) dX11_priceAt_111 rfl rfl ?_
      have g1963 := h
      refine qb_iald (pc' := 114) (v := (hp 81 x4)) dX11_priceAt_113 rfl qb_s81 g1963.1 g1963.2 rfl ?_
      refine qb_cut (L' := [none, none, none, none, none, none, none]) [false, false, false, false, false, false, false] rfl ?_
      exact k1476 _ (if_pos c2167).symm
    · refine qb_iconst (pc' := 104) dX11_priceAt_103 rfl rfl ?_
      refine qb_goto (tgt := 114) dX11_priceAt_104 rfl ?_
      refine qb_cut (L' := [none, none, none, none, none, none, none]) [false, false, false, false, false, false, false] rfl ?_
      exact k1476 _ (if_neg c2167).symm
  · have h := h.2 c2166
    refine qb_aloadn (pc' := 17) (i := 0) dX11_priceAt_16 rfl rfl rfl ?_
    refine qb_geta (pc' := 20) dX11_priceAt_17 rfl qf_X11_64 qb_s60 rfl ?_
    refine qb_iload (pc' := 22) dX11_priceAt_20 rfl rfl ?_
    obtain ⟨g1964, h⟩ := h
    refine qb_iald (pc' := 23) (v := (hp 79 x5)) dX11_priceAt_22 rfl qb_s79 g1964.1 g1964.2 rfl ?_
    refine qb_iloadn (pc' := 24) (i := 1) dX11_priceAt_23 rfl rfl rfl ?_
    have k1480 : ∀ (y340 : Int), y340 = (if (hp 79 x5) = x1 then (if x3 < (hp 82 x5) then (0 : Int) else (if x2 < (hp 80 x5) then (0 : Int) else 1)) else 0) → qb_R mX11_priceAt 0 0 qb_sh 54 [qb_a 60, qb_i x1, qb_i x2, qb_i x3, qb_i x4, qb_i x5, none] [.inl y340] hp (qb_I qb_sh K) := by
      intro y340 ey340
      have h := h y340 ey340
      refine qb_istore (pc' := 56) (L' := [qb_a 60, qb_i x1, qb_i x2, qb_i x3, qb_i x4, qb_i x5, qb_i y340]) dX11_priceAt_54 rfl (Nat.le_of_ble_eq_true rfl) rfl rfl ?_
      refine qb_iload (pc' := 58) dX11_priceAt_56 rfl rfl ?_
      obtain ⟨gb, h⟩ := h
      have k1487 : ∀ (y341 : Int), y341 = (if y340 = 0 then x4 else (if x4 < 0 then x5 else (if (hp 80 x5) < (hp 80 x4) then x4 else x5))) → qb_R mX11_priceAt 0 0 qb_sh 90 [qb_a 60, qb_i x1, qb_i x2, qb_i x3, none, qb_i x5, none] [.inl y341] hp (qb_I qb_sh K) := by
        intro y341 ey341
        have h := h y341 ey341
        refine qb_istore (pc' := 92) (L' := [qb_a 60, qb_i x1, qb_i x2, qb_i x3, qb_i y341, qb_i x5, none]) dX11_priceAt_90 rfl (Nat.le_of_ble_eq_true rfl) rfl rfl ?_
        refine qb_iinc (pc' := 95) (L' := [qb_a 60, qb_i x1, qb_i x2, qb_i x3, qb_i y341, qb_i (x5 + 1), none]) dX11_priceAt_92 rfl rfl (qb_ina g1964 (by decide)) (Nat.le_of_ble_eq_true rfl) rfl rfl ?_
        refine qb_goto (tgt := 7) dX11_priceAt_95 rfl ?_
        refine qb_cut (L' := [qb_a 60, qb_i x1, qb_i x2, qb_i x3, qb_i y341, qb_i (x5 + 1), none]) [true, true, true, true, true, true, false] rfl ?_
        exact h
      refine qb_feq (tgt := 88) (pc' := 61) dX11_priceAt_58 rfl rfl (fun c2175 => ?_) (fun c2175 => ?_)
      · refine qb_iload (pc' := 90) dX11_priceAt_88 rfl rfl ?_
        refine qb_cut (L' := [qb_a 60, qb_i x1, qb_i x2, qb_i x3, none, qb_i x5, none]) [true, true, true, true, false, true, false] rfl ?_
        exact k1487 _ (if_pos c2175).symm
      · have h := gb c2175
        refine qb_iload (pc' := 63) dX11_priceAt_61 rfl rfl ?_
        have gb := h
        have k1489 : qb_R mX11_priceAt 0 0 qb_sh 90 [qb_a 60, qb_i x1, qb_i x2, qb_i x3, none, qb_i x5, none] [.inl (if x4 < 0 then x5 else (if (hp 80 x5) < (hp 80 x4) then x4 else x5))] hp (qb_I qb_sh K) := by
          refine qb_cut (L' := [qb_a 60, qb_i x1, qb_i x2, qb_i x3, none, qb_i x5, none]) [true, true, true, true, false, true, false] rfl ?_
          exact k1487 _ (if_neg c2175).symm
        refine qb_flt (tgt := 83) (pc' := 66) dX11_priceAt_63 rfl rfl (fun c2179 => ?_) (fun c2179 => ?_)
        · refine qb_iload (pc' := 85) dX11_priceAt_83 rfl rfl ?_
          refine qb_goto (tgt := 90) dX11_priceAt_85 rfl ?_
          refine qb_cut (L' := [qb_a 60, qb_i x1, qb_i x2, qb_i x3, none, qb_i x5, none]) [true, true, true, true, false, true, false] rfl ?_
          simpa only [if_pos c2179] using k1489
        · have h := gb c2179
          refine qb_aloadn (pc' := 67) (i := 0) dX11_priceAt_66 rfl rfl rfl ?_
          refine qb_geta (pc' := 70) dX11_priceAt_67 rfl qf_X11_67 qb_s60 rfl ?_
          refine qb_iload (pc' := 72) dX11_priceAt_70 rfl rfl ?_
          refine qb_iald (pc' := 73) (v := (hp 80 x5)) dX11_priceAt_72 rfl qb_s80 g1964.1 g1964.2 rfl ?_
          refine qb_aloadn (pc' := 74) (i := 0) dX11_priceAt_73 rfl rfl rfl ?_
          refine qb_geta (pc' := 77) dX11_priceAt_74 rfl qf_X11_67 qb_s60 rfl ?_
          refine qb_iload (pc' := 79) dX11_priceAt_77 rfl rfl ?_
          have g1968 := h
          refine qb_iald (pc' := 80) (v := (hp 80 x4)) dX11_priceAt_79 rfl qb_s80 g1968.1 g1968.2 rfl ?_
          have k1490 : qb_R mX11_priceAt 0 0 qb_sh 90 [qb_a 60, qb_i x1, qb_i x2, qb_i x3, none, qb_i x5, none] [.inl (if (hp 80 x5) < (hp 80 x4) then x4 else x5)] hp (qb_I qb_sh K) := by
            refine qb_cut (L' := [qb_a 60, qb_i x1, qb_i x2, qb_i x3, none, qb_i x5, none]) [true, true, true, true, false, true, false] rfl ?_
            simpa only [if_neg c2179] using k1489
          refine qb_clt (tgt := 88) (pc' := 83) dX11_priceAt_80 rfl rfl (fun c2181 => ?_) (fun c2181 => ?_)
          · refine qb_iload (pc' := 90) dX11_priceAt_88 rfl rfl ?_
            refine qb_cut (L' := [qb_a 60, qb_i x1, qb_i x2, qb_i x3, none, qb_i x5, none]) [true, true, true, true, false, true, false] rfl ?_
            simpa only [if_pos c2181] using k1490
          · refine qb_iload (pc' := 85) dX11_priceAt_83 rfl rfl ?_
            refine qb_goto (tgt := 90) dX11_priceAt_85 rfl ?_
            refine qb_cut (L' := [qb_a 60, qb_i x1, qb_i x2, qb_i x3, none, qb_i x5, none]) [true, true, true, true, false, true, false] rfl ?_
            simpa only [if_neg c2181] using k1490
    refine qb_cne (tgt := 53) (pc' := 27) dX11_priceAt_24 rfl rfl (fun c2168 => ?_) (fun c2168 => ?_)
    · refine qb_iconst (pc' := 54) dX11_priceAt_53 rfl rfl ?_
      refine qb_cut (L' := [qb_a 60, qb_i x1, qb_i x2, qb_i x3, qb_i x4, qb_i x5, none]) [true, true, true, true, true, true, false] rfl ?_
      exact k1480 _ (if_neg c2168).symm
    · refine qb_aloadn (pc' := 28) (i := 0) dX11_priceAt_27 rfl rfl rfl ?_
      refine qb_geta (pc' := 31) dX11_priceAt_28 rfl qf_X11_73 qb_s60 rfl ?_
      refine qb_iload (pc' := 33) dX11_priceAt_31 rfl rfl ?_
      refine qb_iald (pc' := 34) (v := (hp 82 x5)) dX11_priceAt_33 rfl qb_s82 g1964.1 g1964.2 rfl ?_
      refine qb_iloadn (pc' := 35) (i := 3) dX11_priceAt_34 rfl rfl rfl ?_
      have k1482 : qb_R mX11_priceAt 0 0 qb_sh 54 [qb_a 60, qb_i x1, qb_i x2, qb_i x3, qb_i x4, qb_i x5, none] [.inl (if x3 < (hp 82 x5) then (0 : Int) else (if x2 < (hp 80 x5) then (0 : Int) else 1))] hp (qb_I qb_sh K) := by
        refine qb_cut (L' := [qb_a 60, qb_i x1, qb_i x2, qb_i x3, qb_i x4, qb_i x5, none]) [true, true, true, true, true, true, false] rfl ?_
        exact k1480 _ (if_pos c2168).symm
      refine qb_cgt (tgt := 53) (pc' := 38) dX11_priceAt_35 rfl rfl (fun c2172 => ?_) (fun c2172 => ?_)
      · refine qb_iconst (pc' := 54) dX11_priceAt_53 rfl rfl ?_
        refine qb_cut (L' := [qb_a 60, qb_i x1, qb_i x2, qb_i x3, qb_i x4, qb_i x5, none]) [true, true, true, true, true, true, false] rfl ?_
        simpa only [if_pos c2172] using k1482
      · refine qb_aloadn (pc' := 39) (i := 0) dX11_priceAt_38 rfl rfl rfl ?_
        refine qb_geta (pc' := 42) dX11_priceAt_39 rfl qf_X11_67 qb_s60 rfl ?_
        refine qb_iload (pc' := 44) dX11_priceAt_42 rfl rfl ?_
        refine qb_iald (pc' := 45) (v := (hp 80 x5)) dX11_priceAt_44 rfl qb_s80 g1964.1 g1964.2 rfl ?_
        refine qb_iloadn (pc' := 46) (i := 2) dX11_priceAt_45 rfl rfl rfl ?_
        have k1483 : qb_R mX11_priceAt 0 0 qb_sh 54 [qb_a 60, qb_i x1, qb_i x2, qb_i x3, qb_i x4, qb_i x5, none] [.inl (if x2 < (hp 80 x5) then (0 : Int) else 1)] hp (qb_I qb_sh K) := by
          refine qb_cut (L' := [qb_a 60, qb_i x1, qb_i x2, qb_i x3, qb_i x4, qb_i x5, none]) [true, true, true, true, true, true, false] rfl ?_
          simpa only [if_neg c2172] using k1482
        refine qb_cgt (tgt := 53) (pc' := 49) dX11_priceAt_46 rfl rfl (fun c2174 => ?_) (fun c2174 => ?_)
        · refine qb_iconst (pc' := 54) dX11_priceAt_53 rfl rfl ?_
          refine qb_cut (L' := [qb_a 60, qb_i x1, qb_i x2, qb_i x3, qb_i x4, qb_i x5, none]) [true, true, true, true, true, true, false] rfl ?_
          simpa only [if_pos c2174] using k1483
        · refine qb_iconst (pc' := 50) dX11_priceAt_49 rfl rfl ?_
          refine qb_goto (tgt := 54) dX11_priceAt_50 rfl ?_
          refine qb_cut (L' := [qb_a 60, qb_i x1, qb_i x2, qb_i x3, qb_i x4, qb_i x5, none]) [true, true, true, true, true, true, false] rfl ?_
          simpa only [if_neg c2174] using k1483
def c_m_layMost (x1 : Int) (hp : qb_H) (K : qb_H → Prop) : Prop := qb_R mX11_layMost 0 0 qb_sh 0 [qb_a 60, qb_i x1, none, none, none, none, none, none, none, none] [] hp (qb_U qb_sh K)
def r_m_layMost_2 (x1 : Int) (x2 : Int) (hp : qb_H) (K : qb_H → Prop) : Prop := qb_R mX11_layMost 0 0 qb_sh 2 [qb_a 60, qb_i x1, qb_i x2, none, none, none, none, none, none, none] [] hp (qb_U qb_sh K)
def r_m_layMost_28 (x1 : Int) (x2 : Int) (hp : qb_H) (K : qb_H → Prop) : Prop := qb_R mX11_layMost 0 0 qb_sh 28 [qb_a 60, qb_i x1, qb_i x2, none, none, none, none, none, none, none] [] hp (qb_U qb_sh K)
def r_m_layMost_62 (x1 : Int) (x2 : Int) (x3 : Int) (x4 : Int) (x5 : Int) (hp : qb_H) (K : qb_H → Prop) : Prop := qb_R mX11_layMost 0 0 qb_sh 62 [qb_a 60, qb_i x1, qb_i x2, qb_i x3, qb_i x4, qb_i x5, none, none, none, none] [] hp (qb_U qb_sh K)
def r_m_layMost_76 (x1 : Int) (x2 : Int) (x3 : Int) (x4 : Int) (x5 : Int) (x6 : Int) (x7 : Int) (hp : qb_H) (K : qb_H → Prop) : Prop := qb_R mX11_layMost 0 0 qb_sh 76 [qb_a 60, qb_i x1, qb_i x2, qb_i x3, qb_i x4, qb_i x5, qb_i x6, qb_i x7, none, none] [] hp (qb_U qb_sh K)
def r_m_layMost_100 (x1 : Int) (x2 : Int) (x3 : Int) (x4 : Int) (x5 : Int) (x6 : Int) (x7 : Int) (x8 : Int) (hp : qb_H) (K : qb_H → Prop) : Prop := qb_R mX11_layMost 0 0 qb_sh 100 [qb_a 60, qb_i x1, qb_i x2, qb_i x3, qb_i x4, qb_i x5, qb_i x6, qb_i x7, qb_i x8, none] [] hp (qb_U qb_sh K)
theorem b_m_layMost {x1 : Int} {hp : qb_H} {K : qb_H → Prop} (h : r_m_layMost_2 x1 0 hp K) : c_m_layMost x1 hp K := by
  unfold c_m_layMost
  refine qb_iconst (pc' := 1) dX11_layMost_0 rfl rfl ?_
  refine qb_istoren (pc' := 2) (i := 2) (L' := [qb_a 60, qb_i x1, qb_i 0, none, none, none, none, none, none, none]) dX11_layMost_1 rfl rfl (Nat.le_of_ble_eq_true rfl) rfl rfl ?_
  refine qb_cut (L' := [qb_a 60, qb_i x1, qb_i 0, none, none, none, none, none, none, none]) [true, true, true, false, false, false, false, false, false, false] rfl ?_
  exact h
theorem b_m_layMost_2 {x1 x2 : Int} {hp : qb_H} {K : qb_H → Prop} (h : (441 ≤ x2 → r_m_layMost_28 x1 3 hp K) ∧ (¬ 441 ≤ x2 → (qb_in (1764 + x2)) ∧ (0 ≤ (1764 + x2) ∧ (1764 + x2) < 2205) ∧ (qb_in (x2 + 1)) ∧ r_m_layMost_2 x1 (x2 + 1) (qb_st hp 88 (1764 + x2) 0) K)) : r_m_layMost_2 x1 x2 hp K := by
  unfold r_m_layMost_2
  refine qb_iloadn (pc' := 3) (i := 2) dX11_layMost_2 rfl rfl rfl ?_
  refine qb_sipush (pc' := 6) dX11_layMost_3 rfl rfl rfl ?_
  refine qb_cge (tgt := 26) (pc' := 9) dX11_layMost_6 rfl rfl (fun c2164 => ?_) (fun c2164 => ?_)
  · have h := h.1 c2164
    refine qb_iconst (pc' := 27) dX11_layMost_26 rfl rfl ?_
    refine qb_istoren (pc' := 28) (i := 2) (L' := [qb_a 60, qb_i x1, qb_i 3, none, none, none, none, none, none, none]) dX11_layMost_27 rfl rfl (Nat.le_of_ble_eq_true rfl) rfl rfl ?_
    refine qb_cut (L' := [qb_a 60, qb_i x1, qb_i 3, none, none, none, none, none, none, none]) [true, true, true, false, false, false, false, false, false, false] rfl ?_
    exact h
  · have h := h.2 c2164
    refine qb_aloadn (pc' := 10) (i := 0) dX11_layMost_9 rfl rfl rfl ?_
    refine qb_geta (pc' := 13) dX11_layMost_10 rfl qf_X11_91 qb_s60 rfl ?_
    refine qb_sipush (pc' := 16) dX11_layMost_13 rfl rfl rfl ?_
    refine qb_iloadn (pc' := 17) (i := 2) dX11_layMost_16 rfl rfl rfl ?_
    obtain ⟨g1958, h⟩ := h
    refine qb_iadd (pc' := 18) dX11_layMost_17 rfl g1958 ?_
    refine qb_iconst (pc' := 19) dX11_layMost_18 rfl rfl ?_
    obtain ⟨g1959, h⟩ := h
    refine qb_iast (pc' := 20) dX11_layMost_19 rfl qb_s88 g1959.1 g1959.2 ?_
    obtain ⟨g1960, h⟩ := h
    refine qb_iinc (pc' := 23) (L' := [qb_a 60, qb_i x1, qb_i (x2 + 1), none, none, none, none, none, none, none]) dX11_layMost_20 rfl rfl g1960 (Nat.le_of_ble_eq_true rfl) rfl rfl ?_
    refine qb_goto (tgt := 2) dX11_layMost_23 rfl ?_
    refine qb_cut (L' := [qb_a 60, qb_i x1, qb_i (x2 + 1), none, none, none, none, none, none, none]) [true, true, true, false, false, false, false, false, false, false] rfl ?_
    exact h
theorem b_m_layMost_28 {x1 x2 : Int} {hp : qb_H} {K : qb_H → Prop} (h : (x2 < 0 → K hp) ∧ (¬ x2 < 0 → (0 ≤ x2 ∧ x2 < 4) ∧ c_m_priceAt 0 (hp 77 x2) x1 hp (fun v342 hp342 => c_m_priceAt 1 (hp342 77 x2) x1 hp342 (fun v343 hp343 => r_m_layMost_62 x1 x2 v342 v343 0 hp343 K)))) : r_m_layMost_28 x1 x2 hp K := by
  unfold r_m_layMost_28
  refine qb_iloadn (pc' := 29) (i := 2) dX11_layMost_28 rfl rfl rfl ?_
  refine qb_flt (tgt := 216) (pc' := 32) dX11_layMost_29 rfl rfl (fun c2165 => ?_) (fun c2165 => ?_)
  · have h := h.1 c2165
    exact qb_retv dX11_layMost_216 rfl h
  · have h := h.2 c2165
    refine qb_aloadn (pc' := 33) (i := 0) dX11_layMost_32 rfl rfl rfl ?_
    refine qb_iconst (pc' := 34) dX11_layMost_33 rfl rfl ?_
    refine qb_aloadn (pc' := 35) (i := 0) dX11_layMost_34 rfl rfl rfl ?_
    refine qb_geta (pc' := 38) dX11_layMost_35 rfl qf_X11_58 qb_s60 rfl ?_
    refine qb_iloadn (pc' := 39) (i := 2) dX11_layMost_38 rfl rfl rfl ?_
    obtain ⟨g1961, h⟩ := h
    refine qb_iald (pc' := 40) (v := (hp 77 x2)) dX11_layMost_39 rfl qb_s77 g1961.1 g1961.2 rfl ?_
    refine qb_iloadn (pc' := 41) (i := 1) dX11_layMost_40 rfl rfl rfl ?_
    refine qb_callVi (pc' := 44) (b := 60) (as := [.inl 0, .inl (hp 77 x2), .inl x1]) (rest := []) dX11_layMost_41 rfl qe_mX11_layMost_mX11_priceAt rfl rfl qb_s60 rfl rfl (Nat.le_of_ble_eq_true rfl) (Nat.le_of_ble_eq_true rfl) ⟨rfl, rfl⟩ h (fun v342 hp342 h => ?_)
    refine qb_istoren (pc' := 45) (i := 3) (L' := [qb_a 60, qb_i x1, qb_i x2, qb_i v342, none, none, none, none, none, none]) dX11_layMost_44 rfl rfl (Nat.le_of_ble_eq_true rfl) rfl rfl ?_
    refine qb_aloadn (pc' := 46) (i := 0) dX11_layMost_45 rfl rfl rfl ?_
    refine qb_iconst (pc' := 47) dX11_layMost_46 rfl rfl ?_
    refine qb_aloadn (pc' := 48) (i := 0) dX11_layMost_47 rfl rfl rfl ?_
    refine qb_geta (pc' := 51) dX11_layMost_48 rfl qf_X11_58 qb_s60 rfl ?_
    refine qb_iloadn (pc' := 52) (i := 2) dX11_layMost_51 rfl rfl rfl ?_
    refine qb_iald (pc' := 53) (v := (hp342 77 x2)) dX11_layMost_52 rfl qb_s77 g1961.1 g1961.2 rfl ?_
    refine qb_iloadn (pc' := 54) (i := 1) dX11_layMost_53 rfl rfl rfl ?_
    refine qb_callVi (pc' := 57) (b := 60) (as := [.inl 1, .inl (hp342 77 x2), .inl x1]) (rest := []) dX11_layMost_54 rfl qe_mX11_layMost_mX11_priceAt rfl rfl qb_s60 rfl rfl (Nat.le_of_ble_eq_true rfl) (Nat.le_of_ble_eq_true rfl) ⟨rfl, rfl⟩ h (fun v343 hp343 h => ?_)
    refine qb_istore (pc' := 59) (L' := [qb_a 60, qb_i x1, qb_i x2, qb_i v342, qb_i v343, none, none, none, none, none]) dX11_layMost_57 rfl (Nat.le_of_ble_eq_true rfl) rfl rfl ?_
    refine qb_iconst (pc' := 60) dX11_layMost_59 rfl rfl ?_
    refine qb_istore (pc' := 62) (L' := [qb_a 60, qb_i x1, qb_i x2, qb_i v342, qb_i v343, qb_i 0, none, none, none, none]) dX11_layMost_60 rfl (Nat.le_of_ble_eq_true rfl) rfl rfl ?_
    refine qb_cut (L' := [qb_a 60, qb_i x1, qb_i x2, qb_i v342, qb_i v343, qb_i 0, none, none, none, none]) [true, true, true, true, true, true, false, false, false, false] rfl ?_
    exact h
theorem b_m_layMost_62 {x1 x2 x3 x4 x5 : Int} {hp : qb_H} {K : qb_H → Prop} (h : (441 ≤ x5 → (qb_in (x2 + (-1))) ∧ r_m_layMost_28 x1 (x2 + (-1)) hp K) ∧ (¬ 441 ≤ x5 → r_m_layMost_76 x1 x2 x3 x4 x5 0 0 hp K)) : r_m_layMost_62 x1 x2 x3 x4 x5 hp K := by
  unfold r_m_layMost_62
  refine qb_iload (pc' := 64) dX11_layMost_62 rfl rfl ?_
  refine qb_sipush (pc' := 67) dX11_layMost_64 rfl rfl rfl ?_
  refine qb_cge (tgt := 210) (pc' := 70) dX11_layMost_67 rfl rfl (fun c2182 => ?_) (fun c2182 => ?_)
  · have h := h.1 c2182
    obtain ⟨g1969, h⟩ := h
    refine qb_iinc (pc' := 213) (L' := [qb_a 60, qb_i x1, qb_i (x2 + (-1)), qb_i x3, qb_i x4, qb_i x5, none, none, none, none]) dX11_layMost_210 rfl rfl g1969 (Nat.le_of_ble_eq_true rfl) rfl rfl ?_
    refine qb_goto (tgt := 28) dX11_layMost_213 rfl ?_
    refine qb_cut (L' := [qb_a 60, qb_i x1, qb_i (x2 + (-1)), none, none, none, none, none, none, none]) [true, true, true, false, false, false, false, false, false, false] rfl ?_
    exact h
  · have h := h.2 c2182
    refine qb_iconst (pc' := 71) dX11_layMost_70 rfl rfl ?_
    refine qb_istore (pc' := 73) (L' := [qb_a 60, qb_i x1, qb_i x2, qb_i x3, qb_i x4, qb_i x5, qb_i 0, none, none, none]) dX11_layMost_71 rfl (Nat.le_of_ble_eq_true rfl) rfl rfl ?_
    refine qb_iconst (pc' := 74) dX11_layMost_73 rfl rfl ?_
    refine qb_istore (pc' := 76) (L' := [qb_a 60, qb_i x1, qb_i x2, qb_i x3, qb_i x4, qb_i x5, qb_i 0, qb_i 0, none, none]) dX11_layMost_74 rfl (Nat.le_of_ble_eq_true rfl) rfl rfl ?_
    refine qb_cut (L' := [qb_a 60, qb_i x1, qb_i x2, qb_i x3, qb_i x4, qb_i x5, qb_i 0, qb_i 0, none, none]) [true, true, true, true, true, true, true, true, false, false] rfl ?_
    exact h
theorem b_m_layMost_76 {x1 x2 x3 x4 x5 x6 x7 : Int} {hp : qb_H} {K : qb_H → Prop} (h : (0 ≤ x5) ∧ (((x5 / 21) < x7 → (qb_in (441 * x2)) ∧ (qb_in ((441 * x2) + x5)) ∧ (0 ≤ ((441 * x2) + x5) ∧ ((441 * x2) + x5) < 2205) ∧ (qb_in (x5 + 1)) ∧ r_m_layMost_62 x1 x2 x3 x4 (x5 + 1) (qb_st hp 88 ((441 * x2) + x5) x6) K) ∧ (¬ (x5 / 21) < x7 → (0 ≤ x2 ∧ x2 < 4) ∧ (((hp 78 x2) < x7 → (qb_in (441 * x2)) ∧ (qb_in ((441 * x2) + x5)) ∧ (0 ≤ ((441 * x2) + x5) ∧ ((441 * x2) + x5) < 2205) ∧ (qb_in (x5 + 1)) ∧ r_m_layMost_62 x1 x2 x3 x4 (x5 + 1) (qb_st hp 88 ((441 * x2) + x5) x6) K) ∧ (¬ (hp 78 x2) < x7 → r_m_layMost_100 x1 x2 x3 x4 x5 x6 x7 0 hp K))))) : r_m_layMost_76 x1 x2 x3 x4 x5 x6 x7 hp K := by
  unfold r_m_layMost_76
  refine qb_iload (pc' := 78) dX11_layMost_76 rfl rfl ?_
  refine qb_iload (pc' := 80) dX11_layMost_78 rfl rfl ?_
  refine qb_bipush (pc' := 82) dX11_layMost_80 rfl rfl rfl ?_
  obtain ⟨g1970, h⟩ := h
  refine qb_idiv (pc' := 83) dX11_layMost_82 rfl g1970 (by decide) ?_
  refine qb_cgt (tgt := 189) (pc' := 86) dX11_layMost_83 rfl rfl (fun c2183 => ?_) (fun c2183 => ?_)
  · have h := h.1 c2183
    refine qb_aloadn (pc' := 190) (i := 0) dX11_layMost_189 rfl rfl rfl ?_
    refine qb_geta (pc' := 193) dX11_layMost_190 rfl qf_X11_91 qb_s60 rfl ?_
    refine qb_sipush (pc' := 196) dX11_layMost_193 rfl rfl rfl ?_
    refine qb_iloadn (pc' := 197) (i := 2) dX11_layMost_196 rfl rfl rfl ?_
    obtain ⟨g1971, h⟩ := h
    refine qb_imul (pc' := 198) dX11_layMost_197 rfl g1971 ?_
    refine qb_iload (pc' := 200) dX11_layMost_198 rfl rfl ?_
    obtain ⟨g1972, h⟩ := h
    refine qb_iadd (pc' := 201) dX11_layMost_200 rfl g1972 ?_
    refine qb_iload (pc' := 203) dX11_layMost_201 rfl rfl ?_
    obtain ⟨g1973, h⟩ := h
    refine qb_iast (pc' := 204) dX11_layMost_203 rfl qb_s88 g1973.1 g1973.2 ?_
    obtain ⟨g1974, h⟩ := h
    refine qb_iinc (pc' := 207) (L' := [qb_a 60, qb_i x1, qb_i x2, qb_i x3, qb_i x4, qb_i (x5 + 1), qb_i x6, qb_i x7, none, none]) dX11_layMost_204 rfl rfl g1974 (Nat.le_of_ble_eq_true rfl) rfl rfl ?_
    refine qb_goto (tgt := 62) dX11_layMost_207 rfl ?_
    refine qb_cut (L' := [qb_a 60, qb_i x1, qb_i x2, qb_i x3, qb_i x4, qb_i (x5 + 1), none, none, none, none]) [true, true, true, true, true, true, false, false, false, false] rfl ?_
    exact h
  · have h := h.2 c2183
    refine qb_iload (pc' := 88) dX11_layMost_86 rfl rfl ?_
    refine qb_aloadn (pc' := 89) (i := 0) dX11_layMost_88 rfl rfl rfl ?_
    refine qb_geta (pc' := 92) dX11_layMost_89 rfl qf_X11_61 qb_s60 rfl ?_
    refine qb_iloadn (pc' := 93) (i := 2) dX11_layMost_92 rfl rfl rfl ?_
    obtain ⟨g1975, h⟩ := h
    refine qb_iald (pc' := 94) (v := (hp 78 x2)) dX11_layMost_93 rfl qb_s78 g1975.1 g1975.2 rfl ?_
    refine qb_cgt (tgt := 189) (pc' := 97) dX11_layMost_94 rfl rfl (fun c2184 => ?_) (fun c2184 => ?_)
    · have h := h.1 c2184
      refine qb_aloadn (pc' := 190) (i := 0) dX11_layMost_189 rfl rfl rfl ?_
      refine qb_geta (pc' := 193) dX11_layMost_190 rfl qf_X11_91 qb_s60 rfl ?_
      refine qb_sipush (pc' := 196) dX11_layMost_193 rfl rfl rfl ?_
      refine qb_iloadn (pc' := 197) (i := 2) dX11_layMost_196 rfl rfl rfl ?_
      obtain ⟨g1976, h⟩ := h
      refine qb_imul (pc' := 198) dX11_layMost_197 rfl g1976 ?_
      refine qb_iload (pc' := 200) dX11_layMost_198 rfl rfl ?_
      obtain ⟨g1977, h⟩ := h
      refine qb_iadd (pc' := 201) dX11_layMost_200 rfl g1977 ?_
      refine qb_iload (pc' := 203) dX11_layMost_201 rfl rfl ?_
      obtain ⟨g1978, h⟩ := h
      refine qb_iast (pc' := 204) dX11_layMost_203 rfl qb_s88 g1978.1 g1978.2 ?_
      obtain ⟨g1979, h⟩ := h
      refine qb_iinc (pc' := 207) (L' := [qb_a 60, qb_i x1, qb_i x2, qb_i x3, qb_i x4, qb_i (x5 + 1), qb_i x6, qb_i x7, none, none]) dX11_layMost_204 rfl rfl g1979 (Nat.le_of_ble_eq_true rfl) rfl rfl ?_
      refine qb_goto (tgt := 62) dX11_layMost_207 rfl ?_
      refine qb_cut (L' := [qb_a 60, qb_i x1, qb_i x2, qb_i x3, qb_i x4, qb_i (x5 + 1), none, none, none, none]) [true, true, true, true, true, true, false, false, false, false] rfl ?_
      exact h
    · have h := h.2 c2184
      refine qb_iconst (pc' := 98) dX11_layMost_97 rfl rfl ?_
      refine qb_istore (pc' := 100) (L' := [qb_a 60, qb_i x1, qb_i x2, qb_i x3, qb_i x4, qb_i x5, qb_i x6, qb_i x7, qb_i 0, none]) dX11_layMost_98 rfl (Nat.le_of_ble_eq_true rfl) rfl rfl ?_
      refine qb_cut (L' := [qb_a 60, qb_i x1, qb_i x2, qb_i x3, qb_i x4, qb_i x5, qb_i x6, qb_i x7, qb_i 0, none]) [true, true, true, true, true, true, true, true, true, false] rfl ?_
      exact h
theorem b_m_layMost_100 {x1 x2 x3 x4 x5 x6 x7 x8 : Int} {hp : qb_H} {K : qb_H → Prop} (h : (0 ≤ x5) ∧ (((x5 % 21) < x8 → (qb_in (x7 + 1)) ∧ r_m_layMost_76 x1 x2 x3 x4 x5 x6 (x7 + 1) hp K) ∧ (¬ (x5 % 21) < x8 → (qb_in (x7 + x8)) ∧ (0 ≤ x2 ∧ x2 < 4) ∧ (((hp 78 x2) < (x7 + x8) → (qb_in (x7 + 1)) ∧ r_m_layMost_76 x1 x2 x3 x4 x5 x6 (x7 + 1) hp K) ∧ (¬ (hp 78 x2) < (x7 + x8) → (qb_in (x7 * x3)) ∧ (qb_in (x8 * x4)) ∧ (qb_in ((x7 * x3) + (x8 * x4))) ∧ (qb_in (441 * (x2 + 1))) ∧ (qb_in ((441 * (x2 + 1)) + x5)) ∧ (qb_in (21 * x7)) ∧ (qb_in (((441 * (x2 + 1)) + x5) - (21 * x7))) ∧ (qb_in ((((441 * (x2 + 1)) + x5) - (21 * x7)) - x8)) ∧ (0 ≤ ((((441 * (x2 + 1)) + x5) - (21 * x7)) - x8) ∧ ((((441 * (x2 + 1)) + x5) - (21 * x7)) - x8) < 2205) ∧ (qb_in (((x7 * x3) + (x8 * x4)) + (hp 88 ((((441 * (x2 + 1)) + x5) - (21 * x7)) - x8)))) ∧ (∀ (y344 : Int), y344 = (((x7 * x3) + (x8 * x4)) + (hp 88 ((((441 * (x2 + 1)) + x5) - (21 * x7)) - x8))) → (∀ (y345 : Int), y345 = (if y344 ≤ x6 then x6 else y344) → (qb_in (x8 + 1)) ∧ r_m_layMost_100 x1 x2 x3 x4 x5 y345 x7 (x8 + 1) hp K))))))) : r_m_layMost_100 x1 x2 x3 x4 x5 x6 x7 x8 hp K := by
  unfold r_m_layMost_100
  refine qb_iload (pc' := 102) dX11_layMost_100 rfl rfl ?_
  refine qb_iload (pc' := 104) dX11_layMost_102 rfl rfl ?_
  refine qb_bipush (pc' := 106) dX11_layMost_104 rfl rfl rfl ?_
  obtain ⟨g1980, h⟩ := h
  refine qb_irem (pc' := 107) dX11_layMost_106 rfl g1980 (by decide) ?_
  refine qb_cgt (tgt := 183) (pc' := 110) dX11_layMost_107 rfl rfl (fun c2185 => ?_) (fun c2185 => ?_)
  · have h := h.1 c2185
    obtain ⟨g1981, h⟩ := h
    refine qb_iinc (pc' := 186) (L' := [qb_a 60, qb_i x1, qb_i x2, qb_i x3, qb_i x4, qb_i x5, qb_i x6, qb_i (x7 + 1), qb_i x8, none]) dX11_layMost_183 rfl rfl g1981 (Nat.le_of_ble_eq_true rfl) rfl rfl ?_
    refine qb_goto (tgt := 76) dX11_layMost_186 rfl ?_
    refine qb_cut (L' := [qb_a 60, qb_i x1, qb_i x2, qb_i x3, qb_i x4, qb_i x5, qb_i x6, qb_i (x7 + 1), none, none]) [true, true, true, true, true, true, true, true, false, false] rfl ?_
    exact h
  · have h := h.2 c2185
    refine qb_iload (pc' := 112) dX11_layMost_110 rfl rfl ?_
    refine qb_iload (pc' := 114) dX11_layMost_112 rfl rfl ?_
    obtain ⟨g1982, h⟩ := h
    refine qb_iadd (pc' := 115) dX11_layMost_114 rfl g1982 ?_
    refine qb_aloadn (pc' := 116) (i := 0) dX11_layMost_115 rfl rfl rfl ?_
    refine qb_geta (pc' := 119) dX11_layMost_116 rfl qf_X11_61 qb_s60 rfl ?_
    refine qb_iloadn (pc' := 120) (i := 2) dX11_layMost_119 rfl rfl rfl ?_
    obtain ⟨g1983, h⟩ := h
    refine qb_iald (pc' := 121) (v := (hp 78 x2)) dX11_layMost_120 rfl qb_s78 g1983.1 g1983.2 rfl ?_
    refine qb_cgt (tgt := 183) (pc' := 124) dX11_layMost_121 rfl rfl (fun c2186 => ?_) (fun c2186 => ?_)
    · have h := h.1 c2186
      obtain ⟨g1984, h⟩ := h
      refine qb_iinc (pc' := 186) (L' := [qb_a 60, qb_i x1, qb_i x2, qb_i x3, qb_i x4, qb_i x5, qb_i x6, qb_i (x7 + 1), qb_i x8, none]) dX11_layMost_183 rfl rfl g1984 (Nat.le_of_ble_eq_true rfl) rfl rfl ?_
      refine qb_goto (tgt := 76) dX11_layMost_186 rfl ?_
      refine qb_cut (L' := [qb_a 60, qb_i x1, qb_i x2, qb_i x3, qb_i x4, qb_i x5, qb_i x6, qb_i (x7 + 1), none, none]) [true, true, true, true, true, true, true, true, false, false] rfl ?_
      exact h
    · have h := h.2 c2186
      refine qb_iload (pc' := 126) dX11_layMost_124 rfl rfl ?_
      refine qb_iloadn (pc' := 127) (i := 3) dX11_layMost_126 rfl rfl rfl ?_
      obtain ⟨g1985, h⟩ := h
      refine qb_imul (pc' := 128) dX11_layMost_127 rfl g1985 ?_
      refine qb_iload (pc' := 130) dX11_layMost_128 rfl rfl ?_
      refine qb_iload (pc' := 132) dX11_layMost_130 rfl rfl ?_
      obtain ⟨g1986, h⟩ := h
      refine qb_imul (pc' := 133) dX11_layMost_132 rfl g1986 ?_
      obtain ⟨g1987, h⟩ := h
      refine qb_iadd (pc' := 134) dX11_layMost_133 rfl g1987 ?_
      refine qb_aloadn (pc' := 135) (i := 0) dX11_layMost_134 rfl rfl rfl ?_
      refine qb_geta (pc' := 138) dX11_layMost_135 rfl qf_X11_91 qb_s60 rfl ?_
      refine qb_sipush (pc' := 141) dX11_layMost_138 rfl rfl rfl ?_
      refine qb_iloadn (pc' := 142) (i := 2) dX11_layMost_141 rfl rfl rfl ?_
      refine qb_iconst (pc' := 143) dX11_layMost_142 rfl rfl ?_
      refine qb_iadd (pc' := 144) dX11_layMost_143 rfl (qb_ina g1983 (by decide)) ?_
      obtain ⟨g1988, h⟩ := h
      refine qb_imul (pc' := 145) dX11_layMost_144 rfl g1988 ?_
      refine qb_iload (pc' := 147) dX11_layMost_145 rfl rfl ?_
      obtain ⟨g1989, h⟩ := h
      refine qb_iadd (pc' := 148) dX11_layMost_147 rfl g1989 ?_
      refine qb_bipush (pc' := 150) dX11_layMost_148 rfl rfl rfl ?_
      refine qb_iload (pc' := 152) dX11_layMost_150 rfl rfl ?_
      obtain ⟨g1990, h⟩ := h
      refine qb_imul (pc' := 153) dX11_layMost_152 rfl g1990 ?_
      obtain ⟨g1991, h⟩ := h
      refine qb_isub (pc' := 154) dX11_layMost_153 rfl g1991 ?_
      refine qb_iload (pc' := 156) dX11_layMost_154 rfl rfl ?_
      obtain ⟨g1992, h⟩ := h
      refine qb_isub (pc' := 157) dX11_layMost_156 rfl g1992 ?_
      obtain ⟨g1993, h⟩ := h
      refine qb_iald (pc' := 158) (v := (hp 88 ((((441 * (x2 + 1)) + x5) - (21 * x7)) - x8))) dX11_layMost_157 rfl qb_s88 g1993.1 g1993.2 rfl ?_
      obtain ⟨g1994, h⟩ := h
      refine qb_iadd (pc' := 159) dX11_layMost_158 rfl g1994 ?_
      refine qb_istorey (pc' := 161) (Lf := fun y344 => [qb_a 60, qb_i x1, qb_i x2, qb_i x3, qb_i x4, qb_i x5, qb_i x6, qb_i x7, qb_i x8, qb_i y344]) dX11_layMost_159 rfl (Nat.le_of_ble_eq_true rfl) rfl (fun _ => rfl) (fun y344 ey344 => ?_)
      have h := h y344 ey344
      refine qb_iload (pc' := 163) dX11_layMost_161 rfl rfl ?_
      refine qb_iload (pc' := 165) dX11_layMost_163 rfl rfl ?_
      have k1491 : ∀ (y345 : Int), y345 = (if y344 ≤ x6 then x6 else y344) → qb_R mX11_layMost 0 0 qb_sh 175 [qb_a 60, qb_i x1, qb_i x2, qb_i x3, qb_i x4, qb_i x5, none, qb_i x7, qb_i x8, none] [.inl y345] hp (qb_U qb_sh K) := by
        intro y345 ey345
        have h := h y345 ey345
        refine qb_istore (pc' := 177) (L' := [qb_a 60, qb_i x1, qb_i x2, qb_i x3, qb_i x4, qb_i x5, qb_i y345, qb_i x7, qb_i x8, none]) dX11_layMost_175 rfl (Nat.le_of_ble_eq_true rfl) rfl rfl ?_
        obtain ⟨g1995, h⟩ := h
        refine qb_iinc (pc' := 180) (L' := [qb_a 60, qb_i x1, qb_i x2, qb_i x3, qb_i x4, qb_i x5, qb_i y345, qb_i x7, qb_i (x8 + 1), none]) dX11_layMost_177 rfl rfl g1995 (Nat.le_of_ble_eq_true rfl) rfl rfl ?_
        refine qb_goto (tgt := 100) dX11_layMost_180 rfl ?_
        refine qb_cut (L' := [qb_a 60, qb_i x1, qb_i x2, qb_i x3, qb_i x4, qb_i x5, qb_i y345, qb_i x7, qb_i (x8 + 1), none]) [true, true, true, true, true, true, true, true, true, false] rfl ?_
        exact h
      refine qb_cle (tgt := 173) (pc' := 168) dX11_layMost_165 rfl rfl (fun c2187 => ?_) (fun c2187 => ?_)
      · refine qb_iload (pc' := 175) dX11_layMost_173 rfl rfl ?_
        refine qb_cut (L' := [qb_a 60, qb_i x1, qb_i x2, qb_i x3, qb_i x4, qb_i x5, none, qb_i x7, qb_i x8, none]) [true, true, true, true, true, true, false, true, true, false] rfl ?_
        exact k1491 _ (if_pos c2187).symm
      · refine qb_iload (pc' := 170) dX11_layMost_168 rfl rfl ?_
        refine qb_goto (tgt := 175) dX11_layMost_170 rfl ?_
        refine qb_cut (L' := [qb_a 60, qb_i x1, qb_i x2, qb_i x3, qb_i x4, qb_i x5, none, qb_i x7, qb_i x8, none]) [true, true, true, true, true, true, false, true, true, false] rfl ?_
        exact k1491 _ (if_neg c2187).symm
def c_m_gain (x1 : Int) (x2 : Int) (x3 : Int) (x4 : Int) (hp : qb_H) (K : Int → qb_H → Prop) : Prop := qb_R mX11_gain 0 0 qb_sh 0 [qb_a 60, qb_i x1, qb_i x2, qb_i x3, qb_i x4] [] hp (qb_I qb_sh K)
theorem b_m_gain {x1 x2 x3 x4 : Int} {hp : qb_H} {K : Int → qb_H → Prop} (h : (0 ≤ x1 ∧ x1 < 4) ∧ c_m_priceAt 0 (hp 77 x1) x4 hp (fun v355 hp355 => (qb_in (x2 * v355)) ∧ c_m_priceAt 1 (hp355 77 x1) x4 hp355 (fun v356 hp356 => (qb_in (x3 * v356)) ∧ (qb_in ((x2 * v355) + (x3 * v356))) ∧ K ((x2 * v355) + (x3 * v356)) hp356))) : c_m_gain x1 x2 x3 x4 hp K := by
  unfold c_m_gain
  refine qb_iloadn (pc' := 1) (i := 2) dX11_gain_0 rfl rfl rfl ?_
  refine qb_aloadn (pc' := 2) (i := 0) dX11_gain_1 rfl rfl rfl ?_
  refine qb_iconst (pc' := 3) dX11_gain_2 rfl rfl ?_
  refine qb_aloadn (pc' := 4) (i := 0) dX11_gain_3 rfl rfl rfl ?_
  refine qb_geta (pc' := 7) dX11_gain_4 rfl qf_X11_58 qb_s60 rfl ?_
  refine qb_iloadn (pc' := 8) (i := 1) dX11_gain_7 rfl rfl rfl ?_
  obtain ⟨g2023, h⟩ := h
  refine qb_iald (pc' := 9) (v := (hp 77 x1)) dX11_gain_8 rfl qb_s77 g2023.1 g2023.2 rfl ?_
  refine qb_iload (pc' := 11) dX11_gain_9 rfl rfl ?_
  refine qb_callVi (pc' := 14) (b := 60) (as := [.inl 0, .inl (hp 77 x1), .inl x4]) (rest := [.inl x2]) dX11_gain_11 rfl qe_mX11_gain_mX11_priceAt rfl rfl qb_s60 rfl rfl (Nat.le_of_ble_eq_true rfl) (Nat.le_of_ble_eq_true rfl) ⟨rfl, rfl⟩ h (fun v355 hp355 h => ?_)
  obtain ⟨g2024, h⟩ := h
  refine qb_imul (pc' := 15) dX11_gain_14 rfl g2024 ?_
  refine qb_iloadn (pc' := 16) (i := 3) dX11_gain_15 rfl rfl rfl ?_
  refine qb_aloadn (pc' := 17) (i := 0) dX11_gain_16 rfl rfl rfl ?_
  refine qb_iconst (pc' := 18) dX11_gain_17 rfl rfl ?_
  refine qb_aloadn (pc' := 19) (i := 0) dX11_gain_18 rfl rfl rfl ?_
  refine qb_geta (pc' := 22) dX11_gain_19 rfl qf_X11_58 qb_s60 rfl ?_
  refine qb_iloadn (pc' := 23) (i := 1) dX11_gain_22 rfl rfl rfl ?_
  refine qb_iald (pc' := 24) (v := (hp355 77 x1)) dX11_gain_23 rfl qb_s77 g2023.1 g2023.2 rfl ?_
  refine qb_iload (pc' := 26) dX11_gain_24 rfl rfl ?_
  refine qb_callVi (pc' := 29) (b := 60) (as := [.inl 1, .inl (hp355 77 x1), .inl x4]) (rest := [.inl x3, .inl (x2 * v355)]) dX11_gain_26 rfl qe_mX11_gain_mX11_priceAt rfl rfl qb_s60 rfl rfl (Nat.le_of_ble_eq_true rfl) (Nat.le_of_ble_eq_true rfl) ⟨rfl, rfl⟩ h (fun v356 hp356 h => ?_)
  obtain ⟨g2025, h⟩ := h
  refine qb_imul (pc' := 30) dX11_gain_29 rfl g2025 ?_
  obtain ⟨g2026, h⟩ := h
  refine qb_iadd (pc' := 31) dX11_gain_30 rfl g2026 ?_
  exact qb_reti dX11_gain_31 rfl h
def c_m_load (x1 : Int) (x2 : Int) (x3 : Int) (x4 : Int) (hp : qb_H) (K : Int → qb_H → Prop) : Prop := qb_R mX11_load 0 0 qb_sh 0 [qb_a 60, qb_i x1, qb_i x2, qb_i x3, qb_i x4, none, none, none, none, none] [] hp (qb_I qb_sh K)
def r_m_load_64 (x3 : Int) (x4 : Int) (x5 : Int) (x6 : Int) (x7 : Int) (hp : qb_H) (K : Int → qb_H → Prop) : Prop := qb_R mX11_load 0 0 qb_sh 64 [qb_a 60, none, none, qb_i x3, qb_i x4, qb_i x5, qb_i x6, qb_i x7, none, none] [] hp (qb_I qb_sh K)
def r_m_load_84 (x3 : Int) (x4 : Int) (x5 : Int) (x6 : Int) (x7 : Int) (x8 : Int) (hp : qb_H) (K : Int → qb_H → Prop) : Prop := qb_R mX11_load 0 0 qb_sh 84 [qb_a 60, none, none, qb_i x3, qb_i x4, qb_i x5, qb_i x6, qb_i x7, qb_i x8, none] [] hp (qb_I qb_sh K)
def r_m_load_102 (x3 : Int) (x4 : Int) (x5 : Int) (x6 : Int) (x7 : Int) (x8 : Int) (x9 : Int) (hp : qb_H) (K : Int → qb_H → Prop) : Prop := qb_R mX11_load 0 0 qb_sh 102 [qb_a 60, none, none, qb_i x3, qb_i x4, qb_i x5, qb_i x6, qb_i x7, qb_i x8, qb_i x9] [] hp (qb_I qb_sh K)
theorem b_m_load {x1 x2 x3 x4 : Int} {hp : qb_H} {K : Int → qb_H → Prop} (h : ((v_m_in x1 0 20) = 0 → K (-2) hp) ∧ (¬ (v_m_in x1 0 20) = 0 → ((v_m_in x2 0 20) = 0 → K (-2) hp) ∧ (¬ (v_m_in x2 0 20) = 0 → ((v_m_isDay x3) = 0 → K (-2) hp) ∧ (¬ (v_m_isDay x3) = 0 → c_m_layMost x3 hp (fun hp347 => (qb_in (21 * x1)) ∧ (qb_in ((21 * x1) + x2)) ∧ (∀ (y348 : Int), y348 = ((21 * x1) + x2) → (x4 = (-1) → (0 ≤ y348 ∧ y348 < 2205) ∧ K (hp347 88 y348) hp347) ∧ (¬ x4 = (-1) → r_m_load_64 x3 x4 y348 (-6) 0 hp347 K))))))) : c_m_load x1 x2 x3 x4 hp K := by
  unfold c_m_load
  refine qb_iloadn (pc' := 1) (i := 1) dX11_load_0 rfl rfl rfl ?_
  refine qb_iconst (pc' := 2) dX11_load_1 rfl rfl ?_
  refine qb_bipush (pc' := 4) dX11_load_2 rfl rfl rfl ?_
  refine qb_callSi (pc' := 7) (as := [.inl x1, .inl 0, .inl 20]) (rest := []) dX11_load_4 rfl qe_mX11_load_mX11_in rfl rfl rfl (Nat.le_of_ble_eq_true rfl) (Nat.le_of_ble_eq_true rfl) ⟨rfl, rfl⟩ (K := fun vz hpz => (v_m_in x1 0 20) = vz ∧ hp = hpz) (s_m_in x1 0 20 hp _ trivial ⟨rfl, rfl⟩) (fun vz hpz ez => ?_)
  obtain ⟨ez1, ez2⟩ := ez
  subst ez1
  subst ez2
  refine qb_feq (tgt := 27) (pc' := 10) dX11_load_7 rfl rfl (fun c2189 => ?_) (fun c2189 => ?_)
  · have h := h.1 c2189
    refine qb_bipush (pc' := 29) dX11_load_27 rfl rfl rfl ?_
    exact qb_reti dX11_load_29 rfl h
  · have h := h.2 c2189
    refine qb_iloadn (pc' := 11) (i := 2) dX11_load_10 rfl rfl rfl ?_
    refine qb_iconst (pc' := 12) dX11_load_11 rfl rfl ?_
    refine qb_bipush (pc' := 14) dX11_load_12 rfl rfl rfl ?_
    refine qb_callSi (pc' := 17) (as := [.inl x2, .inl 0, .inl 20]) (rest := []) dX11_load_14 rfl qe_mX11_load_mX11_in rfl rfl rfl (Nat.le_of_ble_eq_true rfl) (Nat.le_of_ble_eq_true rfl) ⟨rfl, rfl⟩ (K := fun vz hpz => (v_m_in x2 0 20) = vz ∧ hp = hpz) (s_m_in x2 0 20 hp _ trivial ⟨rfl, rfl⟩) (fun vz hpz ez => ?_)
    obtain ⟨ez1, ez2⟩ := ez
    subst ez1
    subst ez2
    refine qb_feq (tgt := 27) (pc' := 20) dX11_load_17 rfl rfl (fun c2190 => ?_) (fun c2190 => ?_)
    · have h := h.1 c2190
      refine qb_bipush (pc' := 29) dX11_load_27 rfl rfl rfl ?_
      exact qb_reti dX11_load_29 rfl h
    · have h := h.2 c2190
      refine qb_iloadn (pc' := 21) (i := 3) dX11_load_20 rfl rfl rfl ?_
      refine qb_callSi (pc' := 24) (as := [.inl x3]) (rest := []) dX11_load_21 rfl qe_mX11_load_mX11_isDay rfl rfl rfl (Nat.le_of_ble_eq_true rfl) (Nat.le_of_ble_eq_true rfl) ⟨rfl, rfl⟩ (K := fun vz hpz => (v_m_isDay x3) = vz ∧ hp = hpz) (s_m_isDay x3 hp _ trivial ⟨rfl, rfl⟩) (fun vz hpz ez => ?_)
      obtain ⟨ez1, ez2⟩ := ez
      subst ez1
      subst ez2
      refine qb_fne (tgt := 30) (pc' := 27) dX11_load_24 rfl rfl (fun c2191 => ?_) (fun c2191 => ?_)
      · have h := h.2 c2191
        refine qb_aloadn (pc' := 31) (i := 0) dX11_load_30 rfl rfl rfl ?_
        refine qb_iloadn (pc' := 32) (i := 3) dX11_load_31 rfl rfl rfl ?_
        refine qb_callVu (pc' := 35) (b := 60) (as := [.inl x3]) (rest := []) dX11_load_32 rfl qe_mX11_load_mX11_layMost rfl rfl qb_s60 rfl rfl (Nat.le_of_ble_eq_true rfl) (Nat.le_of_ble_eq_true rfl) ⟨rfl, rfl⟩ h (fun hp347 h => ?_)
        refine qb_bipush (pc' := 37) dX11_load_35 rfl rfl rfl ?_
        refine qb_iloadn (pc' := 38) (i := 1) dX11_load_37 rfl rfl rfl ?_
        obtain ⟨g1999, h⟩ := h
        refine qb_imul (pc' := 39) dX11_load_38 rfl g1999 ?_
        refine qb_iloadn (pc' := 40) (i := 2) dX11_load_39 rfl rfl rfl ?_
        obtain ⟨g2000, h⟩ := h
        refine qb_iadd (pc' := 41) dX11_load_40 rfl g2000 ?_
        refine qb_istorey (pc' := 43) (Lf := fun y348 => [qb_a 60, qb_i x1, qb_i x2, qb_i x3, qb_i x4, qb_i y348, none, none, none, none]) dX11_load_41 rfl (Nat.le_of_ble_eq_true rfl) rfl (fun _ => rfl) (fun y348 ey348 => ?_)
        have h := h y348 ey348
        refine qb_iload (pc' := 45) dX11_load_43 rfl rfl ?_
        refine qb_iconst (pc' := 46) dX11_load_45 rfl rfl ?_
        refine qb_cne (tgt := 57) (pc' := 49) dX11_load_46 rfl rfl (fun c2192 => ?_) (fun c2192 => ?_)
        · have h := h.2 c2192
          refine qb_bipush (pc' := 59) dX11_load_57 rfl rfl rfl ?_
          refine qb_istore (pc' := 61) (L' := [qb_a 60, qb_i x1, qb_i x2, qb_i x3, qb_i x4, qb_i y348, qb_i (-6), none, none, none]) dX11_load_59 rfl (Nat.le_of_ble_eq_true rfl) rfl rfl ?_
          refine qb_iconst (pc' := 62) dX11_load_61 rfl rfl ?_
          refine qb_istore (pc' := 64) (L' := [qb_a 60, qb_i x1, qb_i x2, qb_i x3, qb_i x4, qb_i y348, qb_i (-6), qb_i 0, none, none]) dX11_load_62 rfl (Nat.le_of_ble_eq_true rfl) rfl rfl ?_
          refine qb_cut (L' := [qb_a 60, none, none, qb_i x3, qb_i x4, qb_i y348, qb_i (-6), qb_i 0, none, none]) [true, false, false, true, true, true, true, true, false, false] rfl ?_
          exact h
        · have h := h.1 c2192
          refine qb_aloadn (pc' := 50) (i := 0) dX11_load_49 rfl rfl rfl ?_
          refine qb_geta (pc' := 53) dX11_load_50 rfl qf_X11_91 qb_s60 rfl ?_
          refine qb_iload (pc' := 55) dX11_load_53 rfl rfl ?_
          obtain ⟨g2001, h⟩ := h
          refine qb_iald (pc' := 56) (v := (hp347 88 y348)) dX11_load_55 rfl qb_s88 g2001.1 g2001.2 rfl ?_
          exact qb_reti dX11_load_56 rfl h
      · have h := h.1 c2191
        refine qb_bipush (pc' := 29) dX11_load_27 rfl rfl rfl ?_
        exact qb_reti dX11_load_29 rfl h
theorem b_m_load_64 {x3 x4 x5 x6 x7 : Int} {hp : qb_H} {K : Int → qb_H → Prop} (h : (x4 < x7 → (∀ (y349 : Int), y349 = (if (v_m_in x4 0 3) = 0 then ((-6) : Int) else x6) → K y349 hp)) ∧ (¬ x4 < x7 → (4 ≤ x7 → (∀ (y350 : Int), y350 = (if (v_m_in x4 0 3) = 0 then ((-6) : Int) else x6) → K y350 hp)) ∧ (¬ 4 ≤ x7 → r_m_load_84 x3 x4 x5 (-6) x7 0 hp K))) : r_m_load_64 x3 x4 x5 x6 x7 hp K := by
  unfold r_m_load_64
  refine qb_iload (pc' := 66) dX11_load_64 rfl rfl ?_
  refine qb_iload (pc' := 68) dX11_load_66 rfl rfl ?_
  refine qb_cgt (tgt := 238) (pc' := 71) dX11_load_68 rfl rfl (fun c2193 => ?_) (fun c2193 => ?_)
  · have h := h.1 c2193
    refine qb_iload (pc' := 240) dX11_load_238 rfl rfl ?_
    refine qb_iconst (pc' := 241) dX11_load_240 rfl rfl ?_
    refine qb_iconst (pc' := 242) dX11_load_241 rfl rfl ?_
    refine qb_callSi (pc' := 245) (as := [.inl x4, .inl 0, .inl 3]) (rest := []) dX11_load_242 rfl qe_mX11_load_mX11_in rfl rfl rfl (Nat.le_of_ble_eq_true rfl) (Nat.le_of_ble_eq_true rfl) ⟨rfl, rfl⟩ (K := fun vz hpz => (v_m_in x4 0 3) = vz ∧ hp = hpz) (s_m_in x4 0 3 hp _ trivial ⟨rfl, rfl⟩) (fun vz hpz ez => ?_)
    obtain ⟨ez1, ez2⟩ := ez
    subst ez1
    subst ez2
    have k1492 : ∀ (y349 : Int), y349 = (if (v_m_in x4 0 3) = 0 then ((-6) : Int) else x6) → qb_R mX11_load 0 0 qb_sh 255 [none, none, none, none, none, none, none, none, none, none] [.inl y349] hp (qb_I qb_sh K) := by
      intro y349 ey349
      have h := h y349 ey349
      exact qb_reti dX11_load_255 rfl h
    refine qb_feq (tgt := 253) (pc' := 248) dX11_load_245 rfl rfl (fun c2194 => ?_) (fun c2194 => ?_)
    · refine qb_bipush (pc' := 255) dX11_load_253 rfl rfl rfl ?_
      refine qb_cut (L' := [none, none, none, none, none, none, none, none, none, none]) [false, false, false, false, false, false, false, false, false, false] rfl ?_
      exact k1492 _ (if_pos c2194).symm
    · refine qb_iload (pc' := 250) dX11_load_248 rfl rfl ?_
      refine qb_goto (tgt := 255) dX11_load_250 rfl ?_
      refine qb_cut (L' := [none, none, none, none, none, none, none, none, none, none]) [false, false, false, false, false, false, false, false, false, false] rfl ?_
      exact k1492 _ (if_neg c2194).symm
  · have h := h.2 c2193
    refine qb_iload (pc' := 73) dX11_load_71 rfl rfl ?_
    refine qb_iconst (pc' := 74) dX11_load_73 rfl rfl ?_
    refine qb_cge (tgt := 238) (pc' := 77) dX11_load_74 rfl rfl (fun c2195 => ?_) (fun c2195 => ?_)
    · have h := h.1 c2195
      refine qb_iload (pc' := 240) dX11_load_238 rfl rfl ?_
      refine qb_iconst (pc' := 241) dX11_load_240 rfl rfl ?_
      refine qb_iconst (pc' := 242) dX11_load_241 rfl rfl ?_
      refine qb_callSi (pc' := 245) (as := [.inl x4, .inl 0, .inl 3]) (rest := []) dX11_load_242 rfl qe_mX11_load_mX11_in rfl rfl rfl (Nat.le_of_ble_eq_true rfl) (Nat.le_of_ble_eq_true rfl) ⟨rfl, rfl⟩ (K := fun vz hpz => (v_m_in x4 0 3) = vz ∧ hp = hpz) (s_m_in x4 0 3 hp _ trivial ⟨rfl, rfl⟩) (fun vz hpz ez => ?_)
      obtain ⟨ez1, ez2⟩ := ez
      subst ez1
      subst ez2
      have k1493 : ∀ (y350 : Int), y350 = (if (v_m_in x4 0 3) = 0 then ((-6) : Int) else x6) → qb_R mX11_load 0 0 qb_sh 255 [none, none, none, none, none, none, none, none, none, none] [.inl y350] hp (qb_I qb_sh K) := by
        intro y350 ey350
        have h := h y350 ey350
        exact qb_reti dX11_load_255 rfl h
      refine qb_feq (tgt := 253) (pc' := 248) dX11_load_245 rfl rfl (fun c2196 => ?_) (fun c2196 => ?_)
      · refine qb_bipush (pc' := 255) dX11_load_253 rfl rfl rfl ?_
        refine qb_cut (L' := [none, none, none, none, none, none, none, none, none, none]) [false, false, false, false, false, false, false, false, false, false] rfl ?_
        exact k1493 _ (if_pos c2196).symm
      · refine qb_iload (pc' := 250) dX11_load_248 rfl rfl ?_
        refine qb_goto (tgt := 255) dX11_load_250 rfl ?_
        refine qb_cut (L' := [none, none, none, none, none, none, none, none, none, none]) [false, false, false, false, false, false, false, false, false, false] rfl ?_
        exact k1493 _ (if_neg c2196).symm
    · have h := h.2 c2195
      refine qb_bipush (pc' := 79) dX11_load_77 rfl rfl rfl ?_
      refine qb_istore (pc' := 81) (L' := [qb_a 60, none, none, qb_i x3, qb_i x4, qb_i x5, qb_i (-6), qb_i x7, none, none]) dX11_load_79 rfl (Nat.le_of_ble_eq_true rfl) rfl rfl ?_
      refine qb_iconst (pc' := 82) dX11_load_81 rfl rfl ?_
      refine qb_istore (pc' := 84) (L' := [qb_a 60, none, none, qb_i x3, qb_i x4, qb_i x5, qb_i (-6), qb_i x7, qb_i 0, none]) dX11_load_82 rfl (Nat.le_of_ble_eq_true rfl) rfl rfl ?_
      refine qb_cut (L' := [qb_a 60, none, none, qb_i x3, qb_i x4, qb_i x5, qb_i (-6), qb_i x7, qb_i 0, none]) [true, false, false, true, true, true, true, true, true, false] rfl ?_
      exact h
theorem b_m_load_84 {x3 x4 x5 x6 x7 x8 : Int} {hp : qb_H} {K : Int → qb_H → Prop} (h : (0 ≤ x5) ∧ (((x5 / 21) < x8 → (0 ≤ x6) ∧ (qb_in (21 * (x6 / 100))) ∧ (qb_in ((21 * (x6 / 100)) + (x6 % 100))) ∧ (qb_in (x5 - ((21 * (x6 / 100)) + (x6 % 100)))) ∧ (∀ (y351 : Int), y351 = (x5 - ((21 * (x6 / 100)) + (x6 % 100))) → (qb_in (x7 + 1)) ∧ r_m_load_64 x3 x4 y351 x6 (x7 + 1) hp K)) ∧ (¬ (x5 / 21) < x8 → (0 ≤ x6 → (0 ≤ x6) ∧ (qb_in (21 * (x6 / 100))) ∧ (qb_in ((21 * (x6 / 100)) + (x6 % 100))) ∧ (qb_in (x5 - ((21 * (x6 / 100)) + (x6 % 100)))) ∧ (∀ (y352 : Int), y352 = (x5 - ((21 * (x6 / 100)) + (x6 % 100))) → (qb_in (x7 + 1)) ∧ r_m_load_64 x3 x4 y352 x6 (x7 + 1) hp K)) ∧ (¬ 0 ≤ x6 → r_m_load_102 x3 x4 x5 x6 x7 x8 0 hp K)))) : r_m_load_84 x3 x4 x5 x6 x7 x8 hp K := by
  unfold r_m_load_84
  refine qb_iload (pc' := 86) dX11_load_84 rfl rfl ?_
  refine qb_iload (pc' := 88) dX11_load_86 rfl rfl ?_
  refine qb_bipush (pc' := 90) dX11_load_88 rfl rfl rfl ?_
  obtain ⟨g2002, h⟩ := h
  refine qb_idiv (pc' := 91) dX11_load_90 rfl g2002 (by decide) ?_
  refine qb_cgt (tgt := 213) (pc' := 94) dX11_load_91 rfl rfl (fun c2197 => ?_) (fun c2197 => ?_)
  · have h := h.1 c2197
    refine qb_iload (pc' := 215) dX11_load_213 rfl rfl ?_
    refine qb_bipush (pc' := 217) dX11_load_215 rfl rfl rfl ?_
    refine qb_iload (pc' := 219) dX11_load_217 rfl rfl ?_
    refine qb_bipush (pc' := 221) dX11_load_219 rfl rfl rfl ?_
    obtain ⟨g2003, h⟩ := h
    refine qb_idiv (pc' := 222) dX11_load_221 rfl g2003 (by decide) ?_
    obtain ⟨g2004, h⟩ := h
    refine qb_imul (pc' := 223) dX11_load_222 rfl g2004 ?_
    refine qb_iload (pc' := 225) dX11_load_223 rfl rfl ?_
    refine qb_bipush (pc' := 227) dX11_load_225 rfl rfl rfl ?_
    refine qb_irem (pc' := 228) dX11_load_227 rfl g2003 (by decide) ?_
    obtain ⟨g2005, h⟩ := h
    refine qb_iadd (pc' := 229) dX11_load_228 rfl g2005 ?_
    obtain ⟨g2006, h⟩ := h
    refine qb_isub (pc' := 230) dX11_load_229 rfl g2006 ?_
    refine qb_istorey (pc' := 232) (Lf := fun y351 => [qb_a 60, none, none, qb_i x3, qb_i x4, qb_i y351, qb_i x6, qb_i x7, qb_i x8, none]) dX11_load_230 rfl (Nat.le_of_ble_eq_true rfl) rfl (fun _ => rfl) (fun y351 ey351 => ?_)
    have h := h y351 ey351
    obtain ⟨g2007, h⟩ := h
    refine qb_iinc (pc' := 235) (L' := [qb_a 60, none, none, qb_i x3, qb_i x4, qb_i y351, qb_i x6, qb_i (x7 + 1), qb_i x8, none]) dX11_load_232 rfl rfl g2007 (Nat.le_of_ble_eq_true rfl) rfl rfl ?_
    refine qb_goto (tgt := 64) dX11_load_235 rfl ?_
    refine qb_cut (L' := [qb_a 60, none, none, qb_i x3, qb_i x4, qb_i y351, qb_i x6, qb_i (x7 + 1), none, none]) [true, false, false, true, true, true, true, true, false, false] rfl ?_
    exact h
  · have h := h.2 c2197
    refine qb_iload (pc' := 96) dX11_load_94 rfl rfl ?_
    refine qb_fge (tgt := 213) (pc' := 99) dX11_load_96 rfl rfl (fun c2198 => ?_) (fun c2198 => ?_)
    · have h := h.1 c2198
      refine qb_iload (pc' := 215) dX11_load_213 rfl rfl ?_
      refine qb_bipush (pc' := 217) dX11_load_215 rfl rfl rfl ?_
      refine qb_iload (pc' := 219) dX11_load_217 rfl rfl ?_
      refine qb_bipush (pc' := 221) dX11_load_219 rfl rfl rfl ?_
      obtain ⟨g2008, h⟩ := h
      refine qb_idiv (pc' := 222) dX11_load_221 rfl g2008 (by decide) ?_
      obtain ⟨g2009, h⟩ := h
      refine qb_imul (pc' := 223) dX11_load_222 rfl g2009 ?_
      refine qb_iload (pc' := 225) dX11_load_223 rfl rfl ?_
      refine qb_bipush (pc' := 227) dX11_load_225 rfl rfl rfl ?_
      refine qb_irem (pc' := 228) dX11_load_227 rfl g2008 (by decide) ?_
      obtain ⟨g2010, h⟩ := h
      refine qb_iadd (pc' := 229) dX11_load_228 rfl g2010 ?_
      obtain ⟨g2011, h⟩ := h
      refine qb_isub (pc' := 230) dX11_load_229 rfl g2011 ?_
      refine qb_istorey (pc' := 232) (Lf := fun y352 => [qb_a 60, none, none, qb_i x3, qb_i x4, qb_i y352, qb_i x6, qb_i x7, qb_i x8, none]) dX11_load_230 rfl (Nat.le_of_ble_eq_true rfl) rfl (fun _ => rfl) (fun y352 ey352 => ?_)
      have h := h y352 ey352
      obtain ⟨g2012, h⟩ := h
      refine qb_iinc (pc' := 235) (L' := [qb_a 60, none, none, qb_i x3, qb_i x4, qb_i y352, qb_i x6, qb_i (x7 + 1), qb_i x8, none]) dX11_load_232 rfl rfl g2012 (Nat.le_of_ble_eq_true rfl) rfl rfl ?_
      refine qb_goto (tgt := 64) dX11_load_235 rfl ?_
      refine qb_cut (L' := [qb_a 60, none, none, qb_i x3, qb_i x4, qb_i y352, qb_i x6, qb_i (x7 + 1), none, none]) [true, false, false, true, true, true, true, true, false, false] rfl ?_
      exact h
    · have h := h.2 c2198
      refine qb_iconst (pc' := 100) dX11_load_99 rfl rfl ?_
      refine qb_istore (pc' := 102) (L' := [qb_a 60, none, none, qb_i x3, qb_i x4, qb_i x5, qb_i x6, qb_i x7, qb_i x8, qb_i 0]) dX11_load_100 rfl (Nat.le_of_ble_eq_true rfl) rfl rfl ?_
      refine qb_cut (L' := [qb_a 60, none, none, qb_i x3, qb_i x4, qb_i x5, qb_i x6, qb_i x7, qb_i x8, qb_i 0]) [true, false, false, true, true, true, true, true, true, true] rfl ?_
      exact h
theorem b_m_load_102 {x3 x4 x5 x6 x7 x8 x9 : Int} {hp : qb_H} {K : Int → qb_H → Prop} (h : (0 ≤ x5) ∧ (((x5 % 21) < x9 → (qb_in (x8 + 1)) ∧ r_m_load_84 x3 x4 x5 x6 x7 (x8 + 1) hp K) ∧ (¬ (x5 % 21) < x9 → (qb_in (x8 + x9)) ∧ (0 ≤ x7 ∧ x7 < 4) ∧ (((hp 78 x7) < (x8 + x9) → (qb_in (x8 + 1)) ∧ r_m_load_84 x3 x4 x5 x6 x7 (x8 + 1) hp K) ∧ (¬ (hp 78 x7) < (x8 + x9) → (0 ≤ x6 → (qb_in (x8 + 1)) ∧ r_m_load_84 x3 x4 x5 x6 x7 (x8 + 1) hp K) ∧ (¬ 0 ≤ x6 → c_m_gain x7 x8 x9 x3 hp (fun v357 hp357 => (qb_in (441 * (x7 + 1))) ∧ (qb_in ((441 * (x7 + 1)) + x5)) ∧ (qb_in (21 * x8)) ∧ (qb_in (((441 * (x7 + 1)) + x5) - (21 * x8))) ∧ (qb_in ((((441 * (x7 + 1)) + x5) - (21 * x8)) - x9)) ∧ (0 ≤ ((((441 * (x7 + 1)) + x5) - (21 * x8)) - x9) ∧ ((((441 * (x7 + 1)) + x5) - (21 * x8)) - x9) < 2205) ∧ (qb_in (v357 + (hp357 88 ((((441 * (x7 + 1)) + x5) - (21 * x8)) - x9)))) ∧ (qb_in (441 * x7)) ∧ (qb_in ((441 * x7) + x5)) ∧ (0 ≤ ((441 * x7) + x5) ∧ ((441 * x7) + x5) < 2205) ∧ ((v357 + (hp357 88 ((((441 * (x7 + 1)) + x5) - (21 * x8)) - x9))) = (hp357 88 ((441 * x7) + x5)) → (qb_in (100 * x8)) ∧ qb_in ((100 * x8) + x9)) ∧ (qb_in (x9 + 1)) ∧ r_m_load_102 x3 x4 x5 (if (v357 + (hp357 88 ((((441 * (x7 + 1)) + x5) - (21 * x8)) - x9))) = (hp357 88 ((441 * x7) + x5)) then ((100 * x8) + x9) else (-6)) x7 x8 (x9 + 1) hp357 K))))))) : r_m_load_102 x3 x4 x5 x6 x7 x8 x9 hp K := by
  unfold r_m_load_102
  refine qb_iload (pc' := 104) dX11_load_102 rfl rfl ?_
  refine qb_iload (pc' := 106) dX11_load_104 rfl rfl ?_
  refine qb_bipush (pc' := 108) dX11_load_106 rfl rfl rfl ?_
  obtain ⟨g2013, h⟩ := h
  refine qb_irem (pc' := 109) dX11_load_108 rfl g2013 (by decide) ?_
  refine qb_cgt (tgt := 207) (pc' := 112) dX11_load_109 rfl rfl (fun c2199 => ?_) (fun c2199 => ?_)
  · have h := h.1 c2199
    obtain ⟨g2014, h⟩ := h
    refine qb_iinc (pc' := 210) (L' := [qb_a 60, none, none, qb_i x3, qb_i x4, qb_i x5, qb_i x6, qb_i x7, qb_i (x8 + 1), qb_i x9]) dX11_load_207 rfl rfl g2014 (Nat.le_of_ble_eq_true rfl) rfl rfl ?_
    refine qb_goto (tgt := 84) dX11_load_210 rfl ?_
    refine qb_cut (L' := [qb_a 60, none, none, qb_i x3, qb_i x4, qb_i x5, qb_i x6, qb_i x7, qb_i (x8 + 1), none]) [true, false, false, true, true, true, true, true, true, false] rfl ?_
    exact h
  · have h := h.2 c2199
    refine qb_iload (pc' := 114) dX11_load_112 rfl rfl ?_
    refine qb_iload (pc' := 116) dX11_load_114 rfl rfl ?_
    obtain ⟨g2015, h⟩ := h
    refine qb_iadd (pc' := 117) dX11_load_116 rfl g2015 ?_
    refine qb_aloadn (pc' := 118) (i := 0) dX11_load_117 rfl rfl rfl ?_
    refine qb_geta (pc' := 121) dX11_load_118 rfl qf_X11_61 qb_s60 rfl ?_
    refine qb_iload (pc' := 123) dX11_load_121 rfl rfl ?_
    obtain ⟨g2016, h⟩ := h
    refine qb_iald (pc' := 124) (v := (hp 78 x7)) dX11_load_123 rfl qb_s78 g2016.1 g2016.2 rfl ?_
    refine qb_cgt (tgt := 207) (pc' := 127) dX11_load_124 rfl rfl (fun c2200 => ?_) (fun c2200 => ?_)
    · have h := h.1 c2200
      obtain ⟨g2017, h⟩ := h
      refine qb_iinc (pc' := 210) (L' := [qb_a 60, none, none, qb_i x3, qb_i x4, qb_i x5, qb_i x6, qb_i x7, qb_i (x8 + 1), qb_i x9]) dX11_load_207 rfl rfl g2017 (Nat.le_of_ble_eq_true rfl) rfl rfl ?_
      refine qb_goto (tgt := 84) dX11_load_210 rfl ?_
      refine qb_cut (L' := [qb_a 60, none, none, qb_i x3, qb_i x4, qb_i x5, qb_i x6, qb_i x7, qb_i (x8 + 1), none]) [true, false, false, true, true, true, true, true, true, false] rfl ?_
      exact h
    · have h := h.2 c2200
      refine qb_iload (pc' := 129) dX11_load_127 rfl rfl ?_
      refine qb_fge (tgt := 207) (pc' := 132) dX11_load_129 rfl rfl (fun c2201 => ?_) (fun c2201 => ?_)
      · have h := h.1 c2201
        obtain ⟨g2018, h⟩ := h
        refine qb_iinc (pc' := 210) (L' := [qb_a 60, none, none, qb_i x3, qb_i x4, qb_i x5, qb_i x6, qb_i x7, qb_i (x8 + 1), qb_i x9]) dX11_load_207 rfl rfl g2018 (Nat.le_of_ble_eq_true rfl) rfl rfl ?_
        refine qb_goto (tgt := 84) dX11_load_210 rfl ?_
        refine qb_cut (L' := [qb_a 60, none, none, qb_i x3, qb_i x4, qb_i x5, qb_i x6, qb_i x7, qb_i (x8 + 1), none]) [true, false, false, true, true, true, true, true, true, false] rfl ?_
        exact h
      · have h := h.2 c2201
        refine qb_aloadn (pc' := 133) (i := 0) dX11_load_132 rfl rfl rfl ?_
        refine qb_iload (pc' := 135) dX11_load_133 rfl rfl ?_
        refine qb_iload (pc' := 137) dX11_load_135 rfl rfl ?_
        refine qb_iload (pc' := 139) dX11_load_137 rfl rfl ?_
        refine qb_iloadn (pc' := 140) (i := 3) dX11_load_139 rfl rfl rfl ?_
        refine qb_callVi (pc' := 143) (b := 60) (as := [.inl x7, .inl x8, .inl x9, .inl x3]) (rest := []) dX11_load_140 rfl qe_mX11_load_mX11_gain rfl rfl qb_s60 rfl rfl (Nat.le_of_ble_eq_true rfl) (Nat.le_of_ble_eq_true rfl) ⟨rfl, rfl⟩ h (fun v357 hp357 h => ?_)
        refine qb_aloadn (pc' := 144) (i := 0) dX11_load_143 rfl rfl rfl ?_
        refine qb_geta (pc' := 147) dX11_load_144 rfl qf_X11_91 qb_s60 rfl ?_
        refine qb_sipush (pc' := 150) dX11_load_147 rfl rfl rfl ?_
        refine qb_iload (pc' := 152) dX11_load_150 rfl rfl ?_
        refine qb_iconst (pc' := 153) dX11_load_152 rfl rfl ?_
        refine qb_iadd (pc' := 154) dX11_load_153 rfl (qb_ina g2016 (by decide)) ?_
        obtain ⟨g2027, h⟩ := h
        refine qb_imul (pc' := 155) dX11_load_154 rfl g2027 ?_
        refine qb_iload (pc' := 157) dX11_load_155 rfl rfl ?_
        obtain ⟨g2028, h⟩ := h
        refine qb_iadd (pc' := 158) dX11_load_157 rfl g2028 ?_
        refine qb_bipush (pc' := 160) dX11_load_158 rfl rfl rfl ?_
        refine qb_iload (pc' := 162) dX11_load_160 rfl rfl ?_
        obtain ⟨g2029, h⟩ := h
        refine qb_imul (pc' := 163) dX11_load_162 rfl g2029 ?_
        obtain ⟨g2030, h⟩ := h
        refine qb_isub (pc' := 164) dX11_load_163 rfl g2030 ?_
        refine qb_iload (pc' := 166) dX11_load_164 rfl rfl ?_
        obtain ⟨g2031, h⟩ := h
        refine qb_isub (pc' := 167) dX11_load_166 rfl g2031 ?_
        obtain ⟨g2032, h⟩ := h
        refine qb_iald (pc' := 168) (v := (hp357 88 ((((441 * (x7 + 1)) + x5) - (21 * x8)) - x9))) dX11_load_167 rfl qb_s88 g2032.1 g2032.2 rfl ?_
        obtain ⟨g2033, h⟩ := h
        refine qb_iadd (pc' := 169) dX11_load_168 rfl g2033 ?_
        refine qb_aloadn (pc' := 170) (i := 0) dX11_load_169 rfl rfl rfl ?_
        refine qb_geta (pc' := 173) dX11_load_170 rfl qf_X11_91 qb_s60 rfl ?_
        refine qb_sipush (pc' := 176) dX11_load_173 rfl rfl rfl ?_
        refine qb_iload (pc' := 178) dX11_load_176 rfl rfl ?_
        obtain ⟨g2034, h⟩ := h
        refine qb_imul (pc' := 179) dX11_load_178 rfl g2034 ?_
        refine qb_iload (pc' := 181) dX11_load_179 rfl rfl ?_
        obtain ⟨g2035, h⟩ := h
        refine qb_iadd (pc' := 182) dX11_load_181 rfl g2035 ?_
        obtain ⟨g2036, h⟩ := h
        refine qb_iald (pc' := 183) (v := (hp357 88 ((441 * x7) + x5))) dX11_load_182 rfl qb_s88 g2036.1 g2036.2 rfl ?_
        obtain ⟨ga, h⟩ := h
        have k1494 : qb_R mX11_load 0 0 qb_sh 199 [qb_a 60, none, none, qb_i x3, qb_i x4, qb_i x5, none, qb_i x7, qb_i x8, qb_i x9] [.inl (if (v357 + (hp357 88 ((((441 * (x7 + 1)) + x5) - (21 * x8)) - x9))) = (hp357 88 ((441 * x7) + x5)) then ((100 * x8) + x9) else (-6))] hp357 (qb_I qb_sh K) := by
          refine qb_istore (pc' := 201) (L' := [qb_a 60, none, none, qb_i x3, qb_i x4, qb_i x5, qb_i (if (v357 + (hp357 88 ((((441 * (x7 + 1)) + x5) - (21 * x8)) - x9))) = (hp357 88 ((441 * x7) + x5)) then ((100 * x8) + x9) else (-6)), qb_i x7, qb_i x8, qb_i x9]) dX11_load_199 rfl (Nat.le_of_ble_eq_true rfl) rfl rfl ?_
          obtain ⟨g2041, h⟩ := h
          refine qb_iinc (pc' := 204) (L' := [qb_a 60, none, none, qb_i x3, qb_i x4, qb_i x5, qb_i (if (v357 + (hp357 88 ((((441 * (x7 + 1)) + x5) - (21 * x8)) - x9))) = (hp357 88 ((441 * x7) + x5)) then ((100 * x8) + x9) else (-6)), qb_i x7, qb_i x8, qb_i (x9 + 1)]) dX11_load_201 rfl rfl g2041 (Nat.le_of_ble_eq_true rfl) rfl rfl ?_
          refine qb_goto (tgt := 102) dX11_load_204 rfl ?_
          refine qb_cut (L' := [qb_a 60, none, none, qb_i x3, qb_i x4, qb_i x5, qb_i (if (v357 + (hp357 88 ((((441 * (x7 + 1)) + x5) - (21 * x8)) - x9))) = (hp357 88 ((441 * x7) + x5)) then ((100 * x8) + x9) else (-6)), qb_i x7, qb_i x8, qb_i (x9 + 1)]) [true, false, false, true, true, true, true, true, true, true] rfl ?_
          exact h
        refine qb_cne (tgt := 197) (pc' := 186) dX11_load_183 rfl rfl (fun c2202 => ?_) (fun c2202 => ?_)
        · refine qb_bipush (pc' := 199) dX11_load_197 rfl rfl rfl ?_
          refine qb_cut (L' := [qb_a 60, none, none, qb_i x3, qb_i x4, qb_i x5, none, qb_i x7, qb_i x8, qb_i x9]) [true, false, false, true, true, true, false, true, true, true] rfl ?_
          simpa only [if_neg c2202] using k1494
        · have h := ga c2202
          refine qb_bipush (pc' := 188) dX11_load_186 rfl rfl rfl ?_
          refine qb_iload (pc' := 190) dX11_load_188 rfl rfl ?_
          obtain ⟨g2039, h⟩ := h
          refine qb_imul (pc' := 191) dX11_load_190 rfl g2039 ?_
          refine qb_iload (pc' := 193) dX11_load_191 rfl rfl ?_
          have g2040 := h
          refine qb_iadd (pc' := 194) dX11_load_193 rfl g2040 ?_
          refine qb_goto (tgt := 199) dX11_load_194 rfl ?_
          refine qb_cut (L' := [qb_a 60, none, none, qb_i x3, qb_i x4, qb_i x5, none, qb_i x7, qb_i x8, qb_i x9]) [true, false, false, true, true, true, false, true, true, true] rfl ?_
          simpa only [if_pos c2202] using k1494
def c_m_choose (x0 : Int) (x1 : Int) (hp : qb_H) (K : Int → qb_H → Prop) : Prop := qb_R mX11_choose 0 0 qb_sh 0 [qb_i x0, qb_i x1, none, none, none] [] hp (qb_J qb_sh K)
def r_m_choose_14 (x0 : Int) (x1 : Int) (x2 : Int) (x4 : Int) (hp : qb_H) (K : Int → qb_H → Prop) : Prop := qb_R mX11_choose 0 0 qb_sh 14 [qb_i x0, qb_i x1, qb_l x2, none, qb_i x4] [] hp (qb_J qb_sh K)
theorem b_m_choose {x0 x1 : Int} {hp : qb_H} {K : Int → qb_H → Prop} (h : (∀ (y358 : Int), y358 = (if x1 ≤ x0 then (1 : Int) else 0) → r_m_choose_14 x0 x1 y358 0 hp K)) : c_m_choose x0 x1 hp K := by
  unfold c_m_choose
  refine qb_iloadn (pc' := 1) (i := 1) dX11_choose_0 rfl rfl rfl ?_
  refine qb_iloadn (pc' := 2) (i := 0) dX11_choose_1 rfl rfl rfl ?_
  have k1496 : ∀ (y358 : Int), y358 = (if x1 ≤ x0 then (1 : Int) else 0) → qb_R mX11_choose 0 0 qb_sh 10 [qb_i x0, qb_i x1, none, none, none] [.inr (.inr y358)] hp (qb_J qb_sh K) := by
    intro y358 ey358
    have h := h y358 ey358
    refine qb_lstoren (pc' := 11) (i := 2) (L' := [qb_i x0, qb_i x1, qb_l y358, none, none]) dX11_choose_10 rfl rfl (Nat.le_of_ble_eq_true rfl) rfl rfl ?_
    refine qb_iconst (pc' := 12) dX11_choose_11 rfl rfl ?_
    refine qb_istore (pc' := 14) (L' := [qb_i x0, qb_i x1, qb_l y358, none, qb_i 0]) dX11_choose_12 rfl (Nat.le_of_ble_eq_true rfl) rfl rfl ?_
    refine qb_cut (L' := [qb_i x0, qb_i x1, qb_l y358, none, qb_i 0]) [true, true, true, false, true] rfl ?_
    exact h
  refine qb_cle (tgt := 9) (pc' := 5) dX11_choose_2 rfl rfl (fun c2210 => ?_) (fun c2210 => ?_)
  · refine qb_lconst (pc' := 10) (n := 1) dX11_choose_9 rfl ?_
    refine qb_cut (L' := [qb_i x0, qb_i x1, none, none, none]) [true, true, false, false, false] rfl ?_
    exact k1496 _ (if_pos c2210).symm
  · refine qb_lconst (pc' := 6) (n := 0) dX11_choose_5 rfl ?_
    refine qb_goto (tgt := 10) dX11_choose_6 rfl ?_
    refine qb_cut (L' := [qb_i x0, qb_i x1, none, none, none]) [true, true, false, false, false] rfl ?_
    exact k1496 _ (if_neg c2210).symm
theorem b_m_choose_14 {x0 x1 x2 x4 : Int} {hp : qb_H} {K : Int → qb_H → Prop} (h : (x1 ≤ x4 → K x2 hp) ∧ (¬ x1 ≤ x4 → ((qb_cmp x2 0) ≤ 0 → K x2 hp) ∧ (¬ (qb_cmp x2 0) ≤ 0 → (qb_in (x0 - x4)) ∧ (qb_inL (x2 * (x0 - x4))) ∧ (qb_in (x4 + 1)) ∧ (0 ≤ (x2 * (x0 - x4))) ∧ (0 < (x4 + 1)) ∧ r_m_choose_14 x0 x1 ((x2 * (x0 - x4)) / (x4 + 1)) (x4 + 1) hp K))) : r_m_choose_14 x0 x1 x2 x4 hp K := by
  unfold r_m_choose_14
  refine qb_iload (pc' := 16) dX11_choose_14 rfl rfl ?_
  refine qb_iloadn (pc' := 17) (i := 1) dX11_choose_16 rfl rfl rfl ?_
  refine qb_cge (tgt := 46) (pc' := 20) dX11_choose_17 rfl rfl (fun c2211 => ?_) (fun c2211 => ?_)
  · have h := h.1 c2211
    refine qb_lloadn (pc' := 47) (i := 2) dX11_choose_46 rfl rfl rfl ?_
    exact qb_retl dX11_choose_47 rfl h
  · have h := h.2 c2211
    refine qb_lloadn (pc' := 21) (i := 2) dX11_choose_20 rfl rfl rfl ?_
    refine qb_lconst (pc' := 22) (n := 0) dX11_choose_21 rfl ?_
    refine qb_lcmp (pc' := 23) dX11_choose_22 rfl ?_
    refine qb_fle (tgt := 46) (pc' := 26) dX11_choose_23 rfl rfl (fun c2212 => ?_) (fun c2212 => ?_)
    · have h := h.1 c2212
      refine qb_lloadn (pc' := 47) (i := 2) dX11_choose_46 rfl rfl rfl ?_
      exact qb_retl dX11_choose_47 rfl h
    · have h := h.2 c2212
      refine qb_lloadn (pc' := 27) (i := 2) dX11_choose_26 rfl rfl rfl ?_
      refine qb_iloadn (pc' := 28) (i := 0) dX11_choose_27 rfl rfl rfl ?_
      refine qb_iload (pc' := 30) dX11_choose_28 rfl rfl ?_
      obtain ⟨g2043, h⟩ := h
      refine qb_isub (pc' := 31) dX11_choose_30 rfl g2043 ?_
      refine qb_i2l (pc' := 32) dX11_choose_31 rfl ?_
      obtain ⟨g2044, h⟩ := h
      refine qb_lmul (pc' := 33) dX11_choose_32 rfl g2044 ?_
      refine qb_iload (pc' := 35) dX11_choose_33 rfl rfl ?_
      refine qb_iconst (pc' := 36) dX11_choose_35 rfl rfl ?_
      obtain ⟨g2045, h⟩ := h
      refine qb_iadd (pc' := 37) dX11_choose_36 rfl g2045 ?_
      refine qb_i2l (pc' := 38) dX11_choose_37 rfl ?_
      obtain ⟨g2046, h⟩ := h
      obtain ⟨g2047, h⟩ := h
      refine qb_ldiv (pc' := 39) dX11_choose_38 rfl g2046 g2047 ?_
      refine qb_lstoren (pc' := 40) (i := 2) (L' := [qb_i x0, qb_i x1, qb_l ((x2 * (x0 - x4)) / (x4 + 1)), none, qb_i x4]) dX11_choose_39 rfl rfl (Nat.le_of_ble_eq_true rfl) rfl rfl ?_
      refine qb_iinc (pc' := 43) (L' := [qb_i x0, qb_i x1, qb_l ((x2 * (x0 - x4)) / (x4 + 1)), none, qb_i (x4 + 1)]) dX11_choose_40 rfl rfl g2045 (Nat.le_of_ble_eq_true rfl) rfl rfl ?_
      refine qb_goto (tgt := 14) dX11_choose_43 rfl ?_
      refine qb_cut (L' := [qb_i x0, qb_i x1, qb_l ((x2 * (x0 - x4)) / (x4 + 1)), none, qb_i (x4 + 1)]) [true, true, true, false, true] rfl ?_
      exact h
def c_m_open (x1 : Int) (x2 : Int) (x3 : Int) (hp : qb_H) (K : Int → qb_H → Prop) : Prop := qb_R mX11_open 0 0 qb_sh 0 [qb_a 60, qb_i x1, qb_i x2, qb_i x3, none] [] hp (qb_I qb_sh K)
def r_m_open_35 (x1 : Int) (x2 : Int) (x3 : Int) (x4 : Int) (hp : qb_H) (K : Int → qb_H → Prop) : Prop := qb_R mX11_open 0 0 qb_sh 35 [none, qb_i x1, qb_i x2, qb_i x3, qb_i x4] [] hp (qb_I qb_sh K)
theorem b_m_open {x1 x2 x3 : Int} {hp : qb_H} {K : Int → qb_H → Prop} (h : ((v_m_in x1 1 30) = 0 → K (-2) hp) ∧ (¬ (v_m_in x1 1 30) = 0 → ((v_m_in x2 1 x1) = 0 → K (-2) hp) ∧ (¬ (v_m_in x2 1 x1) = 0 → ((v_m_in x3 0 99) = 0 → K (-2) hp) ∧ (¬ (v_m_in x3 0 99) = 0 → r_m_open_35 x1 x2 x3 0 hp K)))) : c_m_open x1 x2 x3 hp K := by
  unfold c_m_open
  refine qb_iloadn (pc' := 1) (i := 1) dX11_open_0 rfl rfl rfl ?_
  refine qb_iconst (pc' := 2) dX11_open_1 rfl rfl ?_
  refine qb_bipush (pc' := 4) dX11_open_2 rfl rfl rfl ?_
  refine qb_callSi (pc' := 7) (as := [.inl x1, .inl 1, .inl 30]) (rest := []) dX11_open_4 rfl qe_mX11_open_mX11_in rfl rfl rfl (Nat.le_of_ble_eq_true rfl) (Nat.le_of_ble_eq_true rfl) ⟨rfl, rfl⟩ (K := fun vz hpz => (v_m_in x1 1 30) = vz ∧ hp = hpz) (s_m_in x1 1 30 hp _ trivial ⟨rfl, rfl⟩) (fun vz hpz ez => ?_)
  obtain ⟨ez1, ez2⟩ := ez
  subst ez1
  subst ez2
  refine qb_feq (tgt := 29) (pc' := 10) dX11_open_7 rfl rfl (fun c2206 => ?_) (fun c2206 => ?_)
  · have h := h.1 c2206
    refine qb_bipush (pc' := 31) dX11_open_29 rfl rfl rfl ?_
    exact qb_reti dX11_open_31 rfl h
  · have h := h.2 c2206
    refine qb_iloadn (pc' := 11) (i := 2) dX11_open_10 rfl rfl rfl ?_
    refine qb_iconst (pc' := 12) dX11_open_11 rfl rfl ?_
    refine qb_iloadn (pc' := 13) (i := 1) dX11_open_12 rfl rfl rfl ?_
    refine qb_callSi (pc' := 16) (as := [.inl x2, .inl 1, .inl x1]) (rest := []) dX11_open_13 rfl qe_mX11_open_mX11_in rfl rfl rfl (Nat.le_of_ble_eq_true rfl) (Nat.le_of_ble_eq_true rfl) ⟨rfl, rfl⟩ (K := fun vz hpz => (v_m_in x2 1 x1) = vz ∧ hp = hpz) (s_m_in x2 1 x1 hp _ trivial ⟨rfl, rfl⟩) (fun vz hpz ez => ?_)
    obtain ⟨ez1, ez2⟩ := ez
    subst ez1
    subst ez2
    refine qb_feq (tgt := 29) (pc' := 19) dX11_open_16 rfl rfl (fun c2207 => ?_) (fun c2207 => ?_)
    · have h := h.1 c2207
      refine qb_bipush (pc' := 31) dX11_open_29 rfl rfl rfl ?_
      exact qb_reti dX11_open_31 rfl h
    · have h := h.2 c2207
      refine qb_iloadn (pc' := 20) (i := 3) dX11_open_19 rfl rfl rfl ?_
      refine qb_iconst (pc' := 21) dX11_open_20 rfl rfl ?_
      refine qb_bipush (pc' := 23) dX11_open_21 rfl rfl rfl ?_
      refine qb_callSi (pc' := 26) (as := [.inl x3, .inl 0, .inl 99]) (rest := []) dX11_open_23 rfl qe_mX11_open_mX11_in rfl rfl rfl (Nat.le_of_ble_eq_true rfl) (Nat.le_of_ble_eq_true rfl) ⟨rfl, rfl⟩ (K := fun vz hpz => (v_m_in x3 0 99) = vz ∧ hp = hpz) (s_m_in x3 0 99 hp _ trivial ⟨rfl, rfl⟩) (fun vz hpz ez => ?_)
      obtain ⟨ez1, ez2⟩ := ez
      subst ez1
      subst ez2
      refine qb_fne (tgt := 32) (pc' := 29) dX11_open_26 rfl rfl (fun c2208 => ?_) (fun c2208 => ?_)
      · have h := h.2 c2208
        refine qb_iconst (pc' := 33) dX11_open_32 rfl rfl ?_
        refine qb_istore (pc' := 35) (L' := [qb_a 60, qb_i x1, qb_i x2, qb_i x3, qb_i 0]) dX11_open_33 rfl (Nat.le_of_ble_eq_true rfl) rfl rfl ?_
        refine qb_cut (L' := [none, qb_i x1, qb_i x2, qb_i x3, qb_i 0]) [false, true, true, true, true] rfl ?_
        exact h
      · have h := h.1 c2208
        refine qb_bipush (pc' := 31) dX11_open_29 rfl rfl rfl ?_
        exact qb_reti dX11_open_31 rfl h
theorem b_m_open_35 {x1 x2 x3 x4 : Int} {hp : qb_H} {K : Int → qb_H → Prop} (h : (qb_in (x1 - x2)) ∧ c_m_choose (x1 - x2) x4 hp (fun v359 hp359 => (qb_inL (v359 * 100)) ∧ c_m_choose x1 x4 hp359 (fun v360 hp360 => (qb_inL (x3 * v360)) ∧ (((qb_cmp (v359 * 100) (x3 * v360)) ≤ 0 → K x4 hp360) ∧ (¬ (qb_cmp (v359 * 100) (x3 * v360)) ≤ 0 → (qb_in (x4 + 1)) ∧ r_m_open_35 x1 x2 x3 (x4 + 1) hp360 K))))) : r_m_open_35 x1 x2 x3 x4 hp K := by
  unfold r_m_open_35
  refine qb_iloadn (pc' := 36) (i := 1) dX11_open_35 rfl rfl rfl ?_
  refine qb_iloadn (pc' := 37) (i := 2) dX11_open_36 rfl rfl rfl ?_
  obtain ⟨g2042, h⟩ := h
  refine qb_isub (pc' := 38) dX11_open_37 rfl g2042 ?_
  refine qb_iload (pc' := 40) dX11_open_38 rfl rfl ?_
  refine qb_callSl (pc' := 43) (as := [.inl (x1 - x2), .inl x4]) (rest := []) dX11_open_40 rfl qe_mX11_open_mX11_choose rfl rfl rfl (Nat.le_of_ble_eq_true rfl) (Nat.le_of_ble_eq_true rfl) ⟨rfl, rfl⟩ h (fun v359 hp359 h => ?_)
  refine qb_ldc2 (pc' := 46) (n := 100) dX11_open_43 rfl (by constructor <;> decide) (qb_wg_in 1192 (by decide +kernel) (by decide +kernel)) ?_
  obtain ⟨g2048, h⟩ := h
  refine qb_lmul (pc' := 47) dX11_open_46 rfl g2048 ?_
  refine qb_iloadn (pc' := 48) (i := 3) dX11_open_47 rfl rfl rfl ?_
  refine qb_i2l (pc' := 49) dX11_open_48 rfl ?_
  refine qb_iloadn (pc' := 50) (i := 1) dX11_open_49 rfl rfl rfl ?_
  refine qb_iload (pc' := 52) dX11_open_50 rfl rfl ?_
  refine qb_callSl (pc' := 55) (as := [.inl x1, .inl x4]) (rest := [.inr (.inr x3), .inr (.inr (v359 * 100))]) dX11_open_52 rfl qe_mX11_open_mX11_choose rfl rfl rfl (Nat.le_of_ble_eq_true rfl) (Nat.le_of_ble_eq_true rfl) ⟨rfl, rfl⟩ h (fun v360 hp360 h => ?_)
  obtain ⟨g2049, h⟩ := h
  refine qb_lmul (pc' := 56) dX11_open_55 rfl g2049 ?_
  refine qb_lcmp (pc' := 57) dX11_open_56 rfl ?_
  refine qb_fle (tgt := 66) (pc' := 60) dX11_open_57 rfl rfl (fun c2213 => ?_) (fun c2213 => ?_)
  · have h := h.1 c2213
    refine qb_iload (pc' := 68) dX11_open_66 rfl rfl ?_
    exact qb_reti dX11_open_68 rfl h
  · have h := h.2 c2213
    obtain ⟨g2050, h⟩ := h
    refine qb_iinc (pc' := 63) (L' := [none, qb_i x1, qb_i x2, qb_i x3, qb_i (x4 + 1)]) dX11_open_60 rfl rfl g2050 (Nat.le_of_ble_eq_true rfl) rfl rfl ?_
    refine qb_goto (tgt := 35) dX11_open_63 rfl ?_
    refine qb_cut (L' := [none, qb_i x1, qb_i x2, qb_i x3, qb_i (x4 + 1)]) [false, true, true, true, true] rfl ?_
    exact h
def c_m_price (x1 : Int) (x2 : Int) (x3 : Int) (x4 : Int) (hp : qb_H) (K : Int → qb_H → Prop) : Prop := qb_R mX11_price 0 0 qb_sh 0 [qb_a 60, qb_i x1, qb_i x2, qb_i x3, qb_i x4] [] hp (qb_I qb_sh K)
theorem b_m_price {x1 x2 x3 x4 : Int} {hp : qb_H} {K : Int → qb_H → Prop} (h : ((v_m_in x1 0 1) = 0 → K (-1) hp) ∧ (¬ (v_m_in x1 0 1) = 0 → ((v_m_isDay x2) = 0 → K (-2) hp) ∧ (¬ (v_m_isDay x2) = 0 → ((v_m_in x3 0 1000) = 0 → K (-2) hp) ∧ (¬ (v_m_in x3 0 1000) = 0 → ((v_m_isDay x4) = 0 → K (-2) hp) ∧ (¬ (v_m_isDay x4) = 0 → ((hp 60 24) = 60 → K (-4) hp) ∧ (¬ (hp 60 24) = 60 → (0 ≤ (hp 60 24) ∧ (hp 60 24) < 60) ∧ K ((hp 60 24) + 1) (qb_st (qb_st (qb_st (qb_st (qb_st hp 79 (hp 60 24) x1) 80 (hp 60 24) x2) 81 (hp 60 24) x3) 82 (hp 60 24) x4) 60 24 ((hp 60 24) + 1)))))))) : c_m_price x1 x2 x3 x4 hp K := by
  unfold c_m_price
  refine qb_iloadn (pc' := 1) (i := 1) dX11_price_0 rfl rfl rfl ?_
  refine qb_iconst (pc' := 2) dX11_price_1 rfl rfl ?_
  refine qb_iconst (pc' := 3) dX11_price_2 rfl rfl ?_
  refine qb_callSi (pc' := 6) (as := [.inl x1, .inl 0, .inl 1]) (rest := []) dX11_price_3 rfl qe_mX11_price_mX11_in rfl rfl rfl (Nat.le_of_ble_eq_true rfl) (Nat.le_of_ble_eq_true rfl) ⟨rfl, rfl⟩ (K := fun vz hpz => (v_m_in x1 0 1) = vz ∧ hp = hpz) (s_m_in x1 0 1 hp _ trivial ⟨rfl, rfl⟩) (fun vz hpz ez => ?_)
  obtain ⟨ez1, ez2⟩ := ez
  subst ez1
  subst ez2
  refine qb_fne (tgt := 11) (pc' := 9) dX11_price_6 rfl rfl (fun c2219 => ?_) (fun c2219 => ?_)
  · have h := h.2 c2219
    refine qb_iloadn (pc' := 12) (i := 2) dX11_price_11 rfl rfl rfl ?_
    refine qb_callSi (pc' := 15) (as := [.inl x2]) (rest := []) dX11_price_12 rfl qe_mX11_price_mX11_isDay rfl rfl rfl (Nat.le_of_ble_eq_true rfl) (Nat.le_of_ble_eq_true rfl) ⟨rfl, rfl⟩ (K := fun vz hpz => (v_m_isDay x2) = vz ∧ hp = hpz) (s_m_isDay x2 hp _ trivial ⟨rfl, rfl⟩) (fun vz hpz ez => ?_)
    obtain ⟨ez1, ez2⟩ := ez
    subst ez1
    subst ez2
    refine qb_feq (tgt := 37) (pc' := 18) dX11_price_15 rfl rfl (fun c2220 => ?_) (fun c2220 => ?_)
    · have h := h.1 c2220
      refine qb_bipush (pc' := 39) dX11_price_37 rfl rfl rfl ?_
      exact qb_reti dX11_price_39 rfl h
    · have h := h.2 c2220
      refine qb_iloadn (pc' := 19) (i := 3) dX11_price_18 rfl rfl rfl ?_
      refine qb_iconst (pc' := 20) dX11_price_19 rfl rfl ?_
      refine qb_sipush (pc' := 23) dX11_price_20 rfl rfl rfl ?_
      refine qb_callSi (pc' := 26) (as := [.inl x3, .inl 0, .inl 1000]) (rest := []) dX11_price_23 rfl qe_mX11_price_mX11_in rfl rfl rfl (Nat.le_of_ble_eq_true rfl) (Nat.le_of_ble_eq_true rfl) ⟨rfl, rfl⟩ (K := fun vz hpz => (v_m_in x3 0 1000) = vz ∧ hp = hpz) (s_m_in x3 0 1000 hp _ trivial ⟨rfl, rfl⟩) (fun vz hpz ez => ?_)
      obtain ⟨ez1, ez2⟩ := ez
      subst ez1
      subst ez2
      refine qb_feq (tgt := 37) (pc' := 29) dX11_price_26 rfl rfl (fun c2221 => ?_) (fun c2221 => ?_)
      · have h := h.1 c2221
        refine qb_bipush (pc' := 39) dX11_price_37 rfl rfl rfl ?_
        exact qb_reti dX11_price_39 rfl h
      · have h := h.2 c2221
        refine qb_iload (pc' := 31) dX11_price_29 rfl rfl ?_
        refine qb_callSi (pc' := 34) (as := [.inl x4]) (rest := []) dX11_price_31 rfl qe_mX11_price_mX11_isDay rfl rfl rfl (Nat.le_of_ble_eq_true rfl) (Nat.le_of_ble_eq_true rfl) ⟨rfl, rfl⟩ (K := fun vz hpz => (v_m_isDay x4) = vz ∧ hp = hpz) (s_m_isDay x4 hp _ trivial ⟨rfl, rfl⟩) (fun vz hpz ez => ?_)
        obtain ⟨ez1, ez2⟩ := ez
        subst ez1
        subst ez2
        refine qb_fne (tgt := 40) (pc' := 37) dX11_price_34 rfl rfl (fun c2222 => ?_) (fun c2222 => ?_)
        · have h := h.2 c2222
          refine qb_aloadn (pc' := 41) (i := 0) dX11_price_40 rfl rfl rfl ?_
          refine qb_geti (pc' := 44) (v := (hp 60 24)) dX11_price_41 rfl qf_X11_266 qb_s60 rfl rfl ?_
          refine qb_bipush (pc' := 46) dX11_price_44 rfl rfl rfl ?_
          refine qb_cne (tgt := 52) (pc' := 49) dX11_price_46 rfl rfl (fun c2223 => ?_) (fun c2223 => ?_)
          · have h := h.2 c2223
            refine qb_aloadn (pc' := 53) (i := 0) dX11_price_52 rfl rfl rfl ?_
            refine qb_geta (pc' := 56) dX11_price_53 rfl qf_X11_64 qb_s60 rfl ?_
            refine qb_aloadn (pc' := 57) (i := 0) dX11_price_56 rfl rfl rfl ?_
            refine qb_geti (pc' := 60) (v := (hp 60 24)) dX11_price_57 rfl qf_X11_266 qb_s60 rfl rfl ?_
            refine qb_iloadn (pc' := 61) (i := 1) dX11_price_60 rfl rfl rfl ?_
            obtain ⟨g2052, h⟩ := h
            refine qb_iast (pc' := 62) dX11_price_61 rfl qb_s79 g2052.1 g2052.2 ?_
            refine qb_aloadn (pc' := 63) (i := 0) dX11_price_62 rfl rfl rfl ?_
            refine qb_geta (pc' := 66) dX11_price_63 rfl qf_X11_67 qb_s60 rfl ?_
            refine qb_aloadn (pc' := 67) (i := 0) dX11_price_66 rfl rfl rfl ?_
            refine qb_geti (pc' := 70) (v := (hp 60 24)) dX11_price_67 rfl qf_X11_266 qb_s60 rfl (qb_rdn rfl rfl) ?_
            refine qb_iloadn (pc' := 71) (i := 2) dX11_price_70 rfl rfl rfl ?_
            refine qb_iast (pc' := 72) dX11_price_71 rfl qb_s80 g2052.1 g2052.2 ?_
            refine qb_aloadn (pc' := 73) (i := 0) dX11_price_72 rfl rfl rfl ?_
            refine qb_geta (pc' := 76) dX11_price_73 rfl qf_X11_70 qb_s60 rfl ?_
            refine qb_aloadn (pc' := 77) (i := 0) dX11_price_76 rfl rfl rfl ?_
            refine qb_geti (pc' := 80) (v := (hp 60 24)) dX11_price_77 rfl qf_X11_266 qb_s60 rfl (qb_rdn rfl (qb_rdn rfl rfl)) ?_
            refine qb_iloadn (pc' := 81) (i := 3) dX11_price_80 rfl rfl rfl ?_
            refine qb_iast (pc' := 82) dX11_price_81 rfl qb_s81 g2052.1 g2052.2 ?_
            refine qb_aloadn (pc' := 83) (i := 0) dX11_price_82 rfl rfl rfl ?_
            refine qb_geta (pc' := 86) dX11_price_83 rfl qf_X11_73 qb_s60 rfl ?_
            refine qb_aloadn (pc' := 87) (i := 0) dX11_price_86 rfl rfl rfl ?_
            refine qb_geti (pc' := 90) (v := (hp 60 24)) dX11_price_87 rfl qf_X11_266 qb_s60 rfl (qb_rdn rfl (qb_rdn rfl (qb_rdn rfl rfl))) ?_
            refine qb_iload (pc' := 92) dX11_price_90 rfl rfl ?_
            refine qb_iast (pc' := 93) dX11_price_92 rfl qb_s82 g2052.1 g2052.2 ?_
            refine qb_aloadn (pc' := 94) (i := 0) dX11_price_93 rfl rfl rfl ?_
            refine qb_dup (pc' := 95) dX11_price_94 rfl rfl ?_
            refine qb_geti (pc' := 98) (v := (hp 60 24)) dX11_price_95 rfl qf_X11_266 qb_s60 rfl (qb_rdn rfl (qb_rdn rfl (qb_rdn rfl (qb_rdn rfl rfl)))) ?_
            refine qb_iconst (pc' := 99) dX11_price_98 rfl rfl ?_
            refine qb_iadd (pc' := 100) dX11_price_99 rfl (qb_ina g2052 (by decide)) ?_
            refine qb_puti (pc' := 103) (hp' := (qb_st (qb_st (qb_st (qb_st (qb_st hp 79 (hp 60 24) x1) 80 (hp 60 24) x2) 81 (hp 60 24) x3) 82 (hp 60 24) x4) 60 24 ((hp 60 24) + 1))) dX11_price_100 rfl qf_X11_266 (Or.inl rfl) qb_s60 rfl rfl ?_
            refine qb_aloadn (pc' := 104) (i := 0) dX11_price_103 rfl rfl rfl ?_
            refine qb_geti (pc' := 107) (v := ((hp 60 24) + 1)) dX11_price_104 rfl qf_X11_266 qb_s60 rfl qb_rds ?_
            exact qb_reti dX11_price_107 rfl h
          · have h := h.1 c2223
            refine qb_bipush (pc' := 51) dX11_price_49 rfl rfl rfl ?_
            exact qb_reti dX11_price_51 rfl h
        · have h := h.1 c2222
          refine qb_bipush (pc' := 39) dX11_price_37 rfl rfl rfl ?_
          exact qb_reti dX11_price_39 rfl h
  · have h := h.1 c2219
    refine qb_iconst (pc' := 10) dX11_price_9 rfl rfl ?_
    exact qb_reti dX11_price_10 rfl h
def v_m_price (x1 : Int) (x2 : Int) (x3 : Int) (x4 : Int) (hp : qb_H) : Int := (if (v_m_in x1 0 1) = 0 then ((-1) : Int) else (if (v_m_isDay x2) = 0 then ((-2) : Int) else (if (v_m_in x3 0 1000) = 0 then ((-2) : Int) else (if (v_m_isDay x4) = 0 then ((-2) : Int) else (if (hp 60 24) = 60 then ((-4) : Int) else ((hp 60 24) + 1))))))
def h_m_price (x1 : Int) (x2 : Int) (x3 : Int) (x4 : Int) (hp : qb_H) : qb_H := (if (v_m_in x1 0 1) = 0 then hp else (if (v_m_isDay x2) = 0 then hp else (if (v_m_in x3 0 1000) = 0 then hp else (if (v_m_isDay x4) = 0 then hp else (if (hp 60 24) = 60 then hp else (qb_st (qb_st (qb_st (qb_st (qb_st hp 79 (hp 60 24) x1) 80 (hp 60 24) x2) 81 (hp 60 24) x3) 82 (hp 60 24) x4) 60 24 ((hp 60 24) + 1)))))))
theorem hn_m_price (x1 : Int) (x2 : Int) (x3 : Int) (x4 : Int) (hp : qb_H) (c : Nat) (h60 : c ≠ 60) (h79 : c ≠ 79) (h80 : c ≠ 80) (h81 : c ≠ 81) (h82 : c ≠ 82) : h_m_price x1 x2 x3 x4 hp c = hp c := by
  unfold h_m_price
  (repeat' split) <;> simp only [qb_st_ne, qb_cpy_ne, ne_eq, not_false_eq_true, h60, h79, h80, h81, h82, ]
def g_m_price (x1 : Int) (x2 : Int) (x3 : Int) (x4 : Int) (hp : qb_H) : Prop := (¬ (v_m_in x1 0 1) = 0 → (¬ (v_m_isDay x2) = 0 → (¬ (v_m_in x3 0 1000) = 0 → (¬ (v_m_isDay x4) = 0 → (¬ (hp 60 24) = 60 → 0 ≤ (hp 60 24) ∧ (hp 60 24) < 60)))))
theorem s_m_price (x1 : Int) (x2 : Int) (x3 : Int) (x4 : Int) (hp : qb_H) (K : Int → qb_H → Prop) (hg : g_m_price x1 x2 x3 x4 hp) (hK : K (v_m_price x1 x2 x3 x4 hp) (h_m_price x1 x2 x3 x4 hp)) : c_m_price x1 x2 x3 x4 hp K := by
  refine b_m_price ?_
  unfold g_m_price at hg
  unfold v_m_price h_m_price at hK
  refine ⟨fun c2224 => ?_, fun c2224 => ?_⟩
  · simpa only [if_pos c2224] using hK
  · have hg := hg c2224
    refine ⟨fun c2225 => ?_, fun c2225 => ?_⟩
    · simpa only [if_neg c2224, if_pos c2225] using hK
    · have hg := hg c2225
      refine ⟨fun c2226 => ?_, fun c2226 => ?_⟩
      · simpa only [if_neg c2224, if_neg c2225, if_pos c2226] using hK
      · have hg := hg c2226
        refine ⟨fun c2227 => ?_, fun c2227 => ?_⟩
        · simpa only [if_neg c2224, if_neg c2225, if_neg c2226, if_pos c2227] using hK
        · have hg := hg c2227
          refine ⟨fun c2228 => ?_, fun c2228 => ?_⟩
          · simpa only [if_neg c2224, if_neg c2225, if_neg c2226, if_neg c2227, if_pos c2228] using hK
          · have hg := hg c2228
            refine ⟨hg, ?_⟩
            simpa only [if_neg c2224, if_neg c2225, if_neg c2226, if_neg c2227, if_neg c2228] using hK
def c_m_priceOn (x1 : Int) (x2 : Int) (x3 : Int) (hp : qb_H) (K : Int → qb_H → Prop) : Prop := qb_R mX11_priceOn 0 0 qb_sh 0 [qb_a 60, qb_i x1, qb_i x2, qb_i x3] [] hp (qb_I qb_sh K)
theorem b_m_priceOn {x1 x2 x3 : Int} {hp : qb_H} {K : Int → qb_H → Prop} (h : ((v_m_in x1 0 1) = 0 → K (-1) hp) ∧ (¬ (v_m_in x1 0 1) = 0 → ((v_m_isDay x2) = 0 → K (-2) hp) ∧ (¬ (v_m_isDay x2) = 0 → ((v_m_isDay x3) = 0 → K (-2) hp) ∧ (¬ (v_m_isDay x3) = 0 → c_m_priceAt x1 x2 x3 hp (fun v362 hp362 => K v362 hp362))))) : c_m_priceOn x1 x2 x3 hp K := by
  unfold c_m_priceOn
  refine qb_iloadn (pc' := 1) (i := 1) dX11_priceOn_0 rfl rfl rfl ?_
  refine qb_iconst (pc' := 2) dX11_priceOn_1 rfl rfl ?_
  refine qb_iconst (pc' := 3) dX11_priceOn_2 rfl rfl ?_
  refine qb_callSi (pc' := 6) (as := [.inl x1, .inl 0, .inl 1]) (rest := []) dX11_priceOn_3 rfl qe_mX11_priceOn_mX11_in rfl rfl rfl (Nat.le_of_ble_eq_true rfl) (Nat.le_of_ble_eq_true rfl) ⟨rfl, rfl⟩ (K := fun vz hpz => (v_m_in x1 0 1) = vz ∧ hp = hpz) (s_m_in x1 0 1 hp _ trivial ⟨rfl, rfl⟩) (fun vz hpz ez => ?_)
  obtain ⟨ez1, ez2⟩ := ez
  subst ez1
  subst ez2
  refine qb_fne (tgt := 11) (pc' := 9) dX11_priceOn_6 rfl rfl (fun c2233 => ?_) (fun c2233 => ?_)
  · have h := h.2 c2233
    refine qb_iloadn (pc' := 12) (i := 2) dX11_priceOn_11 rfl rfl rfl ?_
    refine qb_callSi (pc' := 15) (as := [.inl x2]) (rest := []) dX11_priceOn_12 rfl qe_mX11_priceOn_mX11_isDay rfl rfl rfl (Nat.le_of_ble_eq_true rfl) (Nat.le_of_ble_eq_true rfl) ⟨rfl, rfl⟩ (K := fun vz hpz => (v_m_isDay x2) = vz ∧ hp = hpz) (s_m_isDay x2 hp _ trivial ⟨rfl, rfl⟩) (fun vz hpz ez => ?_)
    obtain ⟨ez1, ez2⟩ := ez
    subst ez1
    subst ez2
    refine qb_feq (tgt := 35) (pc' := 18) dX11_priceOn_15 rfl rfl (fun c2234 => ?_) (fun c2234 => ?_)
    · have h := h.1 c2234
      refine qb_bipush (pc' := 37) dX11_priceOn_35 rfl rfl rfl ?_
      exact qb_reti dX11_priceOn_37 rfl h
    · have h := h.2 c2234
      refine qb_iloadn (pc' := 19) (i := 3) dX11_priceOn_18 rfl rfl rfl ?_
      refine qb_callSi (pc' := 22) (as := [.inl x3]) (rest := []) dX11_priceOn_19 rfl qe_mX11_priceOn_mX11_isDay rfl rfl rfl (Nat.le_of_ble_eq_true rfl) (Nat.le_of_ble_eq_true rfl) ⟨rfl, rfl⟩ (K := fun vz hpz => (v_m_isDay x3) = vz ∧ hp = hpz) (s_m_isDay x3 hp _ trivial ⟨rfl, rfl⟩) (fun vz hpz ez => ?_)
      obtain ⟨ez1, ez2⟩ := ez
      subst ez1
      subst ez2
      refine qb_feq (tgt := 35) (pc' := 25) dX11_priceOn_22 rfl rfl (fun c2236 => ?_) (fun c2236 => ?_)
      · have h := h.1 c2236
        refine qb_bipush (pc' := 37) dX11_priceOn_35 rfl rfl rfl ?_
        exact qb_reti dX11_priceOn_37 rfl h
      · have h := h.2 c2236
        refine qb_aloadn (pc' := 26) (i := 0) dX11_priceOn_25 rfl rfl rfl ?_
        refine qb_iloadn (pc' := 27) (i := 1) dX11_priceOn_26 rfl rfl rfl ?_
        refine qb_iloadn (pc' := 28) (i := 2) dX11_priceOn_27 rfl rfl rfl ?_
        refine qb_iloadn (pc' := 29) (i := 3) dX11_priceOn_28 rfl rfl rfl ?_
        refine qb_callVi (pc' := 32) (b := 60) (as := [.inl x1, .inl x2, .inl x3]) (rest := []) dX11_priceOn_29 rfl qe_mX11_priceOn_mX11_priceAt rfl rfl qb_s60 rfl rfl (Nat.le_of_ble_eq_true rfl) (Nat.le_of_ble_eq_true rfl) ⟨rfl, rfl⟩ h (fun v362 hp362 h => ?_)
        refine qb_goto (tgt := 37) dX11_priceOn_32 rfl ?_
        exact qb_reti dX11_priceOn_37 rfl h
  · have h := h.1 c2233
    refine qb_iconst (pc' := 10) dX11_priceOn_9 rfl rfl ?_
    exact qb_reti dX11_priceOn_10 rfl h
def c_m_rival (x1 : Int) (x2 : Int) (hp : qb_H) (K : Int → qb_H → Prop) : Prop := qb_R mX11_rival 0 0 qb_sh 0 [qb_a 60, qb_i x1, qb_i x2, none] [] hp (qb_I qb_sh K)
theorem b_m_rival {x1 x2 : Int} {hp : qb_H} {K : Int → qb_H → Prop} (h : c_m_fewest hp (fun v365 hp365 => (0 ≤ v365 → c_m_setOf v365 x1 x2 hp365 (fun v366 hp366 => K v366 hp366)) ∧ (¬ 0 ≤ v365 → (∀ (y367 : Int), y367 = (if x1 = (-1) then (0 : Int) else (-6)) → K y367 hp365)))) : c_m_rival x1 x2 hp K := by
  unfold c_m_rival
  refine qb_aloadn (pc' := 1) (i := 0) dX11_rival_0 rfl rfl rfl ?_
  refine qb_callVi (pc' := 4) (b := 60) (as := []) (rest := []) dX11_rival_1 rfl qe_mX11_rival_mX11_fewest rfl rfl qb_s60 rfl rfl (Nat.le_of_ble_eq_true rfl) (Nat.le_of_ble_eq_true rfl) ⟨rfl, rfl⟩ h (fun v365 hp365 h => ?_)
  refine qb_istoren (pc' := 5) (i := 3) (L' := [qb_a 60, qb_i x1, qb_i x2, qb_i v365]) dX11_rival_4 rfl rfl (Nat.le_of_ble_eq_true rfl) rfl rfl ?_
  refine qb_iloadn (pc' := 6) (i := 3) dX11_rival_5 rfl rfl rfl ?_
  refine qb_fge (tgt := 23) (pc' := 9) dX11_rival_6 rfl rfl (fun c2239 => ?_) (fun c2239 => ?_)
  · have h := h.1 c2239
    refine qb_aloadn (pc' := 24) (i := 0) dX11_rival_23 rfl rfl rfl ?_
    refine qb_iloadn (pc' := 25) (i := 3) dX11_rival_24 rfl rfl rfl ?_
    refine qb_iloadn (pc' := 26) (i := 1) dX11_rival_25 rfl rfl rfl ?_
    refine qb_iloadn (pc' := 27) (i := 2) dX11_rival_26 rfl rfl rfl ?_
    refine qb_callVi (pc' := 30) (b := 60) (as := [.inl v365, .inl x1, .inl x2]) (rest := []) dX11_rival_27 rfl qe_mX11_rival_mX11_setOf rfl rfl qb_s60 rfl rfl (Nat.le_of_ble_eq_true rfl) (Nat.le_of_ble_eq_true rfl) ⟨rfl, rfl⟩ h (fun v366 hp366 h => ?_)
    exact qb_reti dX11_rival_30 rfl h
  · have h := h.2 c2239
    refine qb_iloadn (pc' := 10) (i := 1) dX11_rival_9 rfl rfl rfl ?_
    refine qb_iconst (pc' := 11) dX11_rival_10 rfl rfl ?_
    have k1498 : ∀ (y367 : Int), y367 = (if x1 = (-1) then (0 : Int) else (-6)) → qb_R mX11_rival 0 0 qb_sh 30 [none, none, none, none] [.inl y367] hp365 (qb_I qb_sh K) := by
      intro y367 ey367
      have h := h y367 ey367
      exact qb_reti dX11_rival_30 rfl h
    refine qb_cne (tgt := 18) (pc' := 14) dX11_rival_11 rfl rfl (fun c2240 => ?_) (fun c2240 => ?_)
    · refine qb_bipush (pc' := 20) dX11_rival_18 rfl rfl rfl ?_
      refine qb_goto (tgt := 30) dX11_rival_20 rfl ?_
      refine qb_cut (L' := [none, none, none, none]) [false, false, false, false] rfl ?_
      exact k1498 _ (if_neg c2240).symm
    · refine qb_iconst (pc' := 15) dX11_rival_14 rfl rfl ?_
      refine qb_goto (tgt := 30) dX11_rival_15 rfl ?_
      refine qb_cut (L' := [none, none, none, none]) [false, false, false, false] rfl ?_
      exact k1498 _ (if_pos c2240).symm
def c_m_rule (x1 : Int) (x2 : Int) (hp : qb_H) (K : Int → qb_H → Prop) : Prop := qb_R mX11_rule 0 0 qb_sh 0 [qb_a 60, qb_i x1, qb_i x2, none, none, none] [] hp (qb_I qb_sh K)
theorem b_m_rule {x1 x2 : Int} {hp : qb_H} {K : Int → qb_H → Prop} (h : ((v_m_in x1 0 6) = 0 → K (-2) hp) ∧ (¬ (v_m_in x1 0 6) = 0 → ((v_m_in x2 (if x1 = 0 then (1 : Int) else (if x1 = 2 then (1 : Int) else (if x1 = 1 then (100 : Int) else (if x1 = 4 then (500 : Int) else 0)))) (if x1 = 0 then (72 : Int) else (if x1 = 1 then (1500 : Int) else (if x1 = 4 then (1500 : Int) else (if x1 = 3 then (50 : Int) else 100))))) = 0 → K (-2) hp) ∧ (¬ (v_m_in x2 (if x1 = 0 then (1 : Int) else (if x1 = 2 then (1 : Int) else (if x1 = 1 then (100 : Int) else (if x1 = 4 then (500 : Int) else 0)))) (if x1 = 0 then (72 : Int) else (if x1 = 1 then (1500 : Int) else (if x1 = 4 then (1500 : Int) else (if x1 = 3 then (50 : Int) else 100))))) = 0 → (0 ≤ x1 ∧ x1 < 7) ∧ K (hp 67 x1) (qb_st hp 67 x1 x2)))) : c_m_rule x1 x2 hp K := by
  unfold c_m_rule
  refine qb_iloadn (pc' := 1) (i := 1) dX11_rule_0 rfl rfl rfl ?_
  refine qb_iconst (pc' := 2) dX11_rule_1 rfl rfl ?_
  refine qb_bipush (pc' := 4) dX11_rule_2 rfl rfl rfl ?_
  refine qb_callSi (pc' := 7) (as := [.inl x1, .inl 0, .inl 6]) (rest := []) dX11_rule_4 rfl qe_mX11_rule_mX11_in rfl rfl rfl (Nat.le_of_ble_eq_true rfl) (Nat.le_of_ble_eq_true rfl) ⟨rfl, rfl⟩ (K := fun vz hpz => (v_m_in x1 0 6) = vz ∧ hp = hpz) (s_m_in x1 0 6 hp _ trivial ⟨rfl, rfl⟩) (fun vz hpz ez => ?_)
  obtain ⟨ez1, ez2⟩ := ez
  subst ez1
  subst ez2
  refine qb_fne (tgt := 13) (pc' := 10) dX11_rule_7 rfl rfl (fun c2273 => ?_) (fun c2273 => ?_)
  · have h := h.2 c2273
    refine qb_iloadn (pc' := 14) (i := 1) dX11_rule_13 rfl rfl rfl ?_
    have k1536 : qb_R mX11_rule 0 0 qb_sh 48 [qb_a 60, qb_i x1, qb_i x2, none, none, none] [.inl (if x1 = 0 then (1 : Int) else (if x1 = 2 then (1 : Int) else (if x1 = 1 then (100 : Int) else (if x1 = 4 then (500 : Int) else 0))))] hp (qb_I qb_sh K) := by
      refine qb_istoren (pc' := 49) (i := 3) (L' := [qb_a 60, qb_i x1, qb_i x2, qb_i (if x1 = 0 then (1 : Int) else (if x1 = 2 then (1 : Int) else (if x1 = 1 then (100 : Int) else (if x1 = 4 then (500 : Int) else 0)))), none, none]) dX11_rule_48 rfl rfl (Nat.le_of_ble_eq_true rfl) rfl rfl ?_
      refine qb_iloadn (pc' := 50) (i := 1) dX11_rule_49 rfl rfl rfl ?_
      have k1551 : qb_R mX11_rule 0 0 qb_sh 86 [qb_a 60, qb_i x1, qb_i x2, qb_i (if x1 = 0 then (1 : Int) else (if x1 = 2 then (1 : Int) else (if x1 = 1 then (100 : Int) else (if x1 = 4 then (500 : Int) else 0)))), none, none] [.inl (if x1 = 0 then (72 : Int) else (if x1 = 1 then (1500 : Int) else (if x1 = 4 then (1500 : Int) else (if x1 = 3 then (50 : Int) else 100))))] hp (qb_I qb_sh K) := by
        refine qb_istore (pc' := 88) (L' := [qb_a 60, qb_i x1, qb_i x2, qb_i (if x1 = 0 then (1 : Int) else (if x1 = 2 then (1 : Int) else (if x1 = 1 then (100 : Int) else (if x1 = 4 then (500 : Int) else 0)))), qb_i (if x1 = 0 then (72 : Int) else (if x1 = 1 then (1500 : Int) else (if x1 = 4 then (1500 : Int) else (if x1 = 3 then (50 : Int) else 100)))), none]) dX11_rule_86 rfl (Nat.le_of_ble_eq_true rfl) rfl rfl ?_
        refine qb_iloadn (pc' := 89) (i := 2) dX11_rule_88 rfl rfl rfl ?_
        refine qb_iloadn (pc' := 90) (i := 3) dX11_rule_89 rfl rfl rfl ?_
        refine qb_iload (pc' := 92) dX11_rule_90 rfl rfl ?_
        refine qb_callSi (pc' := 95) (as := [.inl x2, .inl (if x1 = 0 then (1 : Int) else (if x1 = 2 then (1 : Int) else (if x1 = 1 then (100 : Int) else (if x1 = 4 then (500 : Int) else 0)))), .inl (if x1 = 0 then (72 : Int) else (if x1 = 1 then (1500 : Int) else (if x1 = 4 then (1500 : Int) else (if x1 = 3 then (50 : Int) else 100))))]) (rest := []) dX11_rule_92 rfl qe_mX11_rule_mX11_in rfl rfl rfl (Nat.le_of_ble_eq_true rfl) (Nat.le_of_ble_eq_true rfl) ⟨rfl, rfl⟩ (K := fun vz hpz => (v_m_in x2 (if x1 = 0 then (1 : Int) else (if x1 = 2 then (1 : Int) else (if x1 = 1 then (100 : Int) else (if x1 = 4 then (500 : Int) else 0)))) (if x1 = 0 then (72 : Int) else (if x1 = 1 then (1500 : Int) else (if x1 = 4 then (1500 : Int) else (if x1 = 3 then (50 : Int) else 100))))) = vz ∧ hp = hpz) (s_m_in x2 (if x1 = 0 then (1 : Int) else (if x1 = 2 then (1 : Int) else (if x1 = 1 then (100 : Int) else (if x1 = 4 then (500 : Int) else 0)))) (if x1 = 0 then (72 : Int) else (if x1 = 1 then (1500 : Int) else (if x1 = 4 then (1500 : Int) else (if x1 = 3 then (50 : Int) else 100)))) hp _ trivial ⟨rfl, rfl⟩) (fun vz hpz ez => ?_)
        obtain ⟨ez1, ez2⟩ := ez
        subst ez1
        subst ez2
        refine qb_fne (tgt := 101) (pc' := 98) dX11_rule_95 rfl rfl (fun c2304 => ?_) (fun c2304 => ?_)
        · have h := h.2 c2304
          refine qb_aloadn (pc' := 102) (i := 0) dX11_rule_101 rfl rfl rfl ?_
          refine qb_geta (pc' := 105) dX11_rule_102 rfl qf_X11_28 qb_s60 rfl ?_
          refine qb_iloadn (pc' := 106) (i := 1) dX11_rule_105 rfl rfl rfl ?_
          obtain ⟨g2054, h⟩ := h
          refine qb_iald (pc' := 107) (v := (hp 67 x1)) dX11_rule_106 rfl qb_s67 g2054.1 g2054.2 rfl ?_
          refine qb_istore (pc' := 109) (L' := [qb_a 60, qb_i x1, qb_i x2, qb_i (if x1 = 0 then (1 : Int) else (if x1 = 2 then (1 : Int) else (if x1 = 1 then (100 : Int) else (if x1 = 4 then (500 : Int) else 0)))), qb_i (if x1 = 0 then (72 : Int) else (if x1 = 1 then (1500 : Int) else (if x1 = 4 then (1500 : Int) else (if x1 = 3 then (50 : Int) else 100)))), qb_i (hp 67 x1)]) dX11_rule_107 rfl (Nat.le_of_ble_eq_true rfl) rfl rfl ?_
          refine qb_aloadn (pc' := 110) (i := 0) dX11_rule_109 rfl rfl rfl ?_
          refine qb_geta (pc' := 113) dX11_rule_110 rfl qf_X11_28 qb_s60 rfl ?_
          refine qb_iloadn (pc' := 114) (i := 1) dX11_rule_113 rfl rfl rfl ?_
          refine qb_iloadn (pc' := 115) (i := 2) dX11_rule_114 rfl rfl rfl ?_
          refine qb_iast (pc' := 116) dX11_rule_115 rfl qb_s67 g2054.1 g2054.2 ?_
          refine qb_iload (pc' := 118) dX11_rule_116 rfl rfl ?_
          exact qb_reti dX11_rule_118 rfl h
        · have h := h.1 c2304
          refine qb_bipush (pc' := 100) dX11_rule_98 rfl rfl rfl ?_
          exact qb_reti dX11_rule_100 rfl h
      refine qb_fne (tgt := 58) (pc' := 53) dX11_rule_50 rfl rfl (fun c2289 => ?_) (fun c2289 => ?_)
      · refine qb_iloadn (pc' := 59) (i := 1) dX11_rule_58 rfl rfl rfl ?_
        refine qb_iconst (pc' := 60) dX11_rule_59 rfl rfl ?_
        have k1555 : qb_R mX11_rule 0 0 qb_sh 86 [qb_a 60, qb_i x1, qb_i x2, qb_i (if x1 = 0 then (1 : Int) else (if x1 = 2 then (1 : Int) else (if x1 = 1 then (100 : Int) else (if x1 = 4 then (500 : Int) else 0)))), none, none] [.inl (if x1 = 1 then (1500 : Int) else (if x1 = 4 then (1500 : Int) else (if x1 = 3 then (50 : Int) else 100)))] hp (qb_I qb_sh K) := by
          refine qb_cut (L' := [qb_a 60, qb_i x1, qb_i x2, qb_i (if x1 = 0 then (1 : Int) else (if x1 = 2 then (1 : Int) else (if x1 = 1 then (100 : Int) else (if x1 = 4 then (500 : Int) else 0)))), none, none]) [true, true, true, true, false, false] rfl ?_
          simpa only [if_neg c2289] using k1551
        refine qb_ceq (tgt := 68) (pc' := 63) dX11_rule_60 rfl rfl (fun c2297 => ?_) (fun c2297 => ?_)
        · refine qb_sipush (pc' := 71) dX11_rule_68 rfl rfl rfl ?_
          refine qb_goto (tgt := 86) dX11_rule_71 rfl ?_
          refine qb_cut (L' := [qb_a 60, qb_i x1, qb_i x2, qb_i (if x1 = 0 then (1 : Int) else (if x1 = 2 then (1 : Int) else (if x1 = 1 then (100 : Int) else (if x1 = 4 then (500 : Int) else 0)))), none, none]) [true, true, true, true, false, false] rfl ?_
          simpa only [if_pos c2297] using k1555
        · refine qb_iloadn (pc' := 64) (i := 1) dX11_rule_63 rfl rfl rfl ?_
          refine qb_iconst (pc' := 65) dX11_rule_64 rfl rfl ?_
          have k1557 : qb_R mX11_rule 0 0 qb_sh 86 [qb_a 60, qb_i x1, qb_i x2, qb_i (if x1 = 0 then (1 : Int) else (if x1 = 2 then (1 : Int) else (if x1 = 1 then (100 : Int) else (if x1 = 4 then (500 : Int) else 0)))), none, none] [.inl (if x1 = 4 then (1500 : Int) else (if x1 = 3 then (50 : Int) else 100))] hp (qb_I qb_sh K) := by
            refine qb_cut (L' := [qb_a 60, qb_i x1, qb_i x2, qb_i (if x1 = 0 then (1 : Int) else (if x1 = 2 then (1 : Int) else (if x1 = 1 then (100 : Int) else (if x1 = 4 then (500 : Int) else 0)))), none, none]) [true, true, true, true, false, false] rfl ?_
            simpa only [if_neg c2297] using k1555
          refine qb_cne (tgt := 74) (pc' := 68) dX11_rule_65 rfl rfl (fun c2301 => ?_) (fun c2301 => ?_)
          · refine qb_iloadn (pc' := 75) (i := 1) dX11_rule_74 rfl rfl rfl ?_
            refine qb_iconst (pc' := 76) dX11_rule_75 rfl rfl ?_
            have k1558 : qb_R mX11_rule 0 0 qb_sh 86 [qb_a 60, qb_i x1, qb_i x2, qb_i (if x1 = 0 then (1 : Int) else (if x1 = 2 then (1 : Int) else (if x1 = 1 then (100 : Int) else (if x1 = 4 then (500 : Int) else 0)))), none, none] [.inl (if x1 = 3 then (50 : Int) else 100)] hp (qb_I qb_sh K) := by
              refine qb_cut (L' := [qb_a 60, qb_i x1, qb_i x2, qb_i (if x1 = 0 then (1 : Int) else (if x1 = 2 then (1 : Int) else (if x1 = 1 then (100 : Int) else (if x1 = 4 then (500 : Int) else 0)))), none, none]) [true, true, true, true, false, false] rfl ?_
              simpa only [if_neg c2301] using k1557
            refine qb_cne (tgt := 84) (pc' := 79) dX11_rule_76 rfl rfl (fun c2303 => ?_) (fun c2303 => ?_)
            · refine qb_bipush (pc' := 86) dX11_rule_84 rfl rfl rfl ?_
              refine qb_cut (L' := [qb_a 60, qb_i x1, qb_i x2, qb_i (if x1 = 0 then (1 : Int) else (if x1 = 2 then (1 : Int) else (if x1 = 1 then (100 : Int) else (if x1 = 4 then (500 : Int) else 0)))), none, none]) [true, true, true, true, false, false] rfl ?_
              simpa only [if_neg c2303] using k1558
            · refine qb_bipush (pc' := 81) dX11_rule_79 rfl rfl rfl ?_
              refine qb_goto (tgt := 86) dX11_rule_81 rfl ?_
              refine qb_cut (L' := [qb_a 60, qb_i x1, qb_i x2, qb_i (if x1 = 0 then (1 : Int) else (if x1 = 2 then (1 : Int) else (if x1 = 1 then (100 : Int) else (if x1 = 4 then (500 : Int) else 0)))), none, none]) [true, true, true, true, false, false] rfl ?_
              simpa only [if_pos c2303] using k1558
          · refine qb_sipush (pc' := 71) dX11_rule_68 rfl rfl rfl ?_
            refine qb_goto (tgt := 86) dX11_rule_71 rfl ?_
            refine qb_cut (L' := [qb_a 60, qb_i x1, qb_i x2, qb_i (if x1 = 0 then (1 : Int) else (if x1 = 2 then (1 : Int) else (if x1 = 1 then (100 : Int) else (if x1 = 4 then (500 : Int) else 0)))), none, none]) [true, true, true, true, false, false] rfl ?_
            simpa only [if_pos c2301] using k1557
      · refine qb_bipush (pc' := 55) dX11_rule_53 rfl rfl rfl ?_
        refine qb_goto (tgt := 86) dX11_rule_55 rfl ?_
        refine qb_cut (L' := [qb_a 60, qb_i x1, qb_i x2, qb_i (if x1 = 0 then (1 : Int) else (if x1 = 2 then (1 : Int) else (if x1 = 1 then (100 : Int) else (if x1 = 4 then (500 : Int) else 0)))), none, none]) [true, true, true, true, false, false] rfl ?_
        simpa only [if_pos c2289] using k1551
    refine qb_feq (tgt := 22) (pc' := 17) dX11_rule_14 rfl rfl (fun c2274 => ?_) (fun c2274 => ?_)
    · refine qb_iconst (pc' := 23) dX11_rule_22 rfl rfl ?_
      refine qb_goto (tgt := 48) dX11_rule_23 rfl ?_
      refine qb_cut (L' := [qb_a 60, qb_i x1, qb_i x2, none, none, none]) [true, true, true, false, false, false] rfl ?_
      simpa only [if_pos c2274] using k1536
    · refine qb_iloadn (pc' := 18) (i := 1) dX11_rule_17 rfl rfl rfl ?_
      refine qb_iconst (pc' := 19) dX11_rule_18 rfl rfl ?_
      have k1540 : qb_R mX11_rule 0 0 qb_sh 48 [qb_a 60, qb_i x1, qb_i x2, none, none, none] [.inl (if x1 = 2 then (1 : Int) else (if x1 = 1 then (100 : Int) else (if x1 = 4 then (500 : Int) else 0)))] hp (qb_I qb_sh K) := by
        refine qb_cut (L' := [qb_a 60, qb_i x1, qb_i x2, none, none, none]) [true, true, true, false, false, false] rfl ?_
        simpa only [if_neg c2274] using k1536
      refine qb_cne (tgt := 26) (pc' := 22) dX11_rule_19 rfl rfl (fun c2282 => ?_) (fun c2282 => ?_)
      · refine qb_iloadn (pc' := 27) (i := 1) dX11_rule_26 rfl rfl rfl ?_
        refine qb_iconst (pc' := 28) dX11_rule_27 rfl rfl ?_
        have k1542 : qb_R mX11_rule 0 0 qb_sh 48 [qb_a 60, qb_i x1, qb_i x2, none, none, none] [.inl (if x1 = 1 then (100 : Int) else (if x1 = 4 then (500 : Int) else 0))] hp (qb_I qb_sh K) := by
          refine qb_cut (L' := [qb_a 60, qb_i x1, qb_i x2, none, none, none]) [true, true, true, false, false, false] rfl ?_
          simpa only [if_neg c2282] using k1540
        refine qb_cne (tgt := 36) (pc' := 31) dX11_rule_28 rfl rfl (fun c2286 => ?_) (fun c2286 => ?_)
        · refine qb_iloadn (pc' := 37) (i := 1) dX11_rule_36 rfl rfl rfl ?_
          refine qb_iconst (pc' := 38) dX11_rule_37 rfl rfl ?_
          have k1543 : qb_R mX11_rule 0 0 qb_sh 48 [qb_a 60, qb_i x1, qb_i x2, none, none, none] [.inl (if x1 = 4 then (500 : Int) else 0)] hp (qb_I qb_sh K) := by
            refine qb_cut (L' := [qb_a 60, qb_i x1, qb_i x2, none, none, none]) [true, true, true, false, false, false] rfl ?_
            simpa only [if_neg c2286] using k1542
          refine qb_cne (tgt := 47) (pc' := 41) dX11_rule_38 rfl rfl (fun c2288 => ?_) (fun c2288 => ?_)
          · refine qb_iconst (pc' := 48) dX11_rule_47 rfl rfl ?_
            refine qb_cut (L' := [qb_a 60, qb_i x1, qb_i x2, none, none, none]) [true, true, true, false, false, false] rfl ?_
            simpa only [if_neg c2288] using k1543
          · refine qb_sipush (pc' := 44) dX11_rule_41 rfl rfl rfl ?_
            refine qb_goto (tgt := 48) dX11_rule_44 rfl ?_
            refine qb_cut (L' := [qb_a 60, qb_i x1, qb_i x2, none, none, none]) [true, true, true, false, false, false] rfl ?_
            simpa only [if_pos c2288] using k1543
        · refine qb_bipush (pc' := 33) dX11_rule_31 rfl rfl rfl ?_
          refine qb_goto (tgt := 48) dX11_rule_33 rfl ?_
          refine qb_cut (L' := [qb_a 60, qb_i x1, qb_i x2, none, none, none]) [true, true, true, false, false, false] rfl ?_
          simpa only [if_pos c2286] using k1542
      · refine qb_iconst (pc' := 23) dX11_rule_22 rfl rfl ?_
        refine qb_goto (tgt := 48) dX11_rule_23 rfl ?_
        refine qb_cut (L' := [qb_a 60, qb_i x1, qb_i x2, none, none, none]) [true, true, true, false, false, false] rfl ?_
        simpa only [if_pos c2282] using k1540
  · have h := h.1 c2273
    refine qb_bipush (pc' := 12) dX11_rule_10 rfl rfl rfl ?_
    exact qb_reti dX11_rule_12 rfl h
def v_m_rule (x1 : Int) (x2 : Int) (hp : qb_H) : Int := (if (v_m_in x1 0 6) = 0 then ((-2) : Int) else (if (v_m_in x2 (if x1 = 0 then (1 : Int) else (if x1 = 2 then (1 : Int) else (if x1 = 1 then (100 : Int) else (if x1 = 4 then (500 : Int) else 0)))) (if x1 = 0 then (72 : Int) else (if x1 = 1 then (1500 : Int) else (if x1 = 4 then (1500 : Int) else (if x1 = 3 then (50 : Int) else 100))))) = 0 then ((-2) : Int) else (hp 67 x1)))
def h_m_rule (x1 : Int) (x2 : Int) (hp : qb_H) : qb_H := (if (v_m_in x1 0 6) = 0 then hp else (if (v_m_in x2 (if x1 = 0 then (1 : Int) else (if x1 = 2 then (1 : Int) else (if x1 = 1 then (100 : Int) else (if x1 = 4 then (500 : Int) else 0)))) (if x1 = 0 then (72 : Int) else (if x1 = 1 then (1500 : Int) else (if x1 = 4 then (1500 : Int) else (if x1 = 3 then (50 : Int) else 100))))) = 0 then hp else (qb_st hp 67 x1 x2)))
theorem hn_m_rule (x1 : Int) (x2 : Int) (hp : qb_H) (c : Nat) (h67 : c ≠ 67) : h_m_rule x1 x2 hp c = hp c := by
  unfold h_m_rule
  (repeat' split) <;> simp only [qb_st_ne, qb_cpy_ne, ne_eq, not_false_eq_true, h67, ]
def g_m_rule (x1 : Int) (x2 : Int) : Prop := (¬ (v_m_in x1 0 6) = 0 → (¬ (v_m_in x2 (if x1 = 0 then (1 : Int) else (if x1 = 2 then (1 : Int) else (if x1 = 1 then (100 : Int) else (if x1 = 4 then (500 : Int) else 0)))) (if x1 = 0 then (72 : Int) else (if x1 = 1 then (1500 : Int) else (if x1 = 4 then (1500 : Int) else (if x1 = 3 then (50 : Int) else 100))))) = 0 → 0 ≤ x1 ∧ x1 < 7))
theorem s_m_rule (x1 : Int) (x2 : Int) (hp : qb_H) (K : Int → qb_H → Prop) (hg : g_m_rule x1 x2) (hK : K (v_m_rule x1 x2 hp) (h_m_rule x1 x2 hp)) : c_m_rule x1 x2 hp K := by
  refine b_m_rule ?_
  unfold g_m_rule at hg
  unfold v_m_rule h_m_rule at hK
  refine ⟨fun c2305 => ?_, fun c2305 => ?_⟩
  · simpa only [if_pos c2305] using hK
  · have hg := hg c2305
    refine ⟨fun c2306 => ?_, fun c2306 => ?_⟩
    · try simp only [if_neg c2305] at hK
      try simp only [if_pos c2306] at hK
      exact hK
    · have hg := hg c2306
      refine ⟨hg, ?_⟩
      try simp only [if_neg c2305] at hK
      try simp only [if_neg c2306] at hK
      exact hK
def c_m_salt (x1 : Int) (x2 : Int) (x3 : Int) (x4 : Int) (hp : qb_H) (K : Int → qb_H → Prop) : Prop := qb_R mX11_salt 0 0 qb_sh 0 [qb_a 60, qb_i x1, qb_i x2, qb_i x3, qb_i x4] [] hp (qb_I qb_sh K)
theorem b_m_salt {x1 x2 x3 x4 : Int} {hp : qb_H} {K : Int → qb_H → Prop} (h : ((v_m_isQuay x1) = 0 → K (-1) hp) ∧ (¬ (v_m_isQuay x1) = 0 → ((v_m_isHour x2) = 0 → K (-2) hp) ∧ (¬ (v_m_isHour x2) = 0 → ((v_m_in x3 0 9) = 0 → K (-2) hp) ∧ (¬ (v_m_in x3 0 9) = 0 → ((v_m_in x4 1 100) = 0 → K (-2) hp) ∧ (¬ (v_m_in x4 1 100) = 0 → ((hp 60 11) = 12 → K (-4) hp) ∧ (¬ (hp 60 11) = 12 → (qb_in (4 * (hp 60 11))) ∧ (0 ≤ (4 * (hp 60 11)) ∧ (4 * (hp 60 11)) < 48) ∧ (0 ≤ ((4 * (hp 60 11)) + 1) ∧ ((4 * (hp 60 11)) + 1) < 48) ∧ (0 ≤ ((4 * (hp 60 11)) + 2) ∧ ((4 * (hp 60 11)) + 2) < 48) ∧ (0 ≤ ((4 * (hp 60 11)) + 3) ∧ ((4 * (hp 60 11)) + 3) < 48) ∧ (qb_in ((hp 60 11) + 1)) ∧ K ((hp 60 11) + 1) (qb_st (qb_st (qb_st (qb_st (qb_st hp 69 (4 * (hp 60 11)) x1) 69 ((4 * (hp 60 11)) + 1) x2) 69 ((4 * (hp 60 11)) + 2) x3) 69 ((4 * (hp 60 11)) + 3) x4) 60 11 ((hp 60 11) + 1)))))))) : c_m_salt x1 x2 x3 x4 hp K := by
  unfold c_m_salt
  refine qb_iloadn (pc' := 1) (i := 1) dX11_salt_0 rfl rfl rfl ?_
  refine qb_callSi (pc' := 4) (as := [.inl x1]) (rest := []) dX11_salt_1 rfl qe_mX11_salt_mX11_isQuay rfl rfl rfl (Nat.le_of_ble_eq_true rfl) (Nat.le_of_ble_eq_true rfl) ⟨rfl, rfl⟩ (K := fun vz hpz => (v_m_isQuay x1) = vz ∧ hp = hpz) (s_m_isQuay x1 hp _ trivial ⟨rfl, rfl⟩) (fun vz hpz ez => ?_)
  obtain ⟨ez1, ez2⟩ := ez
  subst ez1
  subst ez2
  refine qb_fne (tgt := 9) (pc' := 7) dX11_salt_4 rfl rfl (fun c2312 => ?_) (fun c2312 => ?_)
  · have h := h.2 c2312
    refine qb_iloadn (pc' := 10) (i := 2) dX11_salt_9 rfl rfl rfl ?_
    refine qb_callSi (pc' := 13) (as := [.inl x2]) (rest := []) dX11_salt_10 rfl qe_mX11_salt_mX11_isHour rfl rfl rfl (Nat.le_of_ble_eq_true rfl) (Nat.le_of_ble_eq_true rfl) ⟨rfl, rfl⟩ (K := fun vz hpz => (v_m_isHour x2) = vz ∧ hp = hpz) (s_m_isHour x2 hp _ trivial ⟨rfl, rfl⟩) (fun vz hpz ez => ?_)
    obtain ⟨ez1, ez2⟩ := ez
    subst ez1
    subst ez2
    refine qb_feq (tgt := 37) (pc' := 16) dX11_salt_13 rfl rfl (fun c2313 => ?_) (fun c2313 => ?_)
    · have h := h.1 c2313
      refine qb_bipush (pc' := 39) dX11_salt_37 rfl rfl rfl ?_
      exact qb_reti dX11_salt_39 rfl h
    · have h := h.2 c2313
      refine qb_iloadn (pc' := 17) (i := 3) dX11_salt_16 rfl rfl rfl ?_
      refine qb_iconst (pc' := 18) dX11_salt_17 rfl rfl ?_
      refine qb_bipush (pc' := 20) dX11_salt_18 rfl rfl rfl ?_
      refine qb_callSi (pc' := 23) (as := [.inl x3, .inl 0, .inl 9]) (rest := []) dX11_salt_20 rfl qe_mX11_salt_mX11_in rfl rfl rfl (Nat.le_of_ble_eq_true rfl) (Nat.le_of_ble_eq_true rfl) ⟨rfl, rfl⟩ (K := fun vz hpz => (v_m_in x3 0 9) = vz ∧ hp = hpz) (s_m_in x3 0 9 hp _ trivial ⟨rfl, rfl⟩) (fun vz hpz ez => ?_)
      obtain ⟨ez1, ez2⟩ := ez
      subst ez1
      subst ez2
      refine qb_feq (tgt := 37) (pc' := 26) dX11_salt_23 rfl rfl (fun c2314 => ?_) (fun c2314 => ?_)
      · have h := h.1 c2314
        refine qb_bipush (pc' := 39) dX11_salt_37 rfl rfl rfl ?_
        exact qb_reti dX11_salt_39 rfl h
      · have h := h.2 c2314
        refine qb_iload (pc' := 28) dX11_salt_26 rfl rfl ?_
        refine qb_iconst (pc' := 29) dX11_salt_28 rfl rfl ?_
        refine qb_bipush (pc' := 31) dX11_salt_29 rfl rfl rfl ?_
        refine qb_callSi (pc' := 34) (as := [.inl x4, .inl 1, .inl 100]) (rest := []) dX11_salt_31 rfl qe_mX11_salt_mX11_in rfl rfl rfl (Nat.le_of_ble_eq_true rfl) (Nat.le_of_ble_eq_true rfl) ⟨rfl, rfl⟩ (K := fun vz hpz => (v_m_in x4 1 100) = vz ∧ hp = hpz) (s_m_in x4 1 100 hp _ trivial ⟨rfl, rfl⟩) (fun vz hpz ez => ?_)
        obtain ⟨ez1, ez2⟩ := ez
        subst ez1
        subst ez2
        refine qb_fne (tgt := 40) (pc' := 37) dX11_salt_34 rfl rfl (fun c2315 => ?_) (fun c2315 => ?_)
        · have h := h.2 c2315
          refine qb_aloadn (pc' := 41) (i := 0) dX11_salt_40 rfl rfl rfl ?_
          refine qb_geti (pc' := 44) (v := (hp 60 11)) dX11_salt_41 rfl qf_X11_164 qb_s60 rfl rfl ?_
          refine qb_bipush (pc' := 46) dX11_salt_44 rfl rfl rfl ?_
          refine qb_cne (tgt := 52) (pc' := 49) dX11_salt_46 rfl rfl (fun c2316 => ?_) (fun c2316 => ?_)
          · have h := h.2 c2316
            refine qb_aloadn (pc' := 53) (i := 0) dX11_salt_52 rfl rfl rfl ?_
            refine qb_geta (pc' := 56) dX11_salt_53 rfl qf_X11_34 qb_s60 rfl ?_
            refine qb_iconst (pc' := 57) dX11_salt_56 rfl rfl ?_
            refine qb_aloadn (pc' := 58) (i := 0) dX11_salt_57 rfl rfl rfl ?_
            refine qb_geti (pc' := 61) (v := (hp 60 11)) dX11_salt_58 rfl qf_X11_164 qb_s60 rfl rfl ?_
            obtain ⟨g2061, h⟩ := h
            refine qb_imul (pc' := 62) dX11_salt_61 rfl g2061 ?_
            refine qb_iloadn (pc' := 63) (i := 1) dX11_salt_62 rfl rfl rfl ?_
            obtain ⟨g2062, h⟩ := h
            refine qb_iast (pc' := 64) dX11_salt_63 rfl qb_s69 g2062.1 g2062.2 ?_
            refine qb_aloadn (pc' := 65) (i := 0) dX11_salt_64 rfl rfl rfl ?_
            refine qb_geta (pc' := 68) dX11_salt_65 rfl qf_X11_34 qb_s60 rfl ?_
            refine qb_iconst (pc' := 69) dX11_salt_68 rfl rfl ?_
            refine qb_aloadn (pc' := 70) (i := 0) dX11_salt_69 rfl rfl rfl ?_
            refine qb_geti (pc' := 73) (v := (hp 60 11)) dX11_salt_70 rfl qf_X11_164 qb_s60 rfl (qb_rdn rfl rfl) ?_
            refine qb_imul (pc' := 74) dX11_salt_73 rfl g2061 ?_
            refine qb_iconst (pc' := 75) dX11_salt_74 rfl rfl ?_
            refine qb_iadd (pc' := 76) dX11_salt_75 rfl (qb_ina g2062 (by decide)) ?_
            refine qb_iloadn (pc' := 77) (i := 2) dX11_salt_76 rfl rfl rfl ?_
            obtain ⟨g2063, h⟩ := h
            refine qb_iast (pc' := 78) dX11_salt_77 rfl qb_s69 g2063.1 g2063.2 ?_
            refine qb_aloadn (pc' := 79) (i := 0) dX11_salt_78 rfl rfl rfl ?_
            refine qb_geta (pc' := 82) dX11_salt_79 rfl qf_X11_34 qb_s60 rfl ?_
            refine qb_iconst (pc' := 83) dX11_salt_82 rfl rfl ?_
            refine qb_aloadn (pc' := 84) (i := 0) dX11_salt_83 rfl rfl rfl ?_
            refine qb_geti (pc' := 87) (v := (hp 60 11)) dX11_salt_84 rfl qf_X11_164 qb_s60 rfl (qb_rdn rfl (qb_rdn rfl rfl)) ?_
            refine qb_imul (pc' := 88) dX11_salt_87 rfl g2061 ?_
            refine qb_iconst (pc' := 89) dX11_salt_88 rfl rfl ?_
            refine qb_iadd (pc' := 90) dX11_salt_89 rfl (qb_ina g2062 (by decide)) ?_
            refine qb_iloadn (pc' := 91) (i := 3) dX11_salt_90 rfl rfl rfl ?_
            obtain ⟨g2064, h⟩ := h
            refine qb_iast (pc' := 92) dX11_salt_91 rfl qb_s69 g2064.1 g2064.2 ?_
            refine qb_aloadn (pc' := 93) (i := 0) dX11_salt_92 rfl rfl rfl ?_
            refine qb_geta (pc' := 96) dX11_salt_93 rfl qf_X11_34 qb_s60 rfl ?_
            refine qb_iconst (pc' := 97) dX11_salt_96 rfl rfl ?_
            refine qb_aloadn (pc' := 98) (i := 0) dX11_salt_97 rfl rfl rfl ?_
            refine qb_geti (pc' := 101) (v := (hp 60 11)) dX11_salt_98 rfl qf_X11_164 qb_s60 rfl (qb_rdn rfl (qb_rdn rfl (qb_rdn rfl rfl))) ?_
            refine qb_imul (pc' := 102) dX11_salt_101 rfl g2061 ?_
            refine qb_iconst (pc' := 103) dX11_salt_102 rfl rfl ?_
            refine qb_iadd (pc' := 104) dX11_salt_103 rfl (qb_ina g2062 (by decide)) ?_
            refine qb_iload (pc' := 106) dX11_salt_104 rfl rfl ?_
            obtain ⟨g2065, h⟩ := h
            refine qb_iast (pc' := 107) dX11_salt_106 rfl qb_s69 g2065.1 g2065.2 ?_
            refine qb_aloadn (pc' := 108) (i := 0) dX11_salt_107 rfl rfl rfl ?_
            refine qb_dup (pc' := 109) dX11_salt_108 rfl rfl ?_
            refine qb_geti (pc' := 112) (v := (hp 60 11)) dX11_salt_109 rfl qf_X11_164 qb_s60 rfl (qb_rdn rfl (qb_rdn rfl (qb_rdn rfl (qb_rdn rfl rfl)))) ?_
            refine qb_iconst (pc' := 113) dX11_salt_112 rfl rfl ?_
            obtain ⟨g2066, h⟩ := h
            refine qb_iadd (pc' := 114) dX11_salt_113 rfl g2066 ?_
            refine qb_puti (pc' := 117) (hp' := (qb_st (qb_st (qb_st (qb_st (qb_st hp 69 (4 * (hp 60 11)) x1) 69 ((4 * (hp 60 11)) + 1) x2) 69 ((4 * (hp 60 11)) + 2) x3) 69 ((4 * (hp 60 11)) + 3) x4) 60 11 ((hp 60 11) + 1))) dX11_salt_114 rfl qf_X11_164 (Or.inl rfl) qb_s60 rfl rfl ?_
            refine qb_aloadn (pc' := 118) (i := 0) dX11_salt_117 rfl rfl rfl ?_
            refine qb_geti (pc' := 121) (v := ((hp 60 11) + 1)) dX11_salt_118 rfl qf_X11_164 qb_s60 rfl qb_rds ?_
            exact qb_reti dX11_salt_121 rfl h
          · have h := h.1 c2316
            refine qb_bipush (pc' := 51) dX11_salt_49 rfl rfl rfl ?_
            exact qb_reti dX11_salt_51 rfl h
        · have h := h.1 c2315
          refine qb_bipush (pc' := 39) dX11_salt_37 rfl rfl rfl ?_
          exact qb_reti dX11_salt_39 rfl h
  · have h := h.1 c2312
    refine qb_iconst (pc' := 8) dX11_salt_7 rfl rfl ?_
    exact qb_reti dX11_salt_8 rfl h
def v_m_salt (x1 : Int) (x2 : Int) (x3 : Int) (x4 : Int) (hp : qb_H) : Int := (if (v_m_isQuay x1) = 0 then ((-1) : Int) else (if (v_m_isHour x2) = 0 then ((-2) : Int) else (if (v_m_in x3 0 9) = 0 then ((-2) : Int) else (if (v_m_in x4 1 100) = 0 then ((-2) : Int) else (if (hp 60 11) = 12 then ((-4) : Int) else ((hp 60 11) + 1))))))
def h_m_salt (x1 : Int) (x2 : Int) (x3 : Int) (x4 : Int) (hp : qb_H) : qb_H := (if (v_m_isQuay x1) = 0 then hp else (if (v_m_isHour x2) = 0 then hp else (if (v_m_in x3 0 9) = 0 then hp else (if (v_m_in x4 1 100) = 0 then hp else (if (hp 60 11) = 12 then hp else (qb_st (qb_st (qb_st (qb_st (qb_st hp 69 (4 * (hp 60 11)) x1) 69 ((4 * (hp 60 11)) + 1) x2) 69 ((4 * (hp 60 11)) + 2) x3) 69 ((4 * (hp 60 11)) + 3) x4) 60 11 ((hp 60 11) + 1)))))))
theorem hn_m_salt (x1 : Int) (x2 : Int) (x3 : Int) (x4 : Int) (hp : qb_H) (c : Nat) (h60 : c ≠ 60) (h69 : c ≠ 69) : h_m_salt x1 x2 x3 x4 hp c = hp c := by
  unfold h_m_salt
  (repeat' split) <;> simp only [qb_st_ne, qb_cpy_ne, ne_eq, not_false_eq_true, h60, h69, ]
def g_m_salt (x1 : Int) (x2 : Int) (x3 : Int) (x4 : Int) (hp : qb_H) : Prop := (¬ (v_m_isQuay x1) = 0 → (¬ (v_m_isHour x2) = 0 → (¬ (v_m_in x3 0 9) = 0 → (¬ (v_m_in x4 1 100) = 0 → (¬ (hp 60 11) = 12 → (qb_in (4 * (hp 60 11))) ∧ (0 ≤ (4 * (hp 60 11)) ∧ (4 * (hp 60 11)) < 48) ∧ (0 ≤ ((4 * (hp 60 11)) + 1) ∧ ((4 * (hp 60 11)) + 1) < 48) ∧ (0 ≤ ((4 * (hp 60 11)) + 2) ∧ ((4 * (hp 60 11)) + 2) < 48) ∧ (0 ≤ ((4 * (hp 60 11)) + 3) ∧ ((4 * (hp 60 11)) + 3) < 48) ∧ qb_in ((hp 60 11) + 1))))))
theorem s_m_salt (x1 : Int) (x2 : Int) (x3 : Int) (x4 : Int) (hp : qb_H) (K : Int → qb_H → Prop) (hg : g_m_salt x1 x2 x3 x4 hp) (hK : K (v_m_salt x1 x2 x3 x4 hp) (h_m_salt x1 x2 x3 x4 hp)) : c_m_salt x1 x2 x3 x4 hp K := by
  refine b_m_salt ?_
  unfold g_m_salt at hg
  unfold v_m_salt h_m_salt at hK
  refine ⟨fun c2317 => ?_, fun c2317 => ?_⟩
  · simpa only [if_pos c2317] using hK
  · have hg := hg c2317
    refine ⟨fun c2318 => ?_, fun c2318 => ?_⟩
    · simpa only [if_neg c2317, if_pos c2318] using hK
    · have hg := hg c2318
      refine ⟨fun c2319 => ?_, fun c2319 => ?_⟩
      · simpa only [if_neg c2317, if_neg c2318, if_pos c2319] using hK
      · have hg := hg c2319
        refine ⟨fun c2320 => ?_, fun c2320 => ?_⟩
        · simpa only [if_neg c2317, if_neg c2318, if_neg c2319, if_pos c2320] using hK
        · have hg := hg c2320
          refine ⟨fun c2321 => ?_, fun c2321 => ?_⟩
          · simpa only [if_neg c2317, if_neg c2318, if_neg c2319, if_neg c2320, if_pos c2321] using hK
          · have hg := hg c2321
            refine ⟨hg.1, ?_⟩
            have hg := hg.2
            refine ⟨hg.1, ?_⟩
            have hg := hg.2
            refine ⟨hg.1, ?_⟩
            have hg := hg.2
            refine ⟨hg.1, ?_⟩
            have hg := hg.2
            refine ⟨hg.1, ?_⟩
            have hg := hg.2
            refine ⟨hg, ?_⟩
            simpa only [if_neg c2317, if_neg c2318, if_neg c2319, if_neg c2320, if_neg c2321] using hK
def c_m_say (x1 : Int) (hp : qb_H) (K : Int → qb_H → Prop) : Prop := qb_R mX11_say 0 0 qb_sh 0 [qb_a 60, qb_i x1] [] hp (qb_I qb_sh K)
theorem b_m_say {x1 : Int} {hp : qb_H} {K : Int → qb_H → Prop} (h : ((v_m_in x1 33 126) = 0 → K (-2) hp) ∧ (¬ (v_m_in x1 33 126) = 0 → ((hp 60 0) = 60 → K (-4) hp) ∧ (¬ (hp 60 0) = 60 → (0 ≤ (hp 60 0) ∧ (hp 60 0) < 60) ∧ K ((hp 60 0) + 1) (qb_st (qb_st hp 61 (hp 60 0) x1) 60 0 ((hp 60 0) + 1))))) : c_m_say x1 hp K := by
  unfold c_m_say
  refine qb_iloadn (pc' := 1) (i := 1) dX11_say_0 rfl rfl rfl ?_
  refine qb_bipush (pc' := 3) dX11_say_1 rfl rfl rfl ?_
  refine qb_bipush (pc' := 5) dX11_say_3 rfl rfl rfl ?_
  refine qb_callSi (pc' := 8) (as := [.inl x1, .inl 33, .inl 126]) (rest := []) dX11_say_5 rfl qe_mX11_say_mX11_in rfl rfl rfl (Nat.le_of_ble_eq_true rfl) (Nat.le_of_ble_eq_true rfl) ⟨rfl, rfl⟩ (K := fun vz hpz => (v_m_in x1 33 126) = vz ∧ hp = hpz) (s_m_in x1 33 126 hp _ trivial ⟨rfl, rfl⟩) (fun vz hpz ez => ?_)
  obtain ⟨ez1, ez2⟩ := ez
  subst ez1
  subst ez2
  refine qb_fne (tgt := 14) (pc' := 11) dX11_say_8 rfl rfl (fun c2324 => ?_) (fun c2324 => ?_)
  · have h := h.2 c2324
    refine qb_aloadn (pc' := 15) (i := 0) dX11_say_14 rfl rfl rfl ?_
    refine qb_geti (pc' := 18) (v := (hp 60 0)) dX11_say_15 rfl qf_X11_98 qb_s60 rfl rfl ?_
    refine qb_bipush (pc' := 20) dX11_say_18 rfl rfl rfl ?_
    refine qb_cne (tgt := 26) (pc' := 23) dX11_say_20 rfl rfl (fun c2325 => ?_) (fun c2325 => ?_)
    · have h := h.2 c2325
      refine qb_aloadn (pc' := 27) (i := 0) dX11_say_26 rfl rfl rfl ?_
      refine qb_geta (pc' := 30) dX11_say_27 rfl qf_X11_7 qb_s60 rfl ?_
      refine qb_aloadn (pc' := 31) (i := 0) dX11_say_30 rfl rfl rfl ?_
      refine qb_geti (pc' := 34) (v := (hp 60 0)) dX11_say_31 rfl qf_X11_98 qb_s60 rfl rfl ?_
      refine qb_iloadn (pc' := 35) (i := 1) dX11_say_34 rfl rfl rfl ?_
      obtain ⟨g2068, h⟩ := h
      refine qb_iast (pc' := 36) dX11_say_35 rfl qb_s61 g2068.1 g2068.2 ?_
      refine qb_aloadn (pc' := 37) (i := 0) dX11_say_36 rfl rfl rfl ?_
      refine qb_dup (pc' := 38) dX11_say_37 rfl rfl ?_
      refine qb_geti (pc' := 41) (v := (hp 60 0)) dX11_say_38 rfl qf_X11_98 qb_s60 rfl (qb_rdn rfl rfl) ?_
      refine qb_iconst (pc' := 42) dX11_say_41 rfl rfl ?_
      refine qb_iadd (pc' := 43) dX11_say_42 rfl (qb_ina g2068 (by decide)) ?_
      refine qb_puti (pc' := 46) (hp' := (qb_st (qb_st hp 61 (hp 60 0) x1) 60 0 ((hp 60 0) + 1))) dX11_say_43 rfl qf_X11_98 (Or.inl rfl) qb_s60 rfl rfl ?_
      refine qb_aloadn (pc' := 47) (i := 0) dX11_say_46 rfl rfl rfl ?_
      refine qb_geti (pc' := 50) (v := ((hp 60 0) + 1)) dX11_say_47 rfl qf_X11_98 qb_s60 rfl qb_rds ?_
      exact qb_reti dX11_say_50 rfl h
    · have h := h.1 c2325
      refine qb_bipush (pc' := 25) dX11_say_23 rfl rfl rfl ?_
      exact qb_reti dX11_say_25 rfl h
  · have h := h.1 c2324
    refine qb_bipush (pc' := 13) dX11_say_11 rfl rfl rfl ?_
    exact qb_reti dX11_say_13 rfl h
def v_m_say (x1 : Int) (hp : qb_H) : Int := (if (v_m_in x1 33 126) = 0 then ((-2) : Int) else (if (hp 60 0) = 60 then ((-4) : Int) else ((hp 60 0) + 1)))
def h_m_say (x1 : Int) (hp : qb_H) : qb_H := (if (v_m_in x1 33 126) = 0 then hp else (if (hp 60 0) = 60 then hp else (qb_st (qb_st hp 61 (hp 60 0) x1) 60 0 ((hp 60 0) + 1))))
theorem hn_m_say (x1 : Int) (hp : qb_H) (c : Nat) (h60 : c ≠ 60) (h61 : c ≠ 61) : h_m_say x1 hp c = hp c := by
  unfold h_m_say
  (repeat' split) <;> simp only [qb_st_ne, qb_cpy_ne, ne_eq, not_false_eq_true, h60, h61, ]
def g_m_say (x1 : Int) (hp : qb_H) : Prop := (¬ (v_m_in x1 33 126) = 0 → (¬ (hp 60 0) = 60 → 0 ≤ (hp 60 0) ∧ (hp 60 0) < 60))
theorem s_m_say (x1 : Int) (hp : qb_H) (K : Int → qb_H → Prop) (hg : g_m_say x1 hp) (hK : K (v_m_say x1 hp) (h_m_say x1 hp)) : c_m_say x1 hp K := by
  refine b_m_say ?_
  unfold g_m_say at hg
  unfold v_m_say h_m_say at hK
  refine ⟨fun c2326 => ?_, fun c2326 => ?_⟩
  · simpa only [if_pos c2326] using hK
  · have hg := hg c2326
    refine ⟨fun c2327 => ?_, fun c2327 => ?_⟩
    · simpa only [if_neg c2326, if_pos c2327] using hK
    · have hg := hg c2327
      refine ⟨hg, ?_⟩
      simpa only [if_neg c2326, if_neg c2327] using hK
def c_m_set (x1 : Int) (x2 : Int) (x3 : Int) (hp : qb_H) (K : Int → qb_H → Prop) : Prop := qb_R mX11_set 0 0 qb_sh 0 [qb_a 60, qb_i x1, qb_i x2, qb_i x3, none] [] hp (qb_I qb_sh K)
theorem b_m_set {x1 x2 x3 : Int} {hp : qb_H} {K : Int → qb_H → Prop} (h : ((v_m_isQuay x1) = 0 → K (-1) hp) ∧ (¬ (v_m_isQuay x1) = 0 → ((v_m_in x2 0 1) = 0 → K (-2) hp) ∧ (¬ (v_m_in x2 0 1) = 0 → ((v_m_in x3 1 (if x2 = 0 then (9 : Int) else 2000)) = 0 → K (-2) hp) ∧ (¬ (v_m_in x3 1 (if x2 = 0 then (9 : Int) else 2000)) = 0 → (x2 = 0 → 0 ≤ x1 ∧ x1 < 4) ∧ (¬ x2 = 0 → 0 ≤ x1 ∧ x1 < 4) ∧ (x2 = 0 → 0 ≤ x1 ∧ x1 < 4) ∧ (¬ x2 = 0 → 0 ≤ x1 ∧ x1 < 4) ∧ K (if x2 = 0 then (hp 65 x1) else (hp 66 x1)) (if x2 = 0 then (qb_st hp 65 x1 x3) else (qb_st hp 66 x1 x3)))))) : c_m_set x1 x2 x3 hp K := by
  unfold c_m_set
  refine qb_iloadn (pc' := 1) (i := 1) dX11_set_0 rfl rfl rfl ?_
  refine qb_callSi (pc' := 4) (as := [.inl x1]) (rest := []) dX11_set_1 rfl qe_mX11_set_mX11_isQuay rfl rfl rfl (Nat.le_of_ble_eq_true rfl) (Nat.le_of_ble_eq_true rfl) ⟨rfl, rfl⟩ (K := fun vz hpz => (v_m_isQuay x1) = vz ∧ hp = hpz) (s_m_isQuay x1 hp _ trivial ⟨rfl, rfl⟩) (fun vz hpz ez => ?_)
  obtain ⟨ez1, ez2⟩ := ez
  subst ez1
  subst ez2
  refine qb_fne (tgt := 9) (pc' := 7) dX11_set_4 rfl rfl (fun c2334 => ?_) (fun c2334 => ?_)
  · have h := h.2 c2334
    refine qb_iloadn (pc' := 10) (i := 2) dX11_set_9 rfl rfl rfl ?_
    refine qb_iconst (pc' := 11) dX11_set_10 rfl rfl ?_
    refine qb_iconst (pc' := 12) dX11_set_11 rfl rfl ?_
    refine qb_callSi (pc' := 15) (as := [.inl x2, .inl 0, .inl 1]) (rest := []) dX11_set_12 rfl qe_mX11_set_mX11_in rfl rfl rfl (Nat.le_of_ble_eq_true rfl) (Nat.le_of_ble_eq_true rfl) ⟨rfl, rfl⟩ (K := fun vz hpz => (v_m_in x2 0 1) = vz ∧ hp = hpz) (s_m_in x2 0 1 hp _ trivial ⟨rfl, rfl⟩) (fun vz hpz ez => ?_)
    obtain ⟨ez1, ez2⟩ := ez
    subst ez1
    subst ez2
    refine qb_feq (tgt := 38) (pc' := 18) dX11_set_15 rfl rfl (fun c2335 => ?_) (fun c2335 => ?_)
    · have h := h.1 c2335
      refine qb_bipush (pc' := 40) dX11_set_38 rfl rfl rfl ?_
      exact qb_reti dX11_set_40 rfl h
    · have h := h.2 c2335
      refine qb_iloadn (pc' := 19) (i := 3) dX11_set_18 rfl rfl rfl ?_
      refine qb_iconst (pc' := 20) dX11_set_19 rfl rfl ?_
      refine qb_iloadn (pc' := 21) (i := 2) dX11_set_20 rfl rfl rfl ?_
      have k1562 : qb_R mX11_set 0 0 qb_sh 32 [qb_a 60, qb_i x1, qb_i x2, qb_i x3, none] [.inl (if x2 = 0 then (9 : Int) else 2000), .inl 1, .inl x3] hp (qb_I qb_sh K) := by
        refine qb_callSi (pc' := 35) (as := [.inl x3, .inl 1, .inl (if x2 = 0 then (9 : Int) else 2000)]) (rest := []) dX11_set_32 rfl qe_mX11_set_mX11_in rfl rfl rfl (Nat.le_of_ble_eq_true rfl) (Nat.le_of_ble_eq_true rfl) ⟨rfl, rfl⟩ (K := fun vz hpz => (v_m_in x3 1 (if x2 = 0 then (9 : Int) else 2000)) = vz ∧ hp = hpz) (s_m_in x3 1 (if x2 = 0 then (9 : Int) else 2000) hp _ trivial ⟨rfl, rfl⟩) (fun vz hpz ez => ?_)
        obtain ⟨ez1, ez2⟩ := ez
        subst ez1
        subst ez2
        refine qb_fne (tgt := 41) (pc' := 38) dX11_set_35 rfl rfl (fun c2337 => ?_) (fun c2337 => ?_)
        · have h := h.2 c2337
          refine qb_iloadn (pc' := 42) (i := 2) dX11_set_41 rfl rfl rfl ?_
          obtain ⟨ga, gb, h⟩ := h
          have k1563 : qb_R mX11_set 0 0 qb_sh 60 [qb_a 60, qb_i x1, qb_i x2, qb_i x3, none] [.inl (if x2 = 0 then (hp 65 x1) else (hp 66 x1))] hp (qb_I qb_sh K) := by
            refine qb_istore (pc' := 62) (L' := [qb_a 60, qb_i x1, qb_i x2, qb_i x3, qb_i (if x2 = 0 then (hp 65 x1) else (hp 66 x1))]) dX11_set_60 rfl (Nat.le_of_ble_eq_true rfl) rfl rfl ?_
            refine qb_iloadn (pc' := 63) (i := 2) dX11_set_62 rfl rfl rfl ?_
            obtain ⟨ga, gb, h⟩ := h
            have k1564 : qb_R mX11_set 0 0 qb_sh 83 [none, none, none, none, qb_i (if x2 = 0 then (hp 65 x1) else (hp 66 x1))] [] (if x2 = 0 then (qb_st hp 65 x1 x3) else (qb_st hp 66 x1 x3)) (qb_I qb_sh K) := by
              refine qb_iload (pc' := 85) dX11_set_83 rfl rfl ?_
              exact qb_reti dX11_set_85 rfl h
            refine qb_fne (tgt := 76) (pc' := 66) dX11_set_63 rfl rfl (fun c2339 => ?_) (fun c2339 => ?_)
            · have h := gb c2339
              refine qb_aloadn (pc' := 77) (i := 0) dX11_set_76 rfl rfl rfl ?_
              refine qb_geta (pc' := 80) dX11_set_77 rfl qf_X11_25 qb_s60 rfl ?_
              refine qb_iloadn (pc' := 81) (i := 1) dX11_set_80 rfl rfl rfl ?_
              refine qb_iloadn (pc' := 82) (i := 3) dX11_set_81 rfl rfl rfl ?_
              have g2084 := h
              refine qb_iast (pc' := 83) dX11_set_82 rfl qb_s66 g2084.1 g2084.2 ?_
              refine qb_cut (L' := [none, none, none, none, qb_i (if x2 = 0 then (hp 65 x1) else (hp 66 x1))]) [false, false, false, false, true] rfl ?_
              simpa only [if_neg c2339] using k1564
            · have h := ga c2339
              refine qb_aloadn (pc' := 67) (i := 0) dX11_set_66 rfl rfl rfl ?_
              refine qb_geta (pc' := 70) dX11_set_67 rfl qf_X11_22 qb_s60 rfl ?_
              refine qb_iloadn (pc' := 71) (i := 1) dX11_set_70 rfl rfl rfl ?_
              refine qb_iloadn (pc' := 72) (i := 3) dX11_set_71 rfl rfl rfl ?_
              have g2083 := h
              refine qb_iast (pc' := 73) dX11_set_72 rfl qb_s65 g2083.1 g2083.2 ?_
              refine qb_goto (tgt := 83) dX11_set_73 rfl ?_
              refine qb_cut (L' := [none, none, none, none, qb_i (if x2 = 0 then (hp 65 x1) else (hp 66 x1))]) [false, false, false, false, true] rfl ?_
              simpa only [if_pos c2339] using k1564
          refine qb_fne (tgt := 54) (pc' := 45) dX11_set_42 rfl rfl (fun c2338 => ?_) (fun c2338 => ?_)
          · have h := gb c2338
            refine qb_aloadn (pc' := 55) (i := 0) dX11_set_54 rfl rfl rfl ?_
            refine qb_geta (pc' := 58) dX11_set_55 rfl qf_X11_25 qb_s60 rfl ?_
            refine qb_iloadn (pc' := 59) (i := 1) dX11_set_58 rfl rfl rfl ?_
            have g2080 := h
            refine qb_iald (pc' := 60) (v := (hp 66 x1)) dX11_set_59 rfl qb_s66 g2080.1 g2080.2 rfl ?_
            refine qb_cut (L' := [qb_a 60, qb_i x1, qb_i x2, qb_i x3, none]) [true, true, true, true, false] rfl ?_
            simpa only [if_neg c2338] using k1563
          · have h := ga c2338
            refine qb_aloadn (pc' := 46) (i := 0) dX11_set_45 rfl rfl rfl ?_
            refine qb_geta (pc' := 49) dX11_set_46 rfl qf_X11_22 qb_s60 rfl ?_
            refine qb_iloadn (pc' := 50) (i := 1) dX11_set_49 rfl rfl rfl ?_
            have g2079 := h
            refine qb_iald (pc' := 51) (v := (hp 65 x1)) dX11_set_50 rfl qb_s65 g2079.1 g2079.2 rfl ?_
            refine qb_goto (tgt := 60) dX11_set_51 rfl ?_
            refine qb_cut (L' := [qb_a 60, qb_i x1, qb_i x2, qb_i x3, none]) [true, true, true, true, false] rfl ?_
            simpa only [if_pos c2338] using k1563
        · have h := h.1 c2337
          refine qb_bipush (pc' := 40) dX11_set_38 rfl rfl rfl ?_
          exact qb_reti dX11_set_40 rfl h
      refine qb_fne (tgt := 29) (pc' := 24) dX11_set_21 rfl rfl (fun c2336 => ?_) (fun c2336 => ?_)
      · refine qb_sipush (pc' := 32) dX11_set_29 rfl rfl rfl ?_
        refine qb_cut (L' := [qb_a 60, qb_i x1, qb_i x2, qb_i x3, none]) [true, true, true, true, false] rfl ?_
        simpa only [if_neg c2336] using k1562
      · refine qb_bipush (pc' := 26) dX11_set_24 rfl rfl rfl ?_
        refine qb_goto (tgt := 32) dX11_set_26 rfl ?_
        refine qb_cut (L' := [qb_a 60, qb_i x1, qb_i x2, qb_i x3, none]) [true, true, true, true, false] rfl ?_
        simpa only [if_pos c2336] using k1562
  · have h := h.1 c2334
    refine qb_iconst (pc' := 8) dX11_set_7 rfl rfl ?_
    exact qb_reti dX11_set_8 rfl h
def v_m_set (x1 : Int) (x2 : Int) (x3 : Int) (hp : qb_H) : Int := (if (v_m_isQuay x1) = 0 then ((-1) : Int) else (if (v_m_in x2 0 1) = 0 then ((-2) : Int) else (if (v_m_in x3 1 (if x2 = 0 then (9 : Int) else 2000)) = 0 then ((-2) : Int) else (if x2 = 0 then (hp 65 x1) else (hp 66 x1)))))
def h_m_set (x1 : Int) (x2 : Int) (x3 : Int) (hp : qb_H) : qb_H := (if (v_m_isQuay x1) = 0 then hp else (if (v_m_in x2 0 1) = 0 then hp else (if (v_m_in x3 1 (if x2 = 0 then (9 : Int) else 2000)) = 0 then hp else (if x2 = 0 then (qb_st hp 65 x1 x3) else (qb_st hp 66 x1 x3)))))
theorem hn_m_set (x1 : Int) (x2 : Int) (x3 : Int) (hp : qb_H) (c : Nat) (h65 : c ≠ 65) (h66 : c ≠ 66) : h_m_set x1 x2 x3 hp c = hp c := by
  unfold h_m_set
  (repeat' split) <;> simp only [qb_st_ne, qb_cpy_ne, ne_eq, not_false_eq_true, h65, h66, ]
def g_m_set (x1 : Int) (x2 : Int) (x3 : Int) : Prop := (¬ (v_m_isQuay x1) = 0 → (¬ (v_m_in x2 0 1) = 0 → (¬ (v_m_in x3 1 (if x2 = 0 then (9 : Int) else 2000)) = 0 → (x2 = 0 → 0 ≤ x1 ∧ x1 < 4) ∧ (¬ x2 = 0 → 0 ≤ x1 ∧ x1 < 4) ∧ (x2 = 0 → 0 ≤ x1 ∧ x1 < 4) ∧ (¬ x2 = 0 → 0 ≤ x1 ∧ x1 < 4))))
theorem s_m_set (x1 : Int) (x2 : Int) (x3 : Int) (hp : qb_H) (K : Int → qb_H → Prop) (hg : g_m_set x1 x2 x3) (hK : K (v_m_set x1 x2 x3 hp) (h_m_set x1 x2 x3 hp)) : c_m_set x1 x2 x3 hp K := by
  refine b_m_set ?_
  unfold g_m_set at hg
  unfold v_m_set h_m_set at hK
  refine ⟨fun c2340 => ?_, fun c2340 => ?_⟩
  · simpa only [if_pos c2340] using hK
  · have hg := hg c2340
    refine ⟨fun c2341 => ?_, fun c2341 => ?_⟩
    · simpa only [if_neg c2340, if_pos c2341] using hK
    · have hg := hg c2341
      refine ⟨fun c2342 => ?_, fun c2342 => ?_⟩
      · try simp only [if_neg c2340] at hK
        try simp only [if_neg c2341] at hK
        try simp only [if_pos c2342] at hK
        exact hK
      · have hg := hg c2342
        refine ⟨hg.1, hg.2.1, ?_⟩
        have hg := hg.2.2
        refine ⟨hg.1, hg.2, ?_⟩
        try simp only [if_neg c2340] at hK
        try simp only [if_neg c2341] at hK
        try simp only [if_neg c2342] at hK
        exact hK
def c_m_leadAll (x1 : Int) (hp : qb_H) (K : qb_H → Prop) : Prop := qb_R mX11_leadAll 0 0 qb_sh 0 [qb_a 60, qb_i x1, none, none] [] hp (qb_U qb_sh K)
def r_m_leadAll_9 (x2 : Int) (x3 : Int) (hp : qb_H) (K : qb_H → Prop) : Prop := qb_R mX11_leadAll 0 0 qb_sh 9 [qb_a 60, none, qb_i x2, qb_i x3] [] hp (qb_U qb_sh K)
theorem b_m_leadAll {x1 : Int} {hp : qb_H} {K : qb_H → Prop} (h : (qb_in ((hp 60 47) - 1)) ∧ (∀ (y369 : Int), y369 = ((hp 60 47) - 1) → r_m_leadAll_9 x1 y369 hp K)) : c_m_leadAll x1 hp K := by
  unfold c_m_leadAll
  refine qb_iloadn (pc' := 1) (i := 1) dX11_leadAll_0 rfl rfl rfl ?_
  refine qb_istoren (pc' := 2) (i := 2) (L' := [qb_a 60, qb_i x1, qb_i x1, none]) dX11_leadAll_1 rfl rfl (Nat.le_of_ble_eq_true rfl) rfl rfl ?_
  refine qb_aloadn (pc' := 3) (i := 0) dX11_leadAll_2 rfl rfl rfl ?_
  refine qb_geti (pc' := 6) (v := (hp 60 47)) dX11_leadAll_3 rfl qf_X11_248 qb_s60 rfl rfl ?_
  refine qb_iconst (pc' := 7) dX11_leadAll_6 rfl rfl ?_
  obtain ⟨g2093, h⟩ := h
  refine qb_isub (pc' := 8) dX11_leadAll_7 rfl g2093 ?_
  refine qb_istoreny (pc' := 9) (Lf := fun y369 => [qb_a 60, qb_i x1, qb_i x1, qb_i y369]) dX11_leadAll_8 rfl rfl (Nat.le_of_ble_eq_true rfl) rfl (fun _ => rfl) (fun y369 ey369 => ?_)
  have h := h y369 ey369
  refine qb_cut (L' := [qb_a 60, none, qb_i x1, qb_i y369]) [true, false, true, true] rfl ?_
  exact h
theorem b_m_leadAll_9 {x2 x3 : Int} {hp : qb_H} {K : qb_H → Prop} (h : (x3 < 0 → K hp) ∧ (¬ x3 < 0 → (0 ≤ x3 ∧ x3 < 5) ∧ (qb_in (7 * (hp 87 x3))) ∧ (qb_in ((7 * (hp 87 x3)) + 1)) ∧ (0 ≤ x2) ∧ (0 ≤ ((7 * (hp 87 x3)) + 1) ∧ ((7 * (hp 87 x3)) + 1) < 210) ∧ r_m_leadAll_9 (x2 / 4) (x3 + (-1)) (qb_st hp 68 ((7 * (hp 87 x3)) + 1) (x2 % 4)) K)) : r_m_leadAll_9 x2 x3 hp K := by
  unfold r_m_leadAll_9
  refine qb_iloadn (pc' := 10) (i := 3) dX11_leadAll_9 rfl rfl rfl ?_
  refine qb_flt (tgt := 42) (pc' := 13) dX11_leadAll_10 rfl rfl (fun c2346 => ?_) (fun c2346 => ?_)
  · have h := h.1 c2346
    exact qb_retv dX11_leadAll_42 rfl h
  · have h := h.2 c2346
    refine qb_aloadn (pc' := 14) (i := 0) dX11_leadAll_13 rfl rfl rfl ?_
    refine qb_geta (pc' := 17) dX11_leadAll_14 rfl qf_X11_31 qb_s60 rfl ?_
    refine qb_bipush (pc' := 19) dX11_leadAll_17 rfl rfl rfl ?_
    refine qb_aloadn (pc' := 20) (i := 0) dX11_leadAll_19 rfl rfl rfl ?_
    refine qb_geta (pc' := 23) dX11_leadAll_20 rfl qf_X11_88 qb_s60 rfl ?_
    refine qb_iloadn (pc' := 24) (i := 3) dX11_leadAll_23 rfl rfl rfl ?_
    obtain ⟨g2094, h⟩ := h
    refine qb_iald (pc' := 25) (v := (hp 87 x3)) dX11_leadAll_24 rfl qb_s87 g2094.1 g2094.2 rfl ?_
    obtain ⟨g2095, h⟩ := h
    refine qb_imul (pc' := 26) dX11_leadAll_25 rfl g2095 ?_
    refine qb_iconst (pc' := 27) dX11_leadAll_26 rfl rfl ?_
    obtain ⟨g2096, h⟩ := h
    refine qb_iadd (pc' := 28) dX11_leadAll_27 rfl g2096 ?_
    refine qb_iloadn (pc' := 29) (i := 2) dX11_leadAll_28 rfl rfl rfl ?_
    refine qb_iconst (pc' := 30) dX11_leadAll_29 rfl rfl ?_
    obtain ⟨g2097, h⟩ := h
    refine qb_irem (pc' := 31) dX11_leadAll_30 rfl g2097 (by decide) ?_
    obtain ⟨g2098, h⟩ := h
    refine qb_iast (pc' := 32) dX11_leadAll_31 rfl qb_s68 g2098.1 g2098.2 ?_
    refine qb_iloadn (pc' := 33) (i := 2) dX11_leadAll_32 rfl rfl rfl ?_
    refine qb_iconst (pc' := 34) dX11_leadAll_33 rfl rfl ?_
    refine qb_idiv (pc' := 35) dX11_leadAll_34 rfl g2097 (by decide) ?_
    refine qb_istoren (pc' := 36) (i := 2) (L' := [qb_a 60, none, qb_i (x2 / 4), qb_i x3]) dX11_leadAll_35 rfl rfl (Nat.le_of_ble_eq_true rfl) rfl rfl ?_
    refine qb_iinc (pc' := 39) (L' := [qb_a 60, none, qb_i (x2 / 4), qb_i (x3 + (-1))]) dX11_leadAll_36 rfl rfl (qb_ina g2094 (by decide)) (Nat.le_of_ble_eq_true rfl) rfl rfl ?_
    refine qb_goto (tgt := 9) dX11_leadAll_39 rfl ?_
    refine qb_cut (L' := [qb_a 60, none, qb_i (x2 / 4), qb_i (x3 + (-1))]) [true, false, true, true] rfl ?_
    exact h
def c_m_allSpoilt (hp : qb_H) (K : Int → qb_H → Prop) : Prop := qb_R mX11_allSpoilt 0 0 qb_sh 0 [qb_a 60, none, none] [] hp (qb_I qb_sh K)
def r_m_allSpoilt_4 (x1 : Int) (x2 : Int) (hp : qb_H) (K : Int → qb_H → Prop) : Prop := qb_R mX11_allSpoilt 0 0 qb_sh 4 [qb_a 60, qb_i x1, qb_i x2] [] hp (qb_I qb_sh K)
theorem b_m_allSpoilt {hp : qb_H} {K : Int → qb_H → Prop} (h : r_m_allSpoilt_4 0 0 hp K) : c_m_allSpoilt hp K := by
  unfold c_m_allSpoilt
  refine qb_iconst (pc' := 1) dX11_allSpoilt_0 rfl rfl ?_
  refine qb_istoren (pc' := 2) (i := 1) (L' := [qb_a 60, qb_i 0, none]) dX11_allSpoilt_1 rfl rfl (Nat.le_of_ble_eq_true rfl) rfl rfl ?_
  refine qb_iconst (pc' := 3) dX11_allSpoilt_2 rfl rfl ?_
  refine qb_istoren (pc' := 4) (i := 2) (L' := [qb_a 60, qb_i 0, qb_i 0]) dX11_allSpoilt_3 rfl rfl (Nat.le_of_ble_eq_true rfl) rfl rfl ?_
  refine qb_cut (L' := [qb_a 60, qb_i 0, qb_i 0]) [true, true, true] rfl ?_
  exact h
theorem b_m_allSpoilt_4 {x1 x2 : Int} {hp : qb_H} {K : Int → qb_H → Prop} (h : (4 ≤ x2 → K x1 hp) ∧ (¬ 4 ≤ x2 → c_m_workQuay x2 hp (fun hp371 => (qb_in (x1 + (hp371 60 39))) ∧ (∀ (y372 : Int), y372 = (x1 + (hp371 60 39)) → (qb_in (x2 + 1)) ∧ r_m_allSpoilt_4 y372 (x2 + 1) hp371 K)))) : r_m_allSpoilt_4 x1 x2 hp K := by
  unfold r_m_allSpoilt_4
  refine qb_iloadn (pc' := 5) (i := 2) dX11_allSpoilt_4 rfl rfl rfl ?_
  refine qb_iconst (pc' := 6) dX11_allSpoilt_5 rfl rfl ?_
  refine qb_cge (tgt := 27) (pc' := 9) dX11_allSpoilt_6 rfl rfl (fun c2347 => ?_) (fun c2347 => ?_)
  · have h := h.1 c2347
    refine qb_iloadn (pc' := 28) (i := 1) dX11_allSpoilt_27 rfl rfl rfl ?_
    exact qb_reti dX11_allSpoilt_28 rfl h
  · have h := h.2 c2347
    refine qb_aloadn (pc' := 10) (i := 0) dX11_allSpoilt_9 rfl rfl rfl ?_
    refine qb_iloadn (pc' := 11) (i := 2) dX11_allSpoilt_10 rfl rfl rfl ?_
    refine qb_callVu (pc' := 14) (b := 60) (as := [.inl x2]) (rest := []) dX11_allSpoilt_11 rfl qe_mX11_allSpoilt_mX11_workQuay rfl rfl qb_s60 rfl rfl (Nat.le_of_ble_eq_true rfl) (Nat.le_of_ble_eq_true rfl) ⟨rfl, rfl⟩ h (fun hp371 h => ?_)
    refine qb_iloadn (pc' := 15) (i := 1) dX11_allSpoilt_14 rfl rfl rfl ?_
    refine qb_aloadn (pc' := 16) (i := 0) dX11_allSpoilt_15 rfl rfl rfl ?_
    refine qb_geti (pc' := 19) (v := (hp371 60 39)) dX11_allSpoilt_16 rfl qf_X11_151 qb_s60 rfl rfl ?_
    obtain ⟨g2099, h⟩ := h
    refine qb_iadd (pc' := 20) dX11_allSpoilt_19 rfl g2099 ?_
    refine qb_istoreny (pc' := 21) (Lf := fun y372 => [qb_a 60, qb_i y372, qb_i x2]) dX11_allSpoilt_20 rfl rfl (Nat.le_of_ble_eq_true rfl) rfl (fun _ => rfl) (fun y372 ey372 => ?_)
    have h := h y372 ey372
    obtain ⟨g2100, h⟩ := h
    refine qb_iinc (pc' := 24) (L' := [qb_a 60, qb_i y372, qb_i (x2 + 1)]) dX11_allSpoilt_21 rfl rfl g2100 (Nat.le_of_ble_eq_true rfl) rfl rfl ?_
    refine qb_goto (tgt := 4) dX11_allSpoilt_24 rfl ?_
    refine qb_cut (L' := [qb_a 60, qb_i y372, qb_i (x2 + 1)]) [true, true, true] rfl ?_
    exact h
def c_m_laySpread (hp : qb_H) (K : qb_H → Prop) : Prop := qb_R mX11_laySpread 0 0 qb_sh 0 [qb_a 60, none, none] [] hp (qb_U qb_sh K)
def r_m_laySpread_7 (x1 : Int) (hp : qb_H) (K : qb_H → Prop) : Prop := qb_R mX11_laySpread 0 0 qb_sh 7 [qb_a 60, qb_i x1, none] [] hp (qb_U qb_sh K)
def r_m_laySpread_62 (x1 : Int) (hp : qb_H) (K : qb_H → Prop) : Prop := qb_R mX11_laySpread 0 0 qb_sh 62 [qb_a 60, qb_i x1, none] [] hp (qb_U qb_sh K)
def r_m_laySpread_117 (x1 : Int) (hp : qb_H) (K : qb_H → Prop) : Prop := qb_R mX11_laySpread 0 0 qb_sh 117 [qb_a 60, qb_i x1, none] [] hp (qb_U qb_sh K)
theorem b_m_laySpread {hp : qb_H} {K : qb_H → Prop} (h : r_m_laySpread_7 0 (qb_st hp 60 47 0) K) : c_m_laySpread hp K := by
  unfold c_m_laySpread
  refine qb_aloadn (pc' := 1) (i := 0) dX11_laySpread_0 rfl rfl rfl ?_
  refine qb_iconst (pc' := 2) dX11_laySpread_1 rfl rfl ?_
  refine qb_puti (pc' := 5) (hp' := (qb_st hp 60 47 0)) dX11_laySpread_2 rfl qf_X11_248 (Or.inl rfl) qb_s60 rfl rfl ?_
  refine qb_iconst (pc' := 6) dX11_laySpread_5 rfl rfl ?_
  refine qb_istoren (pc' := 7) (i := 1) (L' := [qb_a 60, qb_i 0, none]) dX11_laySpread_6 rfl rfl (Nat.le_of_ble_eq_true rfl) rfl rfl ?_
  refine qb_cut (L' := [qb_a 60, qb_i 0, none]) [true, true, false] rfl ?_
  exact h
theorem b_m_laySpread_7 {x1 : Int} {hp : qb_H} {K : qb_H → Prop} (h : ((hp 60 9) ≤ x1 → r_m_laySpread_62 0 (qb_st hp 60 45 (-1)) K) ∧ (¬ (hp 60 9) ≤ x1 → (qb_in (7 * x1)) ∧ (qb_in ((7 * x1) + 1)) ∧ (0 ≤ ((7 * x1) + 1) ∧ ((7 * x1) + 1) < 210) ∧ (¬ 0 ≤ (hp 68 ((7 * x1) + 1)) → 0 ≤ (hp 60 47) ∧ (hp 60 47) < 5) ∧ (∀ (hq368 : qb_H), hq368 = (if 0 ≤ (hp 68 ((7 * x1) + 1)) then hp else (qb_st (qb_st hp 87 (hp 60 47) x1) 60 47 ((hp 60 47) + 1))) → (qb_in (x1 + 1)) ∧ r_m_laySpread_7 (x1 + 1) hq368 K))) : r_m_laySpread_7 x1 hp K := by
  unfold r_m_laySpread_7
  refine qb_iloadn (pc' := 8) (i := 1) dX11_laySpread_7 rfl rfl rfl ?_
  refine qb_aloadn (pc' := 9) (i := 0) dX11_laySpread_8 rfl rfl rfl ?_
  refine qb_geti (pc' := 12) (v := (hp 60 9)) dX11_laySpread_9 rfl qf_X11_136 qb_s60 rfl rfl ?_
  refine qb_cge (tgt := 55) (pc' := 15) dX11_laySpread_12 rfl rfl (fun c2343 => ?_) (fun c2343 => ?_)
  · have h := h.1 c2343
    refine qb_aloadn (pc' := 56) (i := 0) dX11_laySpread_55 rfl rfl rfl ?_
    refine qb_iconst (pc' := 57) dX11_laySpread_56 rfl rfl ?_
    refine qb_puti (pc' := 60) (hp' := (qb_st hp 60 45 (-1))) dX11_laySpread_57 rfl qf_X11_251 (Or.inl rfl) qb_s60 rfl rfl ?_
    refine qb_iconst (pc' := 61) dX11_laySpread_60 rfl rfl ?_
    refine qb_istoren (pc' := 62) (i := 1) (L' := [qb_a 60, qb_i 0, none]) dX11_laySpread_61 rfl rfl (Nat.le_of_ble_eq_true rfl) rfl rfl ?_
    refine qb_cut (L' := [qb_a 60, qb_i 0, none]) [true, true, false] rfl ?_
    exact h
  · have h := h.2 c2343
    refine qb_aloadn (pc' := 16) (i := 0) dX11_laySpread_15 rfl rfl rfl ?_
    refine qb_geta (pc' := 19) dX11_laySpread_16 rfl qf_X11_31 qb_s60 rfl ?_
    refine qb_bipush (pc' := 21) dX11_laySpread_19 rfl rfl rfl ?_
    refine qb_iloadn (pc' := 22) (i := 1) dX11_laySpread_21 rfl rfl rfl ?_
    obtain ⟨g2085, h⟩ := h
    refine qb_imul (pc' := 23) dX11_laySpread_22 rfl g2085 ?_
    refine qb_iconst (pc' := 24) dX11_laySpread_23 rfl rfl ?_
    obtain ⟨g2086, h⟩ := h
    refine qb_iadd (pc' := 25) dX11_laySpread_24 rfl g2086 ?_
    obtain ⟨g2087, h⟩ := h
    refine qb_iald (pc' := 26) (v := (hp 68 ((7 * x1) + 1))) dX11_laySpread_25 rfl qb_s68 g2087.1 g2087.2 rfl ?_
    obtain ⟨gb, h⟩ := h
    have k1565 : ∀ (hq368 : qb_H), hq368 = (if 0 ≤ (hp 68 ((7 * x1) + 1)) then hp else (qb_st (qb_st hp 87 (hp 60 47) x1) 60 47 ((hp 60 47) + 1))) → qb_R mX11_laySpread 0 0 qb_sh 49 [qb_a 60, qb_i x1, none] [] hq368 (qb_U qb_sh K) := by
      intro hq368 ehq368
      have h := h hq368 ehq368
      obtain ⟨g2090, h⟩ := h
      refine qb_iinc (pc' := 52) (L' := [qb_a 60, qb_i (x1 + 1), none]) dX11_laySpread_49 rfl rfl g2090 (Nat.le_of_ble_eq_true rfl) rfl rfl ?_
      refine qb_goto (tgt := 7) dX11_laySpread_52 rfl ?_
      refine qb_cut (L' := [qb_a 60, qb_i (x1 + 1), none]) [true, true, false] rfl ?_
      exact h
    refine qb_fge (tgt := 49) (pc' := 29) dX11_laySpread_26 rfl rfl (fun c2344 => ?_) (fun c2344 => ?_)
    · refine qb_cut (L' := [qb_a 60, qb_i x1, none]) [true, true, false] rfl ?_
      exact k1565 _ (if_pos c2344).symm
    · have h := gb c2344
      refine qb_aloadn (pc' := 30) (i := 0) dX11_laySpread_29 rfl rfl rfl ?_
      refine qb_geta (pc' := 33) dX11_laySpread_30 rfl qf_X11_88 qb_s60 rfl ?_
      refine qb_aloadn (pc' := 34) (i := 0) dX11_laySpread_33 rfl rfl rfl ?_
      refine qb_geti (pc' := 37) (v := (hp 60 47)) dX11_laySpread_34 rfl qf_X11_248 qb_s60 rfl rfl ?_
      refine qb_iloadn (pc' := 38) (i := 1) dX11_laySpread_37 rfl rfl rfl ?_
      have g2089 := h
      refine qb_iast (pc' := 39) dX11_laySpread_38 rfl qb_s87 g2089.1 g2089.2 ?_
      refine qb_aloadn (pc' := 40) (i := 0) dX11_laySpread_39 rfl rfl rfl ?_
      refine qb_dup (pc' := 41) dX11_laySpread_40 rfl rfl ?_
      refine qb_geti (pc' := 44) (v := (hp 60 47)) dX11_laySpread_41 rfl qf_X11_248 qb_s60 rfl (qb_rdn rfl rfl) ?_
      refine qb_iconst (pc' := 45) dX11_laySpread_44 rfl rfl ?_
      refine qb_iadd (pc' := 46) dX11_laySpread_45 rfl (qb_ina g2089 (by decide)) ?_
      refine qb_puti (pc' := 49) (hp' := (qb_st (qb_st hp 87 (hp 60 47) x1) 60 47 ((hp 60 47) + 1))) dX11_laySpread_46 rfl qf_X11_248 (Or.inl rfl) qb_s60 rfl rfl ?_
      refine qb_cut (L' := [qb_a 60, qb_i x1, none]) [true, true, false] rfl ?_
      exact k1565 _ (if_neg c2344).symm
theorem b_m_laySpread_62 {x1 : Int} {hp : qb_H} {K : qb_H → Prop} (h : (qb_in (2 * (hp 60 47))) ∧ (((qb_shl 1 (2 * (hp 60 47))) ≤ x1 → r_m_laySpread_117 0 hp K) ∧ (¬ (qb_shl 1 (2 * (hp 60 47))) ≤ x1 → c_m_leadAll x1 hp (fun hp370 => c_m_allSpoilt hp370 (fun v373 hp373 => (qb_in (x1 + 1)) ∧ r_m_laySpread_62 (x1 + 1) (if (hp373 60 45) < 0 then (qb_st (qb_st hp373 60 45 v373) 60 46 x1) else (if (hp373 60 45) ≤ v373 then hp373 else (qb_st (qb_st hp373 60 45 v373) 60 46 x1))) K))))) : r_m_laySpread_62 x1 hp K := by
  unfold r_m_laySpread_62
  refine qb_iloadn (pc' := 63) (i := 1) dX11_laySpread_62 rfl rfl rfl ?_
  refine qb_iconst (pc' := 64) dX11_laySpread_63 rfl rfl ?_
  refine qb_iconst (pc' := 65) dX11_laySpread_64 rfl rfl ?_
  refine qb_aloadn (pc' := 66) (i := 0) dX11_laySpread_65 rfl rfl rfl ?_
  refine qb_geti (pc' := 69) (v := (hp 60 47)) dX11_laySpread_66 rfl qf_X11_248 qb_s60 rfl rfl ?_
  obtain ⟨g2091, h⟩ := h
  refine qb_imul (pc' := 70) dX11_laySpread_69 rfl g2091 ?_
  refine qb_ishl (pc' := 71) dX11_laySpread_70 rfl ?_
  refine qb_cge (tgt := 115) (pc' := 74) dX11_laySpread_71 rfl rfl (fun c2345 => ?_) (fun c2345 => ?_)
  · have h := h.1 c2345
    refine qb_iconst (pc' := 116) dX11_laySpread_115 rfl rfl ?_
    refine qb_istoren (pc' := 117) (i := 1) (L' := [qb_a 60, qb_i 0, none]) dX11_laySpread_116 rfl rfl (Nat.le_of_ble_eq_true rfl) rfl rfl ?_
    refine qb_cut (L' := [qb_a 60, qb_i 0, none]) [true, true, false] rfl ?_
    exact h
  · have h := h.2 c2345
    refine qb_aloadn (pc' := 75) (i := 0) dX11_laySpread_74 rfl rfl rfl ?_
    refine qb_iloadn (pc' := 76) (i := 1) dX11_laySpread_75 rfl rfl rfl ?_
    refine qb_callVu (pc' := 79) (b := 60) (as := [.inl x1]) (rest := []) dX11_laySpread_76 rfl qe_mX11_laySpread_mX11_leadAll rfl rfl qb_s60 rfl rfl (Nat.le_of_ble_eq_true rfl) (Nat.le_of_ble_eq_true rfl) ⟨rfl, rfl⟩ h (fun hp370 h => ?_)
    refine qb_aloadn (pc' := 80) (i := 0) dX11_laySpread_79 rfl rfl rfl ?_
    refine qb_callVi (pc' := 83) (b := 60) (as := []) (rest := []) dX11_laySpread_80 rfl qe_mX11_laySpread_mX11_allSpoilt rfl rfl qb_s60 rfl rfl (Nat.le_of_ble_eq_true rfl) (Nat.le_of_ble_eq_true rfl) ⟨rfl, rfl⟩ h (fun v373 hp373 h => ?_)
    refine qb_istoren (pc' := 84) (i := 2) (L' := [qb_a 60, qb_i x1, qb_i v373]) dX11_laySpread_83 rfl rfl (Nat.le_of_ble_eq_true rfl) rfl rfl ?_
    refine qb_aloadn (pc' := 85) (i := 0) dX11_laySpread_84 rfl rfl rfl ?_
    refine qb_geti (pc' := 88) (v := (hp373 60 45)) dX11_laySpread_85 rfl qf_X11_251 qb_s60 rfl rfl ?_
    have k1567 : qb_R mX11_laySpread 0 0 qb_sh 109 [qb_a 60, qb_i x1, none] [] (if (hp373 60 45) < 0 then (qb_st (qb_st hp373 60 45 v373) 60 46 x1) else (if (hp373 60 45) ≤ v373 then hp373 else (qb_st (qb_st hp373 60 45 v373) 60 46 x1))) (qb_U qb_sh K) := by
      obtain ⟨g2101, h⟩ := h
      refine qb_iinc (pc' := 112) (L' := [qb_a 60, qb_i (x1 + 1), none]) dX11_laySpread_109 rfl rfl g2101 (Nat.le_of_ble_eq_true rfl) rfl rfl ?_
      refine qb_goto (tgt := 62) dX11_laySpread_112 rfl ?_
      refine qb_cut (L' := [qb_a 60, qb_i (x1 + 1), none]) [true, true, false] rfl ?_
      exact h
    refine qb_flt (tgt := 99) (pc' := 91) dX11_laySpread_88 rfl rfl (fun c2348 => ?_) (fun c2348 => ?_)
    · refine qb_aloadn (pc' := 100) (i := 0) dX11_laySpread_99 rfl rfl rfl ?_
      refine qb_iloadn (pc' := 101) (i := 2) dX11_laySpread_100 rfl rfl rfl ?_
      refine qb_puti (pc' := 104) (hp' := (qb_st hp373 60 45 v373)) dX11_laySpread_101 rfl qf_X11_251 (Or.inl rfl) qb_s60 rfl rfl ?_
      refine qb_aloadn (pc' := 105) (i := 0) dX11_laySpread_104 rfl rfl rfl ?_
      refine qb_iloadn (pc' := 106) (i := 1) dX11_laySpread_105 rfl rfl rfl ?_
      refine qb_puti (pc' := 109) (hp' := (qb_st (qb_st hp373 60 45 v373) 60 46 x1)) dX11_laySpread_106 rfl qf_X11_260 (Or.inl rfl) qb_s60 rfl rfl ?_
      refine qb_cut (L' := [qb_a 60, qb_i x1, none]) [true, true, false] rfl ?_
      simpa only [if_pos c2348] using k1567
    · refine qb_iloadn (pc' := 92) (i := 2) dX11_laySpread_91 rfl rfl rfl ?_
      refine qb_aloadn (pc' := 93) (i := 0) dX11_laySpread_92 rfl rfl rfl ?_
      refine qb_geti (pc' := 96) (v := (hp373 60 45)) dX11_laySpread_93 rfl qf_X11_251 qb_s60 rfl rfl ?_
      have k1568 : qb_R mX11_laySpread 0 0 qb_sh 109 [qb_a 60, qb_i x1, none] [] (if (hp373 60 45) ≤ v373 then hp373 else (qb_st (qb_st hp373 60 45 v373) 60 46 x1)) (qb_U qb_sh K) := by
        refine qb_cut (L' := [qb_a 60, qb_i x1, none]) [true, true, false] rfl ?_
        simpa only [if_neg c2348] using k1567
      refine qb_cge (tgt := 109) (pc' := 99) dX11_laySpread_96 rfl rfl (fun c2350 => ?_) (fun c2350 => ?_)
      · refine qb_cut (L' := [qb_a 60, qb_i x1, none]) [true, true, false] rfl ?_
        simpa only [if_pos c2350] using k1568
      · refine qb_aloadn (pc' := 100) (i := 0) dX11_laySpread_99 rfl rfl rfl ?_
        refine qb_iloadn (pc' := 101) (i := 2) dX11_laySpread_100 rfl rfl rfl ?_
        refine qb_puti (pc' := 104) (hp' := (qb_st hp373 60 45 v373)) dX11_laySpread_101 rfl qf_X11_251 (Or.inl rfl) qb_s60 rfl rfl ?_
        refine qb_aloadn (pc' := 105) (i := 0) dX11_laySpread_104 rfl rfl rfl ?_
        refine qb_iloadn (pc' := 106) (i := 1) dX11_laySpread_105 rfl rfl rfl ?_
        refine qb_puti (pc' := 109) (hp' := (qb_st (qb_st hp373 60 45 v373) 60 46 x1)) dX11_laySpread_106 rfl qf_X11_260 (Or.inl rfl) qb_s60 rfl rfl ?_
        refine qb_cut (L' := [qb_a 60, qb_i x1, none]) [true, true, false] rfl ?_
        simpa only [if_neg c2350] using k1568
theorem b_m_laySpread_117 {x1 : Int} {hp : qb_H} {K : qb_H → Prop} (h : ((hp 60 47) ≤ x1 → K hp) ∧ (¬ (hp 60 47) ≤ x1 → (0 ≤ x1 ∧ x1 < 5) ∧ (qb_in (7 * (hp 87 x1))) ∧ (qb_in ((7 * (hp 87 x1)) + 1)) ∧ (0 ≤ ((7 * (hp 87 x1)) + 1) ∧ ((7 * (hp 87 x1)) + 1) < 210) ∧ r_m_laySpread_117 (x1 + 1) (qb_st hp 68 ((7 * (hp 87 x1)) + 1) (-1)) K)) : r_m_laySpread_117 x1 hp K := by
  unfold r_m_laySpread_117
  refine qb_iloadn (pc' := 118) (i := 1) dX11_laySpread_117 rfl rfl rfl ?_
  refine qb_aloadn (pc' := 119) (i := 0) dX11_laySpread_118 rfl rfl rfl ?_
  refine qb_geti (pc' := 122) (v := (hp 60 47)) dX11_laySpread_119 rfl qf_X11_248 qb_s60 rfl rfl ?_
  refine qb_cge (tgt := 148) (pc' := 125) dX11_laySpread_122 rfl rfl (fun c2351 => ?_) (fun c2351 => ?_)
  · have h := h.1 c2351
    exact qb_retv dX11_laySpread_148 rfl h
  · have h := h.2 c2351
    refine qb_aloadn (pc' := 126) (i := 0) dX11_laySpread_125 rfl rfl rfl ?_
    refine qb_geta (pc' := 129) dX11_laySpread_126 rfl qf_X11_31 qb_s60 rfl ?_
    refine qb_bipush (pc' := 131) dX11_laySpread_129 rfl rfl rfl ?_
    refine qb_aloadn (pc' := 132) (i := 0) dX11_laySpread_131 rfl rfl rfl ?_
    refine qb_geta (pc' := 135) dX11_laySpread_132 rfl qf_X11_88 qb_s60 rfl ?_
    refine qb_iloadn (pc' := 136) (i := 1) dX11_laySpread_135 rfl rfl rfl ?_
    obtain ⟨g2102, h⟩ := h
    refine qb_iald (pc' := 137) (v := (hp 87 x1)) dX11_laySpread_136 rfl qb_s87 g2102.1 g2102.2 rfl ?_
    obtain ⟨g2103, h⟩ := h
    refine qb_imul (pc' := 138) dX11_laySpread_137 rfl g2103 ?_
    refine qb_iconst (pc' := 139) dX11_laySpread_138 rfl rfl ?_
    obtain ⟨g2104, h⟩ := h
    refine qb_iadd (pc' := 140) dX11_laySpread_139 rfl g2104 ?_
    refine qb_iconst (pc' := 141) dX11_laySpread_140 rfl rfl ?_
    obtain ⟨g2105, h⟩ := h
    refine qb_iast (pc' := 142) dX11_laySpread_141 rfl qb_s68 g2105.1 g2105.2 ?_
    refine qb_iinc (pc' := 145) (L' := [qb_a 60, qb_i (x1 + 1), none]) dX11_laySpread_142 rfl rfl (qb_ina g2102 (by decide)) (Nat.le_of_ble_eq_true rfl) rfl rfl ?_
    refine qb_goto (tgt := 117) dX11_laySpread_145 rfl ?_
    refine qb_cut (L' := [qb_a 60, qb_i (x1 + 1), none]) [true, true, false] rfl ?_
    exact h
def c_m_settle (hp : qb_H) (K : Int → qb_H → Prop) : Prop := qb_R mX11_settle 0 0 qb_sh 0 [qb_a 60] [] hp (qb_I qb_sh K)
theorem b_m_settle {hp : qb_H} {K : Int → qb_H → Prop} (h : c_m_laySpread hp (fun hp376 => c_m_leadAll (hp376 60 46) hp376 (fun hp377 => K (hp377 60 47) hp377))) : c_m_settle hp K := by
  unfold c_m_settle
  refine qb_aloadn (pc' := 1) (i := 0) dX11_settle_0 rfl rfl rfl ?_
  refine qb_callVu (pc' := 4) (b := 60) (as := []) (rest := []) dX11_settle_1 rfl qe_mX11_settle_mX11_laySpread rfl rfl qb_s60 rfl rfl (Nat.le_of_ble_eq_true rfl) (Nat.le_of_ble_eq_true rfl) ⟨rfl, rfl⟩ h (fun hp376 h => ?_)
  refine qb_aloadn (pc' := 5) (i := 0) dX11_settle_4 rfl rfl rfl ?_
  refine qb_aloadn (pc' := 6) (i := 0) dX11_settle_5 rfl rfl rfl ?_
  refine qb_geti (pc' := 9) (v := (hp376 60 46)) dX11_settle_6 rfl qf_X11_260 qb_s60 rfl rfl ?_
  refine qb_callVu (pc' := 12) (b := 60) (as := [.inl (hp376 60 46)]) (rest := []) dX11_settle_9 rfl qe_mX11_settle_mX11_leadAll rfl rfl qb_s60 rfl rfl (Nat.le_of_ble_eq_true rfl) (Nat.le_of_ble_eq_true rfl) ⟨rfl, rfl⟩ h (fun hp377 h => ?_)
  refine qb_aloadn (pc' := 13) (i := 0) dX11_settle_12 rfl rfl rfl ?_
  refine qb_geti (pc' := 16) (v := (hp377 60 47)) dX11_settle_13 rfl qf_X11_248 qb_s60 rfl rfl ?_
  exact qb_reti dX11_settle_16 rfl h
def c_m_ship (x1 : Int) (x2 : Int) (x3 : Int) (hp : qb_H) (K : Int → qb_H → Prop) : Prop := qb_R mX11_ship 0 0 qb_sh 0 [qb_a 60, qb_i x1, qb_i x2, qb_i x3] [] hp (qb_I qb_sh K)
theorem b_m_ship {x1 x2 x3 : Int} {hp : qb_H} {K : Int → qb_H → Prop} (h : ((v_m_in x1 0 3) = 0 → K (-1) hp) ∧ (¬ (v_m_in x1 0 3) = 0 → ((v_m_isDay x2) = 0 → K (-2) hp) ∧ (¬ (v_m_isDay x2) = 0 → ((v_m_in x3 0 20) = 0 → K (-2) hp) ∧ (¬ (v_m_in x3 0 20) = 0 → (0 ≤ x1 ∧ x1 < 4) ∧ K 1 (qb_st (qb_st hp 77 x1 x2) 78 x1 x3))))) : c_m_ship x1 x2 x3 hp K := by
  unfold c_m_ship
  refine qb_iloadn (pc' := 1) (i := 1) dX11_ship_0 rfl rfl rfl ?_
  refine qb_iconst (pc' := 2) dX11_ship_1 rfl rfl ?_
  refine qb_iconst (pc' := 3) dX11_ship_2 rfl rfl ?_
  refine qb_callSi (pc' := 6) (as := [.inl x1, .inl 0, .inl 3]) (rest := []) dX11_ship_3 rfl qe_mX11_ship_mX11_in rfl rfl rfl (Nat.le_of_ble_eq_true rfl) (Nat.le_of_ble_eq_true rfl) ⟨rfl, rfl⟩ (K := fun vz hpz => (v_m_in x1 0 3) = vz ∧ hp = hpz) (s_m_in x1 0 3 hp _ trivial ⟨rfl, rfl⟩) (fun vz hpz ez => ?_)
  obtain ⟨ez1, ez2⟩ := ez
  subst ez1
  subst ez2
  refine qb_fne (tgt := 11) (pc' := 9) dX11_ship_6 rfl rfl (fun c2355 => ?_) (fun c2355 => ?_)
  · have h := h.2 c2355
    refine qb_iloadn (pc' := 12) (i := 2) dX11_ship_11 rfl rfl rfl ?_
    refine qb_callSi (pc' := 15) (as := [.inl x2]) (rest := []) dX11_ship_12 rfl qe_mX11_ship_mX11_isDay rfl rfl rfl (Nat.le_of_ble_eq_true rfl) (Nat.le_of_ble_eq_true rfl) ⟨rfl, rfl⟩ (K := fun vz hpz => (v_m_isDay x2) = vz ∧ hp = hpz) (s_m_isDay x2 hp _ trivial ⟨rfl, rfl⟩) (fun vz hpz ez => ?_)
    obtain ⟨ez1, ez2⟩ := ez
    subst ez1
    subst ez2
    refine qb_feq (tgt := 28) (pc' := 18) dX11_ship_15 rfl rfl (fun c2356 => ?_) (fun c2356 => ?_)
    · have h := h.1 c2356
      refine qb_bipush (pc' := 30) dX11_ship_28 rfl rfl rfl ?_
      exact qb_reti dX11_ship_30 rfl h
    · have h := h.2 c2356
      refine qb_iloadn (pc' := 19) (i := 3) dX11_ship_18 rfl rfl rfl ?_
      refine qb_iconst (pc' := 20) dX11_ship_19 rfl rfl ?_
      refine qb_bipush (pc' := 22) dX11_ship_20 rfl rfl rfl ?_
      refine qb_callSi (pc' := 25) (as := [.inl x3, .inl 0, .inl 20]) (rest := []) dX11_ship_22 rfl qe_mX11_ship_mX11_in rfl rfl rfl (Nat.le_of_ble_eq_true rfl) (Nat.le_of_ble_eq_true rfl) ⟨rfl, rfl⟩ (K := fun vz hpz => (v_m_in x3 0 20) = vz ∧ hp = hpz) (s_m_in x3 0 20 hp _ trivial ⟨rfl, rfl⟩) (fun vz hpz ez => ?_)
      obtain ⟨ez1, ez2⟩ := ez
      subst ez1
      subst ez2
      refine qb_fne (tgt := 31) (pc' := 28) dX11_ship_25 rfl rfl (fun c2357 => ?_) (fun c2357 => ?_)
      · have h := h.2 c2357
        refine qb_aloadn (pc' := 32) (i := 0) dX11_ship_31 rfl rfl rfl ?_
        refine qb_geta (pc' := 35) dX11_ship_32 rfl qf_X11_58 qb_s60 rfl ?_
        refine qb_iloadn (pc' := 36) (i := 1) dX11_ship_35 rfl rfl rfl ?_
        refine qb_iloadn (pc' := 37) (i := 2) dX11_ship_36 rfl rfl rfl ?_
        obtain ⟨g2107, h⟩ := h
        refine qb_iast (pc' := 38) dX11_ship_37 rfl qb_s77 g2107.1 g2107.2 ?_
        refine qb_aloadn (pc' := 39) (i := 0) dX11_ship_38 rfl rfl rfl ?_
        refine qb_geta (pc' := 42) dX11_ship_39 rfl qf_X11_61 qb_s60 rfl ?_
        refine qb_iloadn (pc' := 43) (i := 1) dX11_ship_42 rfl rfl rfl ?_
        refine qb_iloadn (pc' := 44) (i := 3) dX11_ship_43 rfl rfl rfl ?_
        refine qb_iast (pc' := 45) dX11_ship_44 rfl qb_s78 g2107.1 g2107.2 ?_
        refine qb_iconst (pc' := 46) dX11_ship_45 rfl rfl ?_
        exact qb_reti dX11_ship_46 rfl h
      · have h := h.1 c2357
        refine qb_bipush (pc' := 30) dX11_ship_28 rfl rfl rfl ?_
        exact qb_reti dX11_ship_30 rfl h
  · have h := h.1 c2355
    refine qb_iconst (pc' := 10) dX11_ship_9 rfl rfl ?_
    exact qb_reti dX11_ship_10 rfl h
def v_m_ship (x1 : Int) (x2 : Int) (x3 : Int) : Int := (if (v_m_in x1 0 3) = 0 then ((-1) : Int) else (if (v_m_isDay x2) = 0 then ((-2) : Int) else (if (v_m_in x3 0 20) = 0 then ((-2) : Int) else 1)))
def h_m_ship (x1 : Int) (x2 : Int) (x3 : Int) (hp : qb_H) : qb_H := (if (v_m_in x1 0 3) = 0 then hp else (if (v_m_isDay x2) = 0 then hp else (if (v_m_in x3 0 20) = 0 then hp else (qb_st (qb_st hp 77 x1 x2) 78 x1 x3))))
theorem hn_m_ship (x1 : Int) (x2 : Int) (x3 : Int) (hp : qb_H) (c : Nat) (h77 : c ≠ 77) (h78 : c ≠ 78) : h_m_ship x1 x2 x3 hp c = hp c := by
  unfold h_m_ship
  (repeat' split) <;> simp only [qb_st_ne, qb_cpy_ne, ne_eq, not_false_eq_true, h77, h78, ]
def g_m_ship (x1 : Int) (x2 : Int) (x3 : Int) : Prop := (¬ (v_m_in x1 0 3) = 0 → (¬ (v_m_isDay x2) = 0 → (¬ (v_m_in x3 0 20) = 0 → 0 ≤ x1 ∧ x1 < 4)))
theorem s_m_ship (x1 : Int) (x2 : Int) (x3 : Int) (hp : qb_H) (K : Int → qb_H → Prop) (hg : g_m_ship x1 x2 x3) (hK : K (v_m_ship x1 x2 x3) (h_m_ship x1 x2 x3 hp)) : c_m_ship x1 x2 x3 hp K := by
  refine b_m_ship ?_
  unfold g_m_ship at hg
  unfold v_m_ship h_m_ship at hK
  refine ⟨fun c2358 => ?_, fun c2358 => ?_⟩
  · simpa only [if_pos c2358] using hK
  · have hg := hg c2358
    refine ⟨fun c2359 => ?_, fun c2359 => ?_⟩
    · simpa only [if_neg c2358, if_pos c2359] using hK
    · have hg := hg c2359
      refine ⟨fun c2360 => ?_, fun c2360 => ?_⟩
      · simpa only [if_neg c2358, if_neg c2359, if_pos c2360] using hK
      · have hg := hg c2360
        refine ⟨hg, ?_⟩
        simpa only [if_neg c2358, if_neg c2359, if_neg c2360] using hK
def c_m_spread (x1 : Int) (hp : qb_H) (K : Int → qb_H → Prop) : Prop := qb_R mX11_spread 0 0 qb_sh 0 [qb_a 60, qb_i x1] [] hp (qb_I qb_sh K)
theorem b_m_spread {x1 : Int} {hp : qb_H} {K : Int → qb_H → Prop} (h : c_m_laySpread hp (fun hp379 => (¬ x1 = (-1) → (qb_in ((hp379 60 47) - 1)) ∧ (¬ (v_m_in x1 0 ((hp379 60 47) - 1)) = 0 → (qb_in (((hp379 60 47) - 1) - x1)) ∧ qb_in (2 * (((hp379 60 47) - 1) - x1)))) ∧ (∀ (y380 : Int), y380 = (if x1 = (-1) then (hp379 60 45) else (if (v_m_in x1 0 ((hp379 60 47) - 1)) = 0 then ((-6) : Int) else (qb_and (qb_shr (hp379 60 46) (2 * (((hp379 60 47) - 1) - x1))) 3))) → K y380 hp379))) : c_m_spread x1 hp K := by
  unfold c_m_spread
  refine qb_aloadn (pc' := 1) (i := 0) dX11_spread_0 rfl rfl rfl ?_
  refine qb_callVu (pc' := 4) (b := 60) (as := []) (rest := []) dX11_spread_1 rfl qe_mX11_spread_mX11_laySpread rfl rfl qb_s60 rfl rfl (Nat.le_of_ble_eq_true rfl) (Nat.le_of_ble_eq_true rfl) ⟨rfl, rfl⟩ h (fun hp379 h => ?_)
  refine qb_iloadn (pc' := 5) (i := 1) dX11_spread_4 rfl rfl rfl ?_
  refine qb_iconst (pc' := 6) dX11_spread_5 rfl rfl ?_
  obtain ⟨gb, h⟩ := h
  have k1573 : ∀ (y380 : Int), y380 = (if x1 = (-1) then (hp379 60 45) else (if (v_m_in x1 0 ((hp379 60 47) - 1)) = 0 then ((-6) : Int) else (qb_and (qb_shr (hp379 60 46) (2 * (((hp379 60 47) - 1) - x1))) 3))) → qb_R mX11_spread 0 0 qb_sh 52 [none, none] [.inl y380] hp379 (qb_I qb_sh K) := by
    intro y380 ey380
    have h := h y380 ey380
    exact qb_reti dX11_spread_52 rfl h
  refine qb_cne (tgt := 16) (pc' := 9) dX11_spread_6 rfl rfl (fun c2364 => ?_) (fun c2364 => ?_)
  · have h := gb c2364
    refine qb_iloadn (pc' := 17) (i := 1) dX11_spread_16 rfl rfl rfl ?_
    refine qb_iconst (pc' := 18) dX11_spread_17 rfl rfl ?_
    refine qb_aloadn (pc' := 19) (i := 0) dX11_spread_18 rfl rfl rfl ?_
    refine qb_geti (pc' := 22) (v := (hp379 60 47)) dX11_spread_19 rfl qf_X11_248 qb_s60 rfl rfl ?_
    refine qb_iconst (pc' := 23) dX11_spread_22 rfl rfl ?_
    obtain ⟨g2123, h⟩ := h
    refine qb_isub (pc' := 24) dX11_spread_23 rfl g2123 ?_
    refine qb_callSi (pc' := 27) (as := [.inl x1, .inl 0, .inl ((hp379 60 47) - 1)]) (rest := []) dX11_spread_24 rfl qe_mX11_spread_mX11_in rfl rfl rfl (Nat.le_of_ble_eq_true rfl) (Nat.le_of_ble_eq_true rfl) ⟨rfl, rfl⟩ (K := fun vz hpz => (v_m_in x1 0 ((hp379 60 47) - 1)) = vz ∧ hp379 = hpz) (s_m_in x1 0 ((hp379 60 47) - 1) hp379 _ trivial ⟨rfl, rfl⟩) (fun vz hpz ez => ?_)
    obtain ⟨ez1, ez2⟩ := ez
    subst ez1
    subst ez2
    have gb := h
    have k1574 : qb_R mX11_spread 0 0 qb_sh 52 [none, none] [.inl (if (v_m_in x1 0 ((hp379 60 47) - 1)) = 0 then ((-6) : Int) else (qb_and (qb_shr (hp379 60 46) (2 * (((hp379 60 47) - 1) - x1))) 3))] hp379 (qb_I qb_sh K) := by
      refine qb_cut (L' := [none, none]) [false, false] rfl ?_
      exact k1573 _ (if_neg c2364).symm
    refine qb_feq (tgt := 50) (pc' := 30) dX11_spread_27 rfl rfl (fun c2366 => ?_) (fun c2366 => ?_)
    · refine qb_bipush (pc' := 52) dX11_spread_50 rfl rfl rfl ?_
      refine qb_cut (L' := [none, none]) [false, false] rfl ?_
      simpa only [if_pos c2366] using k1574
    · have h := gb c2366
      refine qb_aloadn (pc' := 31) (i := 0) dX11_spread_30 rfl rfl rfl ?_
      refine qb_geti (pc' := 34) (v := (hp379 60 46)) dX11_spread_31 rfl qf_X11_260 qb_s60 rfl rfl ?_
      refine qb_iconst (pc' := 35) dX11_spread_34 rfl rfl ?_
      refine qb_aloadn (pc' := 36) (i := 0) dX11_spread_35 rfl rfl rfl ?_
      refine qb_geti (pc' := 39) (v := (hp379 60 47)) dX11_spread_36 rfl qf_X11_248 qb_s60 rfl rfl ?_
      refine qb_iconst (pc' := 40) dX11_spread_39 rfl rfl ?_
      refine qb_isub (pc' := 41) dX11_spread_40 rfl g2123 ?_
      refine qb_iloadn (pc' := 42) (i := 1) dX11_spread_41 rfl rfl rfl ?_
      obtain ⟨g2126, h⟩ := h
      refine qb_isub (pc' := 43) dX11_spread_42 rfl g2126 ?_
      have g2127 := h
      refine qb_imul (pc' := 44) dX11_spread_43 rfl g2127 ?_
      refine qb_ishr (pc' := 45) dX11_spread_44 rfl ?_
      refine qb_iconst (pc' := 46) dX11_spread_45 rfl rfl ?_
      refine qb_iand (pc' := 47) dX11_spread_46 rfl ?_
      refine qb_goto (tgt := 52) dX11_spread_47 rfl ?_
      refine qb_cut (L' := [none, none]) [false, false] rfl ?_
      simpa only [if_neg c2366] using k1574
  · refine qb_aloadn (pc' := 10) (i := 0) dX11_spread_9 rfl rfl rfl ?_
    refine qb_geti (pc' := 13) (v := (hp379 60 45)) dX11_spread_10 rfl qf_X11_251 qb_s60 rfl rfl ?_
    refine qb_goto (tgt := 52) dX11_spread_13 rfl ?_
    refine qb_cut (L' := [none, none]) [false, false] rfl ?_
    exact k1573 _ (if_pos c2364).symm
def c_m_told (x1 : Int) (hp : qb_H) (K : Int → qb_H → Prop) : Prop := qb_R mX11_told 0 0 qb_sh 0 [qb_a 60, qb_i x1, none, none] [] hp (qb_I qb_sh K)
def r_m_told_103 (x2 : Int) (x3 : Int) (hp : qb_H) (K : Int → qb_H → Prop) : Prop := qb_R mX11_told 0 0 qb_sh 103 [qb_a 60, none, qb_i x2, qb_i x3] [] hp (qb_I qb_sh K)
theorem b_m_told {x1 : Int} {hp : qb_H} {K : Int → qb_H → Prop} (h : (x1 = 0 → K (hp 60 0) hp) ∧ (¬ x1 = 0 → (x1 = 1 → K (hp 60 2) hp) ∧ (¬ x1 = 1 → (x1 = 2 → K (hp 60 9) hp) ∧ (¬ x1 = 2 → (x1 = 3 → c_m_waiting hp (fun v383 hp383 => K v383 hp383)) ∧ (¬ x1 = 3 → (x1 = 4 → K (hp 60 11) hp) ∧ (¬ x1 = 4 → (x1 = 5 → K (hp 60 13) hp) ∧ (¬ x1 = 5 → (x1 = 6 → K (hp 60 18) hp) ∧ (¬ x1 = 6 → (x1 = 7 → K (hp 60 24) hp) ∧ (¬ x1 = 7 → (x1 = 8 → c_m_allSpoilt hp (fun v384 hp384 => K v384 hp384)) ∧ (¬ x1 = 8 → (x1 = 9 → r_m_told_103 0 0 hp K) ∧ (¬ x1 = 9 → K (-2) hp))))))))))) : c_m_told x1 hp K := by
  unfold c_m_told
  refine qb_iconst (pc' := 1) dX11_told_0 rfl rfl ?_
  refine qb_istoren (pc' := 2) (i := 2) (L' := [qb_a 60, qb_i x1, qb_i 0, none]) dX11_told_1 rfl rfl (Nat.le_of_ble_eq_true rfl) rfl rfl ?_
  refine qb_iloadn (pc' := 3) (i := 1) dX11_told_2 rfl rfl rfl ?_
  by_cases c2377 : x1 = 0
  · have h := h.1 c2377
    refine qb_tabj (tgt := 56) dX11_told_3 0 (c2377.trans rfl) (by decide) rfl rfl ?_
    refine qb_aloadn (pc' := 57) (i := 0) dX11_told_56 rfl rfl rfl ?_
    refine qb_geti (pc' := 60) (v := (hp 60 0)) dX11_told_57 rfl qf_X11_98 qb_s60 rfl rfl ?_
    exact qb_reti dX11_told_60 rfl h
  · have h := h.2 c2377
    by_cases c2378 : x1 = 1
    · have h := h.1 c2378
      refine qb_tabj (tgt := 61) dX11_told_3 1 (c2378.trans rfl) (by decide) rfl rfl ?_
      refine qb_aloadn (pc' := 62) (i := 0) dX11_told_61 rfl rfl rfl ?_
      refine qb_geti (pc' := 65) (v := (hp 60 2)) dX11_told_62 rfl qf_X11_113 qb_s60 rfl rfl ?_
      exact qb_reti dX11_told_65 rfl h
    · have h := h.2 c2378
      by_cases c2379 : x1 = 2
      · have h := h.1 c2379
        refine qb_tabj (tgt := 66) dX11_told_3 2 (c2379.trans rfl) (by decide) rfl rfl ?_
        refine qb_aloadn (pc' := 67) (i := 0) dX11_told_66 rfl rfl rfl ?_
        refine qb_geti (pc' := 70) (v := (hp 60 9)) dX11_told_67 rfl qf_X11_136 qb_s60 rfl rfl ?_
        exact qb_reti dX11_told_70 rfl h
      · have h := h.2 c2379
        by_cases c2380 : x1 = 3
        · have h := h.1 c2380
          refine qb_tabj (tgt := 71) dX11_told_3 3 (c2380.trans rfl) (by decide) rfl rfl ?_
          refine qb_aloadn (pc' := 72) (i := 0) dX11_told_71 rfl rfl rfl ?_
          refine qb_callVi (pc' := 75) (b := 60) (as := []) (rest := []) dX11_told_72 rfl qe_mX11_told_mX11_waiting rfl rfl qb_s60 rfl rfl (Nat.le_of_ble_eq_true rfl) (Nat.le_of_ble_eq_true rfl) ⟨rfl, rfl⟩ h (fun v383 hp383 h => ?_)
          exact qb_reti dX11_told_75 rfl h
        · have h := h.2 c2380
          by_cases c2381 : x1 = 4
          · have h := h.1 c2381
            refine qb_tabj (tgt := 76) dX11_told_3 4 (c2381.trans rfl) (by decide) rfl rfl ?_
            refine qb_aloadn (pc' := 77) (i := 0) dX11_told_76 rfl rfl rfl ?_
            refine qb_geti (pc' := 80) (v := (hp 60 11)) dX11_told_77 rfl qf_X11_164 qb_s60 rfl rfl ?_
            exact qb_reti dX11_told_80 rfl h
          · have h := h.2 c2381
            by_cases c2382 : x1 = 5
            · have h := h.1 c2382
              refine qb_tabj (tgt := 81) dX11_told_3 5 (c2382.trans rfl) (by decide) rfl rfl ?_
              refine qb_aloadn (pc' := 82) (i := 0) dX11_told_81 rfl rfl rfl ?_
              refine qb_geti (pc' := 85) (v := (hp 60 13)) dX11_told_82 rfl qf_X11_201 qb_s60 rfl rfl ?_
              exact qb_reti dX11_told_85 rfl h
            · have h := h.2 c2382
              by_cases c2383 : x1 = 6
              · have h := h.1 c2383
                refine qb_tabj (tgt := 86) dX11_told_3 6 (c2383.trans rfl) (by decide) rfl rfl ?_
                refine qb_aloadn (pc' := 87) (i := 0) dX11_told_86 rfl rfl rfl ?_
                refine qb_geti (pc' := 90) (v := (hp 60 18)) dX11_told_87 rfl qf_X11_223 qb_s60 rfl rfl ?_
                exact qb_reti dX11_told_90 rfl h
              · have h := h.2 c2383
                by_cases c2384 : x1 = 7
                · have h := h.1 c2384
                  refine qb_tabj (tgt := 91) dX11_told_3 7 (c2384.trans rfl) (by decide) rfl rfl ?_
                  refine qb_aloadn (pc' := 92) (i := 0) dX11_told_91 rfl rfl rfl ?_
                  refine qb_geti (pc' := 95) (v := (hp 60 24)) dX11_told_92 rfl qf_X11_266 qb_s60 rfl rfl ?_
                  exact qb_reti dX11_told_95 rfl h
                · have h := h.2 c2384
                  by_cases c2385 : x1 = 8
                  · have h := h.1 c2385
                    refine qb_tabj (tgt := 96) dX11_told_3 8 (c2385.trans rfl) (by decide) rfl rfl ?_
                    refine qb_aloadn (pc' := 97) (i := 0) dX11_told_96 rfl rfl rfl ?_
                    refine qb_callVi (pc' := 100) (b := 60) (as := []) (rest := []) dX11_told_97 rfl qe_mX11_told_mX11_allSpoilt rfl rfl qb_s60 rfl rfl (Nat.le_of_ble_eq_true rfl) (Nat.le_of_ble_eq_true rfl) ⟨rfl, rfl⟩ h (fun v384 hp384 h => ?_)
                    exact qb_reti dX11_told_100 rfl h
                  · have h := h.2 c2385
                    by_cases c2386 : x1 = 9
                    · have h := h.1 c2386
                      refine qb_tabj (tgt := 101) dX11_told_3 9 (c2386.trans rfl) (by decide) rfl rfl ?_
                      refine qb_iconst (pc' := 102) dX11_told_101 rfl rfl ?_
                      refine qb_istoren (pc' := 103) (i := 3) (L' := [qb_a 60, qb_i x1, qb_i 0, qb_i 0]) dX11_told_102 rfl rfl (Nat.le_of_ble_eq_true rfl) rfl rfl ?_
                      refine qb_cut (L' := [qb_a 60, none, qb_i 0, qb_i 0]) [true, false, true, true] rfl ?_
                      exact h
                    · have h := h.2 c2386
                      refine qb_tabOut (tgt := 128) dX11_told_3 (qb_sw1 (qb_sw1 (qb_sw1 (qb_sw1 (qb_sw1 (qb_sw1 (qb_sw1 (qb_sw1 (qb_sw1 (qb_sw1 (Int.lt_or_le x1 0) c2377) c2378) c2379) c2380) c2381) c2382) c2383) c2384) c2385) c2386) rfl ?_
                      refine qb_bipush (pc' := 130) dX11_told_128 rfl rfl rfl ?_
                      exact qb_reti dX11_told_130 rfl h
theorem b_m_told_103 {x2 x3 : Int} {hp : qb_H} {K : Int → qb_H → Prop} (h : (4 ≤ x3 → K x2 hp) ∧ (¬ 4 ≤ x3 → c_m_workQuay x3 hp (fun hp385 => (g_m_barrelsNow hp385) ∧ (qb_in (x2 + (v_m_barrelsNow hp385))) ∧ (∀ (y386 : Int), y386 = (x2 + (v_m_barrelsNow hp385)) → (qb_in (x3 + 1)) ∧ r_m_told_103 y386 (x3 + 1) hp385 K)))) : r_m_told_103 x2 x3 hp K := by
  unfold r_m_told_103
  refine qb_iloadn (pc' := 104) (i := 3) dX11_told_103 rfl rfl rfl ?_
  refine qb_iconst (pc' := 105) dX11_told_104 rfl rfl ?_
  refine qb_cge (tgt := 126) (pc' := 108) dX11_told_105 rfl rfl (fun c2387 => ?_) (fun c2387 => ?_)
  · have h := h.1 c2387
    refine qb_iloadn (pc' := 127) (i := 2) dX11_told_126 rfl rfl rfl ?_
    exact qb_reti dX11_told_127 rfl h
  · have h := h.2 c2387
    refine qb_aloadn (pc' := 109) (i := 0) dX11_told_108 rfl rfl rfl ?_
    refine qb_iloadn (pc' := 110) (i := 3) dX11_told_109 rfl rfl rfl ?_
    refine qb_callVu (pc' := 113) (b := 60) (as := [.inl x3]) (rest := []) dX11_told_110 rfl qe_mX11_told_mX11_workQuay rfl rfl qb_s60 rfl rfl (Nat.le_of_ble_eq_true rfl) (Nat.le_of_ble_eq_true rfl) ⟨rfl, rfl⟩ h (fun hp385 h => ?_)
    refine qb_iloadn (pc' := 114) (i := 2) dX11_told_113 rfl rfl rfl ?_
    refine qb_aloadn (pc' := 115) (i := 0) dX11_told_114 rfl rfl rfl ?_
    obtain ⟨g2128, h⟩ := h
    refine qb_callVi (pc' := 118) (b := 60) (as := []) (rest := [.inl x2]) dX11_told_115 rfl qe_mX11_told_mX11_barrelsNow rfl rfl qb_s60 rfl rfl (Nat.le_of_ble_eq_true rfl) (Nat.le_of_ble_eq_true rfl) ⟨rfl, rfl⟩ (K := fun vz hpz => (v_m_barrelsNow hp385) = vz ∧ hp385 = hpz) (s_m_barrelsNow  hp385 _ g2128 ⟨rfl, rfl⟩) (fun vz hpz ez => ?_)
    obtain ⟨ez1, ez2⟩ := ez
    subst ez1
    subst ez2
    obtain ⟨g2129, h⟩ := h
    refine qb_iadd (pc' := 119) dX11_told_118 rfl g2129 ?_
    refine qb_istoreny (pc' := 120) (Lf := fun y386 => [qb_a 60, none, qb_i y386, qb_i x3]) dX11_told_119 rfl rfl (Nat.le_of_ble_eq_true rfl) rfl (fun _ => rfl) (fun y386 ey386 => ?_)
    have h := h y386 ey386
    obtain ⟨g2130, h⟩ := h
    refine qb_iinc (pc' := 123) (L' := [qb_a 60, none, qb_i y386, qb_i (x3 + 1)]) dX11_told_120 rfl rfl g2130 (Nat.le_of_ble_eq_true rfl) rfl rfl ?_
    refine qb_goto (tgt := 103) dX11_told_123 rfl ?_
    refine qb_cut (L' := [qb_a 60, none, qb_i y386, qb_i (x3 + 1)]) [true, false, true, true] rfl ?_
    exact h
def c_m_wipe (hp : qb_H) (K : Int → qb_H → Prop) : Prop := qb_R mX11_wipe 0 0 qb_sh 0 [qb_a 60, none] [] hp (qb_I qb_sh K)
theorem b_m_wipe {hp : qb_H} {K : Int → qb_H → Prop} (h : K (hp 60 0) (qb_st hp 60 0 0)) : c_m_wipe hp K := by
  unfold c_m_wipe
  refine qb_aloadn (pc' := 1) (i := 0) dX11_wipe_0 rfl rfl rfl ?_
  refine qb_geti (pc' := 4) (v := (hp 60 0)) dX11_wipe_1 rfl qf_X11_98 qb_s60 rfl rfl ?_
  refine qb_istoren (pc' := 5) (i := 1) (L' := [qb_a 60, qb_i (hp 60 0)]) dX11_wipe_4 rfl rfl (Nat.le_of_ble_eq_true rfl) rfl rfl ?_
  refine qb_aloadn (pc' := 6) (i := 0) dX11_wipe_5 rfl rfl rfl ?_
  refine qb_iconst (pc' := 7) dX11_wipe_6 rfl rfl ?_
  refine qb_puti (pc' := 10) (hp' := (qb_st hp 60 0 0)) dX11_wipe_7 rfl qf_X11_98 (Or.inl rfl) qb_s60 rfl rfl ?_
  refine qb_iloadn (pc' := 11) (i := 1) dX11_wipe_10 rfl rfl rfl ?_
  exact qb_reti dX11_wipe_11 rfl h
def v_m_wipe (hp : qb_H) : Int := (hp 60 0)
def h_m_wipe (hp : qb_H) : qb_H := (qb_st hp 60 0 0)
theorem hn_m_wipe (hp : qb_H) (c : Nat) (h60 : c ≠ 60) : h_m_wipe hp c = hp c := by
  unfold h_m_wipe
  (repeat' split) <;> simp only [qb_st_ne, qb_cpy_ne, ne_eq, not_false_eq_true, h60, ]
theorem s_m_wipe (hp : qb_H) (K : Int → qb_H → Prop) (hg : True) (hK : K (v_m_wipe hp) (h_m_wipe hp)) : c_m_wipe hp K := by
  refine b_m_wipe ?_
  unfold v_m_wipe h_m_wipe at hK
  exact hK
