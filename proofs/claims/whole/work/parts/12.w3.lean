/-! walks by program -/
def c_m_absolve (hp : qb_H) (K : Int → qb_H → Prop) : Prop := qb_R mX11_absolve 0 0 qb_sh 0 [qb_a 60, none] [] hp (qb_I qb_sh K)
theorem b_m_absolve {hp : qb_H} {K : Int → qb_H → Prop} (h : K (hp 60 13) (qb_st hp 60 13 0)) : c_m_absolve hp K := by
  unfold c_m_absolve
  refine qb_aloadn (pc' := 1) (i := 0) dX11_absolve_0 rfl rfl rfl ?_
  refine qb_geti (pc' := 4) (v := (hp 60 13)) dX11_absolve_1 rfl qf_X11_201 qb_s60 rfl rfl ?_
  refine qb_istoren (pc' := 5) (i := 1) (L' := [qb_a 60, qb_i (hp 60 13)]) dX11_absolve_4 rfl rfl (Nat.le_of_ble_eq_true rfl) rfl rfl ?_
  refine qb_aloadn (pc' := 6) (i := 0) dX11_absolve_5 rfl rfl rfl ?_
  refine qb_iconst (pc' := 7) dX11_absolve_6 rfl rfl ?_
  refine qb_puti (pc' := 10) (hp' := (qb_st hp 60 13 0)) dX11_absolve_7 rfl qf_X11_201 (Or.inl rfl) qb_s60 rfl rfl ?_
  refine qb_iloadn (pc' := 11) (i := 1) dX11_absolve_10 rfl rfl rfl ?_
  exact qb_reti dX11_absolve_11 rfl h
def v_m_absolve (hp : qb_H) : Int := (hp 60 13)
def h_m_absolve (hp : qb_H) : qb_H := (qb_st hp 60 13 0)
theorem hn_m_absolve (hp : qb_H) (c : Nat) (h60 : c ≠ 60) : h_m_absolve hp c = hp c := by
  unfold h_m_absolve
  (repeat' split) <;> simp only [qb_st_ne, qb_cpy_ne, ne_eq, not_false_eq_true, h60, ]
theorem s_m_absolve (hp : qb_H) (K : Int → qb_H → Prop) (hg : True) (hK : K (v_m_absolve hp) (h_m_absolve hp)) : c_m_absolve hp K := by
  refine b_m_absolve ?_
  unfold v_m_absolve h_m_absolve at hK
  exact hK
def c_m_in (x0 : Int) (x1 : Int) (x2 : Int) (hp : qb_H) (K : Int → qb_H → Prop) : Prop := qb_R mX11_in 0 0 qb_sh 0 [qb_i x0, qb_i x1, qb_i x2] [] hp (qb_I qb_sh K)
theorem b_m_in {x0 x1 x2 : Int} {hp : qb_H} {K : Int → qb_H → Prop} (h : K (if x0 < x1 then (0 : Int) else (if x2 < x0 then (0 : Int) else 1)) hp) : c_m_in x0 x1 x2 hp K := by
  unfold c_m_in
  refine qb_iloadn (pc' := 1) (i := 0) dX11_in_0 rfl rfl rfl ?_
  refine qb_iloadn (pc' := 2) (i := 1) dX11_in_1 rfl rfl rfl ?_
  have k282 : qb_R mX11_in 0 0 qb_sh 15 [none, none, none] [.inl (if x0 < x1 then (0 : Int) else (if x2 < x0 then (0 : Int) else 1))] hp (qb_I qb_sh K) := by
    exact qb_retz dX11_in_15 rfl (by (repeat' split) <;> first | exact Or.inl rfl | exact Or.inr rfl) h
  refine qb_clt (tgt := 14) (pc' := 5) dX11_in_2 rfl rfl (fun c673 => ?_) (fun c673 => ?_)
  · refine qb_iconst (pc' := 15) dX11_in_14 rfl rfl ?_
    refine qb_cut (L' := [none, none, none]) [false, false, false] rfl ?_
    simpa only [if_pos c673] using k282
  · refine qb_iloadn (pc' := 6) (i := 0) dX11_in_5 rfl rfl rfl ?_
    refine qb_iloadn (pc' := 7) (i := 2) dX11_in_6 rfl rfl rfl ?_
    have k283 : qb_R mX11_in 0 0 qb_sh 15 [none, none, none] [.inl (if x2 < x0 then (0 : Int) else 1)] hp (qb_I qb_sh K) := by
      refine qb_cut (L' := [none, none, none]) [false, false, false] rfl ?_
      simpa only [if_neg c673] using k282
    refine qb_cgt (tgt := 14) (pc' := 10) dX11_in_7 rfl rfl (fun c675 => ?_) (fun c675 => ?_)
    · refine qb_iconst (pc' := 15) dX11_in_14 rfl rfl ?_
      refine qb_cut (L' := [none, none, none]) [false, false, false] rfl ?_
      simpa only [if_pos c675] using k283
    · refine qb_iconst (pc' := 11) dX11_in_10 rfl rfl ?_
      refine qb_goto (tgt := 15) dX11_in_11 rfl ?_
      refine qb_cut (L' := [none, none, none]) [false, false, false] rfl ?_
      simpa only [if_neg c675] using k283
def v_m_in (x0 : Int) (x1 : Int) (x2 : Int) : Int := (if x0 < x1 then (0 : Int) else (if x2 < x0 then (0 : Int) else 1))
theorem vb_m_in (x0 : Int) (x1 : Int) (x2 : Int) : v_m_in x0 x1 x2 = 0 ∨ v_m_in x0 x1 x2 = 1 := by
  unfold v_m_in
  (repeat' split) <;> first | exact Or.inl rfl | exact Or.inr rfl
theorem s_m_in (x0 : Int) (x1 : Int) (x2 : Int) (hp : qb_H) (K : Int → qb_H → Prop) (hg : True) (hK : K (v_m_in x0 x1 x2) hp) : c_m_in x0 x1 x2 hp K := by
  refine b_m_in ?_
  unfold v_m_in at hK
  exact hK
def c_m_isQuay (x0 : Int) (hp : qb_H) (K : Int → qb_H → Prop) : Prop := qb_R mX11_isQuay 0 0 qb_sh 0 [qb_i x0] [] hp (qb_I qb_sh K)
theorem b_m_isQuay {x0 : Int} {hp : qb_H} {K : Int → qb_H → Prop} (h : K (v_m_in x0 0 3) hp) : c_m_isQuay x0 hp K := by
  unfold c_m_isQuay
  refine qb_iloadn (pc' := 1) (i := 0) dX11_isQuay_0 rfl rfl rfl ?_
  refine qb_iconst (pc' := 2) dX11_isQuay_1 rfl rfl ?_
  refine qb_iconst (pc' := 3) dX11_isQuay_2 rfl rfl ?_
  refine qb_callSi (pc' := 6) (as := [.inl x0, .inl 0, .inl 3]) (rest := []) dX11_isQuay_3 rfl qe_mX11_isQuay_mX11_in rfl rfl rfl (Nat.le_of_ble_eq_true rfl) (Nat.le_of_ble_eq_true rfl) ⟨rfl, rfl⟩ (K := fun vz hpz => (v_m_in x0 0 3) = vz ∧ hp = hpz) (s_m_in x0 0 3 hp _ trivial ⟨rfl, rfl⟩) (fun vz hpz ez => ?_)
  obtain ⟨ez1, ez2⟩ := ez
  subst ez1
  subst ez2
  exact qb_retz dX11_isQuay_6 rfl (by (repeat' split) <;> first | exact Or.inl rfl | exact Or.inr rfl | apply vb_m_in) h
def v_m_isQuay (x0 : Int) : Int := (v_m_in x0 0 3)
theorem vb_m_isQuay (x0 : Int) : v_m_isQuay x0 = 0 ∨ v_m_isQuay x0 = 1 := by
  unfold v_m_isQuay
  (repeat' split) <;> first | exact Or.inl rfl | exact Or.inr rfl | apply vb_m_in
theorem s_m_isQuay (x0 : Int) (hp : qb_H) (K : Int → qb_H → Prop) (hg : True) (hK : K (v_m_isQuay x0) hp) : c_m_isQuay x0 hp K := by
  refine b_m_isQuay ?_
  unfold v_m_isQuay at hK
  exact hK
def c_m_isDay (x0 : Int) (hp : qb_H) (K : Int → qb_H → Prop) : Prop := qb_R mX11_isDay 0 0 qb_sh 0 [qb_i x0] [] hp (qb_I qb_sh K)
theorem b_m_isDay {x0 : Int} {hp : qb_H} {K : Int → qb_H → Prop} (h : K (v_m_in x0 0 400) hp) : c_m_isDay x0 hp K := by
  unfold c_m_isDay
  refine qb_iloadn (pc' := 1) (i := 0) dX11_isDay_0 rfl rfl rfl ?_
  refine qb_iconst (pc' := 2) dX11_isDay_1 rfl rfl ?_
  refine qb_sipush (pc' := 5) dX11_isDay_2 rfl rfl rfl ?_
  refine qb_callSi (pc' := 8) (as := [.inl x0, .inl 0, .inl 400]) (rest := []) dX11_isDay_5 rfl qe_mX11_isDay_mX11_in rfl rfl rfl (Nat.le_of_ble_eq_true rfl) (Nat.le_of_ble_eq_true rfl) ⟨rfl, rfl⟩ (K := fun vz hpz => (v_m_in x0 0 400) = vz ∧ hp = hpz) (s_m_in x0 0 400 hp _ trivial ⟨rfl, rfl⟩) (fun vz hpz ez => ?_)
  obtain ⟨ez1, ez2⟩ := ez
  subst ez1
  subst ez2
  exact qb_retz dX11_isDay_8 rfl (by (repeat' split) <;> first | exact Or.inl rfl | exact Or.inr rfl | apply vb_m_in) h
def v_m_isDay (x0 : Int) : Int := (v_m_in x0 0 400)
theorem vb_m_isDay (x0 : Int) : v_m_isDay x0 = 0 ∨ v_m_isDay x0 = 1 := by
  unfold v_m_isDay
  (repeat' split) <;> first | exact Or.inl rfl | exact Or.inr rfl | apply vb_m_in
theorem s_m_isDay (x0 : Int) (hp : qb_H) (K : Int → qb_H → Prop) (hg : True) (hK : K (v_m_isDay x0) hp) : c_m_isDay x0 hp K := by
  refine b_m_isDay ?_
  unfold v_m_isDay at hK
  exact hK
def c_m_nextHour (x1 : Int) (hp : qb_H) (K : Int → qb_H → Prop) : Prop := qb_R mX11_nextHour 0 0 qb_sh 0 [qb_a 60, qb_i x1, none, none, none] [] hp (qb_I qb_sh K)
def r_m_nextHour_5 (x1 : Int) (x2 : Int) (x3 : Int) (hp : qb_H) (K : Int → qb_H → Prop) : Prop := qb_R mX11_nextHour 0 0 qb_sh 5 [qb_a 60, qb_i x1, qb_i x2, qb_i x3, none] [] hp (qb_I qb_sh K)
theorem b_m_nextHour {x1 : Int} {hp : qb_H} {K : Int → qb_H → Prop} (h : r_m_nextHour_5 x1 (-6) 0 hp K) : c_m_nextHour x1 hp K := by
  unfold c_m_nextHour
  refine qb_bipush (pc' := 2) dX11_nextHour_0 rfl rfl rfl ?_
  refine qb_istoren (pc' := 3) (i := 2) (L' := [qb_a 60, qb_i x1, qb_i (-6), none, none]) dX11_nextHour_2 rfl rfl (Nat.le_of_ble_eq_true rfl) rfl rfl ?_
  refine qb_iconst (pc' := 4) dX11_nextHour_3 rfl rfl ?_
  refine qb_istoren (pc' := 5) (i := 3) (L' := [qb_a 60, qb_i x1, qb_i (-6), qb_i 0, none]) dX11_nextHour_4 rfl rfl (Nat.le_of_ble_eq_true rfl) rfl rfl ?_
  refine qb_cut (L' := [qb_a 60, qb_i x1, qb_i (-6), qb_i 0, none]) [true, true, true, true, false] rfl ?_
  exact h
theorem b_m_nextHour_5 {x1 x2 x3 : Int} {hp : qb_H} {K : Int → qb_H → Prop} (h : ((hp 60 9) ≤ x3 → K x2 hp) ∧ (¬ (hp 60 9) ≤ x3 → (qb_in (7 * x3)) ∧ (qb_in ((7 * x3) + 1)) ∧ (0 ≤ ((7 * x3) + 1) ∧ ((7 * x3) + 1) < 210) ∧ ((hp 68 ((7 * x3) + 1)) = x1 → 0 ≤ x3 ∧ x3 < 30) ∧ (∀ (y191 : Int), y191 = (if (hp 68 ((7 * x3) + 1)) = x1 then (if (hp 86 x3) ≤ 0 then (0 : Int) else 1) else 0) → (¬ y191 = 0 → (x2 < 0 → (qb_in ((7 * x3) + 2)) ∧ 0 ≤ ((7 * x3) + 2) ∧ ((7 * x3) + 2) < 210) ∧ (¬ x2 < 0 → (qb_in ((7 * x3) + 2)) ∧ 0 ≤ ((7 * x3) + 2) ∧ ((7 * x3) + 2) < 210)) ∧ (∀ (y192 : Int), y192 = (if y191 = 0 then x2 else (if x2 < 0 then (hp 68 ((7 * x3) + 2)) else (if x2 ≤ (hp 68 ((7 * x3) + 2)) then x2 else (hp 68 ((7 * x3) + 2))))) → (qb_in (x3 + 1)) ∧ r_m_nextHour_5 x1 y192 (x3 + 1) hp K)))) : r_m_nextHour_5 x1 x2 x3 hp K := by
  unfold r_m_nextHour_5
  refine qb_iloadn (pc' := 6) (i := 3) dX11_nextHour_5 rfl rfl rfl ?_
  refine qb_aloadn (pc' := 7) (i := 0) dX11_nextHour_6 rfl rfl rfl ?_
  refine qb_geti (pc' := 10) (v := (hp 60 9)) dX11_nextHour_7 rfl qf_X11_136 qb_s60 rfl rfl ?_
  refine qb_cge (tgt := 90) (pc' := 13) dX11_nextHour_10 rfl rfl (fun c680 => ?_) (fun c680 => ?_)
  · have h := h.1 c680
    refine qb_iloadn (pc' := 91) (i := 2) dX11_nextHour_90 rfl rfl rfl ?_
    exact qb_reti dX11_nextHour_91 rfl h
  · have h := h.2 c680
    refine qb_aloadn (pc' := 14) (i := 0) dX11_nextHour_13 rfl rfl rfl ?_
    refine qb_geta (pc' := 17) dX11_nextHour_14 rfl qf_X11_31 qb_s60 rfl ?_
    refine qb_bipush (pc' := 19) dX11_nextHour_17 rfl rfl rfl ?_
    refine qb_iloadn (pc' := 20) (i := 3) dX11_nextHour_19 rfl rfl rfl ?_
    obtain ⟨g1269, h⟩ := h
    refine qb_imul (pc' := 21) dX11_nextHour_20 rfl g1269 ?_
    refine qb_iconst (pc' := 22) dX11_nextHour_21 rfl rfl ?_
    obtain ⟨g1270, h⟩ := h
    refine qb_iadd (pc' := 23) dX11_nextHour_22 rfl g1270 ?_
    obtain ⟨g1271, h⟩ := h
    refine qb_iald (pc' := 24) (v := (hp 68 ((7 * x3) + 1))) dX11_nextHour_23 rfl qb_s68 g1271.1 g1271.2 rfl ?_
    refine qb_iloadn (pc' := 25) (i := 1) dX11_nextHour_24 rfl rfl rfl ?_
    obtain ⟨ga, h⟩ := h
    have k285 : ∀ (y191 : Int), y191 = (if (hp 68 ((7 * x3) + 1)) = x1 then (if (hp 86 x3) ≤ 0 then (0 : Int) else 1) else 0) → qb_R mX11_nextHour 0 0 qb_sh 42 [qb_a 60, qb_i x1, qb_i x2, qb_i x3, none] [.inl y191] hp (qb_I qb_sh K) := by
      intro y191 ey191
      have h := h y191 ey191
      refine qb_istore (pc' := 44) (L' := [qb_a 60, qb_i x1, qb_i x2, qb_i x3, qb_i y191]) dX11_nextHour_42 rfl (Nat.le_of_ble_eq_true rfl) rfl rfl ?_
      refine qb_iload (pc' := 46) dX11_nextHour_44 rfl rfl ?_
      obtain ⟨gb, h⟩ := h
      have k290 : ∀ (y192 : Int), y192 = (if y191 = 0 then x2 else (if x2 < 0 then (hp 68 ((7 * x3) + 2)) else (if x2 ≤ (hp 68 ((7 * x3) + 2)) then x2 else (hp 68 ((7 * x3) + 2))))) → qb_R mX11_nextHour 0 0 qb_sh 83 [qb_a 60, qb_i x1, none, qb_i x3, none] [.inl y192] hp (qb_I qb_sh K) := by
        intro y192 ey192
        have h := h y192 ey192
        refine qb_istoren (pc' := 84) (i := 2) (L' := [qb_a 60, qb_i x1, qb_i y192, qb_i x3, none]) dX11_nextHour_83 rfl rfl (Nat.le_of_ble_eq_true rfl) rfl rfl ?_
        obtain ⟨g1290, h⟩ := h
        refine qb_iinc (pc' := 87) (L' := [qb_a 60, qb_i x1, qb_i y192, qb_i (x3 + 1), none]) dX11_nextHour_84 rfl rfl g1290 (Nat.le_of_ble_eq_true rfl) rfl rfl ?_
        refine qb_goto (tgt := 5) dX11_nextHour_87 rfl ?_
        refine qb_cut (L' := [qb_a 60, qb_i x1, qb_i y192, qb_i (x3 + 1), none]) [true, true, true, true, false] rfl ?_
        exact h
      refine qb_feq (tgt := 82) (pc' := 49) dX11_nextHour_46 rfl rfl (fun c684 => ?_) (fun c684 => ?_)
      · refine qb_iloadn (pc' := 83) (i := 2) dX11_nextHour_82 rfl rfl rfl ?_
        refine qb_cut (L' := [qb_a 60, qb_i x1, none, qb_i x3, none]) [true, true, false, true, false] rfl ?_
        exact k290 _ (if_pos c684).symm
      · have h := gb c684
        refine qb_iloadn (pc' := 50) (i := 2) dX11_nextHour_49 rfl rfl rfl ?_
        obtain ⟨ga, gb⟩ := h
        have k292 : qb_R mX11_nextHour 0 0 qb_sh 83 [qb_a 60, qb_i x1, none, qb_i x3, none] [.inl (if x2 < 0 then (hp 68 ((7 * x3) + 2)) else (if x2 ≤ (hp 68 ((7 * x3) + 2)) then x2 else (hp 68 ((7 * x3) + 2))))] hp (qb_I qb_sh K) := by
          refine qb_cut (L' := [qb_a 60, qb_i x1, none, qb_i x3, none]) [true, true, false, true, false] rfl ?_
          exact k290 _ (if_neg c684).symm
        refine qb_flt (tgt := 68) (pc' := 53) dX11_nextHour_50 rfl rfl (fun c688 => ?_) (fun c688 => ?_)
        · have h := ga c688
          refine qb_aloadn (pc' := 69) (i := 0) dX11_nextHour_68 rfl rfl rfl ?_
          refine qb_geta (pc' := 72) dX11_nextHour_69 rfl qf_X11_31 qb_s60 rfl ?_
          refine qb_bipush (pc' := 74) dX11_nextHour_72 rfl rfl rfl ?_
          refine qb_iloadn (pc' := 75) (i := 3) dX11_nextHour_74 rfl rfl rfl ?_
          refine qb_imul (pc' := 76) dX11_nextHour_75 rfl g1269 ?_
          refine qb_iconst (pc' := 77) dX11_nextHour_76 rfl rfl ?_
          obtain ⟨g1286, h⟩ := h
          refine qb_iadd (pc' := 78) dX11_nextHour_77 rfl g1286 ?_
          have g1287 := h
          refine qb_iald (pc' := 79) (v := (hp 68 ((7 * x3) + 2))) dX11_nextHour_78 rfl qb_s68 g1287.1 g1287.2 rfl ?_
          refine qb_goto (tgt := 83) dX11_nextHour_79 rfl ?_
          refine qb_cut (L' := [qb_a 60, qb_i x1, none, qb_i x3, none]) [true, true, false, true, false] rfl ?_
          simpa only [if_pos c688] using k292
        · have h := gb c688
          refine qb_aloadn (pc' := 54) (i := 0) dX11_nextHour_53 rfl rfl rfl ?_
          refine qb_geta (pc' := 57) dX11_nextHour_54 rfl qf_X11_31 qb_s60 rfl ?_
          refine qb_bipush (pc' := 59) dX11_nextHour_57 rfl rfl rfl ?_
          refine qb_iloadn (pc' := 60) (i := 3) dX11_nextHour_59 rfl rfl rfl ?_
          refine qb_imul (pc' := 61) dX11_nextHour_60 rfl g1269 ?_
          refine qb_iconst (pc' := 62) dX11_nextHour_61 rfl rfl ?_
          obtain ⟨g1288, h⟩ := h
          refine qb_iadd (pc' := 63) dX11_nextHour_62 rfl g1288 ?_
          have g1289 := h
          refine qb_iald (pc' := 64) (v := (hp 68 ((7 * x3) + 2))) dX11_nextHour_63 rfl qb_s68 g1289.1 g1289.2 rfl ?_
          refine qb_iloadn (pc' := 65) (i := 2) dX11_nextHour_64 rfl rfl rfl ?_
          have k293 : qb_R mX11_nextHour 0 0 qb_sh 83 [qb_a 60, qb_i x1, none, qb_i x3, none] [.inl (if x2 ≤ (hp 68 ((7 * x3) + 2)) then x2 else (hp 68 ((7 * x3) + 2)))] hp (qb_I qb_sh K) := by
            refine qb_cut (L' := [qb_a 60, qb_i x1, none, qb_i x3, none]) [true, true, false, true, false] rfl ?_
            simpa only [if_neg c688] using k292
          refine qb_cge (tgt := 82) (pc' := 68) dX11_nextHour_65 rfl rfl (fun c690 => ?_) (fun c690 => ?_)
          · refine qb_iloadn (pc' := 83) (i := 2) dX11_nextHour_82 rfl rfl rfl ?_
            refine qb_cut (L' := [qb_a 60, qb_i x1, none, qb_i x3, none]) [true, true, false, true, false] rfl ?_
            simpa only [if_pos c690] using k293
          · refine qb_aloadn (pc' := 69) (i := 0) dX11_nextHour_68 rfl rfl rfl ?_
            refine qb_geta (pc' := 72) dX11_nextHour_69 rfl qf_X11_31 qb_s60 rfl ?_
            refine qb_bipush (pc' := 74) dX11_nextHour_72 rfl rfl rfl ?_
            refine qb_iloadn (pc' := 75) (i := 3) dX11_nextHour_74 rfl rfl rfl ?_
            refine qb_imul (pc' := 76) dX11_nextHour_75 rfl g1269 ?_
            refine qb_iconst (pc' := 77) dX11_nextHour_76 rfl rfl ?_
            refine qb_iadd (pc' := 78) dX11_nextHour_77 rfl g1288 ?_
            refine qb_iald (pc' := 79) (v := (hp 68 ((7 * x3) + 2))) dX11_nextHour_78 rfl qb_s68 g1289.1 g1289.2 rfl ?_
            refine qb_goto (tgt := 83) dX11_nextHour_79 rfl ?_
            refine qb_cut (L' := [qb_a 60, qb_i x1, none, qb_i x3, none]) [true, true, false, true, false] rfl ?_
            simpa only [if_neg c690] using k293
    refine qb_cne (tgt := 41) (pc' := 28) dX11_nextHour_25 rfl rfl (fun c681 => ?_) (fun c681 => ?_)
    · refine qb_iconst (pc' := 42) dX11_nextHour_41 rfl rfl ?_
      refine qb_cut (L' := [qb_a 60, qb_i x1, qb_i x2, qb_i x3, none]) [true, true, true, true, false] rfl ?_
      exact k285 _ (if_neg c681).symm
    · have h := ga c681
      refine qb_aloadn (pc' := 29) (i := 0) dX11_nextHour_28 rfl rfl rfl ?_
      refine qb_geta (pc' := 32) dX11_nextHour_29 rfl qf_X11_85 qb_s60 rfl ?_
      refine qb_iloadn (pc' := 33) (i := 3) dX11_nextHour_32 rfl rfl rfl ?_
      have g1273 := h
      refine qb_iald (pc' := 34) (v := (hp 86 x3)) dX11_nextHour_33 rfl qb_s86 g1273.1 g1273.2 rfl ?_
      have k286 : qb_R mX11_nextHour 0 0 qb_sh 42 [qb_a 60, qb_i x1, qb_i x2, qb_i x3, none] [.inl (if (hp 86 x3) ≤ 0 then (0 : Int) else 1)] hp (qb_I qb_sh K) := by
        refine qb_cut (L' := [qb_a 60, qb_i x1, qb_i x2, qb_i x3, none]) [true, true, true, true, false] rfl ?_
        exact k285 _ (if_pos c681).symm
      refine qb_fle (tgt := 41) (pc' := 37) dX11_nextHour_34 rfl rfl (fun c683 => ?_) (fun c683 => ?_)
      · refine qb_iconst (pc' := 42) dX11_nextHour_41 rfl rfl ?_
        refine qb_cut (L' := [qb_a 60, qb_i x1, qb_i x2, qb_i x3, none]) [true, true, true, true, false] rfl ?_
        simpa only [if_pos c683] using k286
      · refine qb_iconst (pc' := 38) dX11_nextHour_37 rfl rfl ?_
        refine qb_goto (tgt := 42) dX11_nextHour_38 rfl ?_
        refine qb_cut (L' := [qb_a 60, qb_i x1, qb_i x2, qb_i x3, none]) [true, true, true, true, false] rfl ?_
        simpa only [if_neg c683] using k286
def c_m_firstOf (x1 : Int) (x2 : Int) (hp : qb_H) (K : Int → qb_H → Prop) : Prop := qb_R mX11_firstOf 0 0 qb_sh 0 [qb_a 60, qb_i x1, qb_i x2, none, none, none] [] hp (qb_I qb_sh K)
def r_m_firstOf_6 (x1 : Int) (x2 : Int) (x3 : Int) (x4 : Int) (hp : qb_H) (K : Int → qb_H → Prop) : Prop := qb_R mX11_firstOf 0 0 qb_sh 6 [qb_a 60, qb_i x1, qb_i x2, qb_i x3, qb_i x4, none] [] hp (qb_I qb_sh K)
theorem b_m_firstOf {x1 x2 : Int} {hp : qb_H} {K : Int → qb_H → Prop} (h : r_m_firstOf_6 x1 x2 (-6) 0 hp K) : c_m_firstOf x1 x2 hp K := by
  unfold c_m_firstOf
  refine qb_bipush (pc' := 2) dX11_firstOf_0 rfl rfl rfl ?_
  refine qb_istoren (pc' := 3) (i := 3) (L' := [qb_a 60, qb_i x1, qb_i x2, qb_i (-6), none, none]) dX11_firstOf_2 rfl rfl (Nat.le_of_ble_eq_true rfl) rfl rfl ?_
  refine qb_iconst (pc' := 4) dX11_firstOf_3 rfl rfl ?_
  refine qb_istore (pc' := 6) (L' := [qb_a 60, qb_i x1, qb_i x2, qb_i (-6), qb_i 0, none]) dX11_firstOf_4 rfl (Nat.le_of_ble_eq_true rfl) rfl rfl ?_
  refine qb_cut (L' := [qb_a 60, qb_i x1, qb_i x2, qb_i (-6), qb_i 0, none]) [true, true, true, true, true, false] rfl ?_
  exact h
theorem b_m_firstOf_6 {x1 x2 x3 x4 : Int} {hp : qb_H} {K : Int → qb_H → Prop} (h : ((hp 60 9) ≤ x4 → K x3 hp) ∧ (¬ (hp 60 9) ≤ x4 → (qb_in (7 * x4)) ∧ (qb_in ((7 * x4) + 1)) ∧ (0 ≤ ((7 * x4) + 1) ∧ ((7 * x4) + 1) < 210) ∧ ((hp 68 ((7 * x4) + 1)) = x1 → (0 ≤ x4 ∧ x4 < 30) ∧ (¬ (hp 86 x4) ≤ 0 → (qb_in ((7 * x4) + 2)) ∧ 0 ≤ ((7 * x4) + 2) ∧ ((7 * x4) + 2) < 210)) ∧ (∀ (y195 : Int), y195 = (if (hp 68 ((7 * x4) + 1)) = x1 then (if (hp 86 x4) ≤ 0 then (0 : Int) else (if x2 < (hp 68 ((7 * x4) + 2)) then (0 : Int) else 1)) else 0) → (¬ y195 = 0 → (¬ x3 < 0 → (qb_in ((7 * x4) + 2)) ∧ (0 ≤ ((7 * x4) + 2) ∧ ((7 * x4) + 2) < 210) ∧ (qb_in (7 * x3)) ∧ (qb_in ((7 * x3) + 2)) ∧ 0 ≤ ((7 * x3) + 2) ∧ ((7 * x3) + 2) < 210)) ∧ (∀ (y196 : Int), y196 = (if y195 = 0 then x3 else (if x3 < 0 then x4 else (if (hp 68 ((7 * x3) + 2)) ≤ (hp 68 ((7 * x4) + 2)) then x3 else x4))) → (qb_in (x4 + 1)) ∧ r_m_firstOf_6 x1 x2 y196 (x4 + 1) hp K)))) : r_m_firstOf_6 x1 x2 x3 x4 hp K := by
  unfold r_m_firstOf_6
  refine qb_iload (pc' := 8) dX11_firstOf_6 rfl rfl ?_
  refine qb_aloadn (pc' := 9) (i := 0) dX11_firstOf_8 rfl rfl rfl ?_
  refine qb_geti (pc' := 12) (v := (hp 60 9)) dX11_firstOf_9 rfl qf_X11_136 qb_s60 rfl rfl ?_
  refine qb_cge (tgt := 112) (pc' := 15) dX11_firstOf_12 rfl rfl (fun c695 => ?_) (fun c695 => ?_)
  · have h := h.1 c695
    refine qb_iloadn (pc' := 113) (i := 3) dX11_firstOf_112 rfl rfl rfl ?_
    exact qb_reti dX11_firstOf_113 rfl h
  · have h := h.2 c695
    refine qb_aloadn (pc' := 16) (i := 0) dX11_firstOf_15 rfl rfl rfl ?_
    refine qb_geta (pc' := 19) dX11_firstOf_16 rfl qf_X11_31 qb_s60 rfl ?_
    refine qb_bipush (pc' := 21) dX11_firstOf_19 rfl rfl rfl ?_
    refine qb_iload (pc' := 23) dX11_firstOf_21 rfl rfl ?_
    obtain ⟨g1309, h⟩ := h
    refine qb_imul (pc' := 24) dX11_firstOf_23 rfl g1309 ?_
    refine qb_iconst (pc' := 25) dX11_firstOf_24 rfl rfl ?_
    obtain ⟨g1310, h⟩ := h
    refine qb_iadd (pc' := 26) dX11_firstOf_25 rfl g1310 ?_
    obtain ⟨g1311, h⟩ := h
    refine qb_iald (pc' := 27) (v := (hp 68 ((7 * x4) + 1))) dX11_firstOf_26 rfl qb_s68 g1311.1 g1311.2 rfl ?_
    refine qb_iloadn (pc' := 28) (i := 1) dX11_firstOf_27 rfl rfl rfl ?_
    obtain ⟨ga, h⟩ := h
    have k299 : ∀ (y195 : Int), y195 = (if (hp 68 ((7 * x4) + 1)) = x1 then (if (hp 86 x4) ≤ 0 then (0 : Int) else (if x2 < (hp 68 ((7 * x4) + 2)) then (0 : Int) else 1)) else 0) → qb_R mX11_firstOf 0 0 qb_sh 62 [qb_a 60, qb_i x1, qb_i x2, qb_i x3, qb_i x4, none] [.inl y195] hp (qb_I qb_sh K) := by
      intro y195 ey195
      have h := h y195 ey195
      refine qb_istore (pc' := 64) (L' := [qb_a 60, qb_i x1, qb_i x2, qb_i x3, qb_i x4, qb_i y195]) dX11_firstOf_62 rfl (Nat.le_of_ble_eq_true rfl) rfl rfl ?_
      refine qb_iload (pc' := 66) dX11_firstOf_64 rfl rfl ?_
      obtain ⟨gb, h⟩ := h
      have k306 : ∀ (y196 : Int), y196 = (if y195 = 0 then x3 else (if x3 < 0 then x4 else (if (hp 68 ((7 * x3) + 2)) ≤ (hp 68 ((7 * x4) + 2)) then x3 else x4))) → qb_R mX11_firstOf 0 0 qb_sh 105 [qb_a 60, qb_i x1, qb_i x2, none, qb_i x4, none] [.inl y196] hp (qb_I qb_sh K) := by
        intro y196 ey196
        have h := h y196 ey196
        refine qb_istoren (pc' := 106) (i := 3) (L' := [qb_a 60, qb_i x1, qb_i x2, qb_i y196, qb_i x4, none]) dX11_firstOf_105 rfl rfl (Nat.le_of_ble_eq_true rfl) rfl rfl ?_
        obtain ⟨g1342, h⟩ := h
        refine qb_iinc (pc' := 109) (L' := [qb_a 60, qb_i x1, qb_i x2, qb_i y196, qb_i (x4 + 1), none]) dX11_firstOf_106 rfl rfl g1342 (Nat.le_of_ble_eq_true rfl) rfl rfl ?_
        refine qb_goto (tgt := 6) dX11_firstOf_109 rfl ?_
        refine qb_cut (L' := [qb_a 60, qb_i x1, qb_i x2, qb_i y196, qb_i (x4 + 1), none]) [true, true, true, true, true, false] rfl ?_
        exact h
      refine qb_feq (tgt := 104) (pc' := 69) dX11_firstOf_66 rfl rfl (fun c703 => ?_) (fun c703 => ?_)
      · refine qb_iloadn (pc' := 105) (i := 3) dX11_firstOf_104 rfl rfl rfl ?_
        refine qb_cut (L' := [qb_a 60, qb_i x1, qb_i x2, none, qb_i x4, none]) [true, true, true, false, true, false] rfl ?_
        exact k306 _ (if_pos c703).symm
      · have h := gb c703
        refine qb_iloadn (pc' := 70) (i := 3) dX11_firstOf_69 rfl rfl rfl ?_
        have gb := h
        have k308 : qb_R mX11_firstOf 0 0 qb_sh 105 [qb_a 60, qb_i x1, qb_i x2, none, qb_i x4, none] [.inl (if x3 < 0 then x4 else (if (hp 68 ((7 * x3) + 2)) ≤ (hp 68 ((7 * x4) + 2)) then x3 else x4))] hp (qb_I qb_sh K) := by
          refine qb_cut (L' := [qb_a 60, qb_i x1, qb_i x2, none, qb_i x4, none]) [true, true, true, false, true, false] rfl ?_
          exact k306 _ (if_neg c703).symm
        refine qb_flt (tgt := 99) (pc' := 73) dX11_firstOf_70 rfl rfl (fun c707 => ?_) (fun c707 => ?_)
        · refine qb_iload (pc' := 101) dX11_firstOf_99 rfl rfl ?_
          refine qb_goto (tgt := 105) dX11_firstOf_101 rfl ?_
          refine qb_cut (L' := [qb_a 60, qb_i x1, qb_i x2, none, qb_i x4, none]) [true, true, true, false, true, false] rfl ?_
          simpa only [if_pos c707] using k308
        · have h := gb c707
          refine qb_aloadn (pc' := 74) (i := 0) dX11_firstOf_73 rfl rfl rfl ?_
          refine qb_geta (pc' := 77) dX11_firstOf_74 rfl qf_X11_31 qb_s60 rfl ?_
          refine qb_bipush (pc' := 79) dX11_firstOf_77 rfl rfl rfl ?_
          refine qb_iload (pc' := 81) dX11_firstOf_79 rfl rfl ?_
          refine qb_imul (pc' := 82) dX11_firstOf_81 rfl g1309 ?_
          refine qb_iconst (pc' := 83) dX11_firstOf_82 rfl rfl ?_
          obtain ⟨g1337, h⟩ := h
          refine qb_iadd (pc' := 84) dX11_firstOf_83 rfl g1337 ?_
          obtain ⟨g1338, h⟩ := h
          refine qb_iald (pc' := 85) (v := (hp 68 ((7 * x4) + 2))) dX11_firstOf_84 rfl qb_s68 g1338.1 g1338.2 rfl ?_
          refine qb_aloadn (pc' := 86) (i := 0) dX11_firstOf_85 rfl rfl rfl ?_
          refine qb_geta (pc' := 89) dX11_firstOf_86 rfl qf_X11_31 qb_s60 rfl ?_
          refine qb_bipush (pc' := 91) dX11_firstOf_89 rfl rfl rfl ?_
          refine qb_iloadn (pc' := 92) (i := 3) dX11_firstOf_91 rfl rfl rfl ?_
          obtain ⟨g1339, h⟩ := h
          refine qb_imul (pc' := 93) dX11_firstOf_92 rfl g1339 ?_
          refine qb_iconst (pc' := 94) dX11_firstOf_93 rfl rfl ?_
          obtain ⟨g1340, h⟩ := h
          refine qb_iadd (pc' := 95) dX11_firstOf_94 rfl g1340 ?_
          have g1341 := h
          refine qb_iald (pc' := 96) (v := (hp 68 ((7 * x3) + 2))) dX11_firstOf_95 rfl qb_s68 g1341.1 g1341.2 rfl ?_
          have k309 : qb_R mX11_firstOf 0 0 qb_sh 105 [qb_a 60, qb_i x1, qb_i x2, none, qb_i x4, none] [.inl (if (hp 68 ((7 * x3) + 2)) ≤ (hp 68 ((7 * x4) + 2)) then x3 else x4)] hp (qb_I qb_sh K) := by
            refine qb_cut (L' := [qb_a 60, qb_i x1, qb_i x2, none, qb_i x4, none]) [true, true, true, false, true, false] rfl ?_
            simpa only [if_neg c707] using k308
          refine qb_cge (tgt := 104) (pc' := 99) dX11_firstOf_96 rfl rfl (fun c709 => ?_) (fun c709 => ?_)
          · refine qb_iloadn (pc' := 105) (i := 3) dX11_firstOf_104 rfl rfl rfl ?_
            refine qb_cut (L' := [qb_a 60, qb_i x1, qb_i x2, none, qb_i x4, none]) [true, true, true, false, true, false] rfl ?_
            simpa only [if_pos c709] using k309
          · refine qb_iload (pc' := 101) dX11_firstOf_99 rfl rfl ?_
            refine qb_goto (tgt := 105) dX11_firstOf_101 rfl ?_
            refine qb_cut (L' := [qb_a 60, qb_i x1, qb_i x2, none, qb_i x4, none]) [true, true, true, false, true, false] rfl ?_
            simpa only [if_neg c709] using k309
    refine qb_cne (tgt := 61) (pc' := 31) dX11_firstOf_28 rfl rfl (fun c696 => ?_) (fun c696 => ?_)
    · refine qb_iconst (pc' := 62) dX11_firstOf_61 rfl rfl ?_
      refine qb_cut (L' := [qb_a 60, qb_i x1, qb_i x2, qb_i x3, qb_i x4, none]) [true, true, true, true, true, false] rfl ?_
      exact k299 _ (if_neg c696).symm
    · have h := ga c696
      refine qb_aloadn (pc' := 32) (i := 0) dX11_firstOf_31 rfl rfl rfl ?_
      refine qb_geta (pc' := 35) dX11_firstOf_32 rfl qf_X11_85 qb_s60 rfl ?_
      refine qb_iload (pc' := 37) dX11_firstOf_35 rfl rfl ?_
      obtain ⟨g1317, h⟩ := h
      refine qb_iald (pc' := 38) (v := (hp 86 x4)) dX11_firstOf_37 rfl qb_s86 g1317.1 g1317.2 rfl ?_
      have gb := h
      have k301 : qb_R mX11_firstOf 0 0 qb_sh 62 [qb_a 60, qb_i x1, qb_i x2, qb_i x3, qb_i x4, none] [.inl (if (hp 86 x4) ≤ 0 then (0 : Int) else (if x2 < (hp 68 ((7 * x4) + 2)) then (0 : Int) else 1))] hp (qb_I qb_sh K) := by
        refine qb_cut (L' := [qb_a 60, qb_i x1, qb_i x2, qb_i x3, qb_i x4, none]) [true, true, true, true, true, false] rfl ?_
        exact k299 _ (if_pos c696).symm
      refine qb_fle (tgt := 61) (pc' := 41) dX11_firstOf_38 rfl rfl (fun c700 => ?_) (fun c700 => ?_)
      · refine qb_iconst (pc' := 62) dX11_firstOf_61 rfl rfl ?_
        refine qb_cut (L' := [qb_a 60, qb_i x1, qb_i x2, qb_i x3, qb_i x4, none]) [true, true, true, true, true, false] rfl ?_
        simpa only [if_pos c700] using k301
      · have h := gb c700
        refine qb_aloadn (pc' := 42) (i := 0) dX11_firstOf_41 rfl rfl rfl ?_
        refine qb_geta (pc' := 45) dX11_firstOf_42 rfl qf_X11_31 qb_s60 rfl ?_
        refine qb_bipush (pc' := 47) dX11_firstOf_45 rfl rfl rfl ?_
        refine qb_iload (pc' := 49) dX11_firstOf_47 rfl rfl ?_
        refine qb_imul (pc' := 50) dX11_firstOf_49 rfl g1309 ?_
        refine qb_iconst (pc' := 51) dX11_firstOf_50 rfl rfl ?_
        obtain ⟨g1320, h⟩ := h
        refine qb_iadd (pc' := 52) dX11_firstOf_51 rfl g1320 ?_
        have g1321 := h
        refine qb_iald (pc' := 53) (v := (hp 68 ((7 * x4) + 2))) dX11_firstOf_52 rfl qb_s68 g1321.1 g1321.2 rfl ?_
        refine qb_iloadn (pc' := 54) (i := 2) dX11_firstOf_53 rfl rfl rfl ?_
        have k302 : qb_R mX11_firstOf 0 0 qb_sh 62 [qb_a 60, qb_i x1, qb_i x2, qb_i x3, qb_i x4, none] [.inl (if x2 < (hp 68 ((7 * x4) + 2)) then (0 : Int) else 1)] hp (qb_I qb_sh K) := by
          refine qb_cut (L' := [qb_a 60, qb_i x1, qb_i x2, qb_i x3, qb_i x4, none]) [true, true, true, true, true, false] rfl ?_
          simpa only [if_neg c700] using k301
        refine qb_cgt (tgt := 61) (pc' := 57) dX11_firstOf_54 rfl rfl (fun c702 => ?_) (fun c702 => ?_)
        · refine qb_iconst (pc' := 62) dX11_firstOf_61 rfl rfl ?_
          refine qb_cut (L' := [qb_a 60, qb_i x1, qb_i x2, qb_i x3, qb_i x4, none]) [true, true, true, true, true, false] rfl ?_
          simpa only [if_pos c702] using k302
        · refine qb_iconst (pc' := 58) dX11_firstOf_57 rfl rfl ?_
          refine qb_goto (tgt := 62) dX11_firstOf_58 rfl ?_
          refine qb_cut (L' := [qb_a 60, qb_i x1, qb_i x2, qb_i x3, qb_i x4, none]) [true, true, true, true, true, false] rfl ?_
          simpa only [if_neg c702] using k302
def c_m_workQuay (x1 : Int) (hp : qb_H) (K : qb_H → Prop) : Prop := qb_R mX11_workQuay 0 0 qb_sh 0 [qb_a 60, qb_i x1, none, none, none, none] [] hp (qb_U qb_sh K)
def r_m_workQuay_17 (x1 : Int) (x2 : Int) (hp : qb_H) (K : qb_H → Prop) : Prop := qb_R mX11_workQuay 0 0 qb_sh 17 [qb_a 60, qb_i x1, qb_i x2, none, none, none] [] hp (qb_U qb_sh K)
def r_m_workQuay_114 (x1 : Int) (x2 : Int) (hp : qb_H) (K : qb_H → Prop) : Prop := qb_R mX11_workQuay 0 0 qb_sh 114 [qb_a 60, qb_i x1, qb_i x2, none, none, none] [] hp (qb_U qb_sh K)
def r_m_workQuay_120 (x1 : Int) (x2 : Int) (x3 : Int) (hp : qb_H) (K : qb_H → Prop) : Prop := qb_R mX11_workQuay 0 0 qb_sh 120 [qb_a 60, qb_i x1, qb_i x2, qb_i x3, none, none] [] hp (qb_U qb_sh K)
def r_m_workQuay_226 (x1 : Int) (x2 : Int) (x3 : Int) (x4 : Int) (hp : qb_H) (K : qb_H → Prop) : Prop := qb_R mX11_workQuay 0 0 qb_sh 226 [qb_a 60, qb_i x1, qb_i x2, qb_i x3, qb_i x4, none] [] hp (qb_U qb_sh K)
theorem b_m_workQuay {x1 : Int} {hp : qb_H} {K : qb_H → Prop} (h : r_m_workQuay_17 x1 0 (qb_st (qb_st (qb_st hp 60 33 0) 60 38 0) 60 39 0) K) : c_m_workQuay x1 hp K := by
  unfold c_m_workQuay
  refine qb_aloadn (pc' := 1) (i := 0) dX11_workQuay_0 rfl rfl rfl ?_
  refine qb_iconst (pc' := 2) dX11_workQuay_1 rfl rfl ?_
  refine qb_puti (pc' := 5) (hp' := (qb_st hp 60 33 0)) dX11_workQuay_2 rfl qf_X11_145 (Or.inl rfl) qb_s60 rfl rfl ?_
  refine qb_aloadn (pc' := 6) (i := 0) dX11_workQuay_5 rfl rfl rfl ?_
  refine qb_iconst (pc' := 7) dX11_workQuay_6 rfl rfl ?_
  refine qb_puti (pc' := 10) (hp' := (qb_st (qb_st hp 60 33 0) 60 38 0)) dX11_workQuay_7 rfl qf_X11_148 (Or.inl rfl) qb_s60 rfl rfl ?_
  refine qb_aloadn (pc' := 11) (i := 0) dX11_workQuay_10 rfl rfl rfl ?_
  refine qb_iconst (pc' := 12) dX11_workQuay_11 rfl rfl ?_
  refine qb_puti (pc' := 15) (hp' := (qb_st (qb_st (qb_st hp 60 33 0) 60 38 0) 60 39 0)) dX11_workQuay_12 rfl qf_X11_151 (Or.inl rfl) qb_s60 rfl rfl ?_
  refine qb_iconst (pc' := 16) dX11_workQuay_15 rfl rfl ?_
  refine qb_istoren (pc' := 17) (i := 2) (L' := [qb_a 60, qb_i x1, qb_i 0, none, none, none]) dX11_workQuay_16 rfl rfl (Nat.le_of_ble_eq_true rfl) rfl rfl ?_
  refine qb_cut (L' := [qb_a 60, qb_i x1, qb_i 0, none, none, none]) [true, true, true, false, false, false] rfl ?_
  exact h
theorem b_m_workQuay_17 {x1 x2 : Int} {hp : qb_H} {K : qb_H → Prop} (h : ((hp 60 9) ≤ x2 → c_m_nextHour x1 hp (fun v193 hp193 => r_m_workQuay_114 x1 v193 hp193 K)) ∧ (¬ (hp 60 9) ≤ x2 → (qb_in (7 * x2)) ∧ (qb_in ((7 * x2) + 1)) ∧ (0 ≤ ((7 * x2) + 1) ∧ ((7 * x2) + 1) < 210) ∧ ((hp 68 ((7 * x2) + 1)) = x1 → (qb_in ((7 * x2) + 3)) ∧ 0 ≤ ((7 * x2) + 3) ∧ ((7 * x2) + 3) < 210) ∧ (0 ≤ x2 ∧ x2 < 30) ∧ ((hp 68 ((7 * x2) + 1)) = x1 → (qb_in ((7 * x2) + 5)) ∧ (0 ≤ ((7 * x2) + 5) ∧ ((7 * x2) + 5) < 210) ∧ (qb_in ((7 * x2) + 6)) ∧ 0 ≤ ((7 * x2) + 6) ∧ ((7 * x2) + 6) < 210) ∧ r_m_workQuay_17 x1 (x2 + 1) (if (hp 68 ((7 * x2) + 1)) = x1 then (qb_st (qb_st (qb_st hp 86 x2 (if (hp 68 ((7 * x2) + 1)) = x1 then (hp 68 ((7 * x2) + 3)) else 0)) 68 ((7 * x2) + 5) 0) 68 ((7 * x2) + 6) (-6)) else (qb_st hp 86 x2 (if (hp 68 ((7 * x2) + 1)) = x1 then (hp 68 ((7 * x2) + 3)) else 0))) K)) : r_m_workQuay_17 x1 x2 hp K := by
  unfold r_m_workQuay_17
  refine qb_iloadn (pc' := 18) (i := 2) dX11_workQuay_17 rfl rfl rfl ?_
  refine qb_aloadn (pc' := 19) (i := 0) dX11_workQuay_18 rfl rfl rfl ?_
  refine qb_geti (pc' := 22) (v := (hp 60 9)) dX11_workQuay_19 rfl qf_X11_136 qb_s60 rfl rfl ?_
  refine qb_cge (tgt := 108) (pc' := 25) dX11_workQuay_22 rfl rfl (fun c679 => ?_) (fun c679 => ?_)
  · have h := h.1 c679
    refine qb_aloadn (pc' := 109) (i := 0) dX11_workQuay_108 rfl rfl rfl ?_
    refine qb_iloadn (pc' := 110) (i := 1) dX11_workQuay_109 rfl rfl rfl ?_
    refine qb_callVi (pc' := 113) (b := 60) (as := [.inl x1]) (rest := []) dX11_workQuay_110 rfl qe_mX11_workQuay_mX11_nextHour rfl rfl qb_s60 rfl rfl (Nat.le_of_ble_eq_true rfl) (Nat.le_of_ble_eq_true rfl) ⟨rfl, rfl⟩ h (fun v193 hp193 h => ?_)
    refine qb_istoren (pc' := 114) (i := 2) (L' := [qb_a 60, qb_i x1, qb_i v193, none, none, none]) dX11_workQuay_113 rfl rfl (Nat.le_of_ble_eq_true rfl) rfl rfl ?_
    refine qb_cut (L' := [qb_a 60, qb_i x1, qb_i v193, none, none, none]) [true, true, true, false, false, false] rfl ?_
    exact h
  · have h := h.2 c679
    refine qb_aloadn (pc' := 26) (i := 0) dX11_workQuay_25 rfl rfl rfl ?_
    refine qb_geta (pc' := 29) dX11_workQuay_26 rfl qf_X11_85 qb_s60 rfl ?_
    refine qb_iloadn (pc' := 30) (i := 2) dX11_workQuay_29 rfl rfl rfl ?_
    refine qb_aloadn (pc' := 31) (i := 0) dX11_workQuay_30 rfl rfl rfl ?_
    refine qb_geta (pc' := 34) dX11_workQuay_31 rfl qf_X11_31 qb_s60 rfl ?_
    refine qb_bipush (pc' := 36) dX11_workQuay_34 rfl rfl rfl ?_
    refine qb_iloadn (pc' := 37) (i := 2) dX11_workQuay_36 rfl rfl rfl ?_
    obtain ⟨g1291, h⟩ := h
    refine qb_imul (pc' := 38) dX11_workQuay_37 rfl g1291 ?_
    refine qb_iconst (pc' := 39) dX11_workQuay_38 rfl rfl ?_
    obtain ⟨g1292, h⟩ := h
    refine qb_iadd (pc' := 40) dX11_workQuay_39 rfl g1292 ?_
    obtain ⟨g1293, h⟩ := h
    refine qb_iald (pc' := 41) (v := (hp 68 ((7 * x2) + 1))) dX11_workQuay_40 rfl qb_s68 g1293.1 g1293.2 rfl ?_
    refine qb_iloadn (pc' := 42) (i := 1) dX11_workQuay_41 rfl rfl rfl ?_
    obtain ⟨ga, h⟩ := h
    have k294 : qb_R mX11_workQuay 0 0 qb_sh 60 [qb_a 60, qb_i x1, qb_i x2, none, none, none] [.inl (if (hp 68 ((7 * x2) + 1)) = x1 then (hp 68 ((7 * x2) + 3)) else 0), .inl x2, .inr (.inl 86)] hp (qb_U qb_sh K) := by
      obtain ⟨g1298, h⟩ := h
      refine qb_iast (pc' := 61) dX11_workQuay_60 rfl qb_s86 g1298.1 g1298.2 ?_
      refine qb_aloadn (pc' := 62) (i := 0) dX11_workQuay_61 rfl rfl rfl ?_
      refine qb_geta (pc' := 65) dX11_workQuay_62 rfl qf_X11_31 qb_s60 rfl ?_
      refine qb_bipush (pc' := 67) dX11_workQuay_65 rfl rfl rfl ?_
      refine qb_iloadn (pc' := 68) (i := 2) dX11_workQuay_67 rfl rfl rfl ?_
      refine qb_imul (pc' := 69) dX11_workQuay_68 rfl g1291 ?_
      refine qb_iconst (pc' := 70) dX11_workQuay_69 rfl rfl ?_
      refine qb_iadd (pc' := 71) dX11_workQuay_70 rfl g1292 ?_
      refine qb_iald (pc' := 72) (v := (hp 68 ((7 * x2) + 1))) dX11_workQuay_71 rfl qb_s68 g1293.1 g1293.2 (qb_rdn rfl rfl) ?_
      refine qb_iloadn (pc' := 73) (i := 1) dX11_workQuay_72 rfl rfl rfl ?_
      obtain ⟨ga, h⟩ := h
      have k295 : qb_R mX11_workQuay 0 0 qb_sh 102 [qb_a 60, qb_i x1, qb_i x2, none, none, none] [] (if (hp 68 ((7 * x2) + 1)) = x1 then (qb_st (qb_st (qb_st hp 86 x2 (if (hp 68 ((7 * x2) + 1)) = x1 then (hp 68 ((7 * x2) + 3)) else 0)) 68 ((7 * x2) + 5) 0) 68 ((7 * x2) + 6) (-6)) else (qb_st hp 86 x2 (if (hp 68 ((7 * x2) + 1)) = x1 then (hp 68 ((7 * x2) + 3)) else 0))) (qb_U qb_sh K) := by
        refine qb_iinc (pc' := 105) (L' := [qb_a 60, qb_i x1, qb_i (x2 + 1), none, none, none]) dX11_workQuay_102 rfl rfl (qb_ina g1298 (by decide)) (Nat.le_of_ble_eq_true rfl) rfl rfl ?_
        refine qb_goto (tgt := 17) dX11_workQuay_105 rfl ?_
        refine qb_cut (L' := [qb_a 60, qb_i x1, qb_i (x2 + 1), none, none, none]) [true, true, true, false, false, false] rfl ?_
        exact h
      refine qb_cne (tgt := 102) (pc' := 76) dX11_workQuay_73 rfl rfl (fun c692 => ?_) (fun c692 => ?_)
      · refine qb_cut (L' := [qb_a 60, qb_i x1, qb_i x2, none, none, none]) [true, true, true, false, false, false] rfl ?_
        simpa only [if_neg c692] using k295
      · have h := ga c692
        refine qb_aloadn (pc' := 77) (i := 0) dX11_workQuay_76 rfl rfl rfl ?_
        refine qb_geta (pc' := 80) dX11_workQuay_77 rfl qf_X11_31 qb_s60 rfl ?_
        refine qb_bipush (pc' := 82) dX11_workQuay_80 rfl rfl rfl ?_
        refine qb_iloadn (pc' := 83) (i := 2) dX11_workQuay_82 rfl rfl rfl ?_
        refine qb_imul (pc' := 84) dX11_workQuay_83 rfl g1291 ?_
        refine qb_iconst (pc' := 85) dX11_workQuay_84 rfl rfl ?_
        obtain ⟨g1303, h⟩ := h
        refine qb_iadd (pc' := 86) dX11_workQuay_85 rfl g1303 ?_
        refine qb_iconst (pc' := 87) dX11_workQuay_86 rfl rfl ?_
        obtain ⟨g1304, h⟩ := h
        refine qb_iast (pc' := 88) dX11_workQuay_87 rfl qb_s68 g1304.1 g1304.2 ?_
        refine qb_aloadn (pc' := 89) (i := 0) dX11_workQuay_88 rfl rfl rfl ?_
        refine qb_geta (pc' := 92) dX11_workQuay_89 rfl qf_X11_31 qb_s60 rfl ?_
        refine qb_bipush (pc' := 94) dX11_workQuay_92 rfl rfl rfl ?_
        refine qb_iloadn (pc' := 95) (i := 2) dX11_workQuay_94 rfl rfl rfl ?_
        refine qb_imul (pc' := 96) dX11_workQuay_95 rfl g1291 ?_
        refine qb_bipush (pc' := 98) dX11_workQuay_96 rfl rfl rfl ?_
        obtain ⟨g1305, h⟩ := h
        refine qb_iadd (pc' := 99) dX11_workQuay_98 rfl g1305 ?_
        refine qb_bipush (pc' := 101) dX11_workQuay_99 rfl rfl rfl ?_
        have g1306 := h
        refine qb_iast (pc' := 102) dX11_workQuay_101 rfl qb_s68 g1306.1 g1306.2 ?_
        refine qb_cut (L' := [qb_a 60, qb_i x1, qb_i x2, none, none, none]) [true, true, true, false, false, false] rfl ?_
        simpa only [if_pos c692] using k295
    refine qb_cne (tgt := 59) (pc' := 45) dX11_workQuay_42 rfl rfl (fun c691 => ?_) (fun c691 => ?_)
    · refine qb_iconst (pc' := 60) dX11_workQuay_59 rfl rfl ?_
      refine qb_cut (L' := [qb_a 60, qb_i x1, qb_i x2, none, none, none]) [true, true, true, false, false, false] rfl ?_
      simpa only [if_neg c691] using k294
    · have h := ga c691
      refine qb_aloadn (pc' := 46) (i := 0) dX11_workQuay_45 rfl rfl rfl ?_
      refine qb_geta (pc' := 49) dX11_workQuay_46 rfl qf_X11_31 qb_s60 rfl ?_
      refine qb_bipush (pc' := 51) dX11_workQuay_49 rfl rfl rfl ?_
      refine qb_iloadn (pc' := 52) (i := 2) dX11_workQuay_51 rfl rfl rfl ?_
      refine qb_imul (pc' := 53) dX11_workQuay_52 rfl g1291 ?_
      refine qb_iconst (pc' := 54) dX11_workQuay_53 rfl rfl ?_
      obtain ⟨g1296, h⟩ := h
      refine qb_iadd (pc' := 55) dX11_workQuay_54 rfl g1296 ?_
      have g1297 := h
      refine qb_iald (pc' := 56) (v := (hp 68 ((7 * x2) + 3))) dX11_workQuay_55 rfl qb_s68 g1297.1 g1297.2 rfl ?_
      refine qb_goto (tgt := 60) dX11_workQuay_56 rfl ?_
      refine qb_cut (L' := [qb_a 60, qb_i x1, qb_i x2, none, none, none]) [true, true, true, false, false, false] rfl ?_
      simpa only [if_pos c691] using k294
theorem b_m_workQuay_114 {x1 x2 : Int} {hp : qb_H} {K : qb_H → Prop} (h : (x2 < 0 → K hp) ∧ (¬ x2 < 0 → r_m_workQuay_120 x1 x2 0 hp K)) : r_m_workQuay_114 x1 x2 hp K := by
  unfold r_m_workQuay_114
  refine qb_iloadn (pc' := 115) (i := 2) dX11_workQuay_114 rfl rfl rfl ?_
  refine qb_flt (tgt := 389) (pc' := 118) dX11_workQuay_115 rfl rfl (fun c693 => ?_) (fun c693 => ?_)
  · have h := h.1 c693
    exact qb_retv dX11_workQuay_389 rfl h
  · have h := h.2 c693
    refine qb_iconst (pc' := 119) dX11_workQuay_118 rfl rfl ?_
    refine qb_istoren (pc' := 120) (i := 3) (L' := [qb_a 60, qb_i x1, qb_i x2, qb_i 0, none, none]) dX11_workQuay_119 rfl rfl (Nat.le_of_ble_eq_true rfl) rfl rfl ?_
    refine qb_cut (L' := [qb_a 60, qb_i x1, qb_i x2, qb_i 0, none, none]) [true, true, true, true, false, false] rfl ?_
    exact h
theorem b_m_workQuay_120 {x1 x2 x3 : Int} {hp : qb_H} {K : qb_H → Prop} (h : ((hp 60 9) ≤ x3 → (0 ≤ x1 ∧ x1 < 4) ∧ (qb_in ((hp 65 x1) * (hp 66 x1))) ∧ (∀ (y194 : Int), y194 = ((hp 65 x1) * (hp 66 x1)) → c_m_firstOf x1 x2 hp (fun v197 hp197 => r_m_workQuay_226 x1 x2 y194 v197 hp197 K))) ∧ (¬ (hp 60 9) ≤ x3 → (0 ≤ x3 ∧ x3 < 30) ∧ (¬ (hp 86 x3) ≤ 0 → (qb_in (7 * x3)) ∧ (qb_in ((7 * x3) + 2)) ∧ (0 ≤ ((7 * x3) + 2) ∧ ((7 * x3) + 2) < 210) ∧ (qb_in ((hp 68 ((7 * x3) + 2)) + (hp 67 0))) ∧ (¬ x2 < ((hp 68 ((7 * x3) + 2)) + (hp 67 0)) → (qb_in ((7 * x3) + 5)) ∧ (0 ≤ ((7 * x3) + 5) ∧ ((7 * x3) + 5) < 210) ∧ qb_in ((hp 60 39) + (hp 86 x3)))) ∧ r_m_workQuay_120 x1 x2 (x3 + 1) (if (hp 86 x3) ≤ 0 then hp else (if x2 < ((hp 68 ((7 * x3) + 2)) + (hp 67 0)) then hp else (qb_st (qb_st (qb_st hp 68 ((7 * x3) + 5) (hp 86 x3)) 60 39 ((hp 60 39) + (hp 86 x3))) 86 x3 0))) K)) : r_m_workQuay_120 x1 x2 x3 hp K := by
  unfold r_m_workQuay_120
  refine qb_iloadn (pc' := 121) (i := 3) dX11_workQuay_120 rfl rfl rfl ?_
  refine qb_aloadn (pc' := 122) (i := 0) dX11_workQuay_121 rfl rfl rfl ?_
  refine qb_geti (pc' := 125) (v := (hp 60 9)) dX11_workQuay_122 rfl qf_X11_136 qb_s60 rfl rfl ?_
  refine qb_cge (tgt := 204) (pc' := 128) dX11_workQuay_125 rfl rfl (fun c694 => ?_) (fun c694 => ?_)
  · have h := h.1 c694
    refine qb_aloadn (pc' := 205) (i := 0) dX11_workQuay_204 rfl rfl rfl ?_
    refine qb_geta (pc' := 208) dX11_workQuay_205 rfl qf_X11_22 qb_s60 rfl ?_
    refine qb_iloadn (pc' := 209) (i := 1) dX11_workQuay_208 rfl rfl rfl ?_
    obtain ⟨g1307, h⟩ := h
    refine qb_iald (pc' := 210) (v := (hp 65 x1)) dX11_workQuay_209 rfl qb_s65 g1307.1 g1307.2 rfl ?_
    refine qb_aloadn (pc' := 211) (i := 0) dX11_workQuay_210 rfl rfl rfl ?_
    refine qb_geta (pc' := 214) dX11_workQuay_211 rfl qf_X11_25 qb_s60 rfl ?_
    refine qb_iloadn (pc' := 215) (i := 1) dX11_workQuay_214 rfl rfl rfl ?_
    refine qb_iald (pc' := 216) (v := (hp 66 x1)) dX11_workQuay_215 rfl qb_s66 g1307.1 g1307.2 rfl ?_
    obtain ⟨g1308, h⟩ := h
    refine qb_imul (pc' := 217) dX11_workQuay_216 rfl g1308 ?_
    refine qb_istoreny (pc' := 218) (Lf := fun y194 => [qb_a 60, qb_i x1, qb_i x2, qb_i y194, none, none]) dX11_workQuay_217 rfl rfl (Nat.le_of_ble_eq_true rfl) rfl (fun _ => rfl) (fun y194 ey194 => ?_)
    have h := h y194 ey194
    refine qb_aloadn (pc' := 219) (i := 0) dX11_workQuay_218 rfl rfl rfl ?_
    refine qb_iloadn (pc' := 220) (i := 1) dX11_workQuay_219 rfl rfl rfl ?_
    refine qb_iloadn (pc' := 221) (i := 2) dX11_workQuay_220 rfl rfl rfl ?_
    refine qb_callVi (pc' := 224) (b := 60) (as := [.inl x1, .inl x2]) (rest := []) dX11_workQuay_221 rfl qe_mX11_workQuay_mX11_firstOf rfl rfl qb_s60 rfl rfl (Nat.le_of_ble_eq_true rfl) (Nat.le_of_ble_eq_true rfl) ⟨rfl, rfl⟩ h (fun v197 hp197 h => ?_)
    refine qb_istore (pc' := 226) (L' := [qb_a 60, qb_i x1, qb_i x2, qb_i y194, qb_i v197, none]) dX11_workQuay_224 rfl (Nat.le_of_ble_eq_true rfl) rfl rfl ?_
    refine qb_cut (L' := [qb_a 60, qb_i x1, qb_i x2, qb_i y194, qb_i v197, none]) [true, true, true, true, true, false] rfl ?_
    exact h
  · have h := h.2 c694
    refine qb_aloadn (pc' := 129) (i := 0) dX11_workQuay_128 rfl rfl rfl ?_
    refine qb_geta (pc' := 132) dX11_workQuay_129 rfl qf_X11_85 qb_s60 rfl ?_
    refine qb_iloadn (pc' := 133) (i := 3) dX11_workQuay_132 rfl rfl rfl ?_
    obtain ⟨g1343, h⟩ := h
    refine qb_iald (pc' := 134) (v := (hp 86 x3)) dX11_workQuay_133 rfl qb_s86 g1343.1 g1343.2 rfl ?_
    obtain ⟨gb, h⟩ := h
    have k311 : qb_R mX11_workQuay 0 0 qb_sh 198 [qb_a 60, qb_i x1, qb_i x2, qb_i x3, none, none] [] (if (hp 86 x3) ≤ 0 then hp else (if x2 < ((hp 68 ((7 * x3) + 2)) + (hp 67 0)) then hp else (qb_st (qb_st (qb_st hp 68 ((7 * x3) + 5) (hp 86 x3)) 60 39 ((hp 60 39) + (hp 86 x3))) 86 x3 0))) (qb_U qb_sh K) := by
      refine qb_iinc (pc' := 201) (L' := [qb_a 60, qb_i x1, qb_i x2, qb_i (x3 + 1), none, none]) dX11_workQuay_198 rfl rfl (qb_ina g1343 (by decide)) (Nat.le_of_ble_eq_true rfl) rfl rfl ?_
      refine qb_goto (tgt := 120) dX11_workQuay_201 rfl ?_
      refine qb_cut (L' := [qb_a 60, qb_i x1, qb_i x2, qb_i (x3 + 1), none, none]) [true, true, true, true, false, false] rfl ?_
      exact h
    refine qb_fle (tgt := 198) (pc' := 137) dX11_workQuay_134 rfl rfl (fun c710 => ?_) (fun c710 => ?_)
    · refine qb_cut (L' := [qb_a 60, qb_i x1, qb_i x2, qb_i x3, none, none]) [true, true, true, true, false, false] rfl ?_
      simpa only [if_pos c710] using k311
    · have h := gb c710
      refine qb_aloadn (pc' := 138) (i := 0) dX11_workQuay_137 rfl rfl rfl ?_
      refine qb_geta (pc' := 141) dX11_workQuay_138 rfl qf_X11_31 qb_s60 rfl ?_
      refine qb_bipush (pc' := 143) dX11_workQuay_141 rfl rfl rfl ?_
      refine qb_iloadn (pc' := 144) (i := 3) dX11_workQuay_143 rfl rfl rfl ?_
      obtain ⟨g1354, h⟩ := h
      refine qb_imul (pc' := 145) dX11_workQuay_144 rfl g1354 ?_
      refine qb_iconst (pc' := 146) dX11_workQuay_145 rfl rfl ?_
      obtain ⟨g1355, h⟩ := h
      refine qb_iadd (pc' := 147) dX11_workQuay_146 rfl g1355 ?_
      obtain ⟨g1356, h⟩ := h
      refine qb_iald (pc' := 148) (v := (hp 68 ((7 * x3) + 2))) dX11_workQuay_147 rfl qb_s68 g1356.1 g1356.2 rfl ?_
      refine qb_aloadn (pc' := 149) (i := 0) dX11_workQuay_148 rfl rfl rfl ?_
      refine qb_geta (pc' := 152) dX11_workQuay_149 rfl qf_X11_28 qb_s60 rfl ?_
      refine qb_iconst (pc' := 153) dX11_workQuay_152 rfl rfl ?_
      refine qb_iald (pc' := 154) (v := (hp 67 0)) dX11_workQuay_153 rfl qb_s67 (by decide) (by decide) rfl ?_
      obtain ⟨g1357, h⟩ := h
      refine qb_iadd (pc' := 155) dX11_workQuay_154 rfl g1357 ?_
      refine qb_iloadn (pc' := 156) (i := 2) dX11_workQuay_155 rfl rfl rfl ?_
      have gb := h
      have k312 : qb_R mX11_workQuay 0 0 qb_sh 198 [qb_a 60, qb_i x1, qb_i x2, qb_i x3, none, none] [] (if x2 < ((hp 68 ((7 * x3) + 2)) + (hp 67 0)) then hp else (qb_st (qb_st (qb_st hp 68 ((7 * x3) + 5) (hp 86 x3)) 60 39 ((hp 60 39) + (hp 86 x3))) 86 x3 0)) (qb_U qb_sh K) := by
        refine qb_cut (L' := [qb_a 60, qb_i x1, qb_i x2, qb_i x3, none, none]) [true, true, true, true, false, false] rfl ?_
        simpa only [if_neg c710] using k311
      refine qb_cgt (tgt := 198) (pc' := 159) dX11_workQuay_156 rfl rfl (fun c712 => ?_) (fun c712 => ?_)
      · refine qb_cut (L' := [qb_a 60, qb_i x1, qb_i x2, qb_i x3, none, none]) [true, true, true, true, false, false] rfl ?_
        simpa only [if_pos c712] using k312
      · have h := gb c712
        refine qb_aloadn (pc' := 160) (i := 0) dX11_workQuay_159 rfl rfl rfl ?_
        refine qb_geta (pc' := 163) dX11_workQuay_160 rfl qf_X11_31 qb_s60 rfl ?_
        refine qb_bipush (pc' := 165) dX11_workQuay_163 rfl rfl rfl ?_
        refine qb_iloadn (pc' := 166) (i := 3) dX11_workQuay_165 rfl rfl rfl ?_
        refine qb_imul (pc' := 167) dX11_workQuay_166 rfl g1354 ?_
        refine qb_iconst (pc' := 168) dX11_workQuay_167 rfl rfl ?_
        obtain ⟨g1361, h⟩ := h
        refine qb_iadd (pc' := 169) dX11_workQuay_168 rfl g1361 ?_
        refine qb_aloadn (pc' := 170) (i := 0) dX11_workQuay_169 rfl rfl rfl ?_
        refine qb_geta (pc' := 173) dX11_workQuay_170 rfl qf_X11_85 qb_s60 rfl ?_
        refine qb_iloadn (pc' := 174) (i := 3) dX11_workQuay_173 rfl rfl rfl ?_
        refine qb_iald (pc' := 175) (v := (hp 86 x3)) dX11_workQuay_174 rfl qb_s86 g1343.1 g1343.2 rfl ?_
        obtain ⟨g1362, h⟩ := h
        refine qb_iast (pc' := 176) dX11_workQuay_175 rfl qb_s68 g1362.1 g1362.2 ?_
        refine qb_aloadn (pc' := 177) (i := 0) dX11_workQuay_176 rfl rfl rfl ?_
        refine qb_dup (pc' := 178) dX11_workQuay_177 rfl rfl ?_
        refine qb_geti (pc' := 181) (v := (hp 60 39)) dX11_workQuay_178 rfl qf_X11_151 qb_s60 rfl (qb_rdn rfl rfl) ?_
        refine qb_aloadn (pc' := 182) (i := 0) dX11_workQuay_181 rfl rfl rfl ?_
        refine qb_geta (pc' := 185) dX11_workQuay_182 rfl qf_X11_85 qb_s60 rfl ?_
        refine qb_iloadn (pc' := 186) (i := 3) dX11_workQuay_185 rfl rfl rfl ?_
        refine qb_iald (pc' := 187) (v := (hp 86 x3)) dX11_workQuay_186 rfl qb_s86 g1343.1 g1343.2 (qb_rdn rfl rfl) ?_
        have g1363 := h
        refine qb_iadd (pc' := 188) dX11_workQuay_187 rfl g1363 ?_
        refine qb_puti (pc' := 191) (hp' := (qb_st (qb_st hp 68 ((7 * x3) + 5) (hp 86 x3)) 60 39 ((hp 60 39) + (hp 86 x3)))) dX11_workQuay_188 rfl qf_X11_151 (Or.inl rfl) qb_s60 rfl rfl ?_
        refine qb_aloadn (pc' := 192) (i := 0) dX11_workQuay_191 rfl rfl rfl ?_
        refine qb_geta (pc' := 195) dX11_workQuay_192 rfl qf_X11_85 qb_s60 rfl ?_
        refine qb_iloadn (pc' := 196) (i := 3) dX11_workQuay_195 rfl rfl rfl ?_
        refine qb_iconst (pc' := 197) dX11_workQuay_196 rfl rfl ?_
        refine qb_iast (pc' := 198) dX11_workQuay_197 rfl qb_s86 g1343.1 g1343.2 ?_
        refine qb_cut (L' := [qb_a 60, qb_i x1, qb_i x2, qb_i x3, none, none]) [true, true, true, true, false, false] rfl ?_
        simpa only [if_neg c712] using k312
theorem b_m_workQuay_226 {x1 x2 x3 x4 : Int} {hp : qb_H} {K : qb_H → Prop} (h : (x4 < 0 → c_m_nextHour x1 hp (fun v198 hp198 => (0 ≤ v198 → (v198 ≤ x2 → qb_in (x2 + 1))) ∧ (∀ (y199 : Int), y199 = (if 0 ≤ v198 then (if v198 ≤ x2 then (x2 + 1) else v198) else (-6)) → r_m_workQuay_114 x1 y199 hp198 K))) ∧ (¬ x4 < 0 → (x3 ≤ 0 → c_m_nextHour x1 hp (fun v200 hp200 => (0 ≤ v200 → (v200 ≤ x2 → qb_in (x2 + 1))) ∧ (∀ (y201 : Int), y201 = (if 0 ≤ v200 then (if v200 ≤ x2 then (x2 + 1) else v200) else (-6)) → r_m_workQuay_114 x1 y201 hp200 K))) ∧ (¬ x3 ≤ 0 → (0 ≤ x4 ∧ x4 < 30) ∧ (∀ (y202 : Int), y202 = (if x3 ≤ (hp 86 x4) then x3 else (hp 86 x4)) → (0 ≤ (hp 60 33) ∧ (hp 60 33) < 2400) ∧ (qb_in ((hp 86 x4) - y202)) ∧ (qb_in (x3 - y202)) ∧ (qb_in ((hp 60 38) + y202)) ∧ (qb_in (7 * x4)) ∧ (qb_in ((7 * x4) + 6)) ∧ (0 ≤ ((7 * x4) + 6) ∧ ((7 * x4) + 6) < 210) ∧ c_m_firstOf x1 x2 (qb_st (qb_st (qb_st (qb_st (qb_st (qb_st (qb_st hp 83 (hp 60 33) x4) 84 (hp 60 33) x2) 85 (hp 60 33) y202) 60 33 ((hp 60 33) + 1)) 86 x4 ((hp 86 x4) - y202)) 60 38 ((hp 60 38) + y202)) 68 ((7 * x4) + 6) x2) (fun v203 hp203 => r_m_workQuay_226 x1 x2 (x3 - y202) v203 hp203 K))))) : r_m_workQuay_226 x1 x2 x3 x4 hp K := by
  unfold r_m_workQuay_226
  refine qb_iload (pc' := 228) dX11_workQuay_226 rfl rfl ?_
  refine qb_flt (tgt := 354) (pc' := 231) dX11_workQuay_228 rfl rfl (fun c713 => ?_) (fun c713 => ?_)
  · have h := h.1 c713
    refine qb_aloadn (pc' := 355) (i := 0) dX11_workQuay_354 rfl rfl rfl ?_
    refine qb_iloadn (pc' := 356) (i := 1) dX11_workQuay_355 rfl rfl rfl ?_
    refine qb_callVi (pc' := 359) (b := 60) (as := [.inl x1]) (rest := []) dX11_workQuay_356 rfl qe_mX11_workQuay_mX11_nextHour rfl rfl qb_s60 rfl rfl (Nat.le_of_ble_eq_true rfl) (Nat.le_of_ble_eq_true rfl) ⟨rfl, rfl⟩ h (fun v198 hp198 h => ?_)
    refine qb_istore (pc' := 361) (L' := [qb_a 60, qb_i x1, qb_i x2, qb_i x3, qb_i x4, qb_i v198]) dX11_workQuay_359 rfl (Nat.le_of_ble_eq_true rfl) rfl rfl ?_
    refine qb_iload (pc' := 363) dX11_workQuay_361 rfl rfl ?_
    obtain ⟨ga, h⟩ := h
    have k314 : ∀ (y199 : Int), y199 = (if 0 ≤ v198 then (if v198 ≤ x2 then (x2 + 1) else v198) else (-6)) → qb_R mX11_workQuay 0 0 qb_sh 385 [qb_a 60, qb_i x1, none, none, none, none] [.inl y199] hp198 (qb_U qb_sh K) := by
      intro y199 ey199
      have h := h y199 ey199
      refine qb_istoren (pc' := 386) (i := 2) (L' := [qb_a 60, qb_i x1, qb_i y199, none, none, none]) dX11_workQuay_385 rfl rfl (Nat.le_of_ble_eq_true rfl) rfl rfl ?_
      refine qb_goto (tgt := 114) dX11_workQuay_386 rfl ?_
      refine qb_cut (L' := [qb_a 60, qb_i x1, qb_i y199, none, none, none]) [true, true, true, false, false, false] rfl ?_
      exact h
    refine qb_fge (tgt := 371) (pc' := 366) dX11_workQuay_363 rfl rfl (fun c714 => ?_) (fun c714 => ?_)
    · have h := ga c714
      refine qb_iload (pc' := 373) dX11_workQuay_371 rfl rfl ?_
      refine qb_iloadn (pc' := 374) (i := 2) dX11_workQuay_373 rfl rfl rfl ?_
      have ga := h
      have k315 : qb_R mX11_workQuay 0 0 qb_sh 385 [qb_a 60, qb_i x1, none, none, none, none] [.inl (if v198 ≤ x2 then (x2 + 1) else v198)] hp198 (qb_U qb_sh K) := by
        refine qb_cut (L' := [qb_a 60, qb_i x1, none, none, none, none]) [true, true, false, false, false, false] rfl ?_
        exact k314 _ (if_pos c714).symm
      refine qb_cle (tgt := 382) (pc' := 377) dX11_workQuay_374 rfl rfl (fun c716 => ?_) (fun c716 => ?_)
      · have h := ga c716
        refine qb_iloadn (pc' := 383) (i := 2) dX11_workQuay_382 rfl rfl rfl ?_
        refine qb_iconst (pc' := 384) dX11_workQuay_383 rfl rfl ?_
        have g1367 := h
        refine qb_iadd (pc' := 385) dX11_workQuay_384 rfl g1367 ?_
        refine qb_cut (L' := [qb_a 60, qb_i x1, none, none, none, none]) [true, true, false, false, false, false] rfl ?_
        simpa only [if_pos c716] using k315
      · refine qb_iload (pc' := 379) dX11_workQuay_377 rfl rfl ?_
        refine qb_goto (tgt := 385) dX11_workQuay_379 rfl ?_
        refine qb_cut (L' := [qb_a 60, qb_i x1, none, none, none, none]) [true, true, false, false, false, false] rfl ?_
        simpa only [if_neg c716] using k315
    · refine qb_bipush (pc' := 368) dX11_workQuay_366 rfl rfl rfl ?_
      refine qb_goto (tgt := 385) dX11_workQuay_368 rfl ?_
      refine qb_cut (L' := [qb_a 60, qb_i x1, none, none, none, none]) [true, true, false, false, false, false] rfl ?_
      exact k314 _ (if_neg c714).symm
  · have h := h.2 c713
    refine qb_iloadn (pc' := 232) (i := 3) dX11_workQuay_231 rfl rfl rfl ?_
    refine qb_fle (tgt := 354) (pc' := 235) dX11_workQuay_232 rfl rfl (fun c717 => ?_) (fun c717 => ?_)
    · have h := h.1 c717
      refine qb_aloadn (pc' := 355) (i := 0) dX11_workQuay_354 rfl rfl rfl ?_
      refine qb_iloadn (pc' := 356) (i := 1) dX11_workQuay_355 rfl rfl rfl ?_
      refine qb_callVi (pc' := 359) (b := 60) (as := [.inl x1]) (rest := []) dX11_workQuay_356 rfl qe_mX11_workQuay_mX11_nextHour rfl rfl qb_s60 rfl rfl (Nat.le_of_ble_eq_true rfl) (Nat.le_of_ble_eq_true rfl) ⟨rfl, rfl⟩ h (fun v200 hp200 h => ?_)
      refine qb_istore (pc' := 361) (L' := [qb_a 60, qb_i x1, qb_i x2, qb_i x3, qb_i x4, qb_i v200]) dX11_workQuay_359 rfl (Nat.le_of_ble_eq_true rfl) rfl rfl ?_
      refine qb_iload (pc' := 363) dX11_workQuay_361 rfl rfl ?_
      obtain ⟨ga, h⟩ := h
      have k317 : ∀ (y201 : Int), y201 = (if 0 ≤ v200 then (if v200 ≤ x2 then (x2 + 1) else v200) else (-6)) → qb_R mX11_workQuay 0 0 qb_sh 385 [qb_a 60, qb_i x1, none, none, none, none] [.inl y201] hp200 (qb_U qb_sh K) := by
        intro y201 ey201
        have h := h y201 ey201
        refine qb_istoren (pc' := 386) (i := 2) (L' := [qb_a 60, qb_i x1, qb_i y201, none, none, none]) dX11_workQuay_385 rfl rfl (Nat.le_of_ble_eq_true rfl) rfl rfl ?_
        refine qb_goto (tgt := 114) dX11_workQuay_386 rfl ?_
        refine qb_cut (L' := [qb_a 60, qb_i x1, qb_i y201, none, none, none]) [true, true, true, false, false, false] rfl ?_
        exact h
      refine qb_fge (tgt := 371) (pc' := 366) dX11_workQuay_363 rfl rfl (fun c718 => ?_) (fun c718 => ?_)
      · have h := ga c718
        refine qb_iload (pc' := 373) dX11_workQuay_371 rfl rfl ?_
        refine qb_iloadn (pc' := 374) (i := 2) dX11_workQuay_373 rfl rfl rfl ?_
        have ga := h
        have k318 : qb_R mX11_workQuay 0 0 qb_sh 385 [qb_a 60, qb_i x1, none, none, none, none] [.inl (if v200 ≤ x2 then (x2 + 1) else v200)] hp200 (qb_U qb_sh K) := by
          refine qb_cut (L' := [qb_a 60, qb_i x1, none, none, none, none]) [true, true, false, false, false, false] rfl ?_
          exact k317 _ (if_pos c718).symm
        refine qb_cle (tgt := 382) (pc' := 377) dX11_workQuay_374 rfl rfl (fun c720 => ?_) (fun c720 => ?_)
        · have h := ga c720
          refine qb_iloadn (pc' := 383) (i := 2) dX11_workQuay_382 rfl rfl rfl ?_
          refine qb_iconst (pc' := 384) dX11_workQuay_383 rfl rfl ?_
          have g1371 := h
          refine qb_iadd (pc' := 385) dX11_workQuay_384 rfl g1371 ?_
          refine qb_cut (L' := [qb_a 60, qb_i x1, none, none, none, none]) [true, true, false, false, false, false] rfl ?_
          simpa only [if_pos c720] using k318
        · refine qb_iload (pc' := 379) dX11_workQuay_377 rfl rfl ?_
          refine qb_goto (tgt := 385) dX11_workQuay_379 rfl ?_
          refine qb_cut (L' := [qb_a 60, qb_i x1, none, none, none, none]) [true, true, false, false, false, false] rfl ?_
          simpa only [if_neg c720] using k318
      · refine qb_bipush (pc' := 368) dX11_workQuay_366 rfl rfl rfl ?_
        refine qb_goto (tgt := 385) dX11_workQuay_368 rfl ?_
        refine qb_cut (L' := [qb_a 60, qb_i x1, none, none, none, none]) [true, true, false, false, false, false] rfl ?_
        exact k317 _ (if_neg c718).symm
    · have h := h.2 c717
      refine qb_aloadn (pc' := 236) (i := 0) dX11_workQuay_235 rfl rfl rfl ?_
      refine qb_geta (pc' := 239) dX11_workQuay_236 rfl qf_X11_85 qb_s60 rfl ?_
      refine qb_iload (pc' := 241) dX11_workQuay_239 rfl rfl ?_
      obtain ⟨g1372, h⟩ := h
      refine qb_iald (pc' := 242) (v := (hp 86 x4)) dX11_workQuay_241 rfl qb_s86 g1372.1 g1372.2 rfl ?_
      refine qb_iloadn (pc' := 243) (i := 3) dX11_workQuay_242 rfl rfl rfl ?_
      have k319 : ∀ (y202 : Int), y202 = (if x3 ≤ (hp 86 x4) then x3 else (hp 86 x4)) → qb_R mX11_workQuay 0 0 qb_sh 257 [qb_a 60, qb_i x1, qb_i x2, qb_i x3, qb_i x4, none] [.inl y202] hp (qb_U qb_sh K) := by
        intro y202 ey202
        have h := h y202 ey202
        refine qb_istore (pc' := 259) (L' := [qb_a 60, qb_i x1, qb_i x2, qb_i x3, qb_i x4, qb_i y202]) dX11_workQuay_257 rfl (Nat.le_of_ble_eq_true rfl) rfl rfl ?_
        refine qb_aloadn (pc' := 260) (i := 0) dX11_workQuay_259 rfl rfl rfl ?_
        refine qb_geta (pc' := 263) dX11_workQuay_260 rfl qf_X11_76 qb_s60 rfl ?_
        refine qb_aloadn (pc' := 264) (i := 0) dX11_workQuay_263 rfl rfl rfl ?_
        refine qb_geti (pc' := 267) (v := (hp 60 33)) dX11_workQuay_264 rfl qf_X11_145 qb_s60 rfl rfl ?_
        refine qb_iload (pc' := 269) dX11_workQuay_267 rfl rfl ?_
        obtain ⟨g1373, h⟩ := h
        refine qb_iast (pc' := 270) dX11_workQuay_269 rfl qb_s83 g1373.1 g1373.2 ?_
        refine qb_aloadn (pc' := 271) (i := 0) dX11_workQuay_270 rfl rfl rfl ?_
        refine qb_geta (pc' := 274) dX11_workQuay_271 rfl qf_X11_79 qb_s60 rfl ?_
        refine qb_aloadn (pc' := 275) (i := 0) dX11_workQuay_274 rfl rfl rfl ?_
        refine qb_geti (pc' := 278) (v := (hp 60 33)) dX11_workQuay_275 rfl qf_X11_145 qb_s60 rfl (qb_rdn rfl rfl) ?_
        refine qb_iloadn (pc' := 279) (i := 2) dX11_workQuay_278 rfl rfl rfl ?_
        refine qb_iast (pc' := 280) dX11_workQuay_279 rfl qb_s84 g1373.1 g1373.2 ?_
        refine qb_aloadn (pc' := 281) (i := 0) dX11_workQuay_280 rfl rfl rfl ?_
        refine qb_geta (pc' := 284) dX11_workQuay_281 rfl qf_X11_82 qb_s60 rfl ?_
        refine qb_aloadn (pc' := 285) (i := 0) dX11_workQuay_284 rfl rfl rfl ?_
        refine qb_geti (pc' := 288) (v := (hp 60 33)) dX11_workQuay_285 rfl qf_X11_145 qb_s60 rfl (qb_rdn rfl (qb_rdn rfl rfl)) ?_
        refine qb_iload (pc' := 290) dX11_workQuay_288 rfl rfl ?_
        refine qb_iast (pc' := 291) dX11_workQuay_290 rfl qb_s85 g1373.1 g1373.2 ?_
        refine qb_aloadn (pc' := 292) (i := 0) dX11_workQuay_291 rfl rfl rfl ?_
        refine qb_dup (pc' := 293) dX11_workQuay_292 rfl rfl ?_
        refine qb_geti (pc' := 296) (v := (hp 60 33)) dX11_workQuay_293 rfl qf_X11_145 qb_s60 rfl (qb_rdn rfl (qb_rdn rfl (qb_rdn rfl rfl))) ?_
        refine qb_iconst (pc' := 297) dX11_workQuay_296 rfl rfl ?_
        refine qb_iadd (pc' := 298) dX11_workQuay_297 rfl (qb_ina g1373 (by decide)) ?_
        refine qb_puti (pc' := 301) (hp' := (qb_st (qb_st (qb_st (qb_st hp 83 (hp 60 33) x4) 84 (hp 60 33) x2) 85 (hp 60 33) y202) 60 33 ((hp 60 33) + 1))) dX11_workQuay_298 rfl qf_X11_145 (Or.inl rfl) qb_s60 rfl rfl ?_
        refine qb_aloadn (pc' := 302) (i := 0) dX11_workQuay_301 rfl rfl rfl ?_
        refine qb_geta (pc' := 305) dX11_workQuay_302 rfl qf_X11_85 qb_s60 rfl ?_
        refine qb_iload (pc' := 307) dX11_workQuay_305 rfl rfl ?_
        refine qb_dup2 (pc' := 308) dX11_workQuay_307 rfl rfl rfl ?_
        refine qb_iald (pc' := 309) (v := (hp 86 x4)) dX11_workQuay_308 rfl qb_s86 g1372.1 g1372.2 (qb_rdn rfl (qb_rdn rfl (qb_rdn rfl (qb_rdn rfl rfl)))) ?_
        refine qb_iload (pc' := 311) dX11_workQuay_309 rfl rfl ?_
        obtain ⟨g1374, h⟩ := h
        refine qb_isub (pc' := 312) dX11_workQuay_311 rfl g1374 ?_
        refine qb_iast (pc' := 313) dX11_workQuay_312 rfl qb_s86 g1372.1 g1372.2 ?_
        refine qb_iloadn (pc' := 314) (i := 3) dX11_workQuay_313 rfl rfl rfl ?_
        refine qb_iload (pc' := 316) dX11_workQuay_314 rfl rfl ?_
        obtain ⟨g1375, h⟩ := h
        refine qb_isub (pc' := 317) dX11_workQuay_316 rfl g1375 ?_
        refine qb_istoren (pc' := 318) (i := 3) (L' := [qb_a 60, qb_i x1, qb_i x2, qb_i (x3 - y202), qb_i x4, qb_i y202]) dX11_workQuay_317 rfl rfl (Nat.le_of_ble_eq_true rfl) rfl rfl ?_
        refine qb_aloadn (pc' := 319) (i := 0) dX11_workQuay_318 rfl rfl rfl ?_
        refine qb_dup (pc' := 320) dX11_workQuay_319 rfl rfl ?_
        refine qb_geti (pc' := 323) (v := (hp 60 38)) dX11_workQuay_320 rfl qf_X11_148 qb_s60 rfl (qb_rdn rfl (qb_rdl (by decide) (qb_rdn rfl (qb_rdn rfl (qb_rdn rfl rfl))))) ?_
        refine qb_iload (pc' := 325) dX11_workQuay_323 rfl rfl ?_
        obtain ⟨g1376, h⟩ := h
        refine qb_iadd (pc' := 326) dX11_workQuay_325 rfl g1376 ?_
        refine qb_puti (pc' := 329) (hp' := (qb_st (qb_st (qb_st (qb_st (qb_st (qb_st hp 83 (hp 60 33) x4) 84 (hp 60 33) x2) 85 (hp 60 33) y202) 60 33 ((hp 60 33) + 1)) 86 x4 ((hp 86 x4) - y202)) 60 38 ((hp 60 38) + y202))) dX11_workQuay_326 rfl qf_X11_148 (Or.inl rfl) qb_s60 rfl rfl ?_
        refine qb_aloadn (pc' := 330) (i := 0) dX11_workQuay_329 rfl rfl rfl ?_
        refine qb_geta (pc' := 333) dX11_workQuay_330 rfl qf_X11_31 qb_s60 rfl ?_
        refine qb_bipush (pc' := 335) dX11_workQuay_333 rfl rfl rfl ?_
        refine qb_iload (pc' := 337) dX11_workQuay_335 rfl rfl ?_
        obtain ⟨g1377, h⟩ := h
        refine qb_imul (pc' := 338) dX11_workQuay_337 rfl g1377 ?_
        refine qb_bipush (pc' := 340) dX11_workQuay_338 rfl rfl rfl ?_
        obtain ⟨g1378, h⟩ := h
        refine qb_iadd (pc' := 341) dX11_workQuay_340 rfl g1378 ?_
        refine qb_iloadn (pc' := 342) (i := 2) dX11_workQuay_341 rfl rfl rfl ?_
        obtain ⟨g1379, h⟩ := h
        refine qb_iast (pc' := 343) dX11_workQuay_342 rfl qb_s68 g1379.1 g1379.2 ?_
        refine qb_aloadn (pc' := 344) (i := 0) dX11_workQuay_343 rfl rfl rfl ?_
        refine qb_iloadn (pc' := 345) (i := 1) dX11_workQuay_344 rfl rfl rfl ?_
        refine qb_iloadn (pc' := 346) (i := 2) dX11_workQuay_345 rfl rfl rfl ?_
        refine qb_callVi (pc' := 349) (b := 60) (as := [.inl x1, .inl x2]) (rest := []) dX11_workQuay_346 rfl qe_mX11_workQuay_mX11_firstOf rfl rfl qb_s60 rfl rfl (Nat.le_of_ble_eq_true rfl) (Nat.le_of_ble_eq_true rfl) ⟨rfl, rfl⟩ h (fun v203 hp203 h => ?_)
        refine qb_istore (pc' := 351) (L' := [qb_a 60, qb_i x1, qb_i x2, qb_i (x3 - y202), qb_i v203, qb_i y202]) dX11_workQuay_349 rfl (Nat.le_of_ble_eq_true rfl) rfl rfl ?_
        refine qb_goto (tgt := 226) dX11_workQuay_351 rfl ?_
        refine qb_cut (L' := [qb_a 60, qb_i x1, qb_i x2, qb_i (x3 - y202), qb_i v203, none]) [true, true, true, true, true, false] rfl ?_
        exact h
      refine qb_cge (tgt := 256) (pc' := 246) dX11_workQuay_243 rfl rfl (fun c721 => ?_) (fun c721 => ?_)
      · refine qb_iloadn (pc' := 257) (i := 3) dX11_workQuay_256 rfl rfl rfl ?_
        refine qb_cut (L' := [qb_a 60, qb_i x1, qb_i x2, qb_i x3, qb_i x4, none]) [true, true, true, true, true, false] rfl ?_
        exact k319 _ (if_pos c721).symm
      · refine qb_aloadn (pc' := 247) (i := 0) dX11_workQuay_246 rfl rfl rfl ?_
        refine qb_geta (pc' := 250) dX11_workQuay_247 rfl qf_X11_85 qb_s60 rfl ?_
        refine qb_iload (pc' := 252) dX11_workQuay_250 rfl rfl ?_
        refine qb_iald (pc' := 253) (v := (hp 86 x4)) dX11_workQuay_252 rfl qb_s86 g1372.1 g1372.2 rfl ?_
        refine qb_goto (tgt := 257) dX11_workQuay_253 rfl ?_
        refine qb_cut (L' := [qb_a 60, qb_i x1, qb_i x2, qb_i x3, qb_i x4, none]) [true, true, true, true, true, false] rfl ?_
        exact k319 _ (if_neg c721).symm
def c_m_beginBarrels (x1 : Int) (hp : qb_H) (K : qb_H → Prop) : Prop := qb_R mX11_beginBarrels 0 0 qb_sh 0 [qb_a 60, qb_i x1] [] hp (qb_U qb_sh K)
theorem b_m_beginBarrels {x1 : Int} {hp : qb_H} {K : qb_H → Prop} (h : c_m_workQuay x1 hp (fun hp205 => K (qb_st (qb_st hp205 60 40 0) 60 41 0))) : c_m_beginBarrels x1 hp K := by
  unfold c_m_beginBarrels
  refine qb_aloadn (pc' := 1) (i := 0) dX11_beginBarrels_0 rfl rfl rfl ?_
  refine qb_iloadn (pc' := 2) (i := 1) dX11_beginBarrels_1 rfl rfl rfl ?_
  refine qb_callVu (pc' := 5) (b := 60) (as := [.inl x1]) (rest := []) dX11_beginBarrels_2 rfl qe_mX11_beginBarrels_mX11_workQuay rfl rfl qb_s60 rfl rfl (Nat.le_of_ble_eq_true rfl) (Nat.le_of_ble_eq_true rfl) ⟨rfl, rfl⟩ h (fun hp205 h => ?_)
  refine qb_aloadn (pc' := 6) (i := 0) dX11_beginBarrels_5 rfl rfl rfl ?_
  refine qb_iconst (pc' := 7) dX11_beginBarrels_6 rfl rfl ?_
  refine qb_puti (pc' := 10) (hp' := (qb_st hp205 60 40 0)) dX11_beginBarrels_7 rfl qf_X11_170 (Or.inl rfl) qb_s60 rfl rfl ?_
  refine qb_aloadn (pc' := 11) (i := 0) dX11_beginBarrels_10 rfl rfl rfl ?_
  refine qb_iconst (pc' := 12) dX11_beginBarrels_11 rfl rfl ?_
  refine qb_puti (pc' := 15) (hp' := (qb_st (qb_st hp205 60 40 0) 60 41 0)) dX11_beginBarrels_12 rfl qf_X11_173 (Or.inl rfl) qb_s60 rfl rfl ?_
  exact qb_retv dX11_beginBarrels_15 rfl h
def c_m_barrelsNow (hp : qb_H) (K : Int → qb_H → Prop) : Prop := qb_R mX11_barrelsNow 0 0 qb_sh 0 [qb_a 60] [] hp (qb_I qb_sh K)
theorem b_m_barrelsNow {hp : qb_H} {K : Int → qb_H → Prop} (h : (0 ≤ (hp 60 38)) ∧ (0 < (hp 67 1)) ∧ K ((hp 60 38) / (hp 67 1)) hp) : c_m_barrelsNow hp K := by
  unfold c_m_barrelsNow
  refine qb_aloadn (pc' := 1) (i := 0) dX11_barrelsNow_0 rfl rfl rfl ?_
  refine qb_geti (pc' := 4) (v := (hp 60 38)) dX11_barrelsNow_1 rfl qf_X11_148 qb_s60 rfl rfl ?_
  refine qb_aloadn (pc' := 5) (i := 0) dX11_barrelsNow_4 rfl rfl rfl ?_
  refine qb_geta (pc' := 8) dX11_barrelsNow_5 rfl qf_X11_28 qb_s60 rfl ?_
  refine qb_iconst (pc' := 9) dX11_barrelsNow_8 rfl rfl ?_
  refine qb_iald (pc' := 10) (v := (hp 67 1)) dX11_barrelsNow_9 rfl qb_s67 (by decide) (by decide) rfl ?_
  obtain ⟨g1382, h⟩ := h
  obtain ⟨g1383, h⟩ := h
  refine qb_idiv (pc' := 11) dX11_barrelsNow_10 rfl g1382 g1383 ?_
  exact qb_reti dX11_barrelsNow_11 rfl h
def v_m_barrelsNow (hp : qb_H) : Int := ((hp 60 38) / (hp 67 1))
def g_m_barrelsNow (hp : qb_H) : Prop := (0 ≤ (hp 60 38)) ∧ 0 < (hp 67 1)
theorem s_m_barrelsNow (hp : qb_H) (K : Int → qb_H → Prop) (hg : g_m_barrelsNow hp) (hK : K (v_m_barrelsNow hp) hp) : c_m_barrelsNow hp K := by
  refine b_m_barrelsNow ?_
  unfold g_m_barrelsNow at hg
  unfold v_m_barrelsNow at hK
  refine ⟨hg.1, ?_⟩
  have hg := hg.2
  refine ⟨hg, ?_⟩
  exact hK
def c_m_takeBarrel (hp : qb_H) (K : qb_H → Prop) : Prop := qb_R mX11_takeBarrel 0 0 qb_sh 0 [qb_a 60, none, none, none, none, none, none] [] hp (qb_U qb_sh K)
def r_m_takeBarrel_25 (x1 : Int) (x2 : Int) (hp : qb_H) (K : qb_H → Prop) : Prop := qb_R mX11_takeBarrel 0 0 qb_sh 25 [qb_a 60, qb_i x1, qb_i x2, none, none, none, none] [] hp (qb_U qb_sh K)
theorem b_m_takeBarrel {hp : qb_H} {K : qb_H → Prop} (h : r_m_takeBarrel_25 (hp 67 1) 0 (qb_st (qb_st (qb_st hp 60 30 0) 60 31 10) 60 32 0) K) : c_m_takeBarrel hp K := by
  unfold c_m_takeBarrel
  refine qb_aloadn (pc' := 1) (i := 0) dX11_takeBarrel_0 rfl rfl rfl ?_
  refine qb_geta (pc' := 4) dX11_takeBarrel_1 rfl qf_X11_28 qb_s60 rfl ?_
  refine qb_iconst (pc' := 5) dX11_takeBarrel_4 rfl rfl ?_
  refine qb_iald (pc' := 6) (v := (hp 67 1)) dX11_takeBarrel_5 rfl qb_s67 (by decide) (by decide) rfl ?_
  refine qb_istoren (pc' := 7) (i := 1) (L' := [qb_a 60, qb_i (hp 67 1), none, none, none, none, none]) dX11_takeBarrel_6 rfl rfl (Nat.le_of_ble_eq_true rfl) rfl rfl ?_
  refine qb_aloadn (pc' := 8) (i := 0) dX11_takeBarrel_7 rfl rfl rfl ?_
  refine qb_iconst (pc' := 9) dX11_takeBarrel_8 rfl rfl ?_
  refine qb_puti (pc' := 12) (hp' := (qb_st hp 60 30 0)) dX11_takeBarrel_9 rfl qf_X11_120 (Or.inl rfl) qb_s60 rfl rfl ?_
  refine qb_aloadn (pc' := 13) (i := 0) dX11_takeBarrel_12 rfl rfl rfl ?_
  refine qb_bipush (pc' := 15) dX11_takeBarrel_13 rfl rfl rfl ?_
  refine qb_puti (pc' := 18) (hp' := (qb_st (qb_st hp 60 30 0) 60 31 10)) dX11_takeBarrel_15 rfl qf_X11_127 (Or.inl rfl) qb_s60 rfl rfl ?_
  refine qb_aloadn (pc' := 19) (i := 0) dX11_takeBarrel_18 rfl rfl rfl ?_
  refine qb_iconst (pc' := 20) dX11_takeBarrel_19 rfl rfl ?_
  refine qb_puti (pc' := 23) (hp' := (qb_st (qb_st (qb_st hp 60 30 0) 60 31 10) 60 32 0)) dX11_takeBarrel_20 rfl qf_X11_176 (Or.inl rfl) qb_s60 rfl rfl ?_
  refine qb_iconst (pc' := 24) dX11_takeBarrel_23 rfl rfl ?_
  refine qb_istoren (pc' := 25) (i := 2) (L' := [qb_a 60, qb_i (hp 67 1), qb_i 0, none, none, none, none]) dX11_takeBarrel_24 rfl rfl (Nat.le_of_ble_eq_true rfl) rfl rfl ?_
  refine qb_cut (L' := [qb_a 60, qb_i (hp 67 1), qb_i 0, none, none, none, none]) [true, true, true, false, false, false, false] rfl ?_
  exact h
theorem b_m_takeBarrel_25 {x1 x2 : Int} {hp : qb_H} {K : qb_H → Prop} (h : (x1 ≤ 0 → K hp) ∧ (¬ x1 ≤ 0 → (0 ≤ (hp 60 40) ∧ (hp 60 40) < 2400) ∧ (∀ (y209 : Int), y209 = (hp 83 (hp 60 40)) → (qb_in ((hp 85 (hp 60 40)) - (hp 60 41))) ∧ (∀ (y210 : Int), y210 = ((hp 85 (hp 60 40)) - (hp 60 41)) → (∀ (y211 : Int), y211 = (if x1 ≤ y210 then x1 else y210) → (qb_in (7 * y209)) ∧ (qb_in ((7 * y209) + 2)) ∧ (0 ≤ ((7 * y209) + 2) ∧ ((7 * y209) + 2) < 210) ∧ (qb_in ((hp 84 (hp 60 40)) - (hp 68 ((7 * y209) + 2)))) ∧ (∀ (y212 : Int), y212 = ((hp 84 (hp 60 40)) - (hp 68 ((7 * y209) + 2))) → (∀ (y213 : Int), y213 = (if y212 ≤ (hp 60 30) then (hp 60 30) else y212) → (qb_in ((7 * y209) + 4)) ∧ (0 ≤ ((7 * y209) + 4) ∧ ((7 * y209) + 4) < 210) ∧ (∀ (y214 : Int), y214 = (if (hp 60 31) ≤ (hp 68 ((7 * y209) + 4)) then (hp 60 31) else (hp 68 ((7 * y209) + 4))) → (∀ (y215 : Int), y215 = (if (qb_and (qb_shr x2 y209) 1) = 0 then (1 : Int) else 0) → (qb_in ((hp 60 32) + y215)) ∧ (∀ (y216 : Int), y216 = (qb_or x2 (qb_shl 1 y209)) → (qb_in (x1 - y211)) ∧ (qb_in ((hp 60 41) + y211)) ∧ (∀ (hq217 : qb_H), hq217 = (if ((hp 60 41) + y211) = (hp 85 (hp 60 40)) then (qb_st (qb_st (qb_st (qb_st (qb_st (qb_st (qb_st hp 60 30 y213) 60 31 y214) 60 32 ((hp 60 32) + y215)) 60 29 (hp 84 (hp 60 40))) 60 41 ((hp 60 41) + y211)) 60 40 ((hp 60 40) + 1)) 60 41 0) else (qb_st (qb_st (qb_st (qb_st (qb_st hp 60 30 y213) 60 31 y214) 60 32 ((hp 60 32) + y215)) 60 29 (hp 84 (hp 60 40))) 60 41 ((hp 60 41) + y211))) → r_m_takeBarrel_25 (x1 - y211) y216 hq217 K))))))))))) : r_m_takeBarrel_25 x1 x2 hp K := by
  unfold r_m_takeBarrel_25
  refine qb_iloadn (pc' := 26) (i := 1) dX11_takeBarrel_25 rfl rfl rfl ?_
  refine qb_fle (tgt := 245) (pc' := 29) dX11_takeBarrel_26 rfl rfl (fun c723 => ?_) (fun c723 => ?_)
  · have h := h.1 c723
    exact qb_retv dX11_takeBarrel_245 rfl h
  · have h := h.2 c723
    refine qb_aloadn (pc' := 30) (i := 0) dX11_takeBarrel_29 rfl rfl rfl ?_
    refine qb_geta (pc' := 33) dX11_takeBarrel_30 rfl qf_X11_76 qb_s60 rfl ?_
    refine qb_aloadn (pc' := 34) (i := 0) dX11_takeBarrel_33 rfl rfl rfl ?_
    refine qb_geti (pc' := 37) (v := (hp 60 40)) dX11_takeBarrel_34 rfl qf_X11_170 qb_s60 rfl rfl ?_
    obtain ⟨g1386, h⟩ := h
    refine qb_iald (pc' := 38) (v := (hp 83 (hp 60 40))) dX11_takeBarrel_37 rfl qb_s83 g1386.1 g1386.2 rfl ?_
    refine qb_istoreny (pc' := 39) (Lf := fun y209 => [qb_a 60, qb_i x1, qb_i x2, qb_i y209, none, none, none]) dX11_takeBarrel_38 rfl rfl (Nat.le_of_ble_eq_true rfl) rfl (fun _ => rfl) (fun y209 ey209 => ?_)
    have h := h y209 ey209
    refine qb_aloadn (pc' := 40) (i := 0) dX11_takeBarrel_39 rfl rfl rfl ?_
    refine qb_geta (pc' := 43) dX11_takeBarrel_40 rfl qf_X11_82 qb_s60 rfl ?_
    refine qb_aloadn (pc' := 44) (i := 0) dX11_takeBarrel_43 rfl rfl rfl ?_
    refine qb_geti (pc' := 47) (v := (hp 60 40)) dX11_takeBarrel_44 rfl qf_X11_170 qb_s60 rfl rfl ?_
    refine qb_iald (pc' := 48) (v := (hp 85 (hp 60 40))) dX11_takeBarrel_47 rfl qb_s85 g1386.1 g1386.2 rfl ?_
    refine qb_aloadn (pc' := 49) (i := 0) dX11_takeBarrel_48 rfl rfl rfl ?_
    refine qb_geti (pc' := 52) (v := (hp 60 41)) dX11_takeBarrel_49 rfl qf_X11_173 qb_s60 rfl rfl ?_
    obtain ⟨g1387, h⟩ := h
    refine qb_isub (pc' := 53) dX11_takeBarrel_52 rfl g1387 ?_
    refine qb_istorey (pc' := 55) (Lf := fun y210 => [qb_a 60, qb_i x1, qb_i x2, qb_i y209, qb_i y210, none, none]) dX11_takeBarrel_53 rfl (Nat.le_of_ble_eq_true rfl) rfl (fun _ => rfl) (fun y210 ey210 => ?_)
    have h := h y210 ey210
    refine qb_iload (pc' := 57) dX11_takeBarrel_55 rfl rfl ?_
    refine qb_iloadn (pc' := 58) (i := 1) dX11_takeBarrel_57 rfl rfl rfl ?_
    have k320 : ∀ (y211 : Int), y211 = (if x1 ≤ y210 then x1 else y210) → qb_R mX11_takeBarrel 0 0 qb_sh 67 [qb_a 60, qb_i x1, qb_i x2, qb_i y209, none, none, none] [.inl y211] hp (qb_U qb_sh K) := by
      intro y211 ey211
      have h := h y211 ey211
      refine qb_istore (pc' := 69) (L' := [qb_a 60, qb_i x1, qb_i x2, qb_i y209, none, qb_i y211, none]) dX11_takeBarrel_67 rfl (Nat.le_of_ble_eq_true rfl) rfl rfl ?_
      refine qb_aloadn (pc' := 70) (i := 0) dX11_takeBarrel_69 rfl rfl rfl ?_
      refine qb_geta (pc' := 73) dX11_takeBarrel_70 rfl qf_X11_79 qb_s60 rfl ?_
      refine qb_aloadn (pc' := 74) (i := 0) dX11_takeBarrel_73 rfl rfl rfl ?_
      refine qb_geti (pc' := 77) (v := (hp 60 40)) dX11_takeBarrel_74 rfl qf_X11_170 qb_s60 rfl rfl ?_
      refine qb_iald (pc' := 78) (v := (hp 84 (hp 60 40))) dX11_takeBarrel_77 rfl qb_s84 g1386.1 g1386.2 rfl ?_
      refine qb_aloadn (pc' := 79) (i := 0) dX11_takeBarrel_78 rfl rfl rfl ?_
      refine qb_geta (pc' := 82) dX11_takeBarrel_79 rfl qf_X11_31 qb_s60 rfl ?_
      refine qb_bipush (pc' := 84) dX11_takeBarrel_82 rfl rfl rfl ?_
      refine qb_iloadn (pc' := 85) (i := 3) dX11_takeBarrel_84 rfl rfl rfl ?_
      obtain ⟨g1388, h⟩ := h
      refine qb_imul (pc' := 86) dX11_takeBarrel_85 rfl g1388 ?_
      refine qb_iconst (pc' := 87) dX11_takeBarrel_86 rfl rfl ?_
      obtain ⟨g1389, h⟩ := h
      refine qb_iadd (pc' := 88) dX11_takeBarrel_87 rfl g1389 ?_
      obtain ⟨g1390, h⟩ := h
      refine qb_iald (pc' := 89) (v := (hp 68 ((7 * y209) + 2))) dX11_takeBarrel_88 rfl qb_s68 g1390.1 g1390.2 rfl ?_
      obtain ⟨g1391, h⟩ := h
      refine qb_isub (pc' := 90) dX11_takeBarrel_89 rfl g1391 ?_
      refine qb_istorey (pc' := 92) (Lf := fun y212 => [qb_a 60, qb_i x1, qb_i x2, qb_i y209, none, qb_i y211, qb_i y212]) dX11_takeBarrel_90 rfl (Nat.le_of_ble_eq_true rfl) rfl (fun _ => rfl) (fun y212 ey212 => ?_)
      have h := h y212 ey212
      refine qb_aloadn (pc' := 93) (i := 0) dX11_takeBarrel_92 rfl rfl rfl ?_
      refine qb_iload (pc' := 95) dX11_takeBarrel_93 rfl rfl ?_
      refine qb_aloadn (pc' := 96) (i := 0) dX11_takeBarrel_95 rfl rfl rfl ?_
      refine qb_geti (pc' := 99) (v := (hp 60 30)) dX11_takeBarrel_96 rfl qf_X11_120 qb_s60 rfl rfl ?_
      have k321 : ∀ (y213 : Int), y213 = (if y212 ≤ (hp 60 30) then (hp 60 30) else y212) → qb_R mX11_takeBarrel 0 0 qb_sh 111 [qb_a 60, qb_i x1, qb_i x2, qb_i y209, none, qb_i y211, none] [.inl y213, .inr (.inl 60)] hp (qb_U qb_sh K) := by
        intro y213 ey213
        have h := h y213 ey213
        refine qb_puti (pc' := 114) (hp' := (qb_st hp 60 30 y213)) dX11_takeBarrel_111 rfl qf_X11_120 (Or.inl rfl) qb_s60 rfl rfl ?_
        refine qb_aloadn (pc' := 115) (i := 0) dX11_takeBarrel_114 rfl rfl rfl ?_
        refine qb_aloadn (pc' := 116) (i := 0) dX11_takeBarrel_115 rfl rfl rfl ?_
        refine qb_geta (pc' := 119) dX11_takeBarrel_116 rfl qf_X11_31 qb_s60 rfl ?_
        refine qb_bipush (pc' := 121) dX11_takeBarrel_119 rfl rfl rfl ?_
        refine qb_iloadn (pc' := 122) (i := 3) dX11_takeBarrel_121 rfl rfl rfl ?_
        refine qb_imul (pc' := 123) dX11_takeBarrel_122 rfl g1388 ?_
        refine qb_iconst (pc' := 124) dX11_takeBarrel_123 rfl rfl ?_
        obtain ⟨g1392, h⟩ := h
        refine qb_iadd (pc' := 125) dX11_takeBarrel_124 rfl g1392 ?_
        obtain ⟨g1393, h⟩ := h
        refine qb_iald (pc' := 126) (v := (hp 68 ((7 * y209) + 4))) dX11_takeBarrel_125 rfl qb_s68 g1393.1 g1393.2 (qb_rdn rfl rfl) ?_
        refine qb_aloadn (pc' := 127) (i := 0) dX11_takeBarrel_126 rfl rfl rfl ?_
        refine qb_geti (pc' := 130) (v := (hp 60 31)) dX11_takeBarrel_127 rfl qf_X11_127 qb_s60 rfl (qb_rdl (by decide) rfl) ?_
        have k322 : ∀ (y214 : Int), y214 = (if (hp 60 31) ≤ (hp 68 ((7 * y209) + 4)) then (hp 60 31) else (hp 68 ((7 * y209) + 4))) → qb_R mX11_takeBarrel 0 0 qb_sh 151 [qb_a 60, qb_i x1, qb_i x2, qb_i y209, none, qb_i y211, none] [.inl y214, .inr (.inl 60)] (qb_st hp 60 30 y213) (qb_U qb_sh K) := by
          intro y214 ey214
          have h := h y214 ey214
          refine qb_puti (pc' := 154) (hp' := (qb_st (qb_st hp 60 30 y213) 60 31 y214)) dX11_takeBarrel_151 rfl qf_X11_127 (Or.inl rfl) qb_s60 rfl rfl ?_
          refine qb_aloadn (pc' := 155) (i := 0) dX11_takeBarrel_154 rfl rfl rfl ?_
          refine qb_dup (pc' := 156) dX11_takeBarrel_155 rfl rfl ?_
          refine qb_geti (pc' := 159) (v := (hp 60 32)) dX11_takeBarrel_156 rfl qf_X11_176 qb_s60 rfl (qb_rdl (by decide) (qb_rdl (by decide) rfl)) ?_
          refine qb_iloadn (pc' := 160) (i := 2) dX11_takeBarrel_159 rfl rfl rfl ?_
          refine qb_iloadn (pc' := 161) (i := 3) dX11_takeBarrel_160 rfl rfl rfl ?_
          refine qb_ishr (pc' := 162) dX11_takeBarrel_161 rfl ?_
          refine qb_iconst (pc' := 163) dX11_takeBarrel_162 rfl rfl ?_
          refine qb_iand (pc' := 164) dX11_takeBarrel_163 rfl ?_
          have k323 : ∀ (y215 : Int), y215 = (if (qb_and (qb_shr x2 y209) 1) = 0 then (1 : Int) else 0) → qb_R mX11_takeBarrel 0 0 qb_sh 172 [qb_a 60, qb_i x1, qb_i x2, qb_i y209, none, qb_i y211, none] [.inl y215, .inl (hp 60 32), .inr (.inl 60)] (qb_st (qb_st hp 60 30 y213) 60 31 y214) (qb_U qb_sh K) := by
            intro y215 ey215
            have h := h y215 ey215
            obtain ⟨g1394, h⟩ := h
            refine qb_iadd (pc' := 173) dX11_takeBarrel_172 rfl g1394 ?_
            refine qb_puti (pc' := 176) (hp' := (qb_st (qb_st (qb_st hp 60 30 y213) 60 31 y214) 60 32 ((hp 60 32) + y215))) dX11_takeBarrel_173 rfl qf_X11_176 (Or.inl rfl) qb_s60 rfl rfl ?_
            refine qb_iloadn (pc' := 177) (i := 2) dX11_takeBarrel_176 rfl rfl rfl ?_
            refine qb_iconst (pc' := 178) dX11_takeBarrel_177 rfl rfl ?_
            refine qb_iloadn (pc' := 179) (i := 3) dX11_takeBarrel_178 rfl rfl rfl ?_
            refine qb_ishl (pc' := 180) dX11_takeBarrel_179 rfl ?_
            refine qb_ior (pc' := 181) dX11_takeBarrel_180 rfl ?_
            refine qb_istoreny (pc' := 182) (Lf := fun y216 => [qb_a 60, qb_i x1, qb_i y216, qb_i y209, none, qb_i y211, none]) dX11_takeBarrel_181 rfl rfl (Nat.le_of_ble_eq_true rfl) rfl (fun _ => rfl) (fun y216 ey216 => ?_)
            have h := h y216 ey216
            refine qb_aloadn (pc' := 183) (i := 0) dX11_takeBarrel_182 rfl rfl rfl ?_
            refine qb_aloadn (pc' := 184) (i := 0) dX11_takeBarrel_183 rfl rfl rfl ?_
            refine qb_geta (pc' := 187) dX11_takeBarrel_184 rfl qf_X11_79 qb_s60 rfl ?_
            refine qb_aloadn (pc' := 188) (i := 0) dX11_takeBarrel_187 rfl rfl rfl ?_
            refine qb_geti (pc' := 191) (v := (hp 60 40)) dX11_takeBarrel_188 rfl qf_X11_170 qb_s60 rfl (qb_rdl (by decide) (qb_rdl (by decide) (qb_rdl (by decide) rfl))) ?_
            refine qb_iald (pc' := 192) (v := (hp 84 (hp 60 40))) dX11_takeBarrel_191 rfl qb_s84 g1386.1 g1386.2 (qb_rdn rfl (qb_rdn rfl (qb_rdn rfl rfl))) ?_
            refine qb_puti (pc' := 195) (hp' := (qb_st (qb_st (qb_st (qb_st hp 60 30 y213) 60 31 y214) 60 32 ((hp 60 32) + y215)) 60 29 (hp 84 (hp 60 40)))) dX11_takeBarrel_192 rfl qf_X11_167 (Or.inl rfl) qb_s60 rfl rfl ?_
            refine qb_iloadn (pc' := 196) (i := 1) dX11_takeBarrel_195 rfl rfl rfl ?_
            refine qb_iload (pc' := 198) dX11_takeBarrel_196 rfl rfl ?_
            obtain ⟨g1395, h⟩ := h
            refine qb_isub (pc' := 199) dX11_takeBarrel_198 rfl g1395 ?_
            refine qb_istoren (pc' := 200) (i := 1) (L' := [qb_a 60, qb_i (x1 - y211), qb_i y216, qb_i y209, none, qb_i y211, none]) dX11_takeBarrel_199 rfl rfl (Nat.le_of_ble_eq_true rfl) rfl rfl ?_
            refine qb_aloadn (pc' := 201) (i := 0) dX11_takeBarrel_200 rfl rfl rfl ?_
            refine qb_dup (pc' := 202) dX11_takeBarrel_201 rfl rfl ?_
            refine qb_geti (pc' := 205) (v := (hp 60 41)) dX11_takeBarrel_202 rfl qf_X11_173 qb_s60 rfl (qb_rdl (by decide) (qb_rdl (by decide) (qb_rdl (by decide) (qb_rdl (by decide) rfl)))) ?_
            refine qb_iload (pc' := 207) dX11_takeBarrel_205 rfl rfl ?_
            obtain ⟨g1396, h⟩ := h
            refine qb_iadd (pc' := 208) dX11_takeBarrel_207 rfl g1396 ?_
            refine qb_puti (pc' := 211) (hp' := (qb_st (qb_st (qb_st (qb_st (qb_st hp 60 30 y213) 60 31 y214) 60 32 ((hp 60 32) + y215)) 60 29 (hp 84 (hp 60 40))) 60 41 ((hp 60 41) + y211))) dX11_takeBarrel_208 rfl qf_X11_173 (Or.inl rfl) qb_s60 rfl rfl ?_
            refine qb_aloadn (pc' := 212) (i := 0) dX11_takeBarrel_211 rfl rfl rfl ?_
            refine qb_geti (pc' := 215) (v := ((hp 60 41) + y211)) dX11_takeBarrel_212 rfl qf_X11_173 qb_s60 rfl qb_rds ?_
            refine qb_aloadn (pc' := 216) (i := 0) dX11_takeBarrel_215 rfl rfl rfl ?_
            refine qb_geta (pc' := 219) dX11_takeBarrel_216 rfl qf_X11_82 qb_s60 rfl ?_
            refine qb_aloadn (pc' := 220) (i := 0) dX11_takeBarrel_219 rfl rfl rfl ?_
            refine qb_geti (pc' := 223) (v := (hp 60 40)) dX11_takeBarrel_220 rfl qf_X11_170 qb_s60 rfl (qb_rdl (by decide) (qb_rdl (by decide) (qb_rdl (by decide) (qb_rdl (by decide) (qb_rdl (by decide) rfl))))) ?_
            refine qb_iald (pc' := 224) (v := (hp 85 (hp 60 40))) dX11_takeBarrel_223 rfl qb_s85 g1386.1 g1386.2 (qb_rdn rfl (qb_rdn rfl (qb_rdn rfl (qb_rdn rfl (qb_rdn rfl rfl))))) ?_
            have k324 : ∀ (hq217 : qb_H), hq217 = (if ((hp 60 41) + y211) = (hp 85 (hp 60 40)) then (qb_st (qb_st (qb_st (qb_st (qb_st (qb_st (qb_st hp 60 30 y213) 60 31 y214) 60 32 ((hp 60 32) + y215)) 60 29 (hp 84 (hp 60 40))) 60 41 ((hp 60 41) + y211)) 60 40 ((hp 60 40) + 1)) 60 41 0) else (qb_st (qb_st (qb_st (qb_st (qb_st hp 60 30 y213) 60 31 y214) 60 32 ((hp 60 32) + y215)) 60 29 (hp 84 (hp 60 40))) 60 41 ((hp 60 41) + y211))) → qb_R mX11_takeBarrel 0 0 qb_sh 242 [qb_a 60, qb_i (x1 - y211), qb_i y216, none, none, none, none] [] hq217 (qb_U qb_sh K) := by
              intro hq217 ehq217
              have h := h hq217 ehq217
              refine qb_goto (tgt := 25) dX11_takeBarrel_242 rfl ?_
              refine qb_cut (L' := [qb_a 60, qb_i (x1 - y211), qb_i y216, none, none, none, none]) [true, true, true, false, false, false, false] rfl ?_
              exact h
            refine qb_cne (tgt := 242) (pc' := 227) dX11_takeBarrel_224 rfl rfl (fun c728 => ?_) (fun c728 => ?_)
            · refine qb_cut (L' := [qb_a 60, qb_i (x1 - y211), qb_i y216, none, none, none, none]) [true, true, true, false, false, false, false] rfl ?_
              exact k324 _ (if_neg c728).symm
            · refine qb_aloadn (pc' := 228) (i := 0) dX11_takeBarrel_227 rfl rfl rfl ?_
              refine qb_dup (pc' := 229) dX11_takeBarrel_228 rfl rfl ?_
              refine qb_geti (pc' := 232) (v := (hp 60 40)) dX11_takeBarrel_229 rfl qf_X11_170 qb_s60 rfl (qb_rdl (by decide) (qb_rdl (by decide) (qb_rdl (by decide) (qb_rdl (by decide) (qb_rdl (by decide) rfl))))) ?_
              refine qb_iconst (pc' := 233) dX11_takeBarrel_232 rfl rfl ?_
              refine qb_iadd (pc' := 234) dX11_takeBarrel_233 rfl (qb_ina g1386 (by decide)) ?_
              refine qb_puti (pc' := 237) (hp' := (qb_st (qb_st (qb_st (qb_st (qb_st (qb_st hp 60 30 y213) 60 31 y214) 60 32 ((hp 60 32) + y215)) 60 29 (hp 84 (hp 60 40))) 60 41 ((hp 60 41) + y211)) 60 40 ((hp 60 40) + 1))) dX11_takeBarrel_234 rfl qf_X11_170 (Or.inl rfl) qb_s60 rfl rfl ?_
              refine qb_aloadn (pc' := 238) (i := 0) dX11_takeBarrel_237 rfl rfl rfl ?_
              refine qb_iconst (pc' := 239) dX11_takeBarrel_238 rfl rfl ?_
              refine qb_puti (pc' := 242) (hp' := (qb_st (qb_st (qb_st (qb_st (qb_st (qb_st (qb_st hp 60 30 y213) 60 31 y214) 60 32 ((hp 60 32) + y215)) 60 29 (hp 84 (hp 60 40))) 60 41 ((hp 60 41) + y211)) 60 40 ((hp 60 40) + 1)) 60 41 0)) dX11_takeBarrel_239 rfl qf_X11_173 (Or.inl rfl) qb_s60 rfl rfl ?_
              refine qb_cut (L' := [qb_a 60, qb_i (x1 - y211), qb_i y216, none, none, none, none]) [true, true, true, false, false, false, false] rfl ?_
              exact k324 _ (if_pos c728).symm
          refine qb_fne (tgt := 171) (pc' := 167) dX11_takeBarrel_164 rfl rfl (fun c727 => ?_) (fun c727 => ?_)
          · refine qb_iconst (pc' := 172) dX11_takeBarrel_171 rfl rfl ?_
            refine qb_cut (L' := [qb_a 60, qb_i x1, qb_i x2, qb_i y209, none, qb_i y211, none]) [true, true, true, true, false, true, false] rfl ?_
            exact k323 _ (if_neg c727).symm
          · refine qb_iconst (pc' := 168) dX11_takeBarrel_167 rfl rfl ?_
            refine qb_goto (tgt := 172) dX11_takeBarrel_168 rfl ?_
            refine qb_cut (L' := [qb_a 60, qb_i x1, qb_i x2, qb_i y209, none, qb_i y211, none]) [true, true, true, true, false, true, false] rfl ?_
            exact k323 _ (if_pos c727).symm
        refine qb_cge (tgt := 147) (pc' := 133) dX11_takeBarrel_130 rfl rfl (fun c726 => ?_) (fun c726 => ?_)
        · refine qb_aloadn (pc' := 148) (i := 0) dX11_takeBarrel_147 rfl rfl rfl ?_
          refine qb_geti (pc' := 151) (v := (hp 60 31)) dX11_takeBarrel_148 rfl qf_X11_127 qb_s60 rfl (qb_rdl (by decide) rfl) ?_
          refine qb_cut (L' := [qb_a 60, qb_i x1, qb_i x2, qb_i y209, none, qb_i y211, none]) [true, true, true, true, false, true, false] rfl ?_
          exact k322 _ (if_pos c726).symm
        · refine qb_aloadn (pc' := 134) (i := 0) dX11_takeBarrel_133 rfl rfl rfl ?_
          refine qb_geta (pc' := 137) dX11_takeBarrel_134 rfl qf_X11_31 qb_s60 rfl ?_
          refine qb_bipush (pc' := 139) dX11_takeBarrel_137 rfl rfl rfl ?_
          refine qb_iloadn (pc' := 140) (i := 3) dX11_takeBarrel_139 rfl rfl rfl ?_
          refine qb_imul (pc' := 141) dX11_takeBarrel_140 rfl g1388 ?_
          refine qb_iconst (pc' := 142) dX11_takeBarrel_141 rfl rfl ?_
          refine qb_iadd (pc' := 143) dX11_takeBarrel_142 rfl g1392 ?_
          refine qb_iald (pc' := 144) (v := (hp 68 ((7 * y209) + 4))) dX11_takeBarrel_143 rfl qb_s68 g1393.1 g1393.2 (qb_rdn rfl rfl) ?_
          refine qb_goto (tgt := 151) dX11_takeBarrel_144 rfl ?_
          refine qb_cut (L' := [qb_a 60, qb_i x1, qb_i x2, qb_i y209, none, qb_i y211, none]) [true, true, true, true, false, true, false] rfl ?_
          exact k322 _ (if_neg c726).symm
      refine qb_cle (tgt := 107) (pc' := 102) dX11_takeBarrel_99 rfl rfl (fun c725 => ?_) (fun c725 => ?_)
      · refine qb_aloadn (pc' := 108) (i := 0) dX11_takeBarrel_107 rfl rfl rfl ?_
        refine qb_geti (pc' := 111) (v := (hp 60 30)) dX11_takeBarrel_108 rfl qf_X11_120 qb_s60 rfl rfl ?_
        refine qb_cut (L' := [qb_a 60, qb_i x1, qb_i x2, qb_i y209, none, qb_i y211, none]) [true, true, true, true, false, true, false] rfl ?_
        exact k321 _ (if_pos c725).symm
      · refine qb_iload (pc' := 104) dX11_takeBarrel_102 rfl rfl ?_
        refine qb_goto (tgt := 111) dX11_takeBarrel_104 rfl ?_
        refine qb_cut (L' := [qb_a 60, qb_i x1, qb_i x2, qb_i y209, none, qb_i y211, none]) [true, true, true, true, false, true, false] rfl ?_
        exact k321 _ (if_neg c725).symm
    refine qb_cge (tgt := 66) (pc' := 61) dX11_takeBarrel_58 rfl rfl (fun c724 => ?_) (fun c724 => ?_)
    · refine qb_iloadn (pc' := 67) (i := 1) dX11_takeBarrel_66 rfl rfl rfl ?_
      refine qb_cut (L' := [qb_a 60, qb_i x1, qb_i x2, qb_i y209, none, none, none]) [true, true, true, true, false, false, false] rfl ?_
      exact k320 _ (if_pos c724).symm
    · refine qb_iload (pc' := 63) dX11_takeBarrel_61 rfl rfl ?_
      refine qb_goto (tgt := 67) dX11_takeBarrel_63 rfl ?_
      refine qb_cut (L' := [qb_a 60, qb_i x1, qb_i x2, qb_i y209, none, none, none]) [true, true, true, true, false, false, false] rfl ?_
      exact k320 _ (if_neg c724).symm
def c_m_actOn (x1 : Int) (hp : qb_H) (K : Int → qb_H → Prop) : Prop := qb_R mX11_actOn 0 0 qb_sh 0 [qb_a 60, qb_i x1, none, none] [] hp (qb_I qb_sh K)
def r_m_actOn_5 (x1 : Int) (x2 : Int) (x3 : Int) (hp : qb_H) (K : Int → qb_H → Prop) : Prop := qb_R mX11_actOn 0 0 qb_sh 5 [qb_a 60, qb_i x1, qb_i x2, qb_i x3] [] hp (qb_I qb_sh K)
theorem b_m_actOn {x1 : Int} {hp : qb_H} {K : Int → qb_H → Prop} (h : r_m_actOn_5 x1 (-6) 0 hp K) : c_m_actOn x1 hp K := by
  unfold c_m_actOn
  refine qb_bipush (pc' := 2) dX11_actOn_0 rfl rfl rfl ?_
  refine qb_istoren (pc' := 3) (i := 2) (L' := [qb_a 60, qb_i x1, qb_i (-6), none]) dX11_actOn_2 rfl rfl (Nat.le_of_ble_eq_true rfl) rfl rfl ?_
  refine qb_iconst (pc' := 4) dX11_actOn_3 rfl rfl ?_
  refine qb_istoren (pc' := 5) (i := 3) (L' := [qb_a 60, qb_i x1, qb_i (-6), qb_i 0]) dX11_actOn_4 rfl rfl (Nat.le_of_ble_eq_true rfl) rfl rfl ?_
  refine qb_cut (L' := [qb_a 60, qb_i x1, qb_i (-6), qb_i 0]) [true, true, true, true] rfl ?_
  exact h
theorem b_m_actOn_5 {x1 x2 x3 : Int} {hp : qb_H} {K : Int → qb_H → Prop} (h : ((hp 60 2) ≤ x3 → K x2 hp) ∧ (¬ (hp 60 2) ≤ x3 → (0 ≤ x3 ∧ x3 < 8) ∧ (¬ x1 < (hp 62 x3) → (¬ x2 < 0 → 0 ≤ x2 ∧ x2 < 8)) ∧ (∀ (y219 : Int), y219 = (if x1 < (hp 62 x3) then x2 else (if x2 < 0 then x3 else (if (hp 62 x3) < (hp 62 x2) then x2 else x3))) → r_m_actOn_5 x1 y219 (x3 + 1) hp K))) : r_m_actOn_5 x1 x2 x3 hp K := by
  unfold r_m_actOn_5
  refine qb_iloadn (pc' := 6) (i := 3) dX11_actOn_5 rfl rfl rfl ?_
  refine qb_aloadn (pc' := 7) (i := 0) dX11_actOn_6 rfl rfl rfl ?_
  refine qb_geti (pc' := 10) (v := (hp 60 2)) dX11_actOn_7 rfl qf_X11_113 qb_s60 rfl rfl ?_
  refine qb_cge (tgt := 54) (pc' := 13) dX11_actOn_10 rfl rfl (fun c729 => ?_) (fun c729 => ?_)
  · have h := h.1 c729
    refine qb_iloadn (pc' := 55) (i := 2) dX11_actOn_54 rfl rfl rfl ?_
    exact qb_reti dX11_actOn_55 rfl h
  · have h := h.2 c729
    refine qb_aloadn (pc' := 14) (i := 0) dX11_actOn_13 rfl rfl rfl ?_
    refine qb_geta (pc' := 17) dX11_actOn_14 rfl qf_X11_13 qb_s60 rfl ?_
    refine qb_iloadn (pc' := 18) (i := 3) dX11_actOn_17 rfl rfl rfl ?_
    obtain ⟨g1398, h⟩ := h
    refine qb_iald (pc' := 19) (v := (hp 62 x3)) dX11_actOn_18 rfl qb_s62 g1398.1 g1398.2 rfl ?_
    refine qb_iloadn (pc' := 20) (i := 1) dX11_actOn_19 rfl rfl rfl ?_
    obtain ⟨gb, h⟩ := h
    have k328 : ∀ (y219 : Int), y219 = (if x1 < (hp 62 x3) then x2 else (if x2 < 0 then x3 else (if (hp 62 x3) < (hp 62 x2) then x2 else x3))) → qb_R mX11_actOn 0 0 qb_sh 47 [qb_a 60, qb_i x1, none, qb_i x3] [.inl y219] hp (qb_I qb_sh K) := by
      intro y219 ey219
      have h := h y219 ey219
      refine qb_istoren (pc' := 48) (i := 2) (L' := [qb_a 60, qb_i x1, qb_i y219, qb_i x3]) dX11_actOn_47 rfl rfl (Nat.le_of_ble_eq_true rfl) rfl rfl ?_
      refine qb_iinc (pc' := 51) (L' := [qb_a 60, qb_i x1, qb_i y219, qb_i (x3 + 1)]) dX11_actOn_48 rfl rfl (qb_ina g1398 (by decide)) (Nat.le_of_ble_eq_true rfl) rfl rfl ?_
      refine qb_goto (tgt := 5) dX11_actOn_51 rfl ?_
      refine qb_cut (L' := [qb_a 60, qb_i x1, qb_i y219, qb_i (x3 + 1)]) [true, true, true, true] rfl ?_
      exact h
    refine qb_cgt (tgt := 46) (pc' := 23) dX11_actOn_20 rfl rfl (fun c730 => ?_) (fun c730 => ?_)
    · refine qb_iloadn (pc' := 47) (i := 2) dX11_actOn_46 rfl rfl rfl ?_
      refine qb_cut (L' := [qb_a 60, qb_i x1, none, qb_i x3]) [true, true, false, true] rfl ?_
      exact k328 _ (if_pos c730).symm
    · have h := gb c730
      refine qb_iloadn (pc' := 24) (i := 2) dX11_actOn_23 rfl rfl rfl ?_
      have gb := h
      have k330 : qb_R mX11_actOn 0 0 qb_sh 47 [qb_a 60, qb_i x1, none, qb_i x3] [.inl (if x2 < 0 then x3 else (if (hp 62 x3) < (hp 62 x2) then x2 else x3))] hp (qb_I qb_sh K) := by
        refine qb_cut (L' := [qb_a 60, qb_i x1, none, qb_i x3]) [true, true, false, true] rfl ?_
        exact k328 _ (if_neg c730).symm
      refine qb_flt (tgt := 42) (pc' := 27) dX11_actOn_24 rfl rfl (fun c734 => ?_) (fun c734 => ?_)
      · refine qb_iloadn (pc' := 43) (i := 3) dX11_actOn_42 rfl rfl rfl ?_
        refine qb_goto (tgt := 47) dX11_actOn_43 rfl ?_
        refine qb_cut (L' := [qb_a 60, qb_i x1, none, qb_i x3]) [true, true, false, true] rfl ?_
        simpa only [if_pos c734] using k330
      · have h := gb c734
        refine qb_aloadn (pc' := 28) (i := 0) dX11_actOn_27 rfl rfl rfl ?_
        refine qb_geta (pc' := 31) dX11_actOn_28 rfl qf_X11_13 qb_s60 rfl ?_
        refine qb_iloadn (pc' := 32) (i := 3) dX11_actOn_31 rfl rfl rfl ?_
        refine qb_iald (pc' := 33) (v := (hp 62 x3)) dX11_actOn_32 rfl qb_s62 g1398.1 g1398.2 rfl ?_
        refine qb_aloadn (pc' := 34) (i := 0) dX11_actOn_33 rfl rfl rfl ?_
        refine qb_geta (pc' := 37) dX11_actOn_34 rfl qf_X11_13 qb_s60 rfl ?_
        refine qb_iloadn (pc' := 38) (i := 2) dX11_actOn_37 rfl rfl rfl ?_
        have g1402 := h
        refine qb_iald (pc' := 39) (v := (hp 62 x2)) dX11_actOn_38 rfl qb_s62 g1402.1 g1402.2 rfl ?_
        have k331 : qb_R mX11_actOn 0 0 qb_sh 47 [qb_a 60, qb_i x1, none, qb_i x3] [.inl (if (hp 62 x3) < (hp 62 x2) then x2 else x3)] hp (qb_I qb_sh K) := by
          refine qb_cut (L' := [qb_a 60, qb_i x1, none, qb_i x3]) [true, true, false, true] rfl ?_
          simpa only [if_neg c734] using k330
        refine qb_clt (tgt := 46) (pc' := 42) dX11_actOn_39 rfl rfl (fun c736 => ?_) (fun c736 => ?_)
        · refine qb_iloadn (pc' := 47) (i := 2) dX11_actOn_46 rfl rfl rfl ?_
          refine qb_cut (L' := [qb_a 60, qb_i x1, none, qb_i x3]) [true, true, false, true] rfl ?_
          simpa only [if_pos c736] using k331
        · refine qb_iloadn (pc' := 43) (i := 3) dX11_actOn_42 rfl rfl rfl ?_
          refine qb_goto (tgt := 47) dX11_actOn_43 rfl ?_
          refine qb_cut (L' := [qb_a 60, qb_i x1, none, qb_i x3]) [true, true, false, true] rfl ?_
          simpa only [if_neg c736] using k331
def c_m_isFact (x0 : Int) (hp : qb_H) (K : Int → qb_H → Prop) : Prop := qb_R mX11_isFact 0 0 qb_sh 0 [qb_i x0] [] hp (qb_I qb_sh K)
theorem b_m_isFact {x0 : Int} {hp : qb_H} {K : Int → qb_H → Prop} (h : K (if x0 = 104 then (1 : Int) else (if x0 = 116 then (1 : Int) else (if x0 = 115 then (1 : Int) else (if x0 = 122 then (1 : Int) else (if x0 = 113 then (1 : Int) else 0))))) hp) : c_m_isFact x0 hp K := by
  unfold c_m_isFact
  refine qb_iloadn (pc' := 1) (i := 0) dX11_isFact_0 rfl rfl rfl ?_
  refine qb_bipush (pc' := 3) dX11_isFact_1 rfl rfl rfl ?_
  have k380 : qb_R mX11_isFact 0 0 qb_sh 35 [none] [.inl (if x0 = 104 then (1 : Int) else (if x0 = 116 then (1 : Int) else (if x0 = 115 then (1 : Int) else (if x0 = 122 then (1 : Int) else (if x0 = 113 then (1 : Int) else 0)))))] hp (qb_I qb_sh K) := by
    exact qb_retz dX11_isFact_35 rfl (by (repeat' split) <;> first | exact Or.inl rfl | exact Or.inr rfl) h
  refine qb_ceq (tgt := 30) (pc' := 6) dX11_isFact_3 rfl rfl (fun c773 => ?_) (fun c773 => ?_)
  · refine qb_iconst (pc' := 31) dX11_isFact_30 rfl rfl ?_
    refine qb_goto (tgt := 35) dX11_isFact_31 rfl ?_
    refine qb_cut (L' := [none]) [false] rfl ?_
    simpa only [if_pos c773] using k380
  · refine qb_iloadn (pc' := 7) (i := 0) dX11_isFact_6 rfl rfl rfl ?_
    refine qb_bipush (pc' := 9) dX11_isFact_7 rfl rfl rfl ?_
    have k388 : qb_R mX11_isFact 0 0 qb_sh 35 [none] [.inl (if x0 = 116 then (1 : Int) else (if x0 = 115 then (1 : Int) else (if x0 = 122 then (1 : Int) else (if x0 = 113 then (1 : Int) else 0))))] hp (qb_I qb_sh K) := by
      refine qb_cut (L' := [none]) [false] rfl ?_
      simpa only [if_neg c773] using k380
    refine qb_ceq (tgt := 30) (pc' := 12) dX11_isFact_9 rfl rfl (fun c789 => ?_) (fun c789 => ?_)
    · refine qb_iconst (pc' := 31) dX11_isFact_30 rfl rfl ?_
      refine qb_goto (tgt := 35) dX11_isFact_31 rfl ?_
      refine qb_cut (L' := [none]) [false] rfl ?_
      simpa only [if_pos c789] using k388
    · refine qb_iloadn (pc' := 13) (i := 0) dX11_isFact_12 rfl rfl rfl ?_
      refine qb_bipush (pc' := 15) dX11_isFact_13 rfl rfl rfl ?_
      have k392 : qb_R mX11_isFact 0 0 qb_sh 35 [none] [.inl (if x0 = 115 then (1 : Int) else (if x0 = 122 then (1 : Int) else (if x0 = 113 then (1 : Int) else 0)))] hp (qb_I qb_sh K) := by
        refine qb_cut (L' := [none]) [false] rfl ?_
        simpa only [if_neg c789] using k388
      refine qb_ceq (tgt := 30) (pc' := 18) dX11_isFact_15 rfl rfl (fun c797 => ?_) (fun c797 => ?_)
      · refine qb_iconst (pc' := 31) dX11_isFact_30 rfl rfl ?_
        refine qb_goto (tgt := 35) dX11_isFact_31 rfl ?_
        refine qb_cut (L' := [none]) [false] rfl ?_
        simpa only [if_pos c797] using k392
      · refine qb_iloadn (pc' := 19) (i := 0) dX11_isFact_18 rfl rfl rfl ?_
        refine qb_bipush (pc' := 21) dX11_isFact_19 rfl rfl rfl ?_
        have k394 : qb_R mX11_isFact 0 0 qb_sh 35 [none] [.inl (if x0 = 122 then (1 : Int) else (if x0 = 113 then (1 : Int) else 0))] hp (qb_I qb_sh K) := by
          refine qb_cut (L' := [none]) [false] rfl ?_
          simpa only [if_neg c797] using k392
        refine qb_ceq (tgt := 30) (pc' := 24) dX11_isFact_21 rfl rfl (fun c801 => ?_) (fun c801 => ?_)
        · refine qb_iconst (pc' := 31) dX11_isFact_30 rfl rfl ?_
          refine qb_goto (tgt := 35) dX11_isFact_31 rfl ?_
          refine qb_cut (L' := [none]) [false] rfl ?_
          simpa only [if_pos c801] using k394
        · refine qb_iloadn (pc' := 25) (i := 0) dX11_isFact_24 rfl rfl rfl ?_
          refine qb_bipush (pc' := 27) dX11_isFact_25 rfl rfl rfl ?_
          have k395 : qb_R mX11_isFact 0 0 qb_sh 35 [none] [.inl (if x0 = 113 then (1 : Int) else 0)] hp (qb_I qb_sh K) := by
            refine qb_cut (L' := [none]) [false] rfl ?_
            simpa only [if_neg c801] using k394
          refine qb_cne (tgt := 34) (pc' := 30) dX11_isFact_27 rfl rfl (fun c803 => ?_) (fun c803 => ?_)
          · refine qb_iconst (pc' := 35) dX11_isFact_34 rfl rfl ?_
            refine qb_cut (L' := [none]) [false] rfl ?_
            simpa only [if_neg c803] using k395
          · refine qb_iconst (pc' := 31) dX11_isFact_30 rfl rfl ?_
            refine qb_goto (tgt := 35) dX11_isFact_31 rfl ?_
            refine qb_cut (L' := [none]) [false] rfl ?_
            simpa only [if_pos c803] using k395
def v_m_isFact (x0 : Int) : Int := (if x0 = 104 then (1 : Int) else (if x0 = 116 then (1 : Int) else (if x0 = 115 then (1 : Int) else (if x0 = 122 then (1 : Int) else (if x0 = 113 then (1 : Int) else 0)))))
theorem vb_m_isFact (x0 : Int) : v_m_isFact x0 = 0 ∨ v_m_isFact x0 = 1 := by
  unfold v_m_isFact
  (repeat' split) <;> first | exact Or.inl rfl | exact Or.inr rfl
theorem s_m_isFact (x0 : Int) (hp : qb_H) (K : Int → qb_H → Prop) (hg : True) (hK : K (v_m_isFact x0) hp) : c_m_isFact x0 hp K := by
  refine b_m_isFact ?_
  unfold v_m_isFact at hK
  exact hK
def c_m_saltOf (x1 : Int) (x2 : Int) (hp : qb_H) (K : Int → qb_H → Prop) : Prop := qb_R mX11_saltOf 0 0 qb_sh 0 [qb_a 60, qb_i x1, qb_i x2, none, none, none] [] hp (qb_I qb_sh K)
def r_m_saltOf_6 (x1 : Int) (x2 : Int) (x3 : Int) (x4 : Int) (hp : qb_H) (K : Int → qb_H → Prop) : Prop := qb_R mX11_saltOf 0 0 qb_sh 6 [qb_a 60, qb_i x1, qb_i x2, qb_i x3, qb_i x4, none] [] hp (qb_I qb_sh K)
theorem b_m_saltOf {x1 x2 : Int} {hp : qb_H} {K : Int → qb_H → Prop} (h : r_m_saltOf_6 x1 x2 (-6) 0 hp K) : c_m_saltOf x1 x2 hp K := by
  unfold c_m_saltOf
  refine qb_bipush (pc' := 2) dX11_saltOf_0 rfl rfl rfl ?_
  refine qb_istoren (pc' := 3) (i := 3) (L' := [qb_a 60, qb_i x1, qb_i x2, qb_i (-6), none, none]) dX11_saltOf_2 rfl rfl (Nat.le_of_ble_eq_true rfl) rfl rfl ?_
  refine qb_iconst (pc' := 4) dX11_saltOf_3 rfl rfl ?_
  refine qb_istore (pc' := 6) (L' := [qb_a 60, qb_i x1, qb_i x2, qb_i (-6), qb_i 0, none]) dX11_saltOf_4 rfl (Nat.le_of_ble_eq_true rfl) rfl rfl ?_
  refine qb_cut (L' := [qb_a 60, qb_i x1, qb_i x2, qb_i (-6), qb_i 0, none]) [true, true, true, true, true, false] rfl ?_
  exact h
theorem b_m_saltOf_6 {x1 x2 x3 x4 : Int} {hp : qb_H} {K : Int → qb_H → Prop} (h : ((hp 60 11) ≤ x4 → (¬ x3 < 0 → (qb_in (4 * x3)) ∧ (qb_in ((4 * x3) + x2)) ∧ 0 ≤ ((4 * x3) + x2) ∧ ((4 * x3) + x2) < 48) ∧ (∀ (y225 : Int), y225 = (if x3 < 0 then (if x2 = 2 then (0 : Int) else 50) else (hp 69 ((4 * x3) + x2))) → K y225 hp)) ∧ (¬ (hp 60 11) ≤ x4 → (qb_in (4 * x4)) ∧ (0 ≤ (4 * x4) ∧ (4 * x4) < 48) ∧ ((hp 69 (4 * x4)) = x1 → 0 ≤ ((4 * x4) + 1) ∧ ((4 * x4) + 1) < 48) ∧ (∀ (y226 : Int), y226 = (if (hp 69 (4 * x4)) = x1 then (if (hp 60 29) < (hp 69 ((4 * x4) + 1)) then (0 : Int) else 1) else 0) → (¬ y226 = 0 → (¬ x3 < 0 → (0 ≤ ((4 * x4) + 1) ∧ ((4 * x4) + 1) < 48) ∧ (qb_in (4 * x3)) ∧ (qb_in ((4 * x3) + 1)) ∧ 0 ≤ ((4 * x3) + 1) ∧ ((4 * x3) + 1) < 48)) ∧ (∀ (y227 : Int), y227 = (if y226 = 0 then x3 else (if x3 < 0 then x4 else (if (hp 69 ((4 * x4) + 1)) < (hp 69 ((4 * x3) + 1)) then x3 else x4))) → (qb_in (x4 + 1)) ∧ r_m_saltOf_6 x1 x2 y227 (x4 + 1) hp K)))) : r_m_saltOf_6 x1 x2 x3 x4 hp K := by
  unfold r_m_saltOf_6
  refine qb_iload (pc' := 8) dX11_saltOf_6 rfl rfl ?_
  refine qb_aloadn (pc' := 9) (i := 0) dX11_saltOf_8 rfl rfl rfl ?_
  refine qb_geti (pc' := 12) (v := (hp 60 11)) dX11_saltOf_9 rfl qf_X11_164 qb_s60 rfl rfl ?_
  refine qb_cge (tgt := 99) (pc' := 15) dX11_saltOf_12 rfl rfl (fun c810 => ?_) (fun c810 => ?_)
  · have h := h.1 c810
    refine qb_iloadn (pc' := 100) (i := 3) dX11_saltOf_99 rfl rfl rfl ?_
    obtain ⟨gb, h⟩ := h
    have k397 : ∀ (y225 : Int), y225 = (if x3 < 0 then (if x2 = 2 then (0 : Int) else 50) else (hp 69 ((4 * x3) + x2))) → qb_R mX11_saltOf 0 0 qb_sh 127 [none, none, none, none, none, none] [.inl y225] hp (qb_I qb_sh K) := by
      intro y225 ey225
      have h := h y225 ey225
      exact qb_reti dX11_saltOf_127 rfl h
    refine qb_flt (tgt := 116) (pc' := 103) dX11_saltOf_100 rfl rfl (fun c811 => ?_) (fun c811 => ?_)
    · refine qb_iloadn (pc' := 117) (i := 2) dX11_saltOf_116 rfl rfl rfl ?_
      refine qb_iconst (pc' := 118) dX11_saltOf_117 rfl rfl ?_
      have k398 : qb_R mX11_saltOf 0 0 qb_sh 127 [none, none, none, none, none, none] [.inl (if x2 = 2 then (0 : Int) else 50)] hp (qb_I qb_sh K) := by
        refine qb_cut (L' := [none, none, none, none, none, none]) [false, false, false, false, false, false] rfl ?_
        exact k397 _ (if_pos c811).symm
      refine qb_cne (tgt := 125) (pc' := 121) dX11_saltOf_118 rfl rfl (fun c813 => ?_) (fun c813 => ?_)
      · refine qb_bipush (pc' := 127) dX11_saltOf_125 rfl rfl rfl ?_
        refine qb_cut (L' := [none, none, none, none, none, none]) [false, false, false, false, false, false] rfl ?_
        simpa only [if_neg c813] using k398
      · refine qb_iconst (pc' := 122) dX11_saltOf_121 rfl rfl ?_
        refine qb_goto (tgt := 127) dX11_saltOf_122 rfl ?_
        refine qb_cut (L' := [none, none, none, none, none, none]) [false, false, false, false, false, false] rfl ?_
        simpa only [if_pos c813] using k398
    · have h := gb c811
      refine qb_aloadn (pc' := 104) (i := 0) dX11_saltOf_103 rfl rfl rfl ?_
      refine qb_geta (pc' := 107) dX11_saltOf_104 rfl qf_X11_34 qb_s60 rfl ?_
      refine qb_iconst (pc' := 108) dX11_saltOf_107 rfl rfl ?_
      refine qb_iloadn (pc' := 109) (i := 3) dX11_saltOf_108 rfl rfl rfl ?_
      obtain ⟨g1418, h⟩ := h
      refine qb_imul (pc' := 110) dX11_saltOf_109 rfl g1418 ?_
      refine qb_iloadn (pc' := 111) (i := 2) dX11_saltOf_110 rfl rfl rfl ?_
      obtain ⟨g1419, h⟩ := h
      refine qb_iadd (pc' := 112) dX11_saltOf_111 rfl g1419 ?_
      have g1420 := h
      refine qb_iald (pc' := 113) (v := (hp 69 ((4 * x3) + x2))) dX11_saltOf_112 rfl qb_s69 g1420.1 g1420.2 rfl ?_
      refine qb_goto (tgt := 127) dX11_saltOf_113 rfl ?_
      refine qb_cut (L' := [none, none, none, none, none, none]) [false, false, false, false, false, false] rfl ?_
      exact k397 _ (if_neg c811).symm
  · have h := h.2 c810
    refine qb_aloadn (pc' := 16) (i := 0) dX11_saltOf_15 rfl rfl rfl ?_
    refine qb_geta (pc' := 19) dX11_saltOf_16 rfl qf_X11_34 qb_s60 rfl ?_
    refine qb_iconst (pc' := 20) dX11_saltOf_19 rfl rfl ?_
    refine qb_iload (pc' := 22) dX11_saltOf_20 rfl rfl ?_
    obtain ⟨g1421, h⟩ := h
    refine qb_imul (pc' := 23) dX11_saltOf_22 rfl g1421 ?_
    obtain ⟨g1422, h⟩ := h
    refine qb_iald (pc' := 24) (v := (hp 69 (4 * x4))) dX11_saltOf_23 rfl qb_s69 g1422.1 g1422.2 rfl ?_
    refine qb_iloadn (pc' := 25) (i := 1) dX11_saltOf_24 rfl rfl rfl ?_
    obtain ⟨ga, h⟩ := h
    have k400 : ∀ (y226 : Int), y226 = (if (hp 69 (4 * x4)) = x1 then (if (hp 60 29) < (hp 69 ((4 * x4) + 1)) then (0 : Int) else 1) else 0) → qb_R mX11_saltOf 0 0 qb_sh 51 [qb_a 60, qb_i x1, qb_i x2, qb_i x3, qb_i x4, none] [.inl y226] hp (qb_I qb_sh K) := by
      intro y226 ey226
      have h := h y226 ey226
      refine qb_istore (pc' := 53) (L' := [qb_a 60, qb_i x1, qb_i x2, qb_i x3, qb_i x4, qb_i y226]) dX11_saltOf_51 rfl (Nat.le_of_ble_eq_true rfl) rfl rfl ?_
      refine qb_iload (pc' := 55) dX11_saltOf_53 rfl rfl ?_
      obtain ⟨gb, h⟩ := h
      have k405 : ∀ (y227 : Int), y227 = (if y226 = 0 then x3 else (if x3 < 0 then x4 else (if (hp 69 ((4 * x4) + 1)) < (hp 69 ((4 * x3) + 1)) then x3 else x4))) → qb_R mX11_saltOf 0 0 qb_sh 92 [qb_a 60, qb_i x1, qb_i x2, none, qb_i x4, none] [.inl y227] hp (qb_I qb_sh K) := by
        intro y227 ey227
        have h := h y227 ey227
        refine qb_istoren (pc' := 93) (i := 3) (L' := [qb_a 60, qb_i x1, qb_i x2, qb_i y227, qb_i x4, none]) dX11_saltOf_92 rfl rfl (Nat.le_of_ble_eq_true rfl) rfl rfl ?_
        obtain ⟨g1441, h⟩ := h
        refine qb_iinc (pc' := 96) (L' := [qb_a 60, qb_i x1, qb_i x2, qb_i y227, qb_i (x4 + 1), none]) dX11_saltOf_93 rfl rfl g1441 (Nat.le_of_ble_eq_true rfl) rfl rfl ?_
        refine qb_goto (tgt := 6) dX11_saltOf_96 rfl ?_
        refine qb_cut (L' := [qb_a 60, qb_i x1, qb_i x2, qb_i y227, qb_i (x4 + 1), none]) [true, true, true, true, true, false] rfl ?_
        exact h
      refine qb_feq (tgt := 91) (pc' := 58) dX11_saltOf_55 rfl rfl (fun c817 => ?_) (fun c817 => ?_)
      · refine qb_iloadn (pc' := 92) (i := 3) dX11_saltOf_91 rfl rfl rfl ?_
        refine qb_cut (L' := [qb_a 60, qb_i x1, qb_i x2, none, qb_i x4, none]) [true, true, true, false, true, false] rfl ?_
        exact k405 _ (if_pos c817).symm
      · have h := gb c817
        refine qb_iloadn (pc' := 59) (i := 3) dX11_saltOf_58 rfl rfl rfl ?_
        have gb := h
        have k407 : qb_R mX11_saltOf 0 0 qb_sh 92 [qb_a 60, qb_i x1, qb_i x2, none, qb_i x4, none] [.inl (if x3 < 0 then x4 else (if (hp 69 ((4 * x4) + 1)) < (hp 69 ((4 * x3) + 1)) then x3 else x4))] hp (qb_I qb_sh K) := by
          refine qb_cut (L' := [qb_a 60, qb_i x1, qb_i x2, none, qb_i x4, none]) [true, true, true, false, true, false] rfl ?_
          exact k405 _ (if_neg c817).symm
        refine qb_flt (tgt := 86) (pc' := 62) dX11_saltOf_59 rfl rfl (fun c821 => ?_) (fun c821 => ?_)
        · refine qb_iload (pc' := 88) dX11_saltOf_86 rfl rfl ?_
          refine qb_goto (tgt := 92) dX11_saltOf_88 rfl ?_
          refine qb_cut (L' := [qb_a 60, qb_i x1, qb_i x2, none, qb_i x4, none]) [true, true, true, false, true, false] rfl ?_
          simpa only [if_pos c821] using k407
        · have h := gb c821
          refine qb_aloadn (pc' := 63) (i := 0) dX11_saltOf_62 rfl rfl rfl ?_
          refine qb_geta (pc' := 66) dX11_saltOf_63 rfl qf_X11_34 qb_s60 rfl ?_
          refine qb_iconst (pc' := 67) dX11_saltOf_66 rfl rfl ?_
          refine qb_iload (pc' := 69) dX11_saltOf_67 rfl rfl ?_
          refine qb_imul (pc' := 70) dX11_saltOf_69 rfl g1421 ?_
          refine qb_iconst (pc' := 71) dX11_saltOf_70 rfl rfl ?_
          refine qb_iadd (pc' := 72) dX11_saltOf_71 rfl (qb_ina g1422 (by decide)) ?_
          obtain ⟨g1437, h⟩ := h
          refine qb_iald (pc' := 73) (v := (hp 69 ((4 * x4) + 1))) dX11_saltOf_72 rfl qb_s69 g1437.1 g1437.2 rfl ?_
          refine qb_aloadn (pc' := 74) (i := 0) dX11_saltOf_73 rfl rfl rfl ?_
          refine qb_geta (pc' := 77) dX11_saltOf_74 rfl qf_X11_34 qb_s60 rfl ?_
          refine qb_iconst (pc' := 78) dX11_saltOf_77 rfl rfl ?_
          refine qb_iloadn (pc' := 79) (i := 3) dX11_saltOf_78 rfl rfl rfl ?_
          obtain ⟨g1438, h⟩ := h
          refine qb_imul (pc' := 80) dX11_saltOf_79 rfl g1438 ?_
          refine qb_iconst (pc' := 81) dX11_saltOf_80 rfl rfl ?_
          obtain ⟨g1439, h⟩ := h
          refine qb_iadd (pc' := 82) dX11_saltOf_81 rfl g1439 ?_
          have g1440 := h
          refine qb_iald (pc' := 83) (v := (hp 69 ((4 * x3) + 1))) dX11_saltOf_82 rfl qb_s69 g1440.1 g1440.2 rfl ?_
          have k408 : qb_R mX11_saltOf 0 0 qb_sh 92 [qb_a 60, qb_i x1, qb_i x2, none, qb_i x4, none] [.inl (if (hp 69 ((4 * x4) + 1)) < (hp 69 ((4 * x3) + 1)) then x3 else x4)] hp (qb_I qb_sh K) := by
            refine qb_cut (L' := [qb_a 60, qb_i x1, qb_i x2, none, qb_i x4, none]) [true, true, true, false, true, false] rfl ?_
            simpa only [if_neg c821] using k407
          refine qb_clt (tgt := 91) (pc' := 86) dX11_saltOf_83 rfl rfl (fun c823 => ?_) (fun c823 => ?_)
          · refine qb_iloadn (pc' := 92) (i := 3) dX11_saltOf_91 rfl rfl rfl ?_
            refine qb_cut (L' := [qb_a 60, qb_i x1, qb_i x2, none, qb_i x4, none]) [true, true, true, false, true, false] rfl ?_
            simpa only [if_pos c823] using k408
          · refine qb_iload (pc' := 88) dX11_saltOf_86 rfl rfl ?_
            refine qb_goto (tgt := 92) dX11_saltOf_88 rfl ?_
            refine qb_cut (L' := [qb_a 60, qb_i x1, qb_i x2, none, qb_i x4, none]) [true, true, true, false, true, false] rfl ?_
            simpa only [if_neg c823] using k408
    refine qb_cne (tgt := 50) (pc' := 28) dX11_saltOf_25 rfl rfl (fun c814 => ?_) (fun c814 => ?_)
    · refine qb_iconst (pc' := 51) dX11_saltOf_50 rfl rfl ?_
      refine qb_cut (L' := [qb_a 60, qb_i x1, qb_i x2, qb_i x3, qb_i x4, none]) [true, true, true, true, true, false] rfl ?_
      exact k400 _ (if_neg c814).symm
    · have h := ga c814
      refine qb_aloadn (pc' := 29) (i := 0) dX11_saltOf_28 rfl rfl rfl ?_
      refine qb_geta (pc' := 32) dX11_saltOf_29 rfl qf_X11_34 qb_s60 rfl ?_
      refine qb_iconst (pc' := 33) dX11_saltOf_32 rfl rfl ?_
      refine qb_iload (pc' := 35) dX11_saltOf_33 rfl rfl ?_
      refine qb_imul (pc' := 36) dX11_saltOf_35 rfl g1421 ?_
      refine qb_iconst (pc' := 37) dX11_saltOf_36 rfl rfl ?_
      refine qb_iadd (pc' := 38) dX11_saltOf_37 rfl (qb_ina g1422 (by decide)) ?_
      have g1424 := h
      refine qb_iald (pc' := 39) (v := (hp 69 ((4 * x4) + 1))) dX11_saltOf_38 rfl qb_s69 g1424.1 g1424.2 rfl ?_
      refine qb_aloadn (pc' := 40) (i := 0) dX11_saltOf_39 rfl rfl rfl ?_
      refine qb_geti (pc' := 43) (v := (hp 60 29)) dX11_saltOf_40 rfl qf_X11_167 qb_s60 rfl rfl ?_
      have k401 : qb_R mX11_saltOf 0 0 qb_sh 51 [qb_a 60, qb_i x1, qb_i x2, qb_i x3, qb_i x4, none] [.inl (if (hp 60 29) < (hp 69 ((4 * x4) + 1)) then (0 : Int) else 1)] hp (qb_I qb_sh K) := by
        refine qb_cut (L' := [qb_a 60, qb_i x1, qb_i x2, qb_i x3, qb_i x4, none]) [true, true, true, true, true, false] rfl ?_
        exact k400 _ (if_pos c814).symm
      refine qb_cgt (tgt := 50) (pc' := 46) dX11_saltOf_43 rfl rfl (fun c816 => ?_) (fun c816 => ?_)
      · refine qb_iconst (pc' := 51) dX11_saltOf_50 rfl rfl ?_
        refine qb_cut (L' := [qb_a 60, qb_i x1, qb_i x2, qb_i x3, qb_i x4, none]) [true, true, true, true, true, false] rfl ?_
        simpa only [if_pos c816] using k401
      · refine qb_iconst (pc' := 47) dX11_saltOf_46 rfl rfl ?_
        refine qb_goto (tgt := 51) dX11_saltOf_47 rfl ?_
        refine qb_cut (L' := [qb_a 60, qb_i x1, qb_i x2, qb_i x3, qb_i x4, none]) [true, true, true, true, true, false] rfl ?_
        simpa only [if_neg c816] using k401
def c_m_factOf (x1 : Int) (x2 : Int) (hp : qb_H) (K : Int → qb_H → Prop) : Prop := qb_R mX11_factOf 0 0 qb_sh 0 [qb_a 60, qb_i x1, qb_i x2] [] hp (qb_I qb_sh K)
theorem b_m_factOf {x1 x2 : Int} {hp : qb_H} {K : Int → qb_H → Prop} (h : (x2 = 104 → K (hp 60 30) hp) ∧ (¬ x2 = 104 → (x2 = 116 → (0 ≤ (hp 67 1)) ∧ (0 < (hp 67 2)) ∧ K ((hp 67 1) / (hp 67 2)) hp) ∧ (¬ x2 = 116 → (x2 = 115 → c_m_saltOf x1 3 hp (fun v229 hp229 => K v229 hp229)) ∧ (¬ x2 = 115 → (∀ (y230 : Int), y230 = (if x2 = 122 then (hp 60 31) else x1) → K y230 hp))))) : c_m_factOf x1 x2 hp K := by
  unfold c_m_factOf
  refine qb_iloadn (pc' := 1) (i := 2) dX11_factOf_0 rfl rfl rfl ?_
  refine qb_bipush (pc' := 3) dX11_factOf_1 rfl rfl rfl ?_
  refine qb_cne (tgt := 13) (pc' := 6) dX11_factOf_3 rfl rfl (fun c829 => ?_) (fun c829 => ?_)
  · have h := h.2 c829
    refine qb_iloadn (pc' := 14) (i := 2) dX11_factOf_13 rfl rfl rfl ?_
    refine qb_bipush (pc' := 16) dX11_factOf_14 rfl rfl rfl ?_
    refine qb_cne (tgt := 35) (pc' := 19) dX11_factOf_16 rfl rfl (fun c833 => ?_) (fun c833 => ?_)
    · have h := h.2 c833
      refine qb_iloadn (pc' := 36) (i := 2) dX11_factOf_35 rfl rfl rfl ?_
      refine qb_bipush (pc' := 38) dX11_factOf_36 rfl rfl rfl ?_
      refine qb_cne (tgt := 50) (pc' := 41) dX11_factOf_38 rfl rfl (fun c835 => ?_) (fun c835 => ?_)
      · have h := h.2 c835
        refine qb_iloadn (pc' := 51) (i := 2) dX11_factOf_50 rfl rfl rfl ?_
        refine qb_bipush (pc' := 53) dX11_factOf_51 rfl rfl rfl ?_
        have k410 : ∀ (y230 : Int), y230 = (if x2 = 122 then (hp 60 31) else x1) → qb_R mX11_factOf 0 0 qb_sh 64 [none, none, none] [.inl y230] hp (qb_I qb_sh K) := by
          intro y230 ey230
          have h := h y230 ey230
          exact qb_reti dX11_factOf_64 rfl h
        refine qb_cne (tgt := 63) (pc' := 56) dX11_factOf_53 rfl rfl (fun c836 => ?_) (fun c836 => ?_)
        · refine qb_iloadn (pc' := 64) (i := 1) dX11_factOf_63 rfl rfl rfl ?_
          refine qb_cut (L' := [none, none, none]) [false, false, false] rfl ?_
          exact k410 _ (if_neg c836).symm
        · refine qb_aloadn (pc' := 57) (i := 0) dX11_factOf_56 rfl rfl rfl ?_
          refine qb_geti (pc' := 60) (v := (hp 60 31)) dX11_factOf_57 rfl qf_X11_127 qb_s60 rfl rfl ?_
          refine qb_goto (tgt := 64) dX11_factOf_60 rfl ?_
          refine qb_cut (L' := [none, none, none]) [false, false, false] rfl ?_
          exact k410 _ (if_pos c836).symm
      · have h := h.1 c835
        refine qb_aloadn (pc' := 42) (i := 0) dX11_factOf_41 rfl rfl rfl ?_
        refine qb_iloadn (pc' := 43) (i := 1) dX11_factOf_42 rfl rfl rfl ?_
        refine qb_iconst (pc' := 44) dX11_factOf_43 rfl rfl ?_
        refine qb_callVi (pc' := 47) (b := 60) (as := [.inl x1, .inl 3]) (rest := []) dX11_factOf_44 rfl qe_mX11_factOf_mX11_saltOf rfl rfl qb_s60 rfl rfl (Nat.le_of_ble_eq_true rfl) (Nat.le_of_ble_eq_true rfl) ⟨rfl, rfl⟩ h (fun v229 hp229 h => ?_)
        refine qb_goto (tgt := 64) dX11_factOf_47 rfl ?_
        exact qb_reti dX11_factOf_64 rfl h
    · have h := h.1 c833
      refine qb_aloadn (pc' := 20) (i := 0) dX11_factOf_19 rfl rfl rfl ?_
      refine qb_geta (pc' := 23) dX11_factOf_20 rfl qf_X11_28 qb_s60 rfl ?_
      refine qb_iconst (pc' := 24) dX11_factOf_23 rfl rfl ?_
      refine qb_iald (pc' := 25) (v := (hp 67 1)) dX11_factOf_24 rfl qb_s67 (by decide) (by decide) rfl ?_
      refine qb_aloadn (pc' := 26) (i := 0) dX11_factOf_25 rfl rfl rfl ?_
      refine qb_geta (pc' := 29) dX11_factOf_26 rfl qf_X11_28 qb_s60 rfl ?_
      refine qb_iconst (pc' := 30) dX11_factOf_29 rfl rfl ?_
      refine qb_iald (pc' := 31) (v := (hp 67 2)) dX11_factOf_30 rfl qb_s67 (by decide) (by decide) rfl ?_
      obtain ⟨g1454, h⟩ := h
      obtain ⟨g1455, h⟩ := h
      refine qb_idiv (pc' := 32) dX11_factOf_31 rfl g1454 g1455 ?_
      refine qb_goto (tgt := 64) dX11_factOf_32 rfl ?_
      exact qb_reti dX11_factOf_64 rfl h
  · have h := h.1 c829
    refine qb_aloadn (pc' := 7) (i := 0) dX11_factOf_6 rfl rfl rfl ?_
    refine qb_geti (pc' := 10) (v := (hp 60 30)) dX11_factOf_7 rfl qf_X11_120 qb_s60 rfl rfl ?_
    refine qb_goto (tgt := 64) dX11_factOf_10 rfl ?_
    exact qb_reti dX11_factOf_64 rfl h
def c_m_brandOf (x1 : Int) (x2 : Int) (hp : qb_H) (K : Int → qb_H → Prop) : Prop := qb_R mX11_brandOf 0 0 qb_sh 0 [qb_a 60, qb_i x1, qb_i x2, none, none, none, none, none, none, none, none] [] hp (qb_I qb_sh K)
def r_m_brandOf_16 (x1 : Int) (x3 : Int) (x4 : Int) (x5 : Int) (x6 : Int) (hp : qb_H) (K : Int → qb_H → Prop) : Prop := qb_R mX11_brandOf 0 0 qb_sh 16 [qb_a 60, qb_i x1, none, qb_i x3, qb_i x4, qb_i x5, qb_i x6, none, none, none, none] [] hp (qb_I qb_sh K)
def r_m_brandOf_111 (x1 : Int) (x3 : Int) (x4 : Int) (x5 : Int) (x6 : Int) (x7 : Int) (x8 : Int) (x9 : Int) (hp : qb_H) (K : Int → qb_H → Prop) : Prop := qb_R mX11_brandOf 0 0 qb_sh 111 [qb_a 60, qb_i x1, none, qb_i x3, qb_i x4, qb_i x5, qb_i x6, qb_i x7, qb_i x8, qb_i x9, none] [] hp (qb_I qb_sh K)
theorem b_m_brandOf {x1 x2 : Int} {hp : qb_H} {K : Int → qb_H → Prop} (h : c_m_actOn x2 hp (fun v221 hp221 => r_m_brandOf_16 x1 v221 (-6) 0 0 hp221 K)) : c_m_brandOf x1 x2 hp K := by
  unfold c_m_brandOf
  refine qb_aloadn (pc' := 1) (i := 0) dX11_brandOf_0 rfl rfl rfl ?_
  refine qb_iloadn (pc' := 2) (i := 2) dX11_brandOf_1 rfl rfl rfl ?_
  refine qb_callVi (pc' := 5) (b := 60) (as := [.inl x2]) (rest := []) dX11_brandOf_2 rfl qe_mX11_brandOf_mX11_actOn rfl rfl qb_s60 rfl rfl (Nat.le_of_ble_eq_true rfl) (Nat.le_of_ble_eq_true rfl) ⟨rfl, rfl⟩ h (fun v221 hp221 h => ?_)
  refine qb_istoren (pc' := 6) (i := 3) (L' := [qb_a 60, qb_i x1, qb_i x2, qb_i v221, none, none, none, none, none, none, none]) dX11_brandOf_5 rfl rfl (Nat.le_of_ble_eq_true rfl) rfl rfl ?_
  refine qb_bipush (pc' := 8) dX11_brandOf_6 rfl rfl rfl ?_
  refine qb_istore (pc' := 10) (L' := [qb_a 60, qb_i x1, qb_i x2, qb_i v221, qb_i (-6), none, none, none, none, none, none]) dX11_brandOf_8 rfl (Nat.le_of_ble_eq_true rfl) rfl rfl ?_
  refine qb_iconst (pc' := 11) dX11_brandOf_10 rfl rfl ?_
  refine qb_istore (pc' := 13) (L' := [qb_a 60, qb_i x1, qb_i x2, qb_i v221, qb_i (-6), qb_i 0, none, none, none, none, none]) dX11_brandOf_11 rfl (Nat.le_of_ble_eq_true rfl) rfl rfl ?_
  refine qb_iconst (pc' := 14) dX11_brandOf_13 rfl rfl ?_
  refine qb_istore (pc' := 16) (L' := [qb_a 60, qb_i x1, qb_i x2, qb_i v221, qb_i (-6), qb_i 0, qb_i 0, none, none, none, none]) dX11_brandOf_14 rfl (Nat.le_of_ble_eq_true rfl) rfl rfl ?_
  refine qb_cut (L' := [qb_a 60, qb_i x1, none, qb_i v221, qb_i (-6), qb_i 0, qb_i 0, none, none, none, none]) [true, true, false, true, true, true, true, false, false, false, false] rfl ?_
  exact h
theorem b_m_brandOf_16 {x1 x3 x4 x5 x6 : Int} {hp : qb_H} {K : Int → qb_H → Prop} (h : (x3 < 0 → (∀ (y222 : Int), y222 = (if x5 = 0 then ((-6) : Int) else x4) → K y222 hp)) ∧ (¬ x3 < 0 → (0 ≤ x3 ∧ x3 < 8) ∧ (((hp 63 x3) ≤ x6 → (∀ (y223 : Int), y223 = (if x5 = 0 then ((-6) : Int) else x4) → K y223 hp)) ∧ (¬ (hp 63 x3) ≤ x6 → (qb_in (60 * x3)) ∧ (qb_in ((60 * x3) + x6)) ∧ (0 ≤ ((60 * x3) + x6) ∧ ((60 * x3) + x6) < 480) ∧ (∀ (y224 : Int), y224 = (hp 64 ((60 * x3) + x6)) → ((v_m_in y224 65 70) = 0 → ((v_m_isFact y224) = 0 → (qb_in (x6 + 1)) ∧ r_m_brandOf_16 x1 x3 x4 x5 (x6 + 1) hp K) ∧ (¬ (v_m_isFact y224) = 0 → (0 ≤ (((60 * x3) + x6) + 1) ∧ (((60 * x3) + x6) + 1) < 480) ∧ (qb_in (x6 + 2)) ∧ r_m_brandOf_111 x1 x3 x4 x5 (x6 + 2) y224 (hp 64 (((60 * x3) + x6) + 1)) 0 hp K)) ∧ (¬ (v_m_in y224 65 70) = 0 → (x5 = 0 → (qb_in (y224 - 65)) ∧ (qb_in (x6 + 2)) ∧ r_m_brandOf_16 x1 x3 (y224 - 65) 1 (x6 + 2) hp K) ∧ (¬ x5 = 0 → K x4 hp))))))) : r_m_brandOf_16 x1 x3 x4 x5 x6 hp K := by
  unfold r_m_brandOf_16
  refine qb_iloadn (pc' := 17) (i := 3) dX11_brandOf_16 rfl rfl rfl ?_
  refine qb_flt (tgt := 244) (pc' := 20) dX11_brandOf_17 rfl rfl (fun c737 => ?_) (fun c737 => ?_)
  · have h := h.1 c737
    refine qb_iload (pc' := 246) dX11_brandOf_244 rfl rfl ?_
    have k332 : ∀ (y222 : Int), y222 = (if x5 = 0 then ((-6) : Int) else x4) → qb_R mX11_brandOf 0 0 qb_sh 256 [none, none, none, none, none, none, none, none, none, none, none] [.inl y222] hp (qb_I qb_sh K) := by
      intro y222 ey222
      have h := h y222 ey222
      exact qb_reti dX11_brandOf_256 rfl h
    refine qb_feq (tgt := 254) (pc' := 249) dX11_brandOf_246 rfl rfl (fun c738 => ?_) (fun c738 => ?_)
    · refine qb_bipush (pc' := 256) dX11_brandOf_254 rfl rfl rfl ?_
      refine qb_cut (L' := [none, none, none, none, none, none, none, none, none, none, none]) [false, false, false, false, false, false, false, false, false, false, false] rfl ?_
      exact k332 _ (if_pos c738).symm
    · refine qb_iload (pc' := 251) dX11_brandOf_249 rfl rfl ?_
      refine qb_goto (tgt := 256) dX11_brandOf_251 rfl ?_
      refine qb_cut (L' := [none, none, none, none, none, none, none, none, none, none, none]) [false, false, false, false, false, false, false, false, false, false, false] rfl ?_
      exact k332 _ (if_neg c738).symm
  · have h := h.2 c737
    refine qb_iload (pc' := 22) dX11_brandOf_20 rfl rfl ?_
    refine qb_aloadn (pc' := 23) (i := 0) dX11_brandOf_22 rfl rfl rfl ?_
    refine qb_geta (pc' := 26) dX11_brandOf_23 rfl qf_X11_16 qb_s60 rfl ?_
    refine qb_iloadn (pc' := 27) (i := 3) dX11_brandOf_26 rfl rfl rfl ?_
    obtain ⟨g1403, h⟩ := h
    refine qb_iald (pc' := 28) (v := (hp 63 x3)) dX11_brandOf_27 rfl qb_s63 g1403.1 g1403.2 rfl ?_
    refine qb_cge (tgt := 244) (pc' := 31) dX11_brandOf_28 rfl rfl (fun c739 => ?_) (fun c739 => ?_)
    · have h := h.1 c739
      refine qb_iload (pc' := 246) dX11_brandOf_244 rfl rfl ?_
      have k333 : ∀ (y223 : Int), y223 = (if x5 = 0 then ((-6) : Int) else x4) → qb_R mX11_brandOf 0 0 qb_sh 256 [none, none, none, none, none, none, none, none, none, none, none] [.inl y223] hp (qb_I qb_sh K) := by
        intro y223 ey223
        have h := h y223 ey223
        exact qb_reti dX11_brandOf_256 rfl h
      refine qb_feq (tgt := 254) (pc' := 249) dX11_brandOf_246 rfl rfl (fun c740 => ?_) (fun c740 => ?_)
      · refine qb_bipush (pc' := 256) dX11_brandOf_254 rfl rfl rfl ?_
        refine qb_cut (L' := [none, none, none, none, none, none, none, none, none, none, none]) [false, false, false, false, false, false, false, false, false, false, false] rfl ?_
        exact k333 _ (if_pos c740).symm
      · refine qb_iload (pc' := 251) dX11_brandOf_249 rfl rfl ?_
        refine qb_goto (tgt := 256) dX11_brandOf_251 rfl ?_
        refine qb_cut (L' := [none, none, none, none, none, none, none, none, none, none, none]) [false, false, false, false, false, false, false, false, false, false, false] rfl ?_
        exact k333 _ (if_neg c740).symm
    · have h := h.2 c739
      refine qb_aloadn (pc' := 32) (i := 0) dX11_brandOf_31 rfl rfl rfl ?_
      refine qb_geta (pc' := 35) dX11_brandOf_32 rfl qf_X11_19 qb_s60 rfl ?_
      refine qb_bipush (pc' := 37) dX11_brandOf_35 rfl rfl rfl ?_
      refine qb_iloadn (pc' := 38) (i := 3) dX11_brandOf_37 rfl rfl rfl ?_
      obtain ⟨g1404, h⟩ := h
      refine qb_imul (pc' := 39) dX11_brandOf_38 rfl g1404 ?_
      refine qb_iload (pc' := 41) dX11_brandOf_39 rfl rfl ?_
      obtain ⟨g1405, h⟩ := h
      refine qb_iadd (pc' := 42) dX11_brandOf_41 rfl g1405 ?_
      obtain ⟨g1406, h⟩ := h
      refine qb_iald (pc' := 43) (v := (hp 64 ((60 * x3) + x6))) dX11_brandOf_42 rfl qb_s64 g1406.1 g1406.2 rfl ?_
      refine qb_istorey (pc' := 45) (Lf := fun y224 => [qb_a 60, qb_i x1, none, qb_i x3, qb_i x4, qb_i x5, qb_i x6, qb_i y224, none, none, none]) dX11_brandOf_43 rfl (Nat.le_of_ble_eq_true rfl) rfl (fun _ => rfl) (fun y224 ey224 => ?_)
      have h := h y224 ey224
      refine qb_iload (pc' := 47) dX11_brandOf_45 rfl rfl ?_
      refine qb_bipush (pc' := 49) dX11_brandOf_47 rfl rfl rfl ?_
      refine qb_bipush (pc' := 51) dX11_brandOf_49 rfl rfl rfl ?_
      refine qb_callSi (pc' := 54) (as := [.inl y224, .inl 65, .inl 70]) (rest := []) dX11_brandOf_51 rfl qe_mX11_brandOf_mX11_in rfl rfl rfl (Nat.le_of_ble_eq_true rfl) (Nat.le_of_ble_eq_true rfl) ⟨rfl, rfl⟩ (K := fun vz hpz => (v_m_in y224 65 70) = vz ∧ hp = hpz) (s_m_in y224 65 70 hp _ trivial ⟨rfl, rfl⟩) (fun vz hpz ez => ?_)
      obtain ⟨ez1, ez2⟩ := ez
      subst ez1
      subst ez2
      refine qb_feq (tgt := 81) (pc' := 57) dX11_brandOf_54 rfl rfl (fun c741 => ?_) (fun c741 => ?_)
      · have h := h.1 c741
        refine qb_iload (pc' := 83) dX11_brandOf_81 rfl rfl ?_
        refine qb_callSi (pc' := 86) (as := [.inl y224]) (rest := []) dX11_brandOf_83 rfl qe_mX11_brandOf_mX11_isFact rfl rfl rfl (Nat.le_of_ble_eq_true rfl) (Nat.le_of_ble_eq_true rfl) ⟨rfl, rfl⟩ (K := fun vz hpz => (v_m_isFact y224) = vz ∧ hp = hpz) (s_m_isFact y224 hp _ trivial ⟨rfl, rfl⟩) (fun vz hpz ez => ?_)
        obtain ⟨ez1, ez2⟩ := ez
        subst ez1
        subst ez2
        refine qb_feq (tgt := 238) (pc' := 89) dX11_brandOf_86 rfl rfl (fun c804 => ?_) (fun c804 => ?_)
        · have h := h.1 c804
          obtain ⟨g1407, h⟩ := h
          refine qb_iinc (pc' := 241) (L' := [qb_a 60, qb_i x1, none, qb_i x3, qb_i x4, qb_i x5, qb_i (x6 + 1), qb_i y224, none, none, none]) dX11_brandOf_238 rfl rfl g1407 (Nat.le_of_ble_eq_true rfl) rfl rfl ?_
          refine qb_goto (tgt := 16) dX11_brandOf_241 rfl ?_
          refine qb_cut (L' := [qb_a 60, qb_i x1, none, qb_i x3, qb_i x4, qb_i x5, qb_i (x6 + 1), none, none, none, none]) [true, true, false, true, true, true, true, false, false, false, false] rfl ?_
          exact h
        · have h := h.2 c804
          refine qb_aloadn (pc' := 90) (i := 0) dX11_brandOf_89 rfl rfl rfl ?_
          refine qb_geta (pc' := 93) dX11_brandOf_90 rfl qf_X11_19 qb_s60 rfl ?_
          refine qb_bipush (pc' := 95) dX11_brandOf_93 rfl rfl rfl ?_
          refine qb_iloadn (pc' := 96) (i := 3) dX11_brandOf_95 rfl rfl rfl ?_
          refine qb_imul (pc' := 97) dX11_brandOf_96 rfl g1404 ?_
          refine qb_iload (pc' := 99) dX11_brandOf_97 rfl rfl ?_
          refine qb_iadd (pc' := 100) dX11_brandOf_99 rfl g1405 ?_
          refine qb_iconst (pc' := 101) dX11_brandOf_100 rfl rfl ?_
          refine qb_iadd (pc' := 102) dX11_brandOf_101 rfl (qb_ina g1406 (by decide)) ?_
          obtain ⟨g1408, h⟩ := h
          refine qb_iald (pc' := 103) (v := (hp 64 (((60 * x3) + x6) + 1))) dX11_brandOf_102 rfl qb_s64 g1408.1 g1408.2 rfl ?_
          refine qb_istore (pc' := 105) (L' := [qb_a 60, qb_i x1, none, qb_i x3, qb_i x4, qb_i x5, qb_i x6, qb_i y224, qb_i (hp 64 (((60 * x3) + x6) + 1)), none, none]) dX11_brandOf_103 rfl (Nat.le_of_ble_eq_true rfl) rfl rfl ?_
          refine qb_iconst (pc' := 106) dX11_brandOf_105 rfl rfl ?_
          refine qb_istore (pc' := 108) (L' := [qb_a 60, qb_i x1, none, qb_i x3, qb_i x4, qb_i x5, qb_i x6, qb_i y224, qb_i (hp 64 (((60 * x3) + x6) + 1)), qb_i 0, none]) dX11_brandOf_106 rfl (Nat.le_of_ble_eq_true rfl) rfl rfl ?_
          obtain ⟨g1409, h⟩ := h
          refine qb_iinc (pc' := 111) (L' := [qb_a 60, qb_i x1, none, qb_i x3, qb_i x4, qb_i x5, qb_i (x6 + 2), qb_i y224, qb_i (hp 64 (((60 * x3) + x6) + 1)), qb_i 0, none]) dX11_brandOf_108 rfl rfl g1409 (Nat.le_of_ble_eq_true rfl) rfl rfl ?_
          refine qb_cut (L' := [qb_a 60, qb_i x1, none, qb_i x3, qb_i x4, qb_i x5, qb_i (x6 + 2), qb_i y224, qb_i (hp 64 (((60 * x3) + x6) + 1)), qb_i 0, none]) [true, true, false, true, true, true, true, true, true, true, false] rfl ?_
          exact h
      · have h := h.2 c741
        refine qb_iload (pc' := 59) dX11_brandOf_57 rfl rfl ?_
        refine qb_feq (tgt := 65) (pc' := 62) dX11_brandOf_59 rfl rfl (fun c805 => ?_) (fun c805 => ?_)
        · have h := h.1 c805
          refine qb_iload (pc' := 67) dX11_brandOf_65 rfl rfl ?_
          refine qb_bipush (pc' := 69) dX11_brandOf_67 rfl rfl rfl ?_
          obtain ⟨g1410, h⟩ := h
          refine qb_isub (pc' := 70) dX11_brandOf_69 rfl g1410 ?_
          refine qb_istore (pc' := 72) (L' := [qb_a 60, qb_i x1, none, qb_i x3, qb_i (y224 - 65), qb_i x5, qb_i x6, qb_i y224, none, none, none]) dX11_brandOf_70 rfl (Nat.le_of_ble_eq_true rfl) rfl rfl ?_
          refine qb_iconst (pc' := 73) dX11_brandOf_72 rfl rfl ?_
          refine qb_istore (pc' := 75) (L' := [qb_a 60, qb_i x1, none, qb_i x3, qb_i (y224 - 65), qb_i 1, qb_i x6, qb_i y224, none, none, none]) dX11_brandOf_73 rfl (Nat.le_of_ble_eq_true rfl) rfl rfl ?_
          obtain ⟨g1411, h⟩ := h
          refine qb_iinc (pc' := 78) (L' := [qb_a 60, qb_i x1, none, qb_i x3, qb_i (y224 - 65), qb_i 1, qb_i (x6 + 2), qb_i y224, none, none, none]) dX11_brandOf_75 rfl rfl g1411 (Nat.le_of_ble_eq_true rfl) rfl rfl ?_
          refine qb_goto (tgt := 241) dX11_brandOf_78 rfl ?_
          refine qb_goto (tgt := 16) dX11_brandOf_241 rfl ?_
          refine qb_cut (L' := [qb_a 60, qb_i x1, none, qb_i x3, qb_i (y224 - 65), qb_i 1, qb_i (x6 + 2), none, none, none, none]) [true, true, false, true, true, true, true, false, false, false, false] rfl ?_
          exact h
        · have h := h.2 c805
          refine qb_iload (pc' := 64) dX11_brandOf_62 rfl rfl ?_
          exact qb_reti dX11_brandOf_64 rfl h
theorem b_m_brandOf_111 {x1 x3 x4 x5 x6 x7 x8 x9 : Int} {hp : qb_H} {K : Int → qb_H → Prop} (h : (0 ≤ x3 ∧ x3 < 8) ∧ (((hp 63 x3) ≤ x6 → c_m_factOf x1 x7 hp (fun v231 hp231 => r_m_brandOf_16 x1 x3 x4 (if x5 = 0 then (0 : Int) else (if x8 = 60 then (if x9 ≤ v231 then (0 : Int) else 1) else (if x8 = 62 then (if v231 ≤ x9 then (0 : Int) else 1) else (if v231 = x9 then (1 : Int) else 0)))) x6 hp231 K)) ∧ (¬ (hp 63 x3) ≤ x6 → (qb_in (60 * x3)) ∧ (qb_in ((60 * x3) + x6)) ∧ (0 ≤ ((60 * x3) + x6) ∧ ((60 * x3) + x6) < 480) ∧ (((v_m_in (hp 64 ((60 * x3) + x6)) 48 57) = 0 → c_m_factOf x1 x7 hp (fun v232 hp232 => r_m_brandOf_16 x1 x3 x4 (if x5 = 0 then (0 : Int) else (if x8 = 60 then (if x9 ≤ v232 then (0 : Int) else 1) else (if x8 = 62 then (if v232 ≤ x9 then (0 : Int) else 1) else (if v232 = x9 then (1 : Int) else 0)))) x6 hp232 K)) ∧ (¬ (v_m_in (hp 64 ((60 * x3) + x6)) 48 57) = 0 → (qb_in (10 * x9)) ∧ (qb_in ((10 * x9) + (hp 64 ((60 * x3) + x6)))) ∧ (qb_in (((10 * x9) + (hp 64 ((60 * x3) + x6))) - 48)) ∧ (qb_in (x6 + 1)) ∧ r_m_brandOf_111 x1 x3 x4 x5 (x6 + 1) x7 x8 (((10 * x9) + (hp 64 ((60 * x3) + x6))) - 48) hp K))))) : r_m_brandOf_111 x1 x3 x4 x5 x6 x7 x8 x9 hp K := by
  unfold r_m_brandOf_111
  refine qb_iload (pc' := 113) dX11_brandOf_111 rfl rfl ?_
  refine qb_aloadn (pc' := 114) (i := 0) dX11_brandOf_113 rfl rfl rfl ?_
  refine qb_geta (pc' := 117) dX11_brandOf_114 rfl qf_X11_16 qb_s60 rfl ?_
  refine qb_iloadn (pc' := 118) (i := 3) dX11_brandOf_117 rfl rfl rfl ?_
  obtain ⟨g1412, h⟩ := h
  refine qb_iald (pc' := 119) (v := (hp 63 x3)) dX11_brandOf_118 rfl qb_s63 g1412.1 g1412.2 rfl ?_
  refine qb_cge (tgt := 173) (pc' := 122) dX11_brandOf_119 rfl rfl (fun c806 => ?_) (fun c806 => ?_)
  · have h := h.1 c806
    refine qb_aloadn (pc' := 174) (i := 0) dX11_brandOf_173 rfl rfl rfl ?_
    refine qb_iloadn (pc' := 175) (i := 1) dX11_brandOf_174 rfl rfl rfl ?_
    refine qb_iload (pc' := 177) dX11_brandOf_175 rfl rfl ?_
    refine qb_callVi (pc' := 180) (b := 60) (as := [.inl x1, .inl x7]) (rest := []) dX11_brandOf_177 rfl qe_mX11_brandOf_mX11_factOf rfl rfl qb_s60 rfl rfl (Nat.le_of_ble_eq_true rfl) (Nat.le_of_ble_eq_true rfl) ⟨rfl, rfl⟩ h (fun v231 hp231 h => ?_)
    refine qb_istore (pc' := 182) (L' := [qb_a 60, qb_i x1, none, qb_i x3, qb_i x4, qb_i x5, qb_i x6, qb_i x7, qb_i x8, qb_i x9, qb_i v231]) dX11_brandOf_180 rfl (Nat.le_of_ble_eq_true rfl) rfl rfl ?_
    refine qb_iload (pc' := 184) dX11_brandOf_182 rfl rfl ?_
    have k424 : qb_R mX11_brandOf 0 0 qb_sh 233 [qb_a 60, qb_i x1, none, qb_i x3, qb_i x4, none, qb_i x6, none, none, none, none] [.inl (if x5 = 0 then (0 : Int) else (if x8 = 60 then (if x9 ≤ v231 then (0 : Int) else 1) else (if x8 = 62 then (if v231 ≤ x9 then (0 : Int) else 1) else (if v231 = x9 then (1 : Int) else 0))))] hp231 (qb_I qb_sh K) := by
      refine qb_istore (pc' := 235) (L' := [qb_a 60, qb_i x1, none, qb_i x3, qb_i x4, qb_i (if x5 = 0 then (0 : Int) else (if x8 = 60 then (if x9 ≤ v231 then (0 : Int) else 1) else (if x8 = 62 then (if v231 ≤ x9 then (0 : Int) else 1) else (if v231 = x9 then (1 : Int) else 0)))), qb_i x6, none, none, none, none]) dX11_brandOf_233 rfl (Nat.le_of_ble_eq_true rfl) rfl rfl ?_
      refine qb_goto (tgt := 241) dX11_brandOf_235 rfl ?_
      refine qb_goto (tgt := 16) dX11_brandOf_241 rfl ?_
      refine qb_cut (L' := [qb_a 60, qb_i x1, none, qb_i x3, qb_i x4, qb_i (if x5 = 0 then (0 : Int) else (if x8 = 60 then (if x9 ≤ v231 then (0 : Int) else 1) else (if x8 = 62 then (if v231 ≤ x9 then (0 : Int) else 1) else (if v231 = x9 then (1 : Int) else 0)))), qb_i x6, none, none, none, none]) [true, true, false, true, true, true, true, false, false, false, false] rfl ?_
      exact h
    refine qb_feq (tgt := 232) (pc' := 187) dX11_brandOf_184 rfl rfl (fun c837 => ?_) (fun c837 => ?_)
    · refine qb_iconst (pc' := 233) dX11_brandOf_232 rfl rfl ?_
      refine qb_cut (L' := [qb_a 60, qb_i x1, none, qb_i x3, qb_i x4, none, qb_i x6, none, none, none, none]) [true, true, false, true, true, false, true, false, false, false, false] rfl ?_
      simpa only [if_pos c837] using k424
    · refine qb_iload (pc' := 189) dX11_brandOf_187 rfl rfl ?_
      refine qb_bipush (pc' := 191) dX11_brandOf_189 rfl rfl rfl ?_
      have k431 : qb_R mX11_brandOf 0 0 qb_sh 233 [qb_a 60, qb_i x1, none, qb_i x3, qb_i x4, none, qb_i x6, none, none, none, none] [.inl (if x8 = 60 then (if x9 ≤ v231 then (0 : Int) else 1) else (if x8 = 62 then (if v231 ≤ x9 then (0 : Int) else 1) else (if v231 = x9 then (1 : Int) else 0)))] hp231 (qb_I qb_sh K) := by
        refine qb_cut (L' := [qb_a 60, qb_i x1, none, qb_i x3, qb_i x4, none, qb_i x6, none, none, none, none]) [true, true, false, true, true, false, true, false, false, false, false] rfl ?_
        simpa only [if_neg c837] using k424
      refine qb_cne (tgt := 204) (pc' := 194) dX11_brandOf_191 rfl rfl (fun c851 => ?_) (fun c851 => ?_)
      · refine qb_iload (pc' := 206) dX11_brandOf_204 rfl rfl ?_
        refine qb_bipush (pc' := 208) dX11_brandOf_206 rfl rfl rfl ?_
        have k435 : qb_R mX11_brandOf 0 0 qb_sh 233 [qb_a 60, qb_i x1, none, qb_i x3, qb_i x4, none, qb_i x6, none, none, none, none] [.inl (if x8 = 62 then (if v231 ≤ x9 then (0 : Int) else 1) else (if v231 = x9 then (1 : Int) else 0))] hp231 (qb_I qb_sh K) := by
          refine qb_cut (L' := [qb_a 60, qb_i x1, none, qb_i x3, qb_i x4, none, qb_i x6, none, none, none, none]) [true, true, false, true, true, false, true, false, false, false, false] rfl ?_
          simpa only [if_neg c851] using k431
        refine qb_cne (tgt := 221) (pc' := 211) dX11_brandOf_208 rfl rfl (fun c859 => ?_) (fun c859 => ?_)
        · refine qb_iload (pc' := 223) dX11_brandOf_221 rfl rfl ?_
          refine qb_iload (pc' := 225) dX11_brandOf_223 rfl rfl ?_
          have k437 : qb_R mX11_brandOf 0 0 qb_sh 233 [qb_a 60, qb_i x1, none, qb_i x3, qb_i x4, none, qb_i x6, none, none, none, none] [.inl (if v231 = x9 then (1 : Int) else 0)] hp231 (qb_I qb_sh K) := by
            refine qb_cut (L' := [qb_a 60, qb_i x1, none, qb_i x3, qb_i x4, none, qb_i x6, none, none, none, none]) [true, true, false, true, true, false, true, false, false, false, false] rfl ?_
            simpa only [if_neg c859] using k435
          refine qb_cne (tgt := 232) (pc' := 228) dX11_brandOf_225 rfl rfl (fun c863 => ?_) (fun c863 => ?_)
          · refine qb_iconst (pc' := 233) dX11_brandOf_232 rfl rfl ?_
            refine qb_cut (L' := [qb_a 60, qb_i x1, none, qb_i x3, qb_i x4, none, qb_i x6, none, none, none, none]) [true, true, false, true, true, false, true, false, false, false, false] rfl ?_
            simpa only [if_neg c863] using k437
          · refine qb_iconst (pc' := 229) dX11_brandOf_228 rfl rfl ?_
            refine qb_goto (tgt := 233) dX11_brandOf_229 rfl ?_
            refine qb_cut (L' := [qb_a 60, qb_i x1, none, qb_i x3, qb_i x4, none, qb_i x6, none, none, none, none]) [true, true, false, true, true, false, true, false, false, false, false] rfl ?_
            simpa only [if_pos c863] using k437
        · refine qb_iload (pc' := 213) dX11_brandOf_211 rfl rfl ?_
          refine qb_iload (pc' := 215) dX11_brandOf_213 rfl rfl ?_
          have k436 : qb_R mX11_brandOf 0 0 qb_sh 233 [qb_a 60, qb_i x1, none, qb_i x3, qb_i x4, none, qb_i x6, none, none, none, none] [.inl (if v231 ≤ x9 then (0 : Int) else 1)] hp231 (qb_I qb_sh K) := by
            refine qb_cut (L' := [qb_a 60, qb_i x1, none, qb_i x3, qb_i x4, none, qb_i x6, none, none, none, none]) [true, true, false, true, true, false, true, false, false, false, false] rfl ?_
            simpa only [if_pos c859] using k435
          refine qb_cle (tgt := 232) (pc' := 218) dX11_brandOf_215 rfl rfl (fun c862 => ?_) (fun c862 => ?_)
          · refine qb_iconst (pc' := 233) dX11_brandOf_232 rfl rfl ?_
            refine qb_cut (L' := [qb_a 60, qb_i x1, none, qb_i x3, qb_i x4, none, qb_i x6, none, none, none, none]) [true, true, false, true, true, false, true, false, false, false, false] rfl ?_
            simpa only [if_pos c862] using k436
          · refine qb_goto (tgt := 228) dX11_brandOf_218 rfl ?_
            refine qb_iconst (pc' := 229) dX11_brandOf_228 rfl rfl ?_
            refine qb_goto (tgt := 233) dX11_brandOf_229 rfl ?_
            refine qb_cut (L' := [qb_a 60, qb_i x1, none, qb_i x3, qb_i x4, none, qb_i x6, none, none, none, none]) [true, true, false, true, true, false, true, false, false, false, false] rfl ?_
            simpa only [if_neg c862] using k436
      · refine qb_iload (pc' := 196) dX11_brandOf_194 rfl rfl ?_
        refine qb_iload (pc' := 198) dX11_brandOf_196 rfl rfl ?_
        have k432 : qb_R mX11_brandOf 0 0 qb_sh 233 [qb_a 60, qb_i x1, none, qb_i x3, qb_i x4, none, qb_i x6, none, none, none, none] [.inl (if x9 ≤ v231 then (0 : Int) else 1)] hp231 (qb_I qb_sh K) := by
          refine qb_cut (L' := [qb_a 60, qb_i x1, none, qb_i x3, qb_i x4, none, qb_i x6, none, none, none, none]) [true, true, false, true, true, false, true, false, false, false, false] rfl ?_
          simpa only [if_pos c851] using k431
        refine qb_cge (tgt := 232) (pc' := 201) dX11_brandOf_198 rfl rfl (fun c858 => ?_) (fun c858 => ?_)
        · refine qb_iconst (pc' := 233) dX11_brandOf_232 rfl rfl ?_
          refine qb_cut (L' := [qb_a 60, qb_i x1, none, qb_i x3, qb_i x4, none, qb_i x6, none, none, none, none]) [true, true, false, true, true, false, true, false, false, false, false] rfl ?_
          simpa only [if_pos c858] using k432
        · refine qb_goto (tgt := 228) dX11_brandOf_201 rfl ?_
          refine qb_iconst (pc' := 229) dX11_brandOf_228 rfl rfl ?_
          refine qb_goto (tgt := 233) dX11_brandOf_229 rfl ?_
          refine qb_cut (L' := [qb_a 60, qb_i x1, none, qb_i x3, qb_i x4, none, qb_i x6, none, none, none, none]) [true, true, false, true, true, false, true, false, false, false, false] rfl ?_
          simpa only [if_neg c858] using k432
  · have h := h.2 c806
    refine qb_aloadn (pc' := 123) (i := 0) dX11_brandOf_122 rfl rfl rfl ?_
    refine qb_geta (pc' := 126) dX11_brandOf_123 rfl qf_X11_19 qb_s60 rfl ?_
    refine qb_bipush (pc' := 128) dX11_brandOf_126 rfl rfl rfl ?_
    refine qb_iloadn (pc' := 129) (i := 3) dX11_brandOf_128 rfl rfl rfl ?_
    obtain ⟨g1456, h⟩ := h
    refine qb_imul (pc' := 130) dX11_brandOf_129 rfl g1456 ?_
    refine qb_iload (pc' := 132) dX11_brandOf_130 rfl rfl ?_
    obtain ⟨g1457, h⟩ := h
    refine qb_iadd (pc' := 133) dX11_brandOf_132 rfl g1457 ?_
    obtain ⟨g1458, h⟩ := h
    refine qb_iald (pc' := 134) (v := (hp 64 ((60 * x3) + x6))) dX11_brandOf_133 rfl qb_s64 g1458.1 g1458.2 rfl ?_
    refine qb_bipush (pc' := 136) dX11_brandOf_134 rfl rfl rfl ?_
    refine qb_bipush (pc' := 138) dX11_brandOf_136 rfl rfl rfl ?_
    refine qb_callSi (pc' := 141) (as := [.inl (hp 64 ((60 * x3) + x6)), .inl 48, .inl 57]) (rest := []) dX11_brandOf_138 rfl qe_mX11_brandOf_mX11_in rfl rfl rfl (Nat.le_of_ble_eq_true rfl) (Nat.le_of_ble_eq_true rfl) ⟨rfl, rfl⟩ (K := fun vz hpz => (v_m_in (hp 64 ((60 * x3) + x6)) 48 57) = vz ∧ hp = hpz) (s_m_in (hp 64 ((60 * x3) + x6)) 48 57 hp _ trivial ⟨rfl, rfl⟩) (fun vz hpz ez => ?_)
    obtain ⟨ez1, ez2⟩ := ez
    subst ez1
    subst ez2
    refine qb_feq (tgt := 173) (pc' := 144) dX11_brandOf_141 rfl rfl (fun c864 => ?_) (fun c864 => ?_)
    · have h := h.1 c864
      refine qb_aloadn (pc' := 174) (i := 0) dX11_brandOf_173 rfl rfl rfl ?_
      refine qb_iloadn (pc' := 175) (i := 1) dX11_brandOf_174 rfl rfl rfl ?_
      refine qb_iload (pc' := 177) dX11_brandOf_175 rfl rfl ?_
      refine qb_callVi (pc' := 180) (b := 60) (as := [.inl x1, .inl x7]) (rest := []) dX11_brandOf_177 rfl qe_mX11_brandOf_mX11_factOf rfl rfl qb_s60 rfl rfl (Nat.le_of_ble_eq_true rfl) (Nat.le_of_ble_eq_true rfl) ⟨rfl, rfl⟩ h (fun v232 hp232 h => ?_)
      refine qb_istore (pc' := 182) (L' := [qb_a 60, qb_i x1, none, qb_i x3, qb_i x4, qb_i x5, qb_i x6, qb_i x7, qb_i x8, qb_i x9, qb_i v232]) dX11_brandOf_180 rfl (Nat.le_of_ble_eq_true rfl) rfl rfl ?_
      refine qb_iload (pc' := 184) dX11_brandOf_182 rfl rfl ?_
      have k451 : qb_R mX11_brandOf 0 0 qb_sh 233 [qb_a 60, qb_i x1, none, qb_i x3, qb_i x4, none, qb_i x6, none, none, none, none] [.inl (if x5 = 0 then (0 : Int) else (if x8 = 60 then (if x9 ≤ v232 then (0 : Int) else 1) else (if x8 = 62 then (if v232 ≤ x9 then (0 : Int) else 1) else (if v232 = x9 then (1 : Int) else 0))))] hp232 (qb_I qb_sh K) := by
        refine qb_istore (pc' := 235) (L' := [qb_a 60, qb_i x1, none, qb_i x3, qb_i x4, qb_i (if x5 = 0 then (0 : Int) else (if x8 = 60 then (if x9 ≤ v232 then (0 : Int) else 1) else (if x8 = 62 then (if v232 ≤ x9 then (0 : Int) else 1) else (if v232 = x9 then (1 : Int) else 0)))), qb_i x6, none, none, none, none]) dX11_brandOf_233 rfl (Nat.le_of_ble_eq_true rfl) rfl rfl ?_
        refine qb_goto (tgt := 241) dX11_brandOf_235 rfl ?_
        refine qb_goto (tgt := 16) dX11_brandOf_241 rfl ?_
        refine qb_cut (L' := [qb_a 60, qb_i x1, none, qb_i x3, qb_i x4, qb_i (if x5 = 0 then (0 : Int) else (if x8 = 60 then (if x9 ≤ v232 then (0 : Int) else 1) else (if x8 = 62 then (if v232 ≤ x9 then (0 : Int) else 1) else (if v232 = x9 then (1 : Int) else 0)))), qb_i x6, none, none, none, none]) [true, true, false, true, true, true, true, false, false, false, false] rfl ?_
        exact h
      refine qb_feq (tgt := 232) (pc' := 187) dX11_brandOf_184 rfl rfl (fun c865 => ?_) (fun c865 => ?_)
      · refine qb_iconst (pc' := 233) dX11_brandOf_232 rfl rfl ?_
        refine qb_cut (L' := [qb_a 60, qb_i x1, none, qb_i x3, qb_i x4, none, qb_i x6, none, none, none, none]) [true, true, false, true, true, false, true, false, false, false, false] rfl ?_
        simpa only [if_pos c865] using k451
      · refine qb_iload (pc' := 189) dX11_brandOf_187 rfl rfl ?_
        refine qb_bipush (pc' := 191) dX11_brandOf_189 rfl rfl rfl ?_
        have k458 : qb_R mX11_brandOf 0 0 qb_sh 233 [qb_a 60, qb_i x1, none, qb_i x3, qb_i x4, none, qb_i x6, none, none, none, none] [.inl (if x8 = 60 then (if x9 ≤ v232 then (0 : Int) else 1) else (if x8 = 62 then (if v232 ≤ x9 then (0 : Int) else 1) else (if v232 = x9 then (1 : Int) else 0)))] hp232 (qb_I qb_sh K) := by
          refine qb_cut (L' := [qb_a 60, qb_i x1, none, qb_i x3, qb_i x4, none, qb_i x6, none, none, none, none]) [true, true, false, true, true, false, true, false, false, false, false] rfl ?_
          simpa only [if_neg c865] using k451
        refine qb_cne (tgt := 204) (pc' := 194) dX11_brandOf_191 rfl rfl (fun c879 => ?_) (fun c879 => ?_)
        · refine qb_iload (pc' := 206) dX11_brandOf_204 rfl rfl ?_
          refine qb_bipush (pc' := 208) dX11_brandOf_206 rfl rfl rfl ?_
          have k462 : qb_R mX11_brandOf 0 0 qb_sh 233 [qb_a 60, qb_i x1, none, qb_i x3, qb_i x4, none, qb_i x6, none, none, none, none] [.inl (if x8 = 62 then (if v232 ≤ x9 then (0 : Int) else 1) else (if v232 = x9 then (1 : Int) else 0))] hp232 (qb_I qb_sh K) := by
            refine qb_cut (L' := [qb_a 60, qb_i x1, none, qb_i x3, qb_i x4, none, qb_i x6, none, none, none, none]) [true, true, false, true, true, false, true, false, false, false, false] rfl ?_
            simpa only [if_neg c879] using k458
          refine qb_cne (tgt := 221) (pc' := 211) dX11_brandOf_208 rfl rfl (fun c887 => ?_) (fun c887 => ?_)
          · refine qb_iload (pc' := 223) dX11_brandOf_221 rfl rfl ?_
            refine qb_iload (pc' := 225) dX11_brandOf_223 rfl rfl ?_
            have k464 : qb_R mX11_brandOf 0 0 qb_sh 233 [qb_a 60, qb_i x1, none, qb_i x3, qb_i x4, none, qb_i x6, none, none, none, none] [.inl (if v232 = x9 then (1 : Int) else 0)] hp232 (qb_I qb_sh K) := by
              refine qb_cut (L' := [qb_a 60, qb_i x1, none, qb_i x3, qb_i x4, none, qb_i x6, none, none, none, none]) [true, true, false, true, true, false, true, false, false, false, false] rfl ?_
              simpa only [if_neg c887] using k462
            refine qb_cne (tgt := 232) (pc' := 228) dX11_brandOf_225 rfl rfl (fun c891 => ?_) (fun c891 => ?_)
            · refine qb_iconst (pc' := 233) dX11_brandOf_232 rfl rfl ?_
              refine qb_cut (L' := [qb_a 60, qb_i x1, none, qb_i x3, qb_i x4, none, qb_i x6, none, none, none, none]) [true, true, false, true, true, false, true, false, false, false, false] rfl ?_
              simpa only [if_neg c891] using k464
            · refine qb_iconst (pc' := 229) dX11_brandOf_228 rfl rfl ?_
              refine qb_goto (tgt := 233) dX11_brandOf_229 rfl ?_
              refine qb_cut (L' := [qb_a 60, qb_i x1, none, qb_i x3, qb_i x4, none, qb_i x6, none, none, none, none]) [true, true, false, true, true, false, true, false, false, false, false] rfl ?_
              simpa only [if_pos c891] using k464
          · refine qb_iload (pc' := 213) dX11_brandOf_211 rfl rfl ?_
            refine qb_iload (pc' := 215) dX11_brandOf_213 rfl rfl ?_
            have k463 : qb_R mX11_brandOf 0 0 qb_sh 233 [qb_a 60, qb_i x1, none, qb_i x3, qb_i x4, none, qb_i x6, none, none, none, none] [.inl (if v232 ≤ x9 then (0 : Int) else 1)] hp232 (qb_I qb_sh K) := by
              refine qb_cut (L' := [qb_a 60, qb_i x1, none, qb_i x3, qb_i x4, none, qb_i x6, none, none, none, none]) [true, true, false, true, true, false, true, false, false, false, false] rfl ?_
              simpa only [if_pos c887] using k462
            refine qb_cle (tgt := 232) (pc' := 218) dX11_brandOf_215 rfl rfl (fun c890 => ?_) (fun c890 => ?_)
            · refine qb_iconst (pc' := 233) dX11_brandOf_232 rfl rfl ?_
              refine qb_cut (L' := [qb_a 60, qb_i x1, none, qb_i x3, qb_i x4, none, qb_i x6, none, none, none, none]) [true, true, false, true, true, false, true, false, false, false, false] rfl ?_
              simpa only [if_pos c890] using k463
            · refine qb_goto (tgt := 228) dX11_brandOf_218 rfl ?_
              refine qb_iconst (pc' := 229) dX11_brandOf_228 rfl rfl ?_
              refine qb_goto (tgt := 233) dX11_brandOf_229 rfl ?_
              refine qb_cut (L' := [qb_a 60, qb_i x1, none, qb_i x3, qb_i x4, none, qb_i x6, none, none, none, none]) [true, true, false, true, true, false, true, false, false, false, false] rfl ?_
              simpa only [if_neg c890] using k463
        · refine qb_iload (pc' := 196) dX11_brandOf_194 rfl rfl ?_
          refine qb_iload (pc' := 198) dX11_brandOf_196 rfl rfl ?_
          have k459 : qb_R mX11_brandOf 0 0 qb_sh 233 [qb_a 60, qb_i x1, none, qb_i x3, qb_i x4, none, qb_i x6, none, none, none, none] [.inl (if x9 ≤ v232 then (0 : Int) else 1)] hp232 (qb_I qb_sh K) := by
            refine qb_cut (L' := [qb_a 60, qb_i x1, none, qb_i x3, qb_i x4, none, qb_i x6, none, none, none, none]) [true, true, false, true, true, false, true, false, false, false, false] rfl ?_
            simpa only [if_pos c879] using k458
          refine qb_cge (tgt := 232) (pc' := 201) dX11_brandOf_198 rfl rfl (fun c886 => ?_) (fun c886 => ?_)
          · refine qb_iconst (pc' := 233) dX11_brandOf_232 rfl rfl ?_
            refine qb_cut (L' := [qb_a 60, qb_i x1, none, qb_i x3, qb_i x4, none, qb_i x6, none, none, none, none]) [true, true, false, true, true, false, true, false, false, false, false] rfl ?_
            simpa only [if_pos c886] using k459
          · refine qb_goto (tgt := 228) dX11_brandOf_201 rfl ?_
            refine qb_iconst (pc' := 229) dX11_brandOf_228 rfl rfl ?_
            refine qb_goto (tgt := 233) dX11_brandOf_229 rfl ?_
            refine qb_cut (L' := [qb_a 60, qb_i x1, none, qb_i x3, qb_i x4, none, qb_i x6, none, none, none, none]) [true, true, false, true, true, false, true, false, false, false, false] rfl ?_
            simpa only [if_neg c886] using k459
    · have h := h.2 c864
      refine qb_bipush (pc' := 146) dX11_brandOf_144 rfl rfl rfl ?_
      refine qb_iload (pc' := 148) dX11_brandOf_146 rfl rfl ?_
      obtain ⟨g1459, h⟩ := h
      refine qb_imul (pc' := 149) dX11_brandOf_148 rfl g1459 ?_
      refine qb_aloadn (pc' := 150) (i := 0) dX11_brandOf_149 rfl rfl rfl ?_
      refine qb_geta (pc' := 153) dX11_brandOf_150 rfl qf_X11_19 qb_s60 rfl ?_
      refine qb_bipush (pc' := 155) dX11_brandOf_153 rfl rfl rfl ?_
      refine qb_iloadn (pc' := 156) (i := 3) dX11_brandOf_155 rfl rfl rfl ?_
      refine qb_imul (pc' := 157) dX11_brandOf_156 rfl g1456 ?_
      refine qb_iload (pc' := 159) dX11_brandOf_157 rfl rfl ?_
      refine qb_iadd (pc' := 160) dX11_brandOf_159 rfl g1457 ?_
      refine qb_iald (pc' := 161) (v := (hp 64 ((60 * x3) + x6))) dX11_brandOf_160 rfl qb_s64 g1458.1 g1458.2 rfl ?_
      obtain ⟨g1460, h⟩ := h
      refine qb_iadd (pc' := 162) dX11_brandOf_161 rfl g1460 ?_
      refine qb_bipush (pc' := 164) dX11_brandOf_162 rfl rfl rfl ?_
      obtain ⟨g1461, h⟩ := h
      refine qb_isub (pc' := 165) dX11_brandOf_164 rfl g1461 ?_
      refine qb_istore (pc' := 167) (L' := [qb_a 60, qb_i x1, none, qb_i x3, qb_i x4, qb_i x5, qb_i x6, qb_i x7, qb_i x8, qb_i (((10 * x9) + (hp 64 ((60 * x3) + x6))) - 48), none]) dX11_brandOf_165 rfl (Nat.le_of_ble_eq_true rfl) rfl rfl ?_
      obtain ⟨g1462, h⟩ := h
      refine qb_iinc (pc' := 170) (L' := [qb_a 60, qb_i x1, none, qb_i x3, qb_i x4, qb_i x5, qb_i (x6 + 1), qb_i x7, qb_i x8, qb_i (((10 * x9) + (hp 64 ((60 * x3) + x6))) - 48), none]) dX11_brandOf_167 rfl rfl g1462 (Nat.le_of_ble_eq_true rfl) rfl rfl ?_
      refine qb_goto (tgt := 111) dX11_brandOf_170 rfl ?_
      refine qb_cut (L' := [qb_a 60, qb_i x1, none, qb_i x3, qb_i x4, qb_i x5, qb_i (x6 + 1), qb_i x7, qb_i x8, qb_i (((10 * x9) + (hp 64 ((60 * x3) + x6))) - 48), none]) [true, true, false, true, true, true, true, true, true, true, false] rfl ?_
      exact h
def c_m_brandedOf (x1 : Int) (hp : qb_H) (K : Int → qb_H → Prop) : Prop := qb_R mX11_brandedOf 0 0 qb_sh 0 [qb_a 60, qb_i x1, none, none, none] [] hp (qb_I qb_sh K)
def r_m_brandedOf_15 (x1 : Int) (x2 : Int) (x3 : Int) (x4 : Int) (hp : qb_H) (K : Int → qb_H → Prop) : Prop := qb_R mX11_brandedOf 0 0 qb_sh 15 [qb_a 60, qb_i x1, qb_i x2, qb_i x3, qb_i x4] [] hp (qb_I qb_sh K)
theorem b_m_brandedOf {x1 : Int} {hp : qb_H} {K : Int → qb_H → Prop} (h : c_m_beginBarrels x1 hp (fun hp207 => (g_m_barrelsNow hp207) ∧ (∀ (y208 : Int), y208 = (v_m_barrelsNow hp207) → r_m_brandedOf_15 x1 y208 0 0 hp207 K))) : c_m_brandedOf x1 hp K := by
  unfold c_m_brandedOf
  refine qb_aloadn (pc' := 1) (i := 0) dX11_brandedOf_0 rfl rfl rfl ?_
  refine qb_iloadn (pc' := 2) (i := 1) dX11_brandedOf_1 rfl rfl rfl ?_
  refine qb_callVu (pc' := 5) (b := 60) (as := [.inl x1]) (rest := []) dX11_brandedOf_2 rfl qe_mX11_brandedOf_mX11_beginBarrels rfl rfl qb_s60 rfl rfl (Nat.le_of_ble_eq_true rfl) (Nat.le_of_ble_eq_true rfl) ⟨rfl, rfl⟩ h (fun hp207 h => ?_)
  refine qb_aloadn (pc' := 6) (i := 0) dX11_brandedOf_5 rfl rfl rfl ?_
  obtain ⟨g1385, h⟩ := h
  refine qb_callVi (pc' := 9) (b := 60) (as := []) (rest := []) dX11_brandedOf_6 rfl qe_mX11_brandedOf_mX11_barrelsNow rfl rfl qb_s60 rfl rfl (Nat.le_of_ble_eq_true rfl) (Nat.le_of_ble_eq_true rfl) ⟨rfl, rfl⟩ (K := fun vz hpz => (v_m_barrelsNow hp207) = vz ∧ hp207 = hpz) (s_m_barrelsNow  hp207 _ g1385 ⟨rfl, rfl⟩) (fun vz hpz ez => ?_)
  obtain ⟨ez1, ez2⟩ := ez
  subst ez1
  subst ez2
  refine qb_istoreny (pc' := 10) (Lf := fun y208 => [qb_a 60, qb_i x1, qb_i y208, none, none]) dX11_brandedOf_9 rfl rfl (Nat.le_of_ble_eq_true rfl) rfl (fun _ => rfl) (fun y208 ey208 => ?_)
  have h := h y208 ey208
  refine qb_iconst (pc' := 11) dX11_brandedOf_10 rfl rfl ?_
  refine qb_istoren (pc' := 12) (i := 3) (L' := [qb_a 60, qb_i x1, qb_i y208, qb_i 0, none]) dX11_brandedOf_11 rfl rfl (Nat.le_of_ble_eq_true rfl) rfl rfl ?_
  refine qb_iconst (pc' := 13) dX11_brandedOf_12 rfl rfl ?_
  refine qb_istore (pc' := 15) (L' := [qb_a 60, qb_i x1, qb_i y208, qb_i 0, qb_i 0]) dX11_brandedOf_13 rfl (Nat.le_of_ble_eq_true rfl) rfl rfl ?_
  refine qb_cut (L' := [qb_a 60, qb_i x1, qb_i y208, qb_i 0, qb_i 0]) [true, true, true, true, true] rfl ?_
  exact h
theorem b_m_brandedOf_15 {x1 x2 x3 x4 : Int} {hp : qb_H} {K : Int → qb_H → Prop} (h : (x2 ≤ x4 → K x3 hp) ∧ (¬ x2 ≤ x4 → c_m_takeBarrel hp (fun hp218 => (0 ≤ (hp218 60 29)) ∧ c_m_brandOf x1 ((hp218 60 29) / 24) hp218 (fun v233 hp233 => (qb_in (x3 + (if v233 < 0 then (0 : Int) else 1))) ∧ (qb_in (x4 + 1)) ∧ r_m_brandedOf_15 x1 x2 (x3 + (if v233 < 0 then (0 : Int) else 1)) (x4 + 1) hp233 K)))) : r_m_brandedOf_15 x1 x2 x3 x4 hp K := by
  unfold r_m_brandedOf_15
  refine qb_iload (pc' := 17) dX11_brandedOf_15 rfl rfl ?_
  refine qb_iloadn (pc' := 18) (i := 2) dX11_brandedOf_17 rfl rfl rfl ?_
  refine qb_cge (tgt := 54) (pc' := 21) dX11_brandedOf_18 rfl rfl (fun c722 => ?_) (fun c722 => ?_)
  · have h := h.1 c722
    refine qb_iloadn (pc' := 55) (i := 3) dX11_brandedOf_54 rfl rfl rfl ?_
    exact qb_reti dX11_brandedOf_55 rfl h
  · have h := h.2 c722
    refine qb_aloadn (pc' := 22) (i := 0) dX11_brandedOf_21 rfl rfl rfl ?_
    refine qb_callVu (pc' := 25) (b := 60) (as := []) (rest := []) dX11_brandedOf_22 rfl qe_mX11_brandedOf_mX11_takeBarrel rfl rfl qb_s60 rfl rfl (Nat.le_of_ble_eq_true rfl) (Nat.le_of_ble_eq_true rfl) ⟨rfl, rfl⟩ h (fun hp218 h => ?_)
    refine qb_iloadn (pc' := 26) (i := 3) dX11_brandedOf_25 rfl rfl rfl ?_
    refine qb_aloadn (pc' := 27) (i := 0) dX11_brandedOf_26 rfl rfl rfl ?_
    refine qb_iloadn (pc' := 28) (i := 1) dX11_brandedOf_27 rfl rfl rfl ?_
    refine qb_aloadn (pc' := 29) (i := 0) dX11_brandedOf_28 rfl rfl rfl ?_
    refine qb_geti (pc' := 32) (v := (hp218 60 29)) dX11_brandedOf_29 rfl qf_X11_167 qb_s60 rfl rfl ?_
    refine qb_bipush (pc' := 34) dX11_brandedOf_32 rfl rfl rfl ?_
    obtain ⟨g1397, h⟩ := h
    refine qb_idiv (pc' := 35) dX11_brandedOf_34 rfl g1397 (by decide) ?_
    refine qb_callVi (pc' := 38) (b := 60) (as := [.inl x1, .inl ((hp218 60 29) / 24)]) (rest := [.inl x3]) dX11_brandedOf_35 rfl qe_mX11_brandedOf_mX11_brandOf rfl rfl qb_s60 rfl rfl (Nat.le_of_ble_eq_true rfl) (Nat.le_of_ble_eq_true rfl) ⟨rfl, rfl⟩ h (fun v233 hp233 h => ?_)
    have k465 : qb_R mX11_brandedOf 0 0 qb_sh 46 [qb_a 60, qb_i x1, qb_i x2, none, qb_i x4] [.inl (if v233 < 0 then (0 : Int) else 1), .inl x3] hp233 (qb_I qb_sh K) := by
      obtain ⟨g1463, h⟩ := h
      refine qb_iadd (pc' := 47) dX11_brandedOf_46 rfl g1463 ?_
      refine qb_istoren (pc' := 48) (i := 3) (L' := [qb_a 60, qb_i x1, qb_i x2, qb_i (x3 + (if v233 < 0 then (0 : Int) else 1)), qb_i x4]) dX11_brandedOf_47 rfl rfl (Nat.le_of_ble_eq_true rfl) rfl rfl ?_
      obtain ⟨g1464, h⟩ := h
      refine qb_iinc (pc' := 51) (L' := [qb_a 60, qb_i x1, qb_i x2, qb_i (x3 + (if v233 < 0 then (0 : Int) else 1)), qb_i (x4 + 1)]) dX11_brandedOf_48 rfl rfl g1464 (Nat.le_of_ble_eq_true rfl) rfl rfl ?_
      refine qb_goto (tgt := 15) dX11_brandedOf_51 rfl ?_
      refine qb_cut (L' := [qb_a 60, qb_i x1, qb_i x2, qb_i (x3 + (if v233 < 0 then (0 : Int) else 1)), qb_i (x4 + 1)]) [true, true, true, true, true] rfl ?_
      exact h
    refine qb_flt (tgt := 45) (pc' := 41) dX11_brandedOf_38 rfl rfl (fun c892 => ?_) (fun c892 => ?_)
    · refine qb_iconst (pc' := 46) dX11_brandedOf_45 rfl rfl ?_
      refine qb_cut (L' := [qb_a 60, qb_i x1, qb_i x2, none, qb_i x4]) [true, true, true, false, true] rfl ?_
      simpa only [if_pos c892] using k465
    · refine qb_iconst (pc' := 42) dX11_brandedOf_41 rfl rfl ?_
      refine qb_goto (tgt := 46) dX11_brandedOf_42 rfl ?_
      refine qb_cut (L' := [qb_a 60, qb_i x1, qb_i x2, none, qb_i x4]) [true, true, true, false, true] rfl ?_
      simpa only [if_neg c892] using k465
def c_m_freeAt (x1 : Int) (x2 : Int) (hp : qb_H) (K : Int → qb_H → Prop) : Prop := qb_R mX11_freeAt 0 0 qb_sh 0 [qb_a 60, qb_i x1, qb_i x2, none, none, none] [] hp (qb_I qb_sh K)
def r_m_freeAt_6 (x1 : Int) (x2 : Int) (x3 : Int) (x4 : Int) (hp : qb_H) (K : Int → qb_H → Prop) : Prop := qb_R mX11_freeAt 0 0 qb_sh 6 [qb_a 60, qb_i x1, qb_i x2, qb_i x3, qb_i x4, none] [] hp (qb_I qb_sh K)
theorem b_m_freeAt {x1 x2 : Int} {hp : qb_H} {K : Int → qb_H → Prop} (h : r_m_freeAt_6 x1 x2 (-6) 0 hp K) : c_m_freeAt x1 x2 hp K := by
  unfold c_m_freeAt
  refine qb_bipush (pc' := 2) dX11_freeAt_0 rfl rfl rfl ?_
  refine qb_istoren (pc' := 3) (i := 3) (L' := [qb_a 60, qb_i x1, qb_i x2, qb_i (-6), none, none]) dX11_freeAt_2 rfl rfl (Nat.le_of_ble_eq_true rfl) rfl rfl ?_
  refine qb_iconst (pc' := 4) dX11_freeAt_3 rfl rfl ?_
  refine qb_istore (pc' := 6) (L' := [qb_a 60, qb_i x1, qb_i x2, qb_i (-6), qb_i 0, none]) dX11_freeAt_4 rfl (Nat.le_of_ble_eq_true rfl) rfl rfl ?_
  refine qb_cut (L' := [qb_a 60, qb_i x1, qb_i x2, qb_i (-6), qb_i 0, none]) [true, true, true, true, true, false] rfl ?_
  exact h
theorem b_m_freeAt_6 {x1 x2 x3 x4 : Int} {hp : qb_H} {K : Int → qb_H → Prop} (h : ((hp 60 18) ≤ x4 → (0 ≤ x3 → 0 ≤ x3 ∧ x3 < 60) ∧ (∀ (y236 : Int), y236 = (if 0 ≤ x3 then (hp 75 x3) else 10) → K y236 hp)) ∧ (¬ (hp 60 18) ≤ x4 → (0 ≤ x4 ∧ x4 < 60) ∧ (∀ (y237 : Int), y237 = (if x2 < (hp 76 x4) then (0 : Int) else (if x1 < (hp 74 x4) then (0 : Int) else 1)) → (¬ y237 = 0 → (¬ x3 < 0 → 0 ≤ x3 ∧ x3 < 60)) ∧ (∀ (y238 : Int), y238 = (if y237 = 0 then x3 else (if x3 < 0 then x4 else (if (hp 74 x4) < (hp 74 x3) then x3 else x4))) → r_m_freeAt_6 x1 x2 y238 (x4 + 1) hp K)))) : r_m_freeAt_6 x1 x2 x3 x4 hp K := by
  unfold r_m_freeAt_6
  refine qb_iload (pc' := 8) dX11_freeAt_6 rfl rfl ?_
  refine qb_aloadn (pc' := 9) (i := 0) dX11_freeAt_8 rfl rfl rfl ?_
  refine qb_geti (pc' := 12) (v := (hp 60 18)) dX11_freeAt_9 rfl qf_X11_223 qb_s60 rfl rfl ?_
  refine qb_cge (tgt := 82) (pc' := 15) dX11_freeAt_12 rfl rfl (fun c902 => ?_) (fun c902 => ?_)
  · have h := h.1 c902
    refine qb_iloadn (pc' := 83) (i := 3) dX11_freeAt_82 rfl rfl rfl ?_
    obtain ⟨ga, h⟩ := h
    have k468 : ∀ (y236 : Int), y236 = (if 0 ≤ x3 then (hp 75 x3) else 10) → qb_R mX11_freeAt 0 0 qb_sh 97 [none, none, none, none, none, none] [.inl y236] hp (qb_I qb_sh K) := by
      intro y236 ey236
      have h := h y236 ey236
      exact qb_reti dX11_freeAt_97 rfl h
    refine qb_fge (tgt := 91) (pc' := 86) dX11_freeAt_83 rfl rfl (fun c903 => ?_) (fun c903 => ?_)
    · have h := ga c903
      refine qb_aloadn (pc' := 92) (i := 0) dX11_freeAt_91 rfl rfl rfl ?_
      refine qb_geta (pc' := 95) dX11_freeAt_92 rfl qf_X11_52 qb_s60 rfl ?_
      refine qb_iloadn (pc' := 96) (i := 3) dX11_freeAt_95 rfl rfl rfl ?_
      have g1480 := h
      refine qb_iald (pc' := 97) (v := (hp 75 x3)) dX11_freeAt_96 rfl qb_s75 g1480.1 g1480.2 rfl ?_
      refine qb_cut (L' := [none, none, none, none, none, none]) [false, false, false, false, false, false] rfl ?_
      exact k468 _ (if_pos c903).symm
    · refine qb_bipush (pc' := 88) dX11_freeAt_86 rfl rfl rfl ?_
      refine qb_goto (tgt := 97) dX11_freeAt_88 rfl ?_
      refine qb_cut (L' := [none, none, none, none, none, none]) [false, false, false, false, false, false] rfl ?_
      exact k468 _ (if_neg c903).symm
  · have h := h.2 c902
    refine qb_aloadn (pc' := 16) (i := 0) dX11_freeAt_15 rfl rfl rfl ?_
    refine qb_geta (pc' := 19) dX11_freeAt_16 rfl qf_X11_55 qb_s60 rfl ?_
    refine qb_iload (pc' := 21) dX11_freeAt_19 rfl rfl ?_
    obtain ⟨g1481, h⟩ := h
    refine qb_iald (pc' := 22) (v := (hp 76 x4)) dX11_freeAt_21 rfl qb_s76 g1481.1 g1481.2 rfl ?_
    refine qb_iloadn (pc' := 23) (i := 2) dX11_freeAt_22 rfl rfl rfl ?_
    have k470 : ∀ (y237 : Int), y237 = (if x2 < (hp 76 x4) then (0 : Int) else (if x1 < (hp 74 x4) then (0 : Int) else 1)) → qb_R mX11_freeAt 0 0 qb_sh 42 [qb_a 60, qb_i x1, qb_i x2, qb_i x3, qb_i x4, none] [.inl y237] hp (qb_I qb_sh K) := by
      intro y237 ey237
      have h := h y237 ey237
      refine qb_istore (pc' := 44) (L' := [qb_a 60, qb_i x1, qb_i x2, qb_i x3, qb_i x4, qb_i y237]) dX11_freeAt_42 rfl (Nat.le_of_ble_eq_true rfl) rfl rfl ?_
      refine qb_iload (pc' := 46) dX11_freeAt_44 rfl rfl ?_
      obtain ⟨gb, h⟩ := h
      have k475 : ∀ (y238 : Int), y238 = (if y237 = 0 then x3 else (if x3 < 0 then x4 else (if (hp 74 x4) < (hp 74 x3) then x3 else x4))) → qb_R mX11_freeAt 0 0 qb_sh 75 [qb_a 60, qb_i x1, qb_i x2, none, qb_i x4, none] [.inl y238] hp (qb_I qb_sh K) := by
        intro y238 ey238
        have h := h y238 ey238
        refine qb_istoren (pc' := 76) (i := 3) (L' := [qb_a 60, qb_i x1, qb_i x2, qb_i y238, qb_i x4, none]) dX11_freeAt_75 rfl rfl (Nat.le_of_ble_eq_true rfl) rfl rfl ?_
        refine qb_iinc (pc' := 79) (L' := [qb_a 60, qb_i x1, qb_i x2, qb_i y238, qb_i (x4 + 1), none]) dX11_freeAt_76 rfl rfl (qb_ina g1481 (by decide)) (Nat.le_of_ble_eq_true rfl) rfl rfl ?_
        refine qb_goto (tgt := 6) dX11_freeAt_79 rfl ?_
        refine qb_cut (L' := [qb_a 60, qb_i x1, qb_i x2, qb_i y238, qb_i (x4 + 1), none]) [true, true, true, true, true, false] rfl ?_
        exact h
      refine qb_feq (tgt := 74) (pc' := 49) dX11_freeAt_46 rfl rfl (fun c907 => ?_) (fun c907 => ?_)
      · refine qb_iloadn (pc' := 75) (i := 3) dX11_freeAt_74 rfl rfl rfl ?_
        refine qb_cut (L' := [qb_a 60, qb_i x1, qb_i x2, none, qb_i x4, none]) [true, true, true, false, true, false] rfl ?_
        exact k475 _ (if_pos c907).symm
      · have h := gb c907
        refine qb_iloadn (pc' := 50) (i := 3) dX11_freeAt_49 rfl rfl rfl ?_
        have gb := h
        have k477 : qb_R mX11_freeAt 0 0 qb_sh 75 [qb_a 60, qb_i x1, qb_i x2, none, qb_i x4, none] [.inl (if x3 < 0 then x4 else (if (hp 74 x4) < (hp 74 x3) then x3 else x4))] hp (qb_I qb_sh K) := by
          refine qb_cut (L' := [qb_a 60, qb_i x1, qb_i x2, none, qb_i x4, none]) [true, true, true, false, true, false] rfl ?_
          exact k475 _ (if_neg c907).symm
        refine qb_flt (tgt := 69) (pc' := 53) dX11_freeAt_50 rfl rfl (fun c911 => ?_) (fun c911 => ?_)
        · refine qb_iload (pc' := 71) dX11_freeAt_69 rfl rfl ?_
          refine qb_goto (tgt := 75) dX11_freeAt_71 rfl ?_
          refine qb_cut (L' := [qb_a 60, qb_i x1, qb_i x2, none, qb_i x4, none]) [true, true, true, false, true, false] rfl ?_
          simpa only [if_pos c911] using k477
        · have h := gb c911
          refine qb_aloadn (pc' := 54) (i := 0) dX11_freeAt_53 rfl rfl rfl ?_
          refine qb_geta (pc' := 57) dX11_freeAt_54 rfl qf_X11_49 qb_s60 rfl ?_
          refine qb_iload (pc' := 59) dX11_freeAt_57 rfl rfl ?_
          refine qb_iald (pc' := 60) (v := (hp 74 x4)) dX11_freeAt_59 rfl qb_s74 g1481.1 g1481.2 rfl ?_
          refine qb_aloadn (pc' := 61) (i := 0) dX11_freeAt_60 rfl rfl rfl ?_
          refine qb_geta (pc' := 64) dX11_freeAt_61 rfl qf_X11_49 qb_s60 rfl ?_
          refine qb_iloadn (pc' := 65) (i := 3) dX11_freeAt_64 rfl rfl rfl ?_
          have g1485 := h
          refine qb_iald (pc' := 66) (v := (hp 74 x3)) dX11_freeAt_65 rfl qb_s74 g1485.1 g1485.2 rfl ?_
          have k478 : qb_R mX11_freeAt 0 0 qb_sh 75 [qb_a 60, qb_i x1, qb_i x2, none, qb_i x4, none] [.inl (if (hp 74 x4) < (hp 74 x3) then x3 else x4)] hp (qb_I qb_sh K) := by
            refine qb_cut (L' := [qb_a 60, qb_i x1, qb_i x2, none, qb_i x4, none]) [true, true, true, false, true, false] rfl ?_
            simpa only [if_neg c911] using k477
          refine qb_clt (tgt := 74) (pc' := 69) dX11_freeAt_66 rfl rfl (fun c913 => ?_) (fun c913 => ?_)
          · refine qb_iloadn (pc' := 75) (i := 3) dX11_freeAt_74 rfl rfl rfl ?_
            refine qb_cut (L' := [qb_a 60, qb_i x1, qb_i x2, none, qb_i x4, none]) [true, true, true, false, true, false] rfl ?_
            simpa only [if_pos c913] using k478
          · refine qb_iload (pc' := 71) dX11_freeAt_69 rfl rfl ?_
            refine qb_goto (tgt := 75) dX11_freeAt_71 rfl ?_
            refine qb_cut (L' := [qb_a 60, qb_i x1, qb_i x2, none, qb_i x4, none]) [true, true, true, false, true, false] rfl ?_
            simpa only [if_neg c913] using k478
    refine qb_cgt (tgt := 41) (pc' := 26) dX11_freeAt_23 rfl rfl (fun c904 => ?_) (fun c904 => ?_)
    · refine qb_iconst (pc' := 42) dX11_freeAt_41 rfl rfl ?_
      refine qb_cut (L' := [qb_a 60, qb_i x1, qb_i x2, qb_i x3, qb_i x4, none]) [true, true, true, true, true, false] rfl ?_
      exact k470 _ (if_pos c904).symm
    · refine qb_aloadn (pc' := 27) (i := 0) dX11_freeAt_26 rfl rfl rfl ?_
      refine qb_geta (pc' := 30) dX11_freeAt_27 rfl qf_X11_49 qb_s60 rfl ?_
      refine qb_iload (pc' := 32) dX11_freeAt_30 rfl rfl ?_
      refine qb_iald (pc' := 33) (v := (hp 74 x4)) dX11_freeAt_32 rfl qb_s74 g1481.1 g1481.2 rfl ?_
      refine qb_iloadn (pc' := 34) (i := 1) dX11_freeAt_33 rfl rfl rfl ?_
      have k471 : qb_R mX11_freeAt 0 0 qb_sh 42 [qb_a 60, qb_i x1, qb_i x2, qb_i x3, qb_i x4, none] [.inl (if x1 < (hp 74 x4) then (0 : Int) else 1)] hp (qb_I qb_sh K) := by
        refine qb_cut (L' := [qb_a 60, qb_i x1, qb_i x2, qb_i x3, qb_i x4, none]) [true, true, true, true, true, false] rfl ?_
        exact k470 _ (if_neg c904).symm
      refine qb_cgt (tgt := 41) (pc' := 37) dX11_freeAt_34 rfl rfl (fun c906 => ?_) (fun c906 => ?_)
      · refine qb_iconst (pc' := 42) dX11_freeAt_41 rfl rfl ?_
        refine qb_cut (L' := [qb_a 60, qb_i x1, qb_i x2, qb_i x3, qb_i x4, none]) [true, true, true, true, true, false] rfl ?_
        simpa only [if_pos c906] using k471
      · refine qb_iconst (pc' := 38) dX11_freeAt_37 rfl rfl ?_
        refine qb_goto (tgt := 42) dX11_freeAt_38 rfl ?_
        refine qb_cut (L' := [qb_a 60, qb_i x1, qb_i x2, qb_i x3, qb_i x4, none]) [true, true, true, true, true, false] rfl ?_
        simpa only [if_neg c906] using k471
def c_m_layCost (x1 : Int) (x2 : Int) (x3 : Int) (hp : qb_H) (K : qb_H → Prop) : Prop := qb_R mX11_layCost 0 0 qb_sh 0 [qb_a 60, qb_i x1, qb_i x2, qb_i x3, none, none, none, none, none, none] [] hp (qb_U qb_sh K)
def r_m_layCost_47 (x1 : Int) (x2 : Int) (x3 : Int) (x4 : Int) (x5 : Int) (hp : qb_H) (K : qb_H → Prop) : Prop := qb_R mX11_layCost 0 0 qb_sh 47 [qb_a 60, qb_i x1, qb_i x2, qb_i x3, qb_i x4, qb_i x5, none, none, none, none] [] hp (qb_U qb_sh K)
def r_m_layCost_58 (x1 : Int) (x2 : Int) (x3 : Int) (x4 : Int) (x5 : Int) (x6 : Int) (hp : qb_H) (K : qb_H → Prop) : Prop := qb_R mX11_layCost 0 0 qb_sh 58 [qb_a 60, qb_i x1, qb_i x2, qb_i x3, qb_i x4, qb_i x5, qb_i x6, none, none, none] [] hp (qb_U qb_sh K)
theorem b_m_layCost {x1 x2 x3 : Int} {hp : qb_H} {K : qb_H → Prop} (h : (0 ≤ x1 ∧ x1 < 10) ∧ ((hp 71 x1) = x2 → qb_in ((hp 72 x1) * (hp 67 4))) ∧ (∀ (y235 : Int), y235 = (if (hp 71 x1) = x2 then ((hp 72 x1) * (hp 67 4)) else 0) → r_m_layCost_47 x1 x2 x3 y235 0 (qb_st (qb_st (qb_st hp 60 42 0) 60 43 0) 60 44 0) K)) : c_m_layCost x1 x2 x3 hp K := by
  unfold c_m_layCost
  refine qb_aloadn (pc' := 1) (i := 0) dX11_layCost_0 rfl rfl rfl ?_
  refine qb_iconst (pc' := 2) dX11_layCost_1 rfl rfl ?_
  refine qb_puti (pc' := 5) (hp' := (qb_st hp 60 42 0)) dX11_layCost_2 rfl qf_X11_229 (Or.inl rfl) qb_s60 rfl rfl ?_
  refine qb_aloadn (pc' := 6) (i := 0) dX11_layCost_5 rfl rfl rfl ?_
  refine qb_iconst (pc' := 7) dX11_layCost_6 rfl rfl ?_
  refine qb_puti (pc' := 10) (hp' := (qb_st (qb_st hp 60 42 0) 60 43 0)) dX11_layCost_7 rfl qf_X11_232 (Or.inl rfl) qb_s60 rfl rfl ?_
  refine qb_aloadn (pc' := 11) (i := 0) dX11_layCost_10 rfl rfl rfl ?_
  refine qb_iconst (pc' := 12) dX11_layCost_11 rfl rfl ?_
  refine qb_puti (pc' := 15) (hp' := (qb_st (qb_st (qb_st hp 60 42 0) 60 43 0) 60 44 0)) dX11_layCost_12 rfl qf_X11_235 (Or.inl rfl) qb_s60 rfl rfl ?_
  refine qb_aloadn (pc' := 16) (i := 0) dX11_layCost_15 rfl rfl rfl ?_
  refine qb_geta (pc' := 19) dX11_layCost_16 rfl qf_X11_40 qb_s60 rfl ?_
  refine qb_iloadn (pc' := 20) (i := 1) dX11_layCost_19 rfl rfl rfl ?_
  obtain ⟨g1469, h⟩ := h
  refine qb_iald (pc' := 21) (v := (hp 71 x1)) dX11_layCost_20 rfl qb_s71 g1469.1 g1469.2 (qb_rdn rfl (qb_rdn rfl (qb_rdn rfl rfl))) ?_
  refine qb_iloadn (pc' := 22) (i := 2) dX11_layCost_21 rfl rfl rfl ?_
  obtain ⟨ga, h⟩ := h
  have k467 : ∀ (y235 : Int), y235 = (if (hp 71 x1) = x2 then ((hp 72 x1) * (hp 67 4)) else 0) → qb_R mX11_layCost 0 0 qb_sh 42 [qb_a 60, qb_i x1, qb_i x2, qb_i x3, none, none, none, none, none, none] [.inl y235] (qb_st (qb_st (qb_st hp 60 42 0) 60 43 0) 60 44 0) (qb_U qb_sh K) := by
    intro y235 ey235
    have h := h y235 ey235
    refine qb_istore (pc' := 44) (L' := [qb_a 60, qb_i x1, qb_i x2, qb_i x3, qb_i y235, none, none, none, none, none]) dX11_layCost_42 rfl (Nat.le_of_ble_eq_true rfl) rfl rfl ?_
    refine qb_iconst (pc' := 45) dX11_layCost_44 rfl rfl ?_
    refine qb_istore (pc' := 47) (L' := [qb_a 60, qb_i x1, qb_i x2, qb_i x3, qb_i y235, qb_i 0, none, none, none, none]) dX11_layCost_45 rfl (Nat.le_of_ble_eq_true rfl) rfl rfl ?_
    refine qb_cut (L' := [qb_a 60, qb_i x1, qb_i x2, qb_i x3, qb_i y235, qb_i 0, none, none, none, none]) [true, true, true, true, true, true, false, false, false, false] rfl ?_
    exact h
  refine qb_cne (tgt := 41) (pc' := 25) dX11_layCost_22 rfl rfl (fun c896 => ?_) (fun c896 => ?_)
  · refine qb_iconst (pc' := 42) dX11_layCost_41 rfl rfl ?_
    refine qb_cut (L' := [qb_a 60, qb_i x1, qb_i x2, qb_i x3, none, none, none, none, none, none]) [true, true, true, true, false, false, false, false, false, false] rfl ?_
    exact k467 _ (if_neg c896).symm
  · have h := ga c896
    refine qb_aloadn (pc' := 26) (i := 0) dX11_layCost_25 rfl rfl rfl ?_
    refine qb_geta (pc' := 29) dX11_layCost_26 rfl qf_X11_43 qb_s60 rfl ?_
    refine qb_iloadn (pc' := 30) (i := 1) dX11_layCost_29 rfl rfl rfl ?_
    refine qb_iald (pc' := 31) (v := (hp 72 x1)) dX11_layCost_30 rfl qb_s72 g1469.1 g1469.2 (qb_rdn rfl (qb_rdn rfl (qb_rdn rfl rfl))) ?_
    refine qb_aloadn (pc' := 32) (i := 0) dX11_layCost_31 rfl rfl rfl ?_
    refine qb_geta (pc' := 35) dX11_layCost_32 rfl qf_X11_28 qb_s60 rfl ?_
    refine qb_iconst (pc' := 36) dX11_layCost_35 rfl rfl ?_
    refine qb_iald (pc' := 37) (v := (hp 67 4)) dX11_layCost_36 rfl qb_s67 (by decide) (by decide) (qb_rdn rfl (qb_rdn rfl (qb_rdn rfl rfl))) ?_
    have g1471 := h
    refine qb_imul (pc' := 38) dX11_layCost_37 rfl g1471 ?_
    refine qb_goto (tgt := 42) dX11_layCost_38 rfl ?_
    refine qb_cut (L' := [qb_a 60, qb_i x1, qb_i x2, qb_i x3, none, none, none, none, none, none]) [true, true, true, true, false, false, false, false, false, false] rfl ?_
    exact k467 _ (if_pos c896).symm
theorem b_m_layCost_47 {x1 x2 x3 x4 x5 : Int} {hp : qb_H} {K : qb_H → Prop} (h : (2000 < x5 → K hp) ∧ (¬ 2000 < x5 → r_m_layCost_58 x1 x2 x3 x4 x5 0 hp K)) : r_m_layCost_47 x1 x2 x3 x4 x5 hp K := by
  unfold r_m_layCost_47
  refine qb_iload (pc' := 49) dX11_layCost_47 rfl rfl ?_
  refine qb_sipush (pc' := 52) dX11_layCost_49 rfl rfl rfl ?_
  refine qb_cgt (tgt := 248) (pc' := 55) dX11_layCost_52 rfl rfl (fun c897 => ?_) (fun c897 => ?_)
  · have h := h.1 c897
    exact qb_retv dX11_layCost_248 rfl h
  · have h := h.2 c897
    refine qb_iconst (pc' := 56) dX11_layCost_55 rfl rfl ?_
    refine qb_istore (pc' := 58) (L' := [qb_a 60, qb_i x1, qb_i x2, qb_i x3, qb_i x4, qb_i x5, qb_i 0, none, none, none]) dX11_layCost_56 rfl (Nat.le_of_ble_eq_true rfl) rfl rfl ?_
    refine qb_cut (L' := [qb_a 60, qb_i x1, qb_i x2, qb_i x3, qb_i x4, qb_i x5, qb_i 0, none, none, none]) [true, true, true, true, true, true, true, false, false, false] rfl ?_
    exact h
theorem b_m_layCost_58 {x1 x2 x3 x4 x5 x6 : Int} {hp : qb_H} {K : qb_H → Prop} (h : ((hp 60 9) ≤ x6 → (qb_in (x5 + 1)) ∧ r_m_layCost_47 x1 x2 x3 x4 (x5 + 1) hp K) ∧ (¬ (hp 60 9) ≤ x6 → (qb_in (7 * x6)) ∧ (0 ≤ (7 * x6) ∧ (7 * x6) < 210) ∧ (((hp 68 (7 * x6)) = x1 → (0 ≤ ((7 * x6) + 1) ∧ ((7 * x6) + 1) < 210) ∧ (((hp 68 ((7 * x6) + 1)) = x2 → (0 ≤ ((7 * x6) + 2) ∧ ((7 * x6) + 2) < 210) ∧ (((hp 68 ((7 * x6) + 2)) = x5 → (0 ≤ ((7 * x6) + 3) ∧ ((7 * x6) + 3) < 210) ∧ (0 ≤ x5) ∧ c_m_freeAt (x5 / 24) x3 hp (fun v239 hp239 => (qb_in (x4 - (if x4 ≤ (hp 68 ((7 * x6) + 3)) then x4 else (hp 68 ((7 * x6) + 3))))) ∧ (0 ≤ x1 ∧ x1 < 10) ∧ (qb_in ((if x4 ≤ (hp 68 ((7 * x6) + 3)) then x4 else (hp 68 ((7 * x6) + 3))) * (hp239 73 x1))) ∧ (0 ≤ ((if x4 ≤ (hp 68 ((7 * x6) + 3)) then x4 else (hp 68 ((7 * x6) + 3))) * (hp239 73 x1))) ∧ (0 < (hp239 67 4)) ∧ (qb_in ((hp 68 ((7 * x6) + 3)) - (if x4 ≤ (hp 68 ((7 * x6) + 3)) then x4 else (hp 68 ((7 * x6) + 3))))) ∧ (qb_in (((hp 68 ((7 * x6) + 3)) - (if x4 ≤ (hp 68 ((7 * x6) + 3)) then x4 else (hp 68 ((7 * x6) + 3)))) * v239)) ∧ (0 ≤ (((hp 68 ((7 * x6) + 3)) - (if x4 ≤ (hp 68 ((7 * x6) + 3)) then x4 else (hp 68 ((7 * x6) + 3)))) * v239)) ∧ (qb_in ((((if x4 ≤ (hp 68 ((7 * x6) + 3)) then x4 else (hp 68 ((7 * x6) + 3))) * (hp239 73 x1)) / (hp239 67 4)) + ((((hp 68 ((7 * x6) + 3)) - (if x4 ≤ (hp 68 ((7 * x6) + 3)) then x4 else (hp 68 ((7 * x6) + 3)))) * v239) / (hp239 67 4)))) ∧ (qb_in ((hp239 60 42) + ((((if x4 ≤ (hp 68 ((7 * x6) + 3)) then x4 else (hp 68 ((7 * x6) + 3))) * (hp239 73 x1)) / (hp239 67 4)) + ((((hp 68 ((7 * x6) + 3)) - (if x4 ≤ (hp 68 ((7 * x6) + 3)) then x4 else (hp 68 ((7 * x6) + 3)))) * v239) / (hp239 67 4))))) ∧ (qb_in ((hp 68 ((7 * x6) + 3)) * v239)) ∧ (0 ≤ ((hp 68 ((7 * x6) + 3)) * v239)) ∧ (qb_in ((hp239 60 43) + (((hp 68 ((7 * x6) + 3)) * v239) / (hp239 67 4)))) ∧ (qb_in ((hp239 60 44) + (hp 68 ((7 * x6) + 3)))) ∧ (qb_in (x6 + 1)) ∧ r_m_layCost_58 x1 x2 x3 (x4 - (if x4 ≤ (hp 68 ((7 * x6) + 3)) then x4 else (hp 68 ((7 * x6) + 3)))) x5 (x6 + 1) (qb_st (qb_st (qb_st hp239 60 42 ((hp239 60 42) + ((((if x4 ≤ (hp 68 ((7 * x6) + 3)) then x4 else (hp 68 ((7 * x6) + 3))) * (hp239 73 x1)) / (hp239 67 4)) + ((((hp 68 ((7 * x6) + 3)) - (if x4 ≤ (hp 68 ((7 * x6) + 3)) then x4 else (hp 68 ((7 * x6) + 3)))) * v239) / (hp239 67 4))))) 60 43 ((hp239 60 43) + (((hp 68 ((7 * x6) + 3)) * v239) / (hp239 67 4)))) 60 44 ((hp239 60 44) + (hp 68 ((7 * x6) + 3)))) K)) ∧ (¬ (hp 68 ((7 * x6) + 2)) = x5 → (qb_in (x6 + 1)) ∧ r_m_layCost_58 x1 x2 x3 x4 x5 (x6 + 1) hp K))) ∧ (¬ (hp 68 ((7 * x6) + 1)) = x2 → (qb_in (x6 + 1)) ∧ r_m_layCost_58 x1 x2 x3 x4 x5 (x6 + 1) hp K))) ∧ (¬ (hp 68 (7 * x6)) = x1 → (qb_in (x6 + 1)) ∧ r_m_layCost_58 x1 x2 x3 x4 x5 (x6 + 1) hp K)))) : r_m_layCost_58 x1 x2 x3 x4 x5 x6 hp K := by
  unfold r_m_layCost_58
  refine qb_iload (pc' := 60) dX11_layCost_58 rfl rfl ?_
  refine qb_aloadn (pc' := 61) (i := 0) dX11_layCost_60 rfl rfl rfl ?_
  refine qb_geti (pc' := 64) (v := (hp 60 9)) dX11_layCost_61 rfl qf_X11_136 qb_s60 rfl rfl ?_
  refine qb_cge (tgt := 242) (pc' := 67) dX11_layCost_64 rfl rfl (fun c898 => ?_) (fun c898 => ?_)
  · have h := h.1 c898
    obtain ⟨g1472, h⟩ := h
    refine qb_iinc (pc' := 245) (L' := [qb_a 60, qb_i x1, qb_i x2, qb_i x3, qb_i x4, qb_i (x5 + 1), qb_i x6, none, none, none]) dX11_layCost_242 rfl rfl g1472 (Nat.le_of_ble_eq_true rfl) rfl rfl ?_
    refine qb_goto (tgt := 47) dX11_layCost_245 rfl ?_
    refine qb_cut (L' := [qb_a 60, qb_i x1, qb_i x2, qb_i x3, qb_i x4, qb_i (x5 + 1), none, none, none, none]) [true, true, true, true, true, true, false, false, false, false] rfl ?_
    exact h
  · have h := h.2 c898
    refine qb_aloadn (pc' := 68) (i := 0) dX11_layCost_67 rfl rfl rfl ?_
    refine qb_geta (pc' := 71) dX11_layCost_68 rfl qf_X11_31 qb_s60 rfl ?_
    refine qb_bipush (pc' := 73) dX11_layCost_71 rfl rfl rfl ?_
    refine qb_iload (pc' := 75) dX11_layCost_73 rfl rfl ?_
    obtain ⟨g1473, h⟩ := h
    refine qb_imul (pc' := 76) dX11_layCost_75 rfl g1473 ?_
    obtain ⟨g1474, h⟩ := h
    refine qb_iald (pc' := 77) (v := (hp 68 (7 * x6))) dX11_layCost_76 rfl qb_s68 g1474.1 g1474.2 rfl ?_
    refine qb_iloadn (pc' := 78) (i := 1) dX11_layCost_77 rfl rfl rfl ?_
    refine qb_cne (tgt := 236) (pc' := 81) dX11_layCost_78 rfl rfl (fun c899 => ?_) (fun c899 => ?_)
    · have h := h.2 c899
      obtain ⟨g1521, h⟩ := h
      refine qb_iinc (pc' := 239) (L' := [qb_a 60, qb_i x1, qb_i x2, qb_i x3, qb_i x4, qb_i x5, qb_i (x6 + 1), none, none, none]) dX11_layCost_236 rfl rfl g1521 (Nat.le_of_ble_eq_true rfl) rfl rfl ?_
      refine qb_goto (tgt := 58) dX11_layCost_239 rfl ?_
      refine qb_cut (L' := [qb_a 60, qb_i x1, qb_i x2, qb_i x3, qb_i x4, qb_i x5, qb_i (x6 + 1), none, none, none]) [true, true, true, true, true, true, true, false, false, false] rfl ?_
      exact h
    · have h := h.1 c899
      refine qb_aloadn (pc' := 82) (i := 0) dX11_layCost_81 rfl rfl rfl ?_
      refine qb_geta (pc' := 85) dX11_layCost_82 rfl qf_X11_31 qb_s60 rfl ?_
      refine qb_bipush (pc' := 87) dX11_layCost_85 rfl rfl rfl ?_
      refine qb_iload (pc' := 89) dX11_layCost_87 rfl rfl ?_
      refine qb_imul (pc' := 90) dX11_layCost_89 rfl g1473 ?_
      refine qb_iconst (pc' := 91) dX11_layCost_90 rfl rfl ?_
      refine qb_iadd (pc' := 92) dX11_layCost_91 rfl (qb_ina g1474 (by decide)) ?_
      obtain ⟨g1493, h⟩ := h
      refine qb_iald (pc' := 93) (v := (hp 68 ((7 * x6) + 1))) dX11_layCost_92 rfl qb_s68 g1493.1 g1493.2 rfl ?_
      refine qb_iloadn (pc' := 94) (i := 2) dX11_layCost_93 rfl rfl rfl ?_
      refine qb_cne (tgt := 236) (pc' := 97) dX11_layCost_94 rfl rfl (fun c915 => ?_) (fun c915 => ?_)
      · have h := h.2 c915
        obtain ⟨g1520, h⟩ := h
        refine qb_iinc (pc' := 239) (L' := [qb_a 60, qb_i x1, qb_i x2, qb_i x3, qb_i x4, qb_i x5, qb_i (x6 + 1), none, none, none]) dX11_layCost_236 rfl rfl g1520 (Nat.le_of_ble_eq_true rfl) rfl rfl ?_
        refine qb_goto (tgt := 58) dX11_layCost_239 rfl ?_
        refine qb_cut (L' := [qb_a 60, qb_i x1, qb_i x2, qb_i x3, qb_i x4, qb_i x5, qb_i (x6 + 1), none, none, none]) [true, true, true, true, true, true, true, false, false, false] rfl ?_
        exact h
      · have h := h.1 c915
        refine qb_aloadn (pc' := 98) (i := 0) dX11_layCost_97 rfl rfl rfl ?_
        refine qb_geta (pc' := 101) dX11_layCost_98 rfl qf_X11_31 qb_s60 rfl ?_
        refine qb_bipush (pc' := 103) dX11_layCost_101 rfl rfl rfl ?_
        refine qb_iload (pc' := 105) dX11_layCost_103 rfl rfl ?_
        refine qb_imul (pc' := 106) dX11_layCost_105 rfl g1473 ?_
        refine qb_iconst (pc' := 107) dX11_layCost_106 rfl rfl ?_
        refine qb_iadd (pc' := 108) dX11_layCost_107 rfl (qb_ina g1474 (by decide)) ?_
        obtain ⟨g1499, h⟩ := h
        refine qb_iald (pc' := 109) (v := (hp 68 ((7 * x6) + 2))) dX11_layCost_108 rfl qb_s68 g1499.1 g1499.2 rfl ?_
        refine qb_iload (pc' := 111) dX11_layCost_109 rfl rfl ?_
        refine qb_cne (tgt := 236) (pc' := 114) dX11_layCost_111 rfl rfl (fun c917 => ?_) (fun c917 => ?_)
        · have h := h.2 c917
          obtain ⟨g1519, h⟩ := h
          refine qb_iinc (pc' := 239) (L' := [qb_a 60, qb_i x1, qb_i x2, qb_i x3, qb_i x4, qb_i x5, qb_i (x6 + 1), none, none, none]) dX11_layCost_236 rfl rfl g1519 (Nat.le_of_ble_eq_true rfl) rfl rfl ?_
          refine qb_goto (tgt := 58) dX11_layCost_239 rfl ?_
          refine qb_cut (L' := [qb_a 60, qb_i x1, qb_i x2, qb_i x3, qb_i x4, qb_i x5, qb_i (x6 + 1), none, none, none]) [true, true, true, true, true, true, true, false, false, false] rfl ?_
          exact h
        · have h := h.1 c917
          refine qb_aloadn (pc' := 115) (i := 0) dX11_layCost_114 rfl rfl rfl ?_
          refine qb_geta (pc' := 118) dX11_layCost_115 rfl qf_X11_31 qb_s60 rfl ?_
          refine qb_bipush (pc' := 120) dX11_layCost_118 rfl rfl rfl ?_
          refine qb_iload (pc' := 122) dX11_layCost_120 rfl rfl ?_
          refine qb_imul (pc' := 123) dX11_layCost_122 rfl g1473 ?_
          refine qb_iconst (pc' := 124) dX11_layCost_123 rfl rfl ?_
          refine qb_iadd (pc' := 125) dX11_layCost_124 rfl (qb_ina g1474 (by decide)) ?_
          obtain ⟨g1502, h⟩ := h
          refine qb_iald (pc' := 126) (v := (hp 68 ((7 * x6) + 3))) dX11_layCost_125 rfl qb_s68 g1502.1 g1502.2 rfl ?_
          refine qb_istore (pc' := 128) (L' := [qb_a 60, qb_i x1, qb_i x2, qb_i x3, qb_i x4, qb_i x5, qb_i x6, qb_i (hp 68 ((7 * x6) + 3)), none, none]) dX11_layCost_126 rfl (Nat.le_of_ble_eq_true rfl) rfl rfl ?_
          refine qb_aloadn (pc' := 129) (i := 0) dX11_layCost_128 rfl rfl rfl ?_
          refine qb_iload (pc' := 131) dX11_layCost_129 rfl rfl ?_
          refine qb_bipush (pc' := 133) dX11_layCost_131 rfl rfl rfl ?_
          obtain ⟨g1503, h⟩ := h
          refine qb_idiv (pc' := 134) dX11_layCost_133 rfl g1503 (by decide) ?_
          refine qb_iloadn (pc' := 135) (i := 3) dX11_layCost_134 rfl rfl rfl ?_
          refine qb_callVi (pc' := 138) (b := 60) (as := [.inl (x5 / 24), .inl x3]) (rest := []) dX11_layCost_135 rfl qe_mX11_layCost_mX11_freeAt rfl rfl qb_s60 rfl rfl (Nat.le_of_ble_eq_true rfl) (Nat.le_of_ble_eq_true rfl) ⟨rfl, rfl⟩ h (fun v239 hp239 h => ?_)
          refine qb_istore (pc' := 140) (L' := [qb_a 60, qb_i x1, qb_i x2, qb_i x3, qb_i x4, qb_i x5, qb_i x6, qb_i (hp 68 ((7 * x6) + 3)), qb_i v239, none]) dX11_layCost_138 rfl (Nat.le_of_ble_eq_true rfl) rfl rfl ?_
          refine qb_iload (pc' := 142) dX11_layCost_140 rfl rfl ?_
          refine qb_iload (pc' := 144) dX11_layCost_142 rfl rfl ?_
          have k479 : qb_R mX11_layCost 0 0 qb_sh 154 [qb_a 60, qb_i x1, qb_i x2, qb_i x3, qb_i x4, qb_i x5, qb_i x6, qb_i (hp 68 ((7 * x6) + 3)), qb_i v239, none] [.inl (if x4 ≤ (hp 68 ((7 * x6) + 3)) then x4 else (hp 68 ((7 * x6) + 3)))] hp239 (qb_U qb_sh K) := by
            refine qb_istore (pc' := 156) (L' := [qb_a 60, qb_i x1, qb_i x2, qb_i x3, qb_i x4, qb_i x5, qb_i x6, qb_i (hp 68 ((7 * x6) + 3)), qb_i v239, qb_i (if x4 ≤ (hp 68 ((7 * x6) + 3)) then x4 else (hp 68 ((7 * x6) + 3)))]) dX11_layCost_154 rfl (Nat.le_of_ble_eq_true rfl) rfl rfl ?_
            refine qb_iload (pc' := 158) dX11_layCost_156 rfl rfl ?_
            refine qb_iload (pc' := 160) dX11_layCost_158 rfl rfl ?_
            obtain ⟨g1504, h⟩ := h
            refine qb_isub (pc' := 161) dX11_layCost_160 rfl g1504 ?_
            refine qb_istore (pc' := 163) (L' := [qb_a 60, qb_i x1, qb_i x2, qb_i x3, qb_i (x4 - (if x4 ≤ (hp 68 ((7 * x6) + 3)) then x4 else (hp 68 ((7 * x6) + 3)))), qb_i x5, qb_i x6, qb_i (hp 68 ((7 * x6) + 3)), qb_i v239, qb_i (if x4 ≤ (hp 68 ((7 * x6) + 3)) then x4 else (hp 68 ((7 * x6) + 3)))]) dX11_layCost_161 rfl (Nat.le_of_ble_eq_true rfl) rfl rfl ?_
            refine qb_aloadn (pc' := 164) (i := 0) dX11_layCost_163 rfl rfl rfl ?_
            refine qb_dup (pc' := 165) dX11_layCost_164 rfl rfl ?_
            refine qb_geti (pc' := 168) (v := (hp239 60 42)) dX11_layCost_165 rfl qf_X11_229 qb_s60 rfl rfl ?_
            refine qb_iload (pc' := 170) dX11_layCost_168 rfl rfl ?_
            refine qb_aloadn (pc' := 171) (i := 0) dX11_layCost_170 rfl rfl rfl ?_
            refine qb_geta (pc' := 174) dX11_layCost_171 rfl qf_X11_46 qb_s60 rfl ?_
            refine qb_iloadn (pc' := 175) (i := 1) dX11_layCost_174 rfl rfl rfl ?_
            obtain ⟨g1505, h⟩ := h
            refine qb_iald (pc' := 176) (v := (hp239 73 x1)) dX11_layCost_175 rfl qb_s73 g1505.1 g1505.2 rfl ?_
            obtain ⟨g1506, h⟩ := h
            refine qb_imul (pc' := 177) dX11_layCost_176 rfl g1506 ?_
            refine qb_aloadn (pc' := 178) (i := 0) dX11_layCost_177 rfl rfl rfl ?_
            refine qb_geta (pc' := 181) dX11_layCost_178 rfl qf_X11_28 qb_s60 rfl ?_
            refine qb_iconst (pc' := 182) dX11_layCost_181 rfl rfl ?_
            refine qb_iald (pc' := 183) (v := (hp239 67 4)) dX11_layCost_182 rfl qb_s67 (by decide) (by decide) rfl ?_
            obtain ⟨g1507, h⟩ := h
            obtain ⟨g1508, h⟩ := h
            refine qb_idiv (pc' := 184) dX11_layCost_183 rfl g1507 g1508 ?_
            refine qb_iload (pc' := 186) dX11_layCost_184 rfl rfl ?_
            refine qb_iload (pc' := 188) dX11_layCost_186 rfl rfl ?_
            obtain ⟨g1509, h⟩ := h
            refine qb_isub (pc' := 189) dX11_layCost_188 rfl g1509 ?_
            refine qb_iload (pc' := 191) dX11_layCost_189 rfl rfl ?_
            obtain ⟨g1510, h⟩ := h
            refine qb_imul (pc' := 192) dX11_layCost_191 rfl g1510 ?_
            refine qb_aloadn (pc' := 193) (i := 0) dX11_layCost_192 rfl rfl rfl ?_
            refine qb_geta (pc' := 196) dX11_layCost_193 rfl qf_X11_28 qb_s60 rfl ?_
            refine qb_iconst (pc' := 197) dX11_layCost_196 rfl rfl ?_
            refine qb_iald (pc' := 198) (v := (hp239 67 4)) dX11_layCost_197 rfl qb_s67 (by decide) (by decide) rfl ?_
            obtain ⟨g1511, h⟩ := h
            refine qb_idiv (pc' := 199) dX11_layCost_198 rfl g1511 g1508 ?_
            obtain ⟨g1512, h⟩ := h
            refine qb_iadd (pc' := 200) dX11_layCost_199 rfl g1512 ?_
            obtain ⟨g1513, h⟩ := h
            refine qb_iadd (pc' := 201) dX11_layCost_200 rfl g1513 ?_
            refine qb_puti (pc' := 204) (hp' := (qb_st hp239 60 42 ((hp239 60 42) + ((((if x4 ≤ (hp 68 ((7 * x6) + 3)) then x4 else (hp 68 ((7 * x6) + 3))) * (hp239 73 x1)) / (hp239 67 4)) + ((((hp 68 ((7 * x6) + 3)) - (if x4 ≤ (hp 68 ((7 * x6) + 3)) then x4 else (hp 68 ((7 * x6) + 3)))) * v239) / (hp239 67 4)))))) dX11_layCost_201 rfl qf_X11_229 (Or.inl rfl) qb_s60 rfl rfl ?_
            refine qb_aloadn (pc' := 205) (i := 0) dX11_layCost_204 rfl rfl rfl ?_
            refine qb_dup (pc' := 206) dX11_layCost_205 rfl rfl ?_
            refine qb_geti (pc' := 209) (v := (hp239 60 43)) dX11_layCost_206 rfl qf_X11_232 qb_s60 rfl (qb_rdl (by decide) rfl) ?_
            refine qb_iload (pc' := 211) dX11_layCost_209 rfl rfl ?_
            refine qb_iload (pc' := 213) dX11_layCost_211 rfl rfl ?_
            obtain ⟨g1514, h⟩ := h
            refine qb_imul (pc' := 214) dX11_layCost_213 rfl g1514 ?_
            refine qb_aloadn (pc' := 215) (i := 0) dX11_layCost_214 rfl rfl rfl ?_
            refine qb_geta (pc' := 218) dX11_layCost_215 rfl qf_X11_28 qb_s60 rfl ?_
            refine qb_iconst (pc' := 219) dX11_layCost_218 rfl rfl ?_
            refine qb_iald (pc' := 220) (v := (hp239 67 4)) dX11_layCost_219 rfl qb_s67 (by decide) (by decide) (qb_rdn rfl rfl) ?_
            obtain ⟨g1515, h⟩ := h
            refine qb_idiv (pc' := 221) dX11_layCost_220 rfl g1515 g1508 ?_
            obtain ⟨g1516, h⟩ := h
            refine qb_iadd (pc' := 222) dX11_layCost_221 rfl g1516 ?_
            refine qb_puti (pc' := 225) (hp' := (qb_st (qb_st hp239 60 42 ((hp239 60 42) + ((((if x4 ≤ (hp 68 ((7 * x6) + 3)) then x4 else (hp 68 ((7 * x6) + 3))) * (hp239 73 x1)) / (hp239 67 4)) + ((((hp 68 ((7 * x6) + 3)) - (if x4 ≤ (hp 68 ((7 * x6) + 3)) then x4 else (hp 68 ((7 * x6) + 3)))) * v239) / (hp239 67 4))))) 60 43 ((hp239 60 43) + (((hp 68 ((7 * x6) + 3)) * v239) / (hp239 67 4))))) dX11_layCost_222 rfl qf_X11_232 (Or.inl rfl) qb_s60 rfl rfl ?_
            refine qb_aloadn (pc' := 226) (i := 0) dX11_layCost_225 rfl rfl rfl ?_
            refine qb_dup (pc' := 227) dX11_layCost_226 rfl rfl ?_
            refine qb_geti (pc' := 230) (v := (hp239 60 44)) dX11_layCost_227 rfl qf_X11_235 qb_s60 rfl (qb_rdl (by decide) (qb_rdl (by decide) rfl)) ?_
            refine qb_iload (pc' := 232) dX11_layCost_230 rfl rfl ?_
            obtain ⟨g1517, h⟩ := h
            refine qb_iadd (pc' := 233) dX11_layCost_232 rfl g1517 ?_
            refine qb_puti (pc' := 236) (hp' := (qb_st (qb_st (qb_st hp239 60 42 ((hp239 60 42) + ((((if x4 ≤ (hp 68 ((7 * x6) + 3)) then x4 else (hp 68 ((7 * x6) + 3))) * (hp239 73 x1)) / (hp239 67 4)) + ((((hp 68 ((7 * x6) + 3)) - (if x4 ≤ (hp 68 ((7 * x6) + 3)) then x4 else (hp 68 ((7 * x6) + 3)))) * v239) / (hp239 67 4))))) 60 43 ((hp239 60 43) + (((hp 68 ((7 * x6) + 3)) * v239) / (hp239 67 4)))) 60 44 ((hp239 60 44) + (hp 68 ((7 * x6) + 3))))) dX11_layCost_233 rfl qf_X11_235 (Or.inl rfl) qb_s60 rfl rfl ?_
            obtain ⟨g1518, h⟩ := h
            refine qb_iinc (pc' := 239) (L' := [qb_a 60, qb_i x1, qb_i x2, qb_i x3, qb_i (x4 - (if x4 ≤ (hp 68 ((7 * x6) + 3)) then x4 else (hp 68 ((7 * x6) + 3)))), qb_i x5, qb_i (x6 + 1), qb_i (hp 68 ((7 * x6) + 3)), qb_i v239, qb_i (if x4 ≤ (hp 68 ((7 * x6) + 3)) then x4 else (hp 68 ((7 * x6) + 3)))]) dX11_layCost_236 rfl rfl g1518 (Nat.le_of_ble_eq_true rfl) rfl rfl ?_
            refine qb_goto (tgt := 58) dX11_layCost_239 rfl ?_
            refine qb_cut (L' := [qb_a 60, qb_i x1, qb_i x2, qb_i x3, qb_i (x4 - (if x4 ≤ (hp 68 ((7 * x6) + 3)) then x4 else (hp 68 ((7 * x6) + 3)))), qb_i x5, qb_i (x6 + 1), none, none, none]) [true, true, true, true, true, true, true, false, false, false] rfl ?_
            exact h
          refine qb_cge (tgt := 152) (pc' := 147) dX11_layCost_144 rfl rfl (fun c918 => ?_) (fun c918 => ?_)
          · refine qb_iload (pc' := 154) dX11_layCost_152 rfl rfl ?_
            refine qb_cut (L' := [qb_a 60, qb_i x1, qb_i x2, qb_i x3, qb_i x4, qb_i x5, qb_i x6, qb_i (hp 68 ((7 * x6) + 3)), qb_i v239, none]) [true, true, true, true, true, true, true, true, true, false] rfl ?_
            simpa only [if_pos c918] using k479
          · refine qb_iload (pc' := 149) dX11_layCost_147 rfl rfl ?_
            refine qb_goto (tgt := 154) dX11_layCost_149 rfl ?_
            refine qb_cut (L' := [qb_a 60, qb_i x1, qb_i x2, qb_i x3, qb_i x4, qb_i x5, qb_i x6, qb_i (hp 68 ((7 * x6) + 3)), qb_i v239, none]) [true, true, true, true, true, true, true, true, true, false] rfl ?_
            simpa only [if_neg c918] using k479
def c_m_costsOf (x1 : Int) (x2 : Int) (hp : qb_H) (K : Int → qb_H → Prop) : Prop := qb_R mX11_costsOf 0 0 qb_sh 0 [qb_a 60, qb_i x1, qb_i x2, none, none] [] hp (qb_I qb_sh K)
def r_m_costsOf_5 (x1 : Int) (x2 : Int) (x3 : Int) (x4 : Int) (hp : qb_H) (K : Int → qb_H → Prop) : Prop := qb_R mX11_costsOf 0 0 qb_sh 5 [qb_a 60, qb_i x1, qb_i x2, qb_i x3, qb_i x4] [] hp (qb_I qb_sh K)
theorem b_m_costsOf {x1 x2 : Int} {hp : qb_H} {K : Int → qb_H → Prop} (h : r_m_costsOf_5 x1 x2 0 0 hp K) : c_m_costsOf x1 x2 hp K := by
  unfold c_m_costsOf
  refine qb_iconst (pc' := 1) dX11_costsOf_0 rfl rfl ?_
  refine qb_istoren (pc' := 2) (i := 3) (L' := [qb_a 60, qb_i x1, qb_i x2, qb_i 0, none]) dX11_costsOf_1 rfl rfl (Nat.le_of_ble_eq_true rfl) rfl rfl ?_
  refine qb_iconst (pc' := 3) dX11_costsOf_2 rfl rfl ?_
  refine qb_istore (pc' := 5) (L' := [qb_a 60, qb_i x1, qb_i x2, qb_i 0, qb_i 0]) dX11_costsOf_3 rfl (Nat.le_of_ble_eq_true rfl) rfl rfl ?_
  refine qb_cut (L' := [qb_a 60, qb_i x1, qb_i x2, qb_i 0, qb_i 0]) [true, true, true, true, true] rfl ?_
  exact h
theorem b_m_costsOf_5 {x1 x2 x3 x4 : Int} {hp : qb_H} {K : Int → qb_H → Prop} (h : (10 ≤ x4 → K x3 hp) ∧ (¬ 10 ≤ x4 → c_m_layCost x4 x1 x2 hp (fun hp240 => (qb_in (x3 + (hp240 60 42))) ∧ (qb_in (x4 + 1)) ∧ r_m_costsOf_5 x1 x2 (x3 + (hp240 60 42)) (x4 + 1) hp240 K))) : r_m_costsOf_5 x1 x2 x3 x4 hp K := by
  unfold r_m_costsOf_5
  refine qb_iload (pc' := 7) dX11_costsOf_5 rfl rfl ?_
  refine qb_bipush (pc' := 9) dX11_costsOf_7 rfl rfl rfl ?_
  refine qb_cge (tgt := 33) (pc' := 12) dX11_costsOf_9 rfl rfl (fun c894 => ?_) (fun c894 => ?_)
  · have h := h.1 c894
    refine qb_iloadn (pc' := 34) (i := 3) dX11_costsOf_33 rfl rfl rfl ?_
    exact qb_reti dX11_costsOf_34 rfl h
  · have h := h.2 c894
    refine qb_aloadn (pc' := 13) (i := 0) dX11_costsOf_12 rfl rfl rfl ?_
    refine qb_iload (pc' := 15) dX11_costsOf_13 rfl rfl ?_
    refine qb_iloadn (pc' := 16) (i := 1) dX11_costsOf_15 rfl rfl rfl ?_
    refine qb_iloadn (pc' := 17) (i := 2) dX11_costsOf_16 rfl rfl rfl ?_
    refine qb_callVu (pc' := 20) (b := 60) (as := [.inl x4, .inl x1, .inl x2]) (rest := []) dX11_costsOf_17 rfl qe_mX11_costsOf_mX11_layCost rfl rfl qb_s60 rfl rfl (Nat.le_of_ble_eq_true rfl) (Nat.le_of_ble_eq_true rfl) ⟨rfl, rfl⟩ h (fun hp240 h => ?_)
    refine qb_iloadn (pc' := 21) (i := 3) dX11_costsOf_20 rfl rfl rfl ?_
    refine qb_aloadn (pc' := 22) (i := 0) dX11_costsOf_21 rfl rfl rfl ?_
    refine qb_geti (pc' := 25) (v := (hp240 60 42)) dX11_costsOf_22 rfl qf_X11_229 qb_s60 rfl rfl ?_
    obtain ⟨g1522, h⟩ := h
    refine qb_iadd (pc' := 26) dX11_costsOf_25 rfl g1522 ?_
    refine qb_istoren (pc' := 27) (i := 3) (L' := [qb_a 60, qb_i x1, qb_i x2, qb_i (x3 + (hp240 60 42)), qb_i x4]) dX11_costsOf_26 rfl rfl (Nat.le_of_ble_eq_true rfl) rfl rfl ?_
    obtain ⟨g1523, h⟩ := h
    refine qb_iinc (pc' := 30) (L' := [qb_a 60, qb_i x1, qb_i x2, qb_i (x3 + (hp240 60 42)), qb_i (x4 + 1)]) dX11_costsOf_27 rfl rfl g1523 (Nat.le_of_ble_eq_true rfl) rfl rfl ?_
    refine qb_goto (tgt := 5) dX11_costsOf_30 rfl ?_
    refine qb_cut (L' := [qb_a 60, qb_i x1, qb_i x2, qb_i (x3 + (hp240 60 42)), qb_i (x4 + 1)]) [true, true, true, true, true] rfl ?_
    exact h
def c_m_account (x1 : Int) (x2 : Int) (x3 : Int) (hp : qb_H) (K : Int → qb_H → Prop) : Prop := qb_R mX11_account 0 0 qb_sh 0 [qb_a 60, qb_i x1, qb_i x2, qb_i x3, none, none] [] hp (qb_I qb_sh K)
theorem b_m_account {x1 x2 x3 : Int} {hp : qb_H} {K : Int → qb_H → Prop} (h : ((v_m_isQuay x1) = 0 → K (-1) hp) ∧ (¬ (v_m_isQuay x1) = 0 → ((v_m_isDay x2) = 0 → K (-2) hp) ∧ (¬ (v_m_isDay x2) = 0 → ((v_m_in x3 0 7) = 0 → K (-2) hp) ∧ (¬ (v_m_in x3 0 7) = 0 → c_m_brandedOf x1 hp (fun v243 hp243 => (g_m_barrelsNow hp243) ∧ (∀ (y244 : Int), y244 = (v_m_barrelsNow hp243) → (x3 = 0 → c_m_costsOf x1 x2 hp243 (fun v245 hp245 => K v245 hp245)) ∧ (¬ x3 = 0 → (x3 = 1 → (qb_in ((hp243 67 5) * y244)) ∧ K ((hp243 67 5) * y244) hp243) ∧ (¬ x3 = 1 → (x3 = 2 → (qb_in ((hp243 67 6) * v243)) ∧ K ((hp243 67 6) * v243) hp243) ∧ (¬ x3 = 2 → (x3 = 3 → K y244 hp243) ∧ (¬ x3 = 3 → (x3 = 4 → K v243 hp243) ∧ (¬ x3 = 4 → (x3 = 5 → K (hp243 60 39) hp243) ∧ (¬ x3 = 5 → (x3 = 6 → (0 ≤ (hp243 60 38)) ∧ (0 < (hp243 67 1)) ∧ K ((hp243 60 38) % (hp243 67 1)) hp243) ∧ (¬ x3 = 6 → c_m_costsOf x1 x2 hp243 (fun v246 hp246 => (qb_in ((hp246 67 5) * y244)) ∧ (qb_in (v246 + ((hp246 67 5) * y244))) ∧ (qb_in ((hp246 67 6) * v243)) ∧ (qb_in ((v246 + ((hp246 67 5) * y244)) - ((hp246 67 6) * v243))) ∧ K ((v246 + ((hp246 67 5) * y244)) - ((hp246 67 6) * v243)) hp246)))))))))))))) : c_m_account x1 x2 x3 hp K := by
  unfold c_m_account
  refine qb_iloadn (pc' := 1) (i := 1) dX11_account_0 rfl rfl rfl ?_
  refine qb_callSi (pc' := 4) (as := [.inl x1]) (rest := []) dX11_account_1 rfl qe_mX11_account_mX11_isQuay rfl rfl rfl (Nat.le_of_ble_eq_true rfl) (Nat.le_of_ble_eq_true rfl) ⟨rfl, rfl⟩ (K := fun vz hpz => (v_m_isQuay x1) = vz ∧ hp = hpz) (s_m_isQuay x1 hp _ trivial ⟨rfl, rfl⟩) (fun vz hpz ez => ?_)
  obtain ⟨ez1, ez2⟩ := ez
  subst ez1
  subst ez2
  refine qb_fne (tgt := 9) (pc' := 7) dX11_account_4 rfl rfl (fun c925 => ?_) (fun c925 => ?_)
  · have h := h.2 c925
    refine qb_iloadn (pc' := 10) (i := 2) dX11_account_9 rfl rfl rfl ?_
    refine qb_callSi (pc' := 13) (as := [.inl x2]) (rest := []) dX11_account_10 rfl qe_mX11_account_mX11_isDay rfl rfl rfl (Nat.le_of_ble_eq_true rfl) (Nat.le_of_ble_eq_true rfl) ⟨rfl, rfl⟩ (K := fun vz hpz => (v_m_isDay x2) = vz ∧ hp = hpz) (s_m_isDay x2 hp _ trivial ⟨rfl, rfl⟩) (fun vz hpz ez => ?_)
    obtain ⟨ez1, ez2⟩ := ez
    subst ez1
    subst ez2
    refine qb_feq (tgt := 26) (pc' := 16) dX11_account_13 rfl rfl (fun c926 => ?_) (fun c926 => ?_)
    · have h := h.1 c926
      refine qb_bipush (pc' := 28) dX11_account_26 rfl rfl rfl ?_
      exact qb_reti dX11_account_28 rfl h
    · have h := h.2 c926
      refine qb_iloadn (pc' := 17) (i := 3) dX11_account_16 rfl rfl rfl ?_
      refine qb_iconst (pc' := 18) dX11_account_17 rfl rfl ?_
      refine qb_bipush (pc' := 20) dX11_account_18 rfl rfl rfl ?_
      refine qb_callSi (pc' := 23) (as := [.inl x3, .inl 0, .inl 7]) (rest := []) dX11_account_20 rfl qe_mX11_account_mX11_in rfl rfl rfl (Nat.le_of_ble_eq_true rfl) (Nat.le_of_ble_eq_true rfl) ⟨rfl, rfl⟩ (K := fun vz hpz => (v_m_in x3 0 7) = vz ∧ hp = hpz) (s_m_in x3 0 7 hp _ trivial ⟨rfl, rfl⟩) (fun vz hpz ez => ?_)
      obtain ⟨ez1, ez2⟩ := ez
      subst ez1
      subst ez2
      refine qb_fne (tgt := 29) (pc' := 26) dX11_account_23 rfl rfl (fun c927 => ?_) (fun c927 => ?_)
      · have h := h.2 c927
        refine qb_aloadn (pc' := 30) (i := 0) dX11_account_29 rfl rfl rfl ?_
        refine qb_iloadn (pc' := 31) (i := 1) dX11_account_30 rfl rfl rfl ?_
        refine qb_callVi (pc' := 34) (b := 60) (as := [.inl x1]) (rest := []) dX11_account_31 rfl qe_mX11_account_mX11_brandedOf rfl rfl qb_s60 rfl rfl (Nat.le_of_ble_eq_true rfl) (Nat.le_of_ble_eq_true rfl) ⟨rfl, rfl⟩ h (fun v243 hp243 h => ?_)
        refine qb_istore (pc' := 36) (L' := [qb_a 60, qb_i x1, qb_i x2, qb_i x3, qb_i v243, none]) dX11_account_34 rfl (Nat.le_of_ble_eq_true rfl) rfl rfl ?_
        refine qb_aloadn (pc' := 37) (i := 0) dX11_account_36 rfl rfl rfl ?_
        obtain ⟨g1532, h⟩ := h
        refine qb_callVi (pc' := 40) (b := 60) (as := []) (rest := []) dX11_account_37 rfl qe_mX11_account_mX11_barrelsNow rfl rfl qb_s60 rfl rfl (Nat.le_of_ble_eq_true rfl) (Nat.le_of_ble_eq_true rfl) ⟨rfl, rfl⟩ (K := fun vz hpz => (v_m_barrelsNow hp243) = vz ∧ hp243 = hpz) (s_m_barrelsNow  hp243 _ g1532 ⟨rfl, rfl⟩) (fun vz hpz ez => ?_)
        obtain ⟨ez1, ez2⟩ := ez
        subst ez1
        subst ez2
        refine qb_istorey (pc' := 42) (Lf := fun y244 => [qb_a 60, qb_i x1, qb_i x2, qb_i x3, qb_i v243, qb_i y244]) dX11_account_40 rfl (Nat.le_of_ble_eq_true rfl) rfl (fun _ => rfl) (fun y244 ey244 => ?_)
        have h := h y244 ey244
        refine qb_iloadn (pc' := 43) (i := 3) dX11_account_42 rfl rfl rfl ?_
        by_cases c928 : x3 = 0
        · have h := h.1 c928
          refine qb_tabj (tgt := 84) dX11_account_43 0 (c928.trans rfl) (by decide) rfl rfl ?_
          refine qb_aloadn (pc' := 85) (i := 0) dX11_account_84 rfl rfl rfl ?_
          refine qb_iloadn (pc' := 86) (i := 1) dX11_account_85 rfl rfl rfl ?_
          refine qb_iloadn (pc' := 87) (i := 2) dX11_account_86 rfl rfl rfl ?_
          refine qb_callVi (pc' := 90) (b := 60) (as := [.inl x1, .inl x2]) (rest := []) dX11_account_87 rfl qe_mX11_account_mX11_costsOf rfl rfl qb_s60 rfl rfl (Nat.le_of_ble_eq_true rfl) (Nat.le_of_ble_eq_true rfl) ⟨rfl, rfl⟩ h (fun v245 hp245 h => ?_)
          exact qb_reti dX11_account_90 rfl h
        · have h := h.2 c928
          by_cases c929 : x3 = 1
          · have h := h.1 c929
            refine qb_tabj (tgt := 91) dX11_account_43 1 (c929.trans rfl) (by decide) rfl rfl ?_
            refine qb_aloadn (pc' := 92) (i := 0) dX11_account_91 rfl rfl rfl ?_
            refine qb_geta (pc' := 95) dX11_account_92 rfl qf_X11_28 qb_s60 rfl ?_
            refine qb_iconst (pc' := 96) dX11_account_95 rfl rfl ?_
            refine qb_iald (pc' := 97) (v := (hp243 67 5)) dX11_account_96 rfl qb_s67 (by decide) (by decide) rfl ?_
            refine qb_iload (pc' := 99) dX11_account_97 rfl rfl ?_
            obtain ⟨g1533, h⟩ := h
            refine qb_imul (pc' := 100) dX11_account_99 rfl g1533 ?_
            exact qb_reti dX11_account_100 rfl h
          · have h := h.2 c929
            by_cases c930 : x3 = 2
            · have h := h.1 c930
              refine qb_tabj (tgt := 101) dX11_account_43 2 (c930.trans rfl) (by decide) rfl rfl ?_
              refine qb_aloadn (pc' := 102) (i := 0) dX11_account_101 rfl rfl rfl ?_
              refine qb_geta (pc' := 105) dX11_account_102 rfl qf_X11_28 qb_s60 rfl ?_
              refine qb_bipush (pc' := 107) dX11_account_105 rfl rfl rfl ?_
              refine qb_iald (pc' := 108) (v := (hp243 67 6)) dX11_account_107 rfl qb_s67 (by decide) (by decide) rfl ?_
              refine qb_iload (pc' := 110) dX11_account_108 rfl rfl ?_
              obtain ⟨g1534, h⟩ := h
              refine qb_imul (pc' := 111) dX11_account_110 rfl g1534 ?_
              exact qb_reti dX11_account_111 rfl h
            · have h := h.2 c930
              by_cases c931 : x3 = 3
              · have h := h.1 c931
                refine qb_tabj (tgt := 112) dX11_account_43 3 (c931.trans rfl) (by decide) rfl rfl ?_
                refine qb_iload (pc' := 114) dX11_account_112 rfl rfl ?_
                exact qb_reti dX11_account_114 rfl h
              · have h := h.2 c931
                by_cases c932 : x3 = 4
                · have h := h.1 c932
                  refine qb_tabj (tgt := 115) dX11_account_43 4 (c932.trans rfl) (by decide) rfl rfl ?_
                  refine qb_iload (pc' := 117) dX11_account_115 rfl rfl ?_
                  exact qb_reti dX11_account_117 rfl h
                · have h := h.2 c932
                  by_cases c933 : x3 = 5
                  · have h := h.1 c933
                    refine qb_tabj (tgt := 118) dX11_account_43 5 (c933.trans rfl) (by decide) rfl rfl ?_
                    refine qb_aloadn (pc' := 119) (i := 0) dX11_account_118 rfl rfl rfl ?_
                    refine qb_geti (pc' := 122) (v := (hp243 60 39)) dX11_account_119 rfl qf_X11_151 qb_s60 rfl rfl ?_
                    exact qb_reti dX11_account_122 rfl h
                  · have h := h.2 c933
                    by_cases c934 : x3 = 6
                    · have h := h.1 c934
                      refine qb_tabj (tgt := 123) dX11_account_43 6 (c934.trans rfl) (by decide) rfl rfl ?_
                      refine qb_aloadn (pc' := 124) (i := 0) dX11_account_123 rfl rfl rfl ?_
                      refine qb_geti (pc' := 127) (v := (hp243 60 38)) dX11_account_124 rfl qf_X11_148 qb_s60 rfl rfl ?_
                      refine qb_aloadn (pc' := 128) (i := 0) dX11_account_127 rfl rfl rfl ?_
                      refine qb_geta (pc' := 131) dX11_account_128 rfl qf_X11_28 qb_s60 rfl ?_
                      refine qb_iconst (pc' := 132) dX11_account_131 rfl rfl ?_
                      refine qb_iald (pc' := 133) (v := (hp243 67 1)) dX11_account_132 rfl qb_s67 (by decide) (by decide) rfl ?_
                      obtain ⟨g1535, h⟩ := h
                      obtain ⟨g1536, h⟩ := h
                      refine qb_irem (pc' := 134) dX11_account_133 rfl g1535 g1536 ?_
                      exact qb_reti dX11_account_134 rfl h
                    · have h := h.2 c934
                      refine qb_tabOut (tgt := 135) dX11_account_43 (qb_sw1 (qb_sw1 (qb_sw1 (qb_sw1 (qb_sw1 (qb_sw1 (qb_sw1 (Int.lt_or_le x3 0) c928) c929) c930) c931) c932) c933) c934) rfl ?_
                      refine qb_aloadn (pc' := 136) (i := 0) dX11_account_135 rfl rfl rfl ?_
                      refine qb_iloadn (pc' := 137) (i := 1) dX11_account_136 rfl rfl rfl ?_
                      refine qb_iloadn (pc' := 138) (i := 2) dX11_account_137 rfl rfl rfl ?_
                      refine qb_callVi (pc' := 141) (b := 60) (as := [.inl x1, .inl x2]) (rest := []) dX11_account_138 rfl qe_mX11_account_mX11_costsOf rfl rfl qb_s60 rfl rfl (Nat.le_of_ble_eq_true rfl) (Nat.le_of_ble_eq_true rfl) ⟨rfl, rfl⟩ h (fun v246 hp246 h => ?_)
                      refine qb_aloadn (pc' := 142) (i := 0) dX11_account_141 rfl rfl rfl ?_
                      refine qb_geta (pc' := 145) dX11_account_142 rfl qf_X11_28 qb_s60 rfl ?_
                      refine qb_iconst (pc' := 146) dX11_account_145 rfl rfl ?_
                      refine qb_iald (pc' := 147) (v := (hp246 67 5)) dX11_account_146 rfl qb_s67 (by decide) (by decide) rfl ?_
                      refine qb_iload (pc' := 149) dX11_account_147 rfl rfl ?_
                      obtain ⟨g1537, h⟩ := h
                      refine qb_imul (pc' := 150) dX11_account_149 rfl g1537 ?_
                      obtain ⟨g1538, h⟩ := h
                      refine qb_iadd (pc' := 151) dX11_account_150 rfl g1538 ?_
                      refine qb_aloadn (pc' := 152) (i := 0) dX11_account_151 rfl rfl rfl ?_
                      refine qb_geta (pc' := 155) dX11_account_152 rfl qf_X11_28 qb_s60 rfl ?_
                      refine qb_bipush (pc' := 157) dX11_account_155 rfl rfl rfl ?_
                      refine qb_iald (pc' := 158) (v := (hp246 67 6)) dX11_account_157 rfl qb_s67 (by decide) (by decide) rfl ?_
                      refine qb_iload (pc' := 160) dX11_account_158 rfl rfl ?_
                      obtain ⟨g1539, h⟩ := h
                      refine qb_imul (pc' := 161) dX11_account_160 rfl g1539 ?_
                      obtain ⟨g1540, h⟩ := h
                      refine qb_isub (pc' := 162) dX11_account_161 rfl g1540 ?_
                      exact qb_reti dX11_account_162 rfl h
      · have h := h.1 c927
        refine qb_bipush (pc' := 28) dX11_account_26 rfl rfl rfl ?_
        exact qb_reti dX11_account_28 rfl h
  · have h := h.1 c925
    refine qb_iconst (pc' := 8) dX11_account_7 rfl rfl ?_
    exact qb_reti dX11_account_8 rfl h
def c_m_faultOf (hp : qb_H) (K : Int → qb_H → Prop) : Prop := qb_R mX11_faultOf 0 0 qb_sh 0 [qb_a 60, none, none, none, none, none] [] hp (qb_I qb_sh K)
def r_m_faultOf_6 (x1 : Int) (x2 : Int) (x3 : Int) (hp : qb_H) (K : Int → qb_H → Prop) : Prop := qb_R mX11_faultOf 0 0 qb_sh 6 [qb_a 60, qb_i x1, qb_i x2, qb_i x3, none, none] [] hp (qb_I qb_sh K)
theorem b_m_faultOf {hp : qb_H} {K : Int → qb_H → Prop} (h : r_m_faultOf_6 0 0 0 hp K) : c_m_faultOf hp K := by
  unfold c_m_faultOf
  refine qb_iconst (pc' := 1) dX11_faultOf_0 rfl rfl ?_
  refine qb_istoren (pc' := 2) (i := 1) (L' := [qb_a 60, qb_i 0, none, none, none, none]) dX11_faultOf_1 rfl rfl (Nat.le_of_ble_eq_true rfl) rfl rfl ?_
  refine qb_iconst (pc' := 3) dX11_faultOf_2 rfl rfl ?_
  refine qb_istoren (pc' := 4) (i := 2) (L' := [qb_a 60, qb_i 0, qb_i 0, none, none, none]) dX11_faultOf_3 rfl rfl (Nat.le_of_ble_eq_true rfl) rfl rfl ?_
  refine qb_iconst (pc' := 5) dX11_faultOf_4 rfl rfl ?_
  refine qb_istoren (pc' := 6) (i := 3) (L' := [qb_a 60, qb_i 0, qb_i 0, qb_i 0, none, none]) dX11_faultOf_5 rfl rfl (Nat.le_of_ble_eq_true rfl) rfl rfl ?_
  refine qb_cut (L' := [qb_a 60, qb_i 0, qb_i 0, qb_i 0, none, none]) [true, true, true, true, false, false] rfl ?_
  exact h
theorem b_m_faultOf_6 {x1 x2 x3 : Int} {hp : qb_H} {K : Int → qb_H → Prop} (h : ((hp 60 0) ≤ x3 → (∀ (y247 : Int), y247 = (if x1 ≤ 4 then (hp 60 0) else (-6)) → K y247 hp)) ∧ (¬ (hp 60 0) ≤ x3 → (0 ≤ x3 ∧ x3 < 60) ∧ (x1 = 0 → (¬ (v_m_in (hp 61 x3) 65 70) = 0 → qb_in ((hp 61 x3) - 65)) ∧ ((if (v_m_in (hp 61 x3) 65 70) = 0 then ((-6) : Int) else (if (qb_and (qb_shr x2 ((hp 61 x3) - 65)) 1) = 0 then (1 : Int) else (-6))) = 1 → qb_in ((hp 61 x3) - 65))) ∧ (¬ x1 = 0 → (¬ x1 = 1 → (¬ x1 = 2 → (¬ x1 = 3 → (¬ (v_m_in (hp 61 x3) 48 57) = 0 → (¬ 8 ≤ x1 → qb_in (x1 + 1))))))) ∧ (∀ (y248 : Int) (y249 : Int), y248 = (if x1 = 0 then (qb_or x2 (if (if (v_m_in (hp 61 x3) 65 70) = 0 then ((-6) : Int) else (if (qb_and (qb_shr x2 ((hp 61 x3) - 65)) 1) = 0 then (1 : Int) else (-6))) = 1 then (qb_shl 1 ((hp 61 x3) - 65)) else 0)) else x2) → y249 = (if x1 = 0 then (if (v_m_in (hp 61 x3) 65 70) = 0 then ((-6) : Int) else (if (qb_and (qb_shr x2 ((hp 61 x3) - 65)) 1) = 0 then (1 : Int) else (-6))) else (if x1 = 1 then (if (hp 61 x3) = 58 then (2 : Int) else (-6)) else (if x1 = 2 then (if (v_m_isFact (hp 61 x3)) = 0 then ((-6) : Int) else 3) else (if x1 = 3 then (if (hp 61 x3) = 60 then (4 : Int) else (if (hp 61 x3) = 62 then (4 : Int) else (if (hp 61 x3) = 61 then (4 : Int) else (-6)))) else (if (v_m_in (hp 61 x3) 48 57) = 0 then (if x1 ≤ 4 then ((-6) : Int) else (if (hp 61 x3) = 44 then (2 : Int) else (if (hp 61 x3) = 59 then (if x2 = 63 then ((-6) : Int) else 0) else (-6)))) else (if 8 ≤ x1 then ((-6) : Int) else (x1 + 1))))))) → (0 ≤ y249 → r_m_faultOf_6 y249 y248 (x3 + 1) hp K) ∧ (¬ 0 ≤ y249 → K x3 hp)))) : r_m_faultOf_6 x1 x2 x3 hp K := by
  unfold r_m_faultOf_6
  refine qb_iloadn (pc' := 7) (i := 3) dX11_faultOf_6 rfl rfl rfl ?_
  refine qb_aloadn (pc' := 8) (i := 0) dX11_faultOf_7 rfl rfl rfl ?_
  refine qb_geti (pc' := 11) (v := (hp 60 0)) dX11_faultOf_8 rfl qf_X11_98 qb_s60 rfl rfl ?_
  refine qb_cge (tgt := 253) (pc' := 14) dX11_faultOf_11 rfl rfl (fun c937 => ?_) (fun c937 => ?_)
  · have h := h.1 c937
    refine qb_iloadn (pc' := 254) (i := 1) dX11_faultOf_253 rfl rfl rfl ?_
    refine qb_iconst (pc' := 255) dX11_faultOf_254 rfl rfl ?_
    have k480 : ∀ (y247 : Int), y247 = (if x1 ≤ 4 then (hp 60 0) else (-6)) → qb_R mX11_faultOf 0 0 qb_sh 267 [none, none, none, none, none, none] [.inl y247] hp (qb_I qb_sh K) := by
      intro y247 ey247
      have h := h y247 ey247
      exact qb_reti dX11_faultOf_267 rfl h
    refine qb_cle (tgt := 263) (pc' := 258) dX11_faultOf_255 rfl rfl (fun c938 => ?_) (fun c938 => ?_)
    · refine qb_aloadn (pc' := 264) (i := 0) dX11_faultOf_263 rfl rfl rfl ?_
      refine qb_geti (pc' := 267) (v := (hp 60 0)) dX11_faultOf_264 rfl qf_X11_98 qb_s60 rfl rfl ?_
      refine qb_cut (L' := [none, none, none, none, none, none]) [false, false, false, false, false, false] rfl ?_
      exact k480 _ (if_pos c938).symm
    · refine qb_bipush (pc' := 260) dX11_faultOf_258 rfl rfl rfl ?_
      refine qb_goto (tgt := 267) dX11_faultOf_260 rfl ?_
      refine qb_cut (L' := [none, none, none, none, none, none]) [false, false, false, false, false, false] rfl ?_
      exact k480 _ (if_neg c938).symm
  · have h := h.2 c937
    refine qb_aloadn (pc' := 15) (i := 0) dX11_faultOf_14 rfl rfl rfl ?_
    refine qb_geta (pc' := 18) dX11_faultOf_15 rfl qf_X11_7 qb_s60 rfl ?_
    refine qb_iloadn (pc' := 19) (i := 3) dX11_faultOf_18 rfl rfl rfl ?_
    obtain ⟨g1541, h⟩ := h
    refine qb_iald (pc' := 20) (v := (hp 61 x3)) dX11_faultOf_19 rfl qb_s61 g1541.1 g1541.2 rfl ?_
    refine qb_istore (pc' := 22) (L' := [qb_a 60, qb_i x1, qb_i x2, qb_i x3, qb_i (hp 61 x3), none]) dX11_faultOf_20 rfl (Nat.le_of_ble_eq_true rfl) rfl rfl ?_
    refine qb_bipush (pc' := 24) dX11_faultOf_22 rfl rfl rfl ?_
    refine qb_istore (pc' := 26) (L' := [qb_a 60, qb_i x1, qb_i x2, qb_i x3, qb_i (hp 61 x3), qb_i (-6)]) dX11_faultOf_24 rfl (Nat.le_of_ble_eq_true rfl) rfl rfl ?_
    refine qb_iloadn (pc' := 27) (i := 1) dX11_faultOf_26 rfl rfl rfl ?_
    obtain ⟨ga, gb, h⟩ := h
    have k818 : ∀ (y248 : Int) (y249 : Int), y248 = (if x1 = 0 then (qb_or x2 (if (if (v_m_in (hp 61 x3) 65 70) = 0 then ((-6) : Int) else (if (qb_and (qb_shr x2 ((hp 61 x3) - 65)) 1) = 0 then (1 : Int) else (-6))) = 1 then (qb_shl 1 ((hp 61 x3) - 65)) else 0)) else x2) → y249 = (if x1 = 0 then (if (v_m_in (hp 61 x3) 65 70) = 0 then ((-6) : Int) else (if (qb_and (qb_shr x2 ((hp 61 x3) - 65)) 1) = 0 then (1 : Int) else (-6))) else (if x1 = 1 then (if (hp 61 x3) = 58 then (2 : Int) else (-6)) else (if x1 = 2 then (if (v_m_isFact (hp 61 x3)) = 0 then ((-6) : Int) else 3) else (if x1 = 3 then (if (hp 61 x3) = 60 then (4 : Int) else (if (hp 61 x3) = 62 then (4 : Int) else (if (hp 61 x3) = 61 then (4 : Int) else (-6)))) else (if (v_m_in (hp 61 x3) 48 57) = 0 then (if x1 ≤ 4 then ((-6) : Int) else (if (hp 61 x3) = 44 then (2 : Int) else (if (hp 61 x3) = 59 then (if x2 = 63 then ((-6) : Int) else 0) else (-6)))) else (if 8 ≤ x1 then ((-6) : Int) else (x1 + 1))))))) → qb_R mX11_faultOf 0 0 qb_sh 237 [qb_a 60, none, qb_i y248, qb_i x3, none, qb_i y249] [] hp (qb_I qb_sh K) := by
      intro y248 y249 ey248 ey249
      have h := h y248 y249 ey248 ey249
      refine qb_iload (pc' := 239) dX11_faultOf_237 rfl rfl ?_
      refine qb_fge (tgt := 244) (pc' := 242) dX11_faultOf_239 rfl rfl (fun c1614 => ?_) (fun c1614 => ?_)
      · have h := h.1 c1614
        refine qb_iload (pc' := 246) dX11_faultOf_244 rfl rfl ?_
        refine qb_istoren (pc' := 247) (i := 1) (L' := [qb_a 60, qb_i y249, qb_i y248, qb_i x3, none, qb_i y249]) dX11_faultOf_246 rfl rfl (Nat.le_of_ble_eq_true rfl) rfl rfl ?_
        refine qb_iinc (pc' := 250) (L' := [qb_a 60, qb_i y249, qb_i y248, qb_i (x3 + 1), none, qb_i y249]) dX11_faultOf_247 rfl rfl (qb_ina g1541 (by decide)) (Nat.le_of_ble_eq_true rfl) rfl rfl ?_
        refine qb_goto (tgt := 6) dX11_faultOf_250 rfl ?_
        refine qb_cut (L' := [qb_a 60, qb_i y249, qb_i y248, qb_i (x3 + 1), none, none]) [true, true, true, true, false, false] rfl ?_
        exact h
      · have h := h.2 c1614
        refine qb_iloadn (pc' := 243) (i := 3) dX11_faultOf_242 rfl rfl rfl ?_
        exact qb_reti dX11_faultOf_243 rfl h
    refine qb_fne (tgt := 85) (pc' := 30) dX11_faultOf_27 rfl rfl (fun c939 => ?_) (fun c939 => ?_)
    · have h := gb c939
      refine qb_iloadn (pc' := 86) (i := 1) dX11_faultOf_85 rfl rfl rfl ?_
      refine qb_iconst (pc' := 87) dX11_faultOf_86 rfl rfl ?_
      have gb := h
      have k989 : qb_R mX11_faultOf 0 0 qb_sh 237 [qb_a 60, none, qb_i x2, qb_i x3, none, qb_i (if x1 = 1 then (if (hp 61 x3) = 58 then (2 : Int) else (-6)) else (if x1 = 2 then (if (v_m_isFact (hp 61 x3)) = 0 then ((-6) : Int) else 3) else (if x1 = 3 then (if (hp 61 x3) = 60 then (4 : Int) else (if (hp 61 x3) = 62 then (4 : Int) else (if (hp 61 x3) = 61 then (4 : Int) else (-6)))) else (if (v_m_in (hp 61 x3) 48 57) = 0 then (if x1 ≤ 4 then ((-6) : Int) else (if (hp 61 x3) = 44 then (2 : Int) else (if (hp 61 x3) = 59 then (if x2 = 63 then ((-6) : Int) else 0) else (-6)))) else (if 8 ≤ x1 then ((-6) : Int) else (x1 + 1))))))] [] hp (qb_I qb_sh K) := by
        refine qb_cut (L' := [qb_a 60, none, qb_i x2, qb_i x3, none, qb_i (if x1 = 1 then (if (hp 61 x3) = 58 then (2 : Int) else (-6)) else (if x1 = 2 then (if (v_m_isFact (hp 61 x3)) = 0 then ((-6) : Int) else 3) else (if x1 = 3 then (if (hp 61 x3) = 60 then (4 : Int) else (if (hp 61 x3) = 62 then (4 : Int) else (if (hp 61 x3) = 61 then (4 : Int) else (-6)))) else (if (v_m_in (hp 61 x3) 48 57) = 0 then (if x1 ≤ 4 then ((-6) : Int) else (if (hp 61 x3) = 44 then (2 : Int) else (if (hp 61 x3) = 59 then (if x2 = 63 then ((-6) : Int) else 0) else (-6)))) else (if 8 ≤ x1 then ((-6) : Int) else (x1 + 1))))))]) [true, false, true, true, false, true] rfl ?_
        exact k818 _ _ (if_neg c939).symm (if_neg c939).symm
      refine qb_cne (tgt := 108) (pc' := 90) dX11_faultOf_87 rfl rfl (fun c1281 => ?_) (fun c1281 => ?_)
      · have h := gb c1281
        refine qb_iloadn (pc' := 109) (i := 1) dX11_faultOf_108 rfl rfl rfl ?_
        refine qb_iconst (pc' := 110) dX11_faultOf_109 rfl rfl ?_
        have gb := h
        have k1073 : qb_R mX11_faultOf 0 0 qb_sh 237 [qb_a 60, none, qb_i x2, qb_i x3, none, qb_i (if x1 = 2 then (if (v_m_isFact (hp 61 x3)) = 0 then ((-6) : Int) else 3) else (if x1 = 3 then (if (hp 61 x3) = 60 then (4 : Int) else (if (hp 61 x3) = 62 then (4 : Int) else (if (hp 61 x3) = 61 then (4 : Int) else (-6)))) else (if (v_m_in (hp 61 x3) 48 57) = 0 then (if x1 ≤ 4 then ((-6) : Int) else (if (hp 61 x3) = 44 then (2 : Int) else (if (hp 61 x3) = 59 then (if x2 = 63 then ((-6) : Int) else 0) else (-6)))) else (if 8 ≤ x1 then ((-6) : Int) else (x1 + 1)))))] [] hp (qb_I qb_sh K) := by
          refine qb_cut (L' := [qb_a 60, none, qb_i x2, qb_i x3, none, qb_i (if x1 = 2 then (if (v_m_isFact (hp 61 x3)) = 0 then ((-6) : Int) else 3) else (if x1 = 3 then (if (hp 61 x3) = 60 then (4 : Int) else (if (hp 61 x3) = 62 then (4 : Int) else (if (hp 61 x3) = 61 then (4 : Int) else (-6)))) else (if (v_m_in (hp 61 x3) 48 57) = 0 then (if x1 ≤ 4 then ((-6) : Int) else (if (hp 61 x3) = 44 then (2 : Int) else (if (hp 61 x3) = 59 then (if x2 = 63 then ((-6) : Int) else 0) else (-6)))) else (if 8 ≤ x1 then ((-6) : Int) else (x1 + 1)))))]) [true, false, true, true, false, true] rfl ?_
          simpa only [if_neg c1281] using k989
        refine qb_cne (tgt := 132) (pc' := 113) dX11_faultOf_110 rfl rfl (fun c1449 => ?_) (fun c1449 => ?_)
        · have h := gb c1449
          refine qb_iloadn (pc' := 133) (i := 1) dX11_faultOf_132 rfl rfl rfl ?_
          refine qb_iconst (pc' := 134) dX11_faultOf_133 rfl rfl ?_
          have gb := h
          have k1115 : qb_R mX11_faultOf 0 0 qb_sh 237 [qb_a 60, none, qb_i x2, qb_i x3, none, qb_i (if x1 = 3 then (if (hp 61 x3) = 60 then (4 : Int) else (if (hp 61 x3) = 62 then (4 : Int) else (if (hp 61 x3) = 61 then (4 : Int) else (-6)))) else (if (v_m_in (hp 61 x3) 48 57) = 0 then (if x1 ≤ 4 then ((-6) : Int) else (if (hp 61 x3) = 44 then (2 : Int) else (if (hp 61 x3) = 59 then (if x2 = 63 then ((-6) : Int) else 0) else (-6)))) else (if 8 ≤ x1 then ((-6) : Int) else (x1 + 1))))] [] hp (qb_I qb_sh K) := by
            refine qb_cut (L' := [qb_a 60, none, qb_i x2, qb_i x3, none, qb_i (if x1 = 3 then (if (hp 61 x3) = 60 then (4 : Int) else (if (hp 61 x3) = 62 then (4 : Int) else (if (hp 61 x3) = 61 then (4 : Int) else (-6)))) else (if (v_m_in (hp 61 x3) 48 57) = 0 then (if x1 ≤ 4 then ((-6) : Int) else (if (hp 61 x3) = 44 then (2 : Int) else (if (hp 61 x3) = 59 then (if x2 = 63 then ((-6) : Int) else 0) else (-6)))) else (if 8 ≤ x1 then ((-6) : Int) else (x1 + 1))))]) [true, false, true, true, false, true] rfl ?_
            simpa only [if_neg c1449] using k1073
          refine qb_cne (tgt := 169) (pc' := 137) dX11_faultOf_134 rfl rfl (fun c1533 => ?_) (fun c1533 => ?_)
          · have h := gb c1533
            refine qb_iload (pc' := 171) dX11_faultOf_169 rfl rfl ?_
            refine qb_bipush (pc' := 173) dX11_faultOf_171 rfl rfl rfl ?_
            refine qb_bipush (pc' := 175) dX11_faultOf_173 rfl rfl rfl ?_
            refine qb_callSi (pc' := 178) (as := [.inl (hp 61 x3), .inl 48, .inl 57]) (rest := []) dX11_faultOf_175 rfl qe_mX11_faultOf_mX11_in rfl rfl rfl (Nat.le_of_ble_eq_true rfl) (Nat.le_of_ble_eq_true rfl) ⟨rfl, rfl⟩ (K := fun vz hpz => (v_m_in (hp 61 x3) 48 57) = vz ∧ hp = hpz) (s_m_in (hp 61 x3) 48 57 hp _ trivial ⟨rfl, rfl⟩) (fun vz hpz ez => ?_)
            obtain ⟨ez1, ez2⟩ := ez
            subst ez1
            subst ez2
            have gb := h
            have k1139 : qb_R mX11_faultOf 0 0 qb_sh 237 [qb_a 60, none, qb_i x2, qb_i x3, none, qb_i (if (v_m_in (hp 61 x3) 48 57) = 0 then (if x1 ≤ 4 then ((-6) : Int) else (if (hp 61 x3) = 44 then (2 : Int) else (if (hp 61 x3) = 59 then (if x2 = 63 then ((-6) : Int) else 0) else (-6)))) else (if 8 ≤ x1 then ((-6) : Int) else (x1 + 1)))] [] hp (qb_I qb_sh K) := by
              refine qb_cut (L' := [qb_a 60, none, qb_i x2, qb_i x3, none, qb_i (if (v_m_in (hp 61 x3) 48 57) = 0 then (if x1 ≤ 4 then ((-6) : Int) else (if (hp 61 x3) = 44 then (2 : Int) else (if (hp 61 x3) = 59 then (if x2 = 63 then ((-6) : Int) else 0) else (-6)))) else (if 8 ≤ x1 then ((-6) : Int) else (x1 + 1)))]) [true, false, true, true, false, true] rfl ?_
              simpa only [if_neg c1533] using k1115
            refine qb_feq (tgt := 200) (pc' := 181) dX11_faultOf_178 rfl rfl (fun c1581 => ?_) (fun c1581 => ?_)
            · refine qb_iloadn (pc' := 201) (i := 1) dX11_faultOf_200 rfl rfl rfl ?_
              refine qb_iconst (pc' := 202) dX11_faultOf_201 rfl rfl ?_
              have k1147 : qb_R mX11_faultOf 0 0 qb_sh 237 [qb_a 60, none, qb_i x2, qb_i x3, none, qb_i (if x1 ≤ 4 then ((-6) : Int) else (if (hp 61 x3) = 44 then (2 : Int) else (if (hp 61 x3) = 59 then (if x2 = 63 then ((-6) : Int) else 0) else (-6))))] [] hp (qb_I qb_sh K) := by
                refine qb_cut (L' := [qb_a 60, none, qb_i x2, qb_i x3, none, qb_i (if x1 ≤ 4 then ((-6) : Int) else (if (hp 61 x3) = 44 then (2 : Int) else (if (hp 61 x3) = 59 then (if x2 = 63 then ((-6) : Int) else 0) else (-6))))]) [true, false, true, true, false, true] rfl ?_
                simpa only [if_pos c1581] using k1139
              refine qb_cle (tgt := 237) (pc' := 205) dX11_faultOf_202 rfl rfl (fun c1598 => ?_) (fun c1598 => ?_)
              · refine qb_cut (L' := [qb_a 60, none, qb_i x2, qb_i x3, none, qb_i (-6)]) [true, false, true, true, false, true] rfl ?_
                simpa only [if_pos c1598] using k1147
              · refine qb_iload (pc' := 207) dX11_faultOf_205 rfl rfl ?_
                refine qb_bipush (pc' := 209) dX11_faultOf_207 rfl rfl rfl ?_
                have k1151 : qb_R mX11_faultOf 0 0 qb_sh 235 [qb_a 60, none, qb_i x2, qb_i x3, none, none] [.inl (if (hp 61 x3) = 44 then (2 : Int) else (if (hp 61 x3) = 59 then (if x2 = 63 then ((-6) : Int) else 0) else (-6)))] hp (qb_I qb_sh K) := by
                  refine qb_istore (pc' := 237) (L' := [qb_a 60, none, qb_i x2, qb_i x3, none, qb_i (if (hp 61 x3) = 44 then (2 : Int) else (if (hp 61 x3) = 59 then (if x2 = 63 then ((-6) : Int) else 0) else (-6)))]) dX11_faultOf_235 rfl (Nat.le_of_ble_eq_true rfl) rfl rfl ?_
                  refine qb_cut (L' := [qb_a 60, none, qb_i x2, qb_i x3, none, qb_i (if (hp 61 x3) = 44 then (2 : Int) else (if (hp 61 x3) = 59 then (if x2 = 63 then ((-6) : Int) else 0) else (-6)))]) [true, false, true, true, false, true] rfl ?_
                  simpa only [if_neg c1598] using k1147
                refine qb_cne (tgt := 216) (pc' := 212) dX11_faultOf_209 rfl rfl (fun c1606 => ?_) (fun c1606 => ?_)
                · refine qb_iload (pc' := 218) dX11_faultOf_216 rfl rfl ?_
                  refine qb_bipush (pc' := 220) dX11_faultOf_218 rfl rfl rfl ?_
                  have k1153 : qb_R mX11_faultOf 0 0 qb_sh 235 [qb_a 60, none, qb_i x2, qb_i x3, none, none] [.inl (if (hp 61 x3) = 59 then (if x2 = 63 then ((-6) : Int) else 0) else (-6))] hp (qb_I qb_sh K) := by
                    refine qb_cut (L' := [qb_a 60, none, qb_i x2, qb_i x3, none, none]) [true, false, true, true, false, false] rfl ?_
                    simpa only [if_neg c1606] using k1151
                  refine qb_cne (tgt := 233) (pc' := 223) dX11_faultOf_220 rfl rfl (fun c1610 => ?_) (fun c1610 => ?_)
                  · refine qb_bipush (pc' := 235) dX11_faultOf_233 rfl rfl rfl ?_
                    refine qb_cut (L' := [qb_a 60, none, qb_i x2, qb_i x3, none, none]) [true, false, true, true, false, false] rfl ?_
                    simpa only [if_neg c1610] using k1153
                  · refine qb_iloadn (pc' := 224) (i := 2) dX11_faultOf_223 rfl rfl rfl ?_
                    refine qb_bipush (pc' := 226) dX11_faultOf_224 rfl rfl rfl ?_
                    have k1154 : qb_R mX11_faultOf 0 0 qb_sh 235 [qb_a 60, none, qb_i x2, qb_i x3, none, none] [.inl (if x2 = 63 then ((-6) : Int) else 0)] hp (qb_I qb_sh K) := by
                      refine qb_cut (L' := [qb_a 60, none, qb_i x2, qb_i x3, none, none]) [true, false, true, true, false, false] rfl ?_
                      simpa only [if_pos c1610] using k1153
                    refine qb_ceq (tgt := 233) (pc' := 229) dX11_faultOf_226 rfl rfl (fun c1612 => ?_) (fun c1612 => ?_)
                    · refine qb_bipush (pc' := 235) dX11_faultOf_233 rfl rfl rfl ?_
                      refine qb_cut (L' := [qb_a 60, none, qb_i x2, qb_i x3, none, none]) [true, false, true, true, false, false] rfl ?_
                      simpa only [if_pos c1612] using k1154
                    · refine qb_iconst (pc' := 230) dX11_faultOf_229 rfl rfl ?_
                      refine qb_goto (tgt := 235) dX11_faultOf_230 rfl ?_
                      refine qb_cut (L' := [qb_a 60, none, qb_i x2, qb_i x3, none, none]) [true, false, true, true, false, false] rfl ?_
                      simpa only [if_neg c1612] using k1154
                · refine qb_iconst (pc' := 213) dX11_faultOf_212 rfl rfl ?_
                  refine qb_goto (tgt := 235) dX11_faultOf_213 rfl ?_
                  refine qb_cut (L' := [qb_a 60, none, qb_i x2, qb_i x3, none, none]) [true, false, true, true, false, false] rfl ?_
                  simpa only [if_pos c1606] using k1151
            · have h := gb c1581
              refine qb_iloadn (pc' := 182) (i := 1) dX11_faultOf_181 rfl rfl rfl ?_
              refine qb_bipush (pc' := 184) dX11_faultOf_182 rfl rfl rfl ?_
              have gb := h
              have k1155 : qb_R mX11_faultOf 0 0 qb_sh 195 [qb_a 60, none, qb_i x2, qb_i x3, none, none] [.inl (if 8 ≤ x1 then ((-6) : Int) else (x1 + 1))] hp (qb_I qb_sh K) := by
                refine qb_istore (pc' := 197) (L' := [qb_a 60, none, qb_i x2, qb_i x3, none, qb_i (if 8 ≤ x1 then ((-6) : Int) else (x1 + 1))]) dX11_faultOf_195 rfl (Nat.le_of_ble_eq_true rfl) rfl rfl ?_
                refine qb_goto (tgt := 237) dX11_faultOf_197 rfl ?_
                refine qb_cut (L' := [qb_a 60, none, qb_i x2, qb_i x3, none, qb_i (if 8 ≤ x1 then ((-6) : Int) else (x1 + 1))]) [true, false, true, true, false, true] rfl ?_
                simpa only [if_neg c1581] using k1139
              refine qb_cge (tgt := 193) (pc' := 187) dX11_faultOf_184 rfl rfl (fun c1613 => ?_) (fun c1613 => ?_)
              · refine qb_bipush (pc' := 195) dX11_faultOf_193 rfl rfl rfl ?_
                refine qb_cut (L' := [qb_a 60, none, qb_i x2, qb_i x3, none, none]) [true, false, true, true, false, false] rfl ?_
                simpa only [if_pos c1613] using k1155
              · have h := gb c1613
                refine qb_iloadn (pc' := 188) (i := 1) dX11_faultOf_187 rfl rfl rfl ?_
                refine qb_iconst (pc' := 189) dX11_faultOf_188 rfl rfl ?_
                have g1613 := h
                refine qb_iadd (pc' := 190) dX11_faultOf_189 rfl g1613 ?_
                refine qb_goto (tgt := 195) dX11_faultOf_190 rfl ?_
                refine qb_cut (L' := [qb_a 60, none, qb_i x2, qb_i x3, none, none]) [true, false, true, true, false, false] rfl ?_
                simpa only [if_neg c1613] using k1155
          · refine qb_iload (pc' := 139) dX11_faultOf_137 rfl rfl ?_
            refine qb_bipush (pc' := 141) dX11_faultOf_139 rfl rfl rfl ?_
            have k1119 : qb_R mX11_faultOf 0 0 qb_sh 164 [qb_a 60, none, qb_i x2, qb_i x3, none, none] [.inl (if (hp 61 x3) = 60 then (4 : Int) else (if (hp 61 x3) = 62 then (4 : Int) else (if (hp 61 x3) = 61 then (4 : Int) else (-6))))] hp (qb_I qb_sh K) := by
              refine qb_istore (pc' := 166) (L' := [qb_a 60, none, qb_i x2, qb_i x3, none, qb_i (if (hp 61 x3) = 60 then (4 : Int) else (if (hp 61 x3) = 62 then (4 : Int) else (if (hp 61 x3) = 61 then (4 : Int) else (-6))))]) dX11_faultOf_164 rfl (Nat.le_of_ble_eq_true rfl) rfl rfl ?_
              refine qb_goto (tgt := 237) dX11_faultOf_166 rfl ?_
              refine qb_cut (L' := [qb_a 60, none, qb_i x2, qb_i x3, none, qb_i (if (hp 61 x3) = 60 then (4 : Int) else (if (hp 61 x3) = 62 then (4 : Int) else (if (hp 61 x3) = 61 then (4 : Int) else (-6))))]) [true, false, true, true, false, true] rfl ?_
              simpa only [if_pos c1533] using k1115
            refine qb_ceq (tgt := 158) (pc' := 144) dX11_faultOf_141 rfl rfl (fun c1574 => ?_) (fun c1574 => ?_)
            · refine qb_iconst (pc' := 159) dX11_faultOf_158 rfl rfl ?_
              refine qb_goto (tgt := 164) dX11_faultOf_159 rfl ?_
              refine qb_cut (L' := [qb_a 60, none, qb_i x2, qb_i x3, none, none]) [true, false, true, true, false, false] rfl ?_
              simpa only [if_pos c1574] using k1119
            · refine qb_iload (pc' := 146) dX11_faultOf_144 rfl rfl ?_
              refine qb_bipush (pc' := 148) dX11_faultOf_146 rfl rfl rfl ?_
              have k1121 : qb_R mX11_faultOf 0 0 qb_sh 164 [qb_a 60, none, qb_i x2, qb_i x3, none, none] [.inl (if (hp 61 x3) = 62 then (4 : Int) else (if (hp 61 x3) = 61 then (4 : Int) else (-6)))] hp (qb_I qb_sh K) := by
                refine qb_cut (L' := [qb_a 60, none, qb_i x2, qb_i x3, none, none]) [true, false, true, true, false, false] rfl ?_
                simpa only [if_neg c1574] using k1119
              refine qb_ceq (tgt := 158) (pc' := 151) dX11_faultOf_148 rfl rfl (fun c1578 => ?_) (fun c1578 => ?_)
              · refine qb_iconst (pc' := 159) dX11_faultOf_158 rfl rfl ?_
                refine qb_goto (tgt := 164) dX11_faultOf_159 rfl ?_
                refine qb_cut (L' := [qb_a 60, none, qb_i x2, qb_i x3, none, none]) [true, false, true, true, false, false] rfl ?_
                simpa only [if_pos c1578] using k1121
              · refine qb_iload (pc' := 153) dX11_faultOf_151 rfl rfl ?_
                refine qb_bipush (pc' := 155) dX11_faultOf_153 rfl rfl rfl ?_
                have k1122 : qb_R mX11_faultOf 0 0 qb_sh 164 [qb_a 60, none, qb_i x2, qb_i x3, none, none] [.inl (if (hp 61 x3) = 61 then (4 : Int) else (-6))] hp (qb_I qb_sh K) := by
                  refine qb_cut (L' := [qb_a 60, none, qb_i x2, qb_i x3, none, none]) [true, false, true, true, false, false] rfl ?_
                  simpa only [if_neg c1578] using k1121
                refine qb_cne (tgt := 162) (pc' := 158) dX11_faultOf_155 rfl rfl (fun c1580 => ?_) (fun c1580 => ?_)
                · refine qb_bipush (pc' := 164) dX11_faultOf_162 rfl rfl rfl ?_
                  refine qb_cut (L' := [qb_a 60, none, qb_i x2, qb_i x3, none, none]) [true, false, true, true, false, false] rfl ?_
                  simpa only [if_neg c1580] using k1122
                · refine qb_iconst (pc' := 159) dX11_faultOf_158 rfl rfl ?_
                  refine qb_goto (tgt := 164) dX11_faultOf_159 rfl ?_
                  refine qb_cut (L' := [qb_a 60, none, qb_i x2, qb_i x3, none, none]) [true, false, true, true, false, false] rfl ?_
                  simpa only [if_pos c1580] using k1122
        · refine qb_iload (pc' := 115) dX11_faultOf_113 rfl rfl ?_
          refine qb_callSi (pc' := 118) (as := [.inl (hp 61 x3)]) (rest := []) dX11_faultOf_115 rfl qe_mX11_faultOf_mX11_isFact rfl rfl rfl (Nat.le_of_ble_eq_true rfl) (Nat.le_of_ble_eq_true rfl) ⟨rfl, rfl⟩ (K := fun vz hpz => (v_m_isFact (hp 61 x3)) = vz ∧ hp = hpz) (s_m_isFact (hp 61 x3) hp _ trivial ⟨rfl, rfl⟩) (fun vz hpz ez => ?_)
          obtain ⟨ez1, ez2⟩ := ez
          subst ez1
          subst ez2
          have k1074 : qb_R mX11_faultOf 0 0 qb_sh 127 [qb_a 60, none, qb_i x2, qb_i x3, none, none] [.inl (if (v_m_isFact (hp 61 x3)) = 0 then ((-6) : Int) else 3)] hp (qb_I qb_sh K) := by
            refine qb_istore (pc' := 129) (L' := [qb_a 60, none, qb_i x2, qb_i x3, none, qb_i (if (v_m_isFact (hp 61 x3)) = 0 then ((-6) : Int) else 3)]) dX11_faultOf_127 rfl (Nat.le_of_ble_eq_true rfl) rfl rfl ?_
            refine qb_goto (tgt := 237) dX11_faultOf_129 rfl ?_
            refine qb_cut (L' := [qb_a 60, none, qb_i x2, qb_i x3, none, qb_i (if (v_m_isFact (hp 61 x3)) = 0 then ((-6) : Int) else 3)]) [true, false, true, true, false, true] rfl ?_
            simpa only [if_pos c1449] using k1073
          refine qb_feq (tgt := 125) (pc' := 121) dX11_faultOf_118 rfl rfl (fun c1532 => ?_) (fun c1532 => ?_)
          · refine qb_bipush (pc' := 127) dX11_faultOf_125 rfl rfl rfl ?_
            refine qb_cut (L' := [qb_a 60, none, qb_i x2, qb_i x3, none, none]) [true, false, true, true, false, false] rfl ?_
            simpa only [if_pos c1532] using k1074
          · refine qb_iconst (pc' := 122) dX11_faultOf_121 rfl rfl ?_
            refine qb_goto (tgt := 127) dX11_faultOf_122 rfl ?_
            refine qb_cut (L' := [qb_a 60, none, qb_i x2, qb_i x3, none, none]) [true, false, true, true, false, false] rfl ?_
            simpa only [if_neg c1532] using k1074
      · refine qb_iload (pc' := 92) dX11_faultOf_90 rfl rfl ?_
        refine qb_bipush (pc' := 94) dX11_faultOf_92 rfl rfl rfl ?_
        have k990 : qb_R mX11_faultOf 0 0 qb_sh 103 [qb_a 60, none, qb_i x2, qb_i x3, none, none] [.inl (if (hp 61 x3) = 58 then (2 : Int) else (-6))] hp (qb_I qb_sh K) := by
          refine qb_istore (pc' := 105) (L' := [qb_a 60, none, qb_i x2, qb_i x3, none, qb_i (if (hp 61 x3) = 58 then (2 : Int) else (-6))]) dX11_faultOf_103 rfl (Nat.le_of_ble_eq_true rfl) rfl rfl ?_
          refine qb_goto (tgt := 237) dX11_faultOf_105 rfl ?_
          refine qb_cut (L' := [qb_a 60, none, qb_i x2, qb_i x3, none, qb_i (if (hp 61 x3) = 58 then (2 : Int) else (-6))]) [true, false, true, true, false, true] rfl ?_
          simpa only [if_pos c1281] using k989
        refine qb_cne (tgt := 101) (pc' := 97) dX11_faultOf_94 rfl rfl (fun c1448 => ?_) (fun c1448 => ?_)
        · refine qb_bipush (pc' := 103) dX11_faultOf_101 rfl rfl rfl ?_
          refine qb_cut (L' := [qb_a 60, none, qb_i x2, qb_i x3, none, none]) [true, false, true, true, false, false] rfl ?_
          simpa only [if_neg c1448] using k990
        · refine qb_iconst (pc' := 98) dX11_faultOf_97 rfl rfl ?_
          refine qb_goto (tgt := 103) dX11_faultOf_98 rfl ?_
          refine qb_cut (L' := [qb_a 60, none, qb_i x2, qb_i x3, none, none]) [true, false, true, true, false, false] rfl ?_
          simpa only [if_pos c1448] using k990
    · have h := ga c939
      refine qb_iload (pc' := 32) dX11_faultOf_30 rfl rfl ?_
      refine qb_bipush (pc' := 34) dX11_faultOf_32 rfl rfl rfl ?_
      refine qb_bipush (pc' := 36) dX11_faultOf_34 rfl rfl rfl ?_
      refine qb_callSi (pc' := 39) (as := [.inl (hp 61 x3), .inl 65, .inl 70]) (rest := []) dX11_faultOf_36 rfl qe_mX11_faultOf_mX11_in rfl rfl rfl (Nat.le_of_ble_eq_true rfl) (Nat.le_of_ble_eq_true rfl) ⟨rfl, rfl⟩ (K := fun vz hpz => (v_m_in (hp 61 x3) 65 70) = vz ∧ hp = hpz) (s_m_in (hp 61 x3) 65 70 hp _ trivial ⟨rfl, rfl⟩) (fun vz hpz ez => ?_)
      obtain ⟨ez1, ez2⟩ := ez
      subst ez1
      subst ez2
      obtain ⟨gb, h⟩ := h
      have k820 : qb_R mX11_faultOf 0 0 qb_sh 60 [qb_a 60, none, qb_i x2, qb_i x3, qb_i (hp 61 x3), none] [.inl (if (v_m_in (hp 61 x3) 65 70) = 0 then ((-6) : Int) else (if (qb_and (qb_shr x2 ((hp 61 x3) - 65)) 1) = 0 then (1 : Int) else (-6)))] hp (qb_I qb_sh K) := by
        refine qb_istore (pc' := 62) (L' := [qb_a 60, none, qb_i x2, qb_i x3, qb_i (hp 61 x3), qb_i (if (v_m_in (hp 61 x3) 65 70) = 0 then ((-6) : Int) else (if (qb_and (qb_shr x2 ((hp 61 x3) - 65)) 1) = 0 then (1 : Int) else (-6)))]) dX11_faultOf_60 rfl (Nat.le_of_ble_eq_true rfl) rfl rfl ?_
        refine qb_iloadn (pc' := 63) (i := 2) dX11_faultOf_62 rfl rfl rfl ?_
        refine qb_iload (pc' := 65) dX11_faultOf_63 rfl rfl ?_
        refine qb_iconst (pc' := 66) dX11_faultOf_65 rfl rfl ?_
        have ga := h
        have k822 : qb_R mX11_faultOf 0 0 qb_sh 80 [qb_a 60, none, none, qb_i x3, none, qb_i (if (v_m_in (hp 61 x3) 65 70) = 0 then ((-6) : Int) else (if (qb_and (qb_shr x2 ((hp 61 x3) - 65)) 1) = 0 then (1 : Int) else (-6)))] [.inl (if (if (v_m_in (hp 61 x3) 65 70) = 0 then ((-6) : Int) else (if (qb_and (qb_shr x2 ((hp 61 x3) - 65)) 1) = 0 then (1 : Int) else (-6))) = 1 then (qb_shl 1 ((hp 61 x3) - 65)) else 0), .inl x2] hp (qb_I qb_sh K) := by
          refine qb_ior (pc' := 81) dX11_faultOf_80 rfl ?_
          refine qb_istoren (pc' := 82) (i := 2) (L' := [qb_a 60, none, qb_i (qb_or x2 (if (if (v_m_in (hp 61 x3) 65 70) = 0 then ((-6) : Int) else (if (qb_and (qb_shr x2 ((hp 61 x3) - 65)) 1) = 0 then (1 : Int) else (-6))) = 1 then (qb_shl 1 ((hp 61 x3) - 65)) else 0)), qb_i x3, none, qb_i (if (v_m_in (hp 61 x3) 65 70) = 0 then ((-6) : Int) else (if (qb_and (qb_shr x2 ((hp 61 x3) - 65)) 1) = 0 then (1 : Int) else (-6)))]) dX11_faultOf_81 rfl rfl (Nat.le_of_ble_eq_true rfl) rfl rfl ?_
          refine qb_goto (tgt := 237) dX11_faultOf_82 rfl ?_
          refine qb_cut (L' := [qb_a 60, none, qb_i (qb_or x2 (if (if (v_m_in (hp 61 x3) 65 70) = 0 then ((-6) : Int) else (if (qb_and (qb_shr x2 ((hp 61 x3) - 65)) 1) = 0 then (1 : Int) else (-6))) = 1 then (qb_shl 1 ((hp 61 x3) - 65)) else 0)), qb_i x3, none, qb_i (if (v_m_in (hp 61 x3) 65 70) = 0 then ((-6) : Int) else (if (qb_and (qb_shr x2 ((hp 61 x3) - 65)) 1) = 0 then (1 : Int) else (-6)))]) [true, false, true, true, false, true] rfl ?_
          exact k818 _ _ (if_pos c939).symm (if_pos c939).symm
        refine qb_cne (tgt := 79) (pc' := 69) dX11_faultOf_66 rfl rfl (fun c1280 => ?_) (fun c1280 => ?_)
        · refine qb_iconst (pc' := 80) dX11_faultOf_79 rfl rfl ?_
          refine qb_cut (L' := [qb_a 60, none, none, qb_i x3, none, qb_i (if (v_m_in (hp 61 x3) 65 70) = 0 then ((-6) : Int) else (if (qb_and (qb_shr x2 ((hp 61 x3) - 65)) 1) = 0 then (1 : Int) else (-6)))]) [true, false, false, true, false, true] rfl ?_
          simpa only [if_neg c1280] using k822
        · have h := ga c1280
          refine qb_iconst (pc' := 70) dX11_faultOf_69 rfl rfl ?_
          refine qb_iload (pc' := 72) dX11_faultOf_70 rfl rfl ?_
          refine qb_bipush (pc' := 74) dX11_faultOf_72 rfl rfl rfl ?_
          have g1581 := h
          refine qb_isub (pc' := 75) dX11_faultOf_74 rfl g1581 ?_
          refine qb_ishl (pc' := 76) dX11_faultOf_75 rfl ?_
          refine qb_goto (tgt := 80) dX11_faultOf_76 rfl ?_
          refine qb_cut (L' := [qb_a 60, none, none, qb_i x3, none, qb_i (if (v_m_in (hp 61 x3) 65 70) = 0 then ((-6) : Int) else (if (qb_and (qb_shr x2 ((hp 61 x3) - 65)) 1) = 0 then (1 : Int) else (-6)))]) [true, false, false, true, false, true] rfl ?_
          simpa only [if_pos c1280] using k822
      refine qb_feq (tgt := 58) (pc' := 42) dX11_faultOf_39 rfl rfl (fun c1277 => ?_) (fun c1277 => ?_)
      · refine qb_bipush (pc' := 60) dX11_faultOf_58 rfl rfl rfl ?_
        refine qb_cut (L' := [qb_a 60, none, qb_i x2, qb_i x3, qb_i (hp 61 x3), none]) [true, false, true, true, true, false] rfl ?_
        simpa only [if_pos c1277] using k820
      · have h := gb c1277
        refine qb_iloadn (pc' := 43) (i := 2) dX11_faultOf_42 rfl rfl rfl ?_
        refine qb_iload (pc' := 45) dX11_faultOf_43 rfl rfl ?_
        refine qb_bipush (pc' := 47) dX11_faultOf_45 rfl rfl rfl ?_
        have g1579 := h
        refine qb_isub (pc' := 48) dX11_faultOf_47 rfl g1579 ?_
        refine qb_ishr (pc' := 49) dX11_faultOf_48 rfl ?_
        refine qb_iconst (pc' := 50) dX11_faultOf_49 rfl rfl ?_
        refine qb_iand (pc' := 51) dX11_faultOf_50 rfl ?_
        have k821 : qb_R mX11_faultOf 0 0 qb_sh 60 [qb_a 60, none, qb_i x2, qb_i x3, qb_i (hp 61 x3), none] [.inl (if (qb_and (qb_shr x2 ((hp 61 x3) - 65)) 1) = 0 then (1 : Int) else (-6))] hp (qb_I qb_sh K) := by
          refine qb_cut (L' := [qb_a 60, none, qb_i x2, qb_i x3, qb_i (hp 61 x3), none]) [true, false, true, true, true, false] rfl ?_
          simpa only [if_neg c1277] using k820
        refine qb_fne (tgt := 58) (pc' := 54) dX11_faultOf_51 rfl rfl (fun c1279 => ?_) (fun c1279 => ?_)
        · refine qb_bipush (pc' := 60) dX11_faultOf_58 rfl rfl rfl ?_
          refine qb_cut (L' := [qb_a 60, none, qb_i x2, qb_i x3, qb_i (hp 61 x3), none]) [true, false, true, true, true, false] rfl ?_
          simpa only [if_neg c1279] using k821
        · refine qb_iconst (pc' := 55) dX11_faultOf_54 rfl rfl ?_
          refine qb_goto (tgt := 60) dX11_faultOf_55 rfl ?_
          refine qb_cut (L' := [qb_a 60, none, qb_i x2, qb_i x3, qb_i (hp 61 x3), none]) [true, false, true, true, true, false] rfl ?_
          simpa only [if_pos c1279] using k821
def c_m_act (x1 : Int) (hp : qb_H) (K : Int → qb_H → Prop) : Prop := qb_R mX11_act 0 0 qb_sh 0 [qb_a 60, qb_i x1, none] [] hp (qb_I qb_sh K)
def r_m_act_57 (x2 : Int) (hp : qb_H) (K : Int → qb_H → Prop) : Prop := qb_R mX11_act 0 0 qb_sh 57 [qb_a 60, none, qb_i x2] [] hp (qb_I qb_sh K)
theorem b_m_act {x1 : Int} {hp : qb_H} {K : Int → qb_H → Prop} (h : ((v_m_isDay x1) = 0 → K (-2) hp) ∧ (¬ (v_m_isDay x1) = 0 → ((hp 60 2) = 8 → K (-4) hp) ∧ (¬ (hp 60 2) = 8 → c_m_faultOf hp (fun v251 hp251 => (v251 < 0 → (0 ≤ (hp251 60 2) ∧ (hp251 60 2) < 8) ∧ r_m_act_57 0 (qb_st (qb_st hp251 62 (hp251 60 2) x1) 63 (hp251 60 2) (hp251 60 0)) K) ∧ (¬ v251 < 0 → K (-5) hp251))))) : c_m_act x1 hp K := by
  unfold c_m_act
  refine qb_iloadn (pc' := 1) (i := 1) dX11_act_0 rfl rfl rfl ?_
  refine qb_callSi (pc' := 4) (as := [.inl x1]) (rest := []) dX11_act_1 rfl qe_mX11_act_mX11_isDay rfl rfl rfl (Nat.le_of_ble_eq_true rfl) (Nat.le_of_ble_eq_true rfl) ⟨rfl, rfl⟩ (K := fun vz hpz => (v_m_isDay x1) = vz ∧ hp = hpz) (s_m_isDay x1 hp _ trivial ⟨rfl, rfl⟩) (fun vz hpz ez => ?_)
  obtain ⟨ez1, ez2⟩ := ez
  subst ez1
  subst ez2
  refine qb_fne (tgt := 10) (pc' := 7) dX11_act_4 rfl rfl (fun c1616 => ?_) (fun c1616 => ?_)
  · have h := h.2 c1616
    refine qb_aloadn (pc' := 11) (i := 0) dX11_act_10 rfl rfl rfl ?_
    refine qb_geti (pc' := 14) (v := (hp 60 2)) dX11_act_11 rfl qf_X11_113 qb_s60 rfl rfl ?_
    refine qb_bipush (pc' := 16) dX11_act_14 rfl rfl rfl ?_
    refine qb_cne (tgt := 22) (pc' := 19) dX11_act_16 rfl rfl (fun c1617 => ?_) (fun c1617 => ?_)
    · have h := h.2 c1617
      refine qb_aloadn (pc' := 23) (i := 0) dX11_act_22 rfl rfl rfl ?_
      refine qb_callVi (pc' := 26) (b := 60) (as := []) (rest := []) dX11_act_23 rfl qe_mX11_act_mX11_faultOf rfl rfl qb_s60 rfl rfl (Nat.le_of_ble_eq_true rfl) (Nat.le_of_ble_eq_true rfl) ⟨rfl, rfl⟩ h (fun v251 hp251 h => ?_)
      refine qb_flt (tgt := 32) (pc' := 29) dX11_act_26 rfl rfl (fun c1618 => ?_) (fun c1618 => ?_)
      · have h := h.1 c1618
        refine qb_aloadn (pc' := 33) (i := 0) dX11_act_32 rfl rfl rfl ?_
        refine qb_geta (pc' := 36) dX11_act_33 rfl qf_X11_13 qb_s60 rfl ?_
        refine qb_aloadn (pc' := 37) (i := 0) dX11_act_36 rfl rfl rfl ?_
        refine qb_geti (pc' := 40) (v := (hp251 60 2)) dX11_act_37 rfl qf_X11_113 qb_s60 rfl rfl ?_
        refine qb_iloadn (pc' := 41) (i := 1) dX11_act_40 rfl rfl rfl ?_
        obtain ⟨g1615, h⟩ := h
        refine qb_iast (pc' := 42) dX11_act_41 rfl qb_s62 g1615.1 g1615.2 ?_
        refine qb_aloadn (pc' := 43) (i := 0) dX11_act_42 rfl rfl rfl ?_
        refine qb_geta (pc' := 46) dX11_act_43 rfl qf_X11_16 qb_s60 rfl ?_
        refine qb_aloadn (pc' := 47) (i := 0) dX11_act_46 rfl rfl rfl ?_
        refine qb_geti (pc' := 50) (v := (hp251 60 2)) dX11_act_47 rfl qf_X11_113 qb_s60 rfl (qb_rdn rfl rfl) ?_
        refine qb_aloadn (pc' := 51) (i := 0) dX11_act_50 rfl rfl rfl ?_
        refine qb_geti (pc' := 54) (v := (hp251 60 0)) dX11_act_51 rfl qf_X11_98 qb_s60 rfl (qb_rdn rfl rfl) ?_
        refine qb_iast (pc' := 55) dX11_act_54 rfl qb_s63 g1615.1 g1615.2 ?_
        refine qb_iconst (pc' := 56) dX11_act_55 rfl rfl ?_
        refine qb_istoren (pc' := 57) (i := 2) (L' := [qb_a 60, qb_i x1, qb_i 0]) dX11_act_56 rfl rfl (Nat.le_of_ble_eq_true rfl) rfl rfl ?_
        refine qb_cut (L' := [qb_a 60, none, qb_i 0]) [true, false, true] rfl ?_
        exact h
      · have h := h.2 c1618
        refine qb_bipush (pc' := 31) dX11_act_29 rfl rfl rfl ?_
        exact qb_reti dX11_act_31 rfl h
    · have h := h.1 c1617
      refine qb_bipush (pc' := 21) dX11_act_19 rfl rfl rfl ?_
      exact qb_reti dX11_act_21 rfl h
  · have h := h.1 c1616
    refine qb_bipush (pc' := 9) dX11_act_7 rfl rfl rfl ?_
    exact qb_reti dX11_act_9 rfl h
theorem b_m_act_57 {x2 : Int} {hp : qb_H} {K : Int → qb_H → Prop} (h : ((hp 60 0) ≤ x2 → (qb_in ((hp 60 2) + 1)) ∧ K ((hp 60 2) + 1) (qb_st (qb_st hp 60 2 ((hp 60 2) + 1)) 60 0 0)) ∧ (¬ (hp 60 0) ≤ x2 → (qb_in (60 * (hp 60 2))) ∧ (qb_in ((60 * (hp 60 2)) + x2)) ∧ (0 ≤ x2 ∧ x2 < 60) ∧ (0 ≤ ((60 * (hp 60 2)) + x2) ∧ ((60 * (hp 60 2)) + x2) < 480) ∧ r_m_act_57 (x2 + 1) (qb_st hp 64 ((60 * (hp 60 2)) + x2) (hp 61 x2)) K)) : r_m_act_57 x2 hp K := by
  unfold r_m_act_57
  refine qb_iloadn (pc' := 58) (i := 2) dX11_act_57 rfl rfl rfl ?_
  refine qb_aloadn (pc' := 59) (i := 0) dX11_act_58 rfl rfl rfl ?_
  refine qb_geti (pc' := 62) (v := (hp 60 0)) dX11_act_59 rfl qf_X11_98 qb_s60 rfl rfl ?_
  refine qb_cge (tgt := 91) (pc' := 65) dX11_act_62 rfl rfl (fun c1619 => ?_) (fun c1619 => ?_)
  · have h := h.1 c1619
    refine qb_aloadn (pc' := 92) (i := 0) dX11_act_91 rfl rfl rfl ?_
    refine qb_dup (pc' := 93) dX11_act_92 rfl rfl ?_
    refine qb_geti (pc' := 96) (v := (hp 60 2)) dX11_act_93 rfl qf_X11_113 qb_s60 rfl rfl ?_
    refine qb_iconst (pc' := 97) dX11_act_96 rfl rfl ?_
    obtain ⟨g1616, h⟩ := h
    refine qb_iadd (pc' := 98) dX11_act_97 rfl g1616 ?_
    refine qb_puti (pc' := 101) (hp' := (qb_st hp 60 2 ((hp 60 2) + 1))) dX11_act_98 rfl qf_X11_113 (Or.inl rfl) qb_s60 rfl rfl ?_
    refine qb_aloadn (pc' := 102) (i := 0) dX11_act_101 rfl rfl rfl ?_
    refine qb_iconst (pc' := 103) dX11_act_102 rfl rfl ?_
    refine qb_puti (pc' := 106) (hp' := (qb_st (qb_st hp 60 2 ((hp 60 2) + 1)) 60 0 0)) dX11_act_103 rfl qf_X11_98 (Or.inl rfl) qb_s60 rfl rfl ?_
    refine qb_aloadn (pc' := 107) (i := 0) dX11_act_106 rfl rfl rfl ?_
    refine qb_geti (pc' := 110) (v := ((hp 60 2) + 1)) dX11_act_107 rfl qf_X11_113 qb_s60 rfl (qb_rdl (by decide) qb_rds) ?_
    exact qb_reti dX11_act_110 rfl h
  · have h := h.2 c1619
    refine qb_aloadn (pc' := 66) (i := 0) dX11_act_65 rfl rfl rfl ?_
    refine qb_geta (pc' := 69) dX11_act_66 rfl qf_X11_19 qb_s60 rfl ?_
    refine qb_bipush (pc' := 71) dX11_act_69 rfl rfl rfl ?_
    refine qb_aloadn (pc' := 72) (i := 0) dX11_act_71 rfl rfl rfl ?_
    refine qb_geti (pc' := 75) (v := (hp 60 2)) dX11_act_72 rfl qf_X11_113 qb_s60 rfl rfl ?_
    obtain ⟨g1617, h⟩ := h
    refine qb_imul (pc' := 76) dX11_act_75 rfl g1617 ?_
    refine qb_iloadn (pc' := 77) (i := 2) dX11_act_76 rfl rfl rfl ?_
    obtain ⟨g1618, h⟩ := h
    refine qb_iadd (pc' := 78) dX11_act_77 rfl g1618 ?_
    refine qb_aloadn (pc' := 79) (i := 0) dX11_act_78 rfl rfl rfl ?_
    refine qb_geta (pc' := 82) dX11_act_79 rfl qf_X11_7 qb_s60 rfl ?_
    refine qb_iloadn (pc' := 83) (i := 2) dX11_act_82 rfl rfl rfl ?_
    obtain ⟨g1619, h⟩ := h
    refine qb_iald (pc' := 84) (v := (hp 61 x2)) dX11_act_83 rfl qb_s61 g1619.1 g1619.2 rfl ?_
    obtain ⟨g1620, h⟩ := h
    refine qb_iast (pc' := 85) dX11_act_84 rfl qb_s64 g1620.1 g1620.2 ?_
    refine qb_iinc (pc' := 88) (L' := [qb_a 60, none, qb_i (x2 + 1)]) dX11_act_85 rfl rfl (qb_ina g1619 (by decide)) (Nat.le_of_ble_eq_true rfl) rfl rfl ?_
    refine qb_goto (tgt := 57) dX11_act_88 rfl ?_
    refine qb_cut (L' := [qb_a 60, none, qb_i (x2 + 1)]) [true, false, true] rfl ?_
    exact h
def c_m_takes (x1 : Int) (x2 : Int) (hp : qb_H) (K : Int → qb_H → Prop) : Prop := qb_R mX11_takes 0 0 qb_sh 0 [qb_a 60, qb_i x1, qb_i x2, none] [] hp (qb_I qb_sh K)
def r_m_takes_23 (x2 : Int) (x3 : Int) (hp : qb_H) (K : Int → qb_H → Prop) : Prop := qb_R mX11_takes 0 0 qb_sh 23 [qb_a 60, none, qb_i x2, qb_i x3] [] hp (qb_I qb_sh K)
theorem b_m_takes {x1 x2 : Int} {hp : qb_H} {K : Int → qb_H → Prop} (h : c_m_beginBarrels x1 hp (fun hp254 => (g_m_barrelsNow hp254) ∧ (qb_in ((v_m_barrelsNow hp254) - 1)) ∧ (((v_m_in x2 0 ((v_m_barrelsNow hp254) - 1)) = 0 → K 0 hp254) ∧ (¬ (v_m_in x2 0 ((v_m_barrelsNow hp254) - 1)) = 0 → r_m_takes_23 x2 0 hp254 K)))) : c_m_takes x1 x2 hp K := by
  unfold c_m_takes
  refine qb_aloadn (pc' := 1) (i := 0) dX11_takes_0 rfl rfl rfl ?_
  refine qb_iloadn (pc' := 2) (i := 1) dX11_takes_1 rfl rfl rfl ?_
  refine qb_callVu (pc' := 5) (b := 60) (as := [.inl x1]) (rest := []) dX11_takes_2 rfl qe_mX11_takes_mX11_beginBarrels rfl rfl qb_s60 rfl rfl (Nat.le_of_ble_eq_true rfl) (Nat.le_of_ble_eq_true rfl) ⟨rfl, rfl⟩ h (fun hp254 h => ?_)
  refine qb_iloadn (pc' := 6) (i := 2) dX11_takes_5 rfl rfl rfl ?_
  refine qb_iconst (pc' := 7) dX11_takes_6 rfl rfl ?_
  refine qb_aloadn (pc' := 8) (i := 0) dX11_takes_7 rfl rfl rfl ?_
  obtain ⟨g1625, h⟩ := h
  refine qb_callVi (pc' := 11) (b := 60) (as := []) (rest := [.inl 0, .inl x2]) dX11_takes_8 rfl qe_mX11_takes_mX11_barrelsNow rfl rfl qb_s60 rfl rfl (Nat.le_of_ble_eq_true rfl) (Nat.le_of_ble_eq_true rfl) ⟨rfl, rfl⟩ (K := fun vz hpz => (v_m_barrelsNow hp254) = vz ∧ hp254 = hpz) (s_m_barrelsNow  hp254 _ g1625 ⟨rfl, rfl⟩) (fun vz hpz ez => ?_)
  obtain ⟨ez1, ez2⟩ := ez
  subst ez1
  subst ez2
  refine qb_iconst (pc' := 12) dX11_takes_11 rfl rfl ?_
  obtain ⟨g1626, h⟩ := h
  refine qb_isub (pc' := 13) dX11_takes_12 rfl g1626 ?_
  refine qb_callSi (pc' := 16) (as := [.inl x2, .inl 0, .inl ((v_m_barrelsNow hp254) - 1)]) (rest := []) dX11_takes_13 rfl qe_mX11_takes_mX11_in rfl rfl rfl (Nat.le_of_ble_eq_true rfl) (Nat.le_of_ble_eq_true rfl) ⟨rfl, rfl⟩ (K := fun vz hpz => (v_m_in x2 0 ((v_m_barrelsNow hp254) - 1)) = vz ∧ hp254 = hpz) (s_m_in x2 0 ((v_m_barrelsNow hp254) - 1) hp254 _ trivial ⟨rfl, rfl⟩) (fun vz hpz ez => ?_)
  obtain ⟨ez1, ez2⟩ := ez
  subst ez1
  subst ez2
  refine qb_fne (tgt := 21) (pc' := 19) dX11_takes_16 rfl rfl (fun c1624 => ?_) (fun c1624 => ?_)
  · have h := h.2 c1624
    refine qb_iconst (pc' := 22) dX11_takes_21 rfl rfl ?_
    refine qb_istoren (pc' := 23) (i := 3) (L' := [qb_a 60, qb_i x1, qb_i x2, qb_i 0]) dX11_takes_22 rfl rfl (Nat.le_of_ble_eq_true rfl) rfl rfl ?_
    refine qb_cut (L' := [qb_a 60, none, qb_i x2, qb_i 0]) [true, false, true, true] rfl ?_
    exact h
  · have h := h.1 c1624
    refine qb_iconst (pc' := 20) dX11_takes_19 rfl rfl ?_
    exact qb_retz dX11_takes_20 rfl (Or.inl rfl) h
theorem b_m_takes_23 {x2 x3 : Int} {hp : qb_H} {K : Int → qb_H → Prop} (h : (x2 < x3 → K 1 hp) ∧ (¬ x2 < x3 → c_m_takeBarrel hp (fun hp255 => (qb_in (x3 + 1)) ∧ r_m_takes_23 x2 (x3 + 1) hp255 K))) : r_m_takes_23 x2 x3 hp K := by
  unfold r_m_takes_23
  refine qb_iloadn (pc' := 24) (i := 3) dX11_takes_23 rfl rfl rfl ?_
  refine qb_iloadn (pc' := 25) (i := 2) dX11_takes_24 rfl rfl rfl ?_
  refine qb_cgt (tgt := 38) (pc' := 28) dX11_takes_25 rfl rfl (fun c1625 => ?_) (fun c1625 => ?_)
  · have h := h.1 c1625
    refine qb_iconst (pc' := 39) dX11_takes_38 rfl rfl ?_
    exact qb_retz dX11_takes_39 rfl (Or.inr rfl) h
  · have h := h.2 c1625
    refine qb_aloadn (pc' := 29) (i := 0) dX11_takes_28 rfl rfl rfl ?_
    refine qb_callVu (pc' := 32) (b := 60) (as := []) (rest := []) dX11_takes_29 rfl qe_mX11_takes_mX11_takeBarrel rfl rfl qb_s60 rfl rfl (Nat.le_of_ble_eq_true rfl) (Nat.le_of_ble_eq_true rfl) ⟨rfl, rfl⟩ h (fun hp255 h => ?_)
    obtain ⟨g1627, h⟩ := h
    refine qb_iinc (pc' := 35) (L' := [qb_a 60, none, qb_i x2, qb_i (x3 + 1)]) dX11_takes_32 rfl rfl g1627 (Nat.le_of_ble_eq_true rfl) rfl rfl ?_
    refine qb_goto (tgt := 23) dX11_takes_35 rfl ?_
    refine qb_cut (L' := [qb_a 60, none, qb_i x2, qb_i (x3 + 1)]) [true, false, true, true] rfl ?_
    exact h
def c_m_barrel (x1 : Int) (x2 : Int) (x3 : Int) (hp : qb_H) (K : Int → qb_H → Prop) : Prop := qb_R mX11_barrel 0 0 qb_sh 0 [qb_a 60, qb_i x1, qb_i x2, qb_i x3] [] hp (qb_I qb_sh K)
theorem b_m_barrel {x1 x2 x3 : Int} {hp : qb_H} {K : Int → qb_H → Prop} (h : ((v_m_isQuay x1) = 0 → K (-1) hp) ∧ (¬ (v_m_isQuay x1) = 0 → (x2 = (-1) → c_m_workQuay x1 hp (fun hp259 => (¬ (v_m_in x3 0 6) = 0 → g_m_barrelsNow hp259) ∧ (∀ (y260 : Int), y260 = (if (v_m_in x3 0 6) = 0 then ((-2) : Int) else (v_m_barrelsNow hp259)) → K y260 hp259))) ∧ (¬ x2 = (-1) → c_m_takes x1 x2 hp (fun v261 hp261 => (v261 = 0 → K (-1) hp261) ∧ (¬ v261 = 0 → (x3 = 0 → K (hp261 60 29) hp261) ∧ (¬ x3 = 0 → (x3 = 1 → K (hp261 60 30) hp261) ∧ (¬ x3 = 1 → (x3 = 2 → (0 ≤ (hp261 67 1)) ∧ (0 < (hp261 67 2)) ∧ K ((hp261 67 1) / (hp261 67 2)) hp261) ∧ (¬ x3 = 2 → (x3 = 3 → c_m_saltOf x1 3 hp261 (fun v262 hp262 => K v262 hp262)) ∧ (¬ x3 = 3 → (x3 = 4 → c_m_saltOf x1 2 hp261 (fun v263 hp263 => K v263 hp263)) ∧ (¬ x3 = 4 → (x3 = 5 → K (hp261 60 31) hp261) ∧ (¬ x3 = 5 → (x3 = 6 → K (hp261 60 32) hp261) ∧ (¬ x3 = 6 → K (-2) hp261)))))))))))) : c_m_barrel x1 x2 x3 hp K := by
  unfold c_m_barrel
  refine qb_iloadn (pc' := 1) (i := 1) dX11_barrel_0 rfl rfl rfl ?_
  refine qb_callSi (pc' := 4) (as := [.inl x1]) (rest := []) dX11_barrel_1 rfl qe_mX11_barrel_mX11_isQuay rfl rfl rfl (Nat.le_of_ble_eq_true rfl) (Nat.le_of_ble_eq_true rfl) ⟨rfl, rfl⟩ (K := fun vz hpz => (v_m_isQuay x1) = vz ∧ hp = hpz) (s_m_isQuay x1 hp _ trivial ⟨rfl, rfl⟩) (fun vz hpz ez => ?_)
  obtain ⟨ez1, ez2⟩ := ez
  subst ez1
  subst ez2
  refine qb_fne (tgt := 9) (pc' := 7) dX11_barrel_4 rfl rfl (fun c1634 => ?_) (fun c1634 => ?_)
  · have h := h.2 c1634
    refine qb_iloadn (pc' := 10) (i := 2) dX11_barrel_9 rfl rfl rfl ?_
    refine qb_iconst (pc' := 11) dX11_barrel_10 rfl rfl ?_
    refine qb_cne (tgt := 39) (pc' := 14) dX11_barrel_11 rfl rfl (fun c1635 => ?_) (fun c1635 => ?_)
    · have h := h.2 c1635
      refine qb_aloadn (pc' := 40) (i := 0) dX11_barrel_39 rfl rfl rfl ?_
      refine qb_iloadn (pc' := 41) (i := 1) dX11_barrel_40 rfl rfl rfl ?_
      refine qb_iloadn (pc' := 42) (i := 2) dX11_barrel_41 rfl rfl rfl ?_
      refine qb_callVi (pc' := 45) (b := 60) (as := [.inl x1, .inl x2]) (rest := []) dX11_barrel_42 rfl qe_mX11_barrel_mX11_takes rfl rfl qb_s60 rfl rfl (Nat.le_of_ble_eq_true rfl) (Nat.le_of_ble_eq_true rfl) ⟨rfl, rfl⟩ h (fun v261 hp261 h => ?_)
      refine qb_fne (tgt := 50) (pc' := 48) dX11_barrel_45 rfl rfl (fun c1637 => ?_) (fun c1637 => ?_)
      · have h := h.2 c1637
        refine qb_iloadn (pc' := 51) (i := 3) dX11_barrel_50 rfl rfl rfl ?_
        by_cases c1638 : x3 = 0
        · have h := h.1 c1638
          refine qb_tabj (tgt := 92) dX11_barrel_51 0 (c1638.trans rfl) (by decide) rfl rfl ?_
          refine qb_aloadn (pc' := 93) (i := 0) dX11_barrel_92 rfl rfl rfl ?_
          refine qb_geti (pc' := 96) (v := (hp261 60 29)) dX11_barrel_93 rfl qf_X11_167 qb_s60 rfl rfl ?_
          exact qb_reti dX11_barrel_96 rfl h
        · have h := h.2 c1638
          by_cases c1639 : x3 = 1
          · have h := h.1 c1639
            refine qb_tabj (tgt := 97) dX11_barrel_51 1 (c1639.trans rfl) (by decide) rfl rfl ?_
            refine qb_aloadn (pc' := 98) (i := 0) dX11_barrel_97 rfl rfl rfl ?_
            refine qb_geti (pc' := 101) (v := (hp261 60 30)) dX11_barrel_98 rfl qf_X11_120 qb_s60 rfl rfl ?_
            exact qb_reti dX11_barrel_101 rfl h
          · have h := h.2 c1639
            by_cases c1640 : x3 = 2
            · have h := h.1 c1640
              refine qb_tabj (tgt := 102) dX11_barrel_51 2 (c1640.trans rfl) (by decide) rfl rfl ?_
              refine qb_aloadn (pc' := 103) (i := 0) dX11_barrel_102 rfl rfl rfl ?_
              refine qb_geta (pc' := 106) dX11_barrel_103 rfl qf_X11_28 qb_s60 rfl ?_
              refine qb_iconst (pc' := 107) dX11_barrel_106 rfl rfl ?_
              refine qb_iald (pc' := 108) (v := (hp261 67 1)) dX11_barrel_107 rfl qb_s67 (by decide) (by decide) rfl ?_
              refine qb_aloadn (pc' := 109) (i := 0) dX11_barrel_108 rfl rfl rfl ?_
              refine qb_geta (pc' := 112) dX11_barrel_109 rfl qf_X11_28 qb_s60 rfl ?_
              refine qb_iconst (pc' := 113) dX11_barrel_112 rfl rfl ?_
              refine qb_iald (pc' := 114) (v := (hp261 67 2)) dX11_barrel_113 rfl qb_s67 (by decide) (by decide) rfl ?_
              obtain ⟨g1632, h⟩ := h
              obtain ⟨g1633, h⟩ := h
              refine qb_idiv (pc' := 115) dX11_barrel_114 rfl g1632 g1633 ?_
              exact qb_reti dX11_barrel_115 rfl h
            · have h := h.2 c1640
              by_cases c1641 : x3 = 3
              · have h := h.1 c1641
                refine qb_tabj (tgt := 116) dX11_barrel_51 3 (c1641.trans rfl) (by decide) rfl rfl ?_
                refine qb_aloadn (pc' := 117) (i := 0) dX11_barrel_116 rfl rfl rfl ?_
                refine qb_iloadn (pc' := 118) (i := 1) dX11_barrel_117 rfl rfl rfl ?_
                refine qb_iconst (pc' := 119) dX11_barrel_118 rfl rfl ?_
                refine qb_callVi (pc' := 122) (b := 60) (as := [.inl x1, .inl 3]) (rest := []) dX11_barrel_119 rfl qe_mX11_barrel_mX11_saltOf rfl rfl qb_s60 rfl rfl (Nat.le_of_ble_eq_true rfl) (Nat.le_of_ble_eq_true rfl) ⟨rfl, rfl⟩ h (fun v262 hp262 h => ?_)
                exact qb_reti dX11_barrel_122 rfl h
              · have h := h.2 c1641
                by_cases c1642 : x3 = 4
                · have h := h.1 c1642
                  refine qb_tabj (tgt := 123) dX11_barrel_51 4 (c1642.trans rfl) (by decide) rfl rfl ?_
                  refine qb_aloadn (pc' := 124) (i := 0) dX11_barrel_123 rfl rfl rfl ?_
                  refine qb_iloadn (pc' := 125) (i := 1) dX11_barrel_124 rfl rfl rfl ?_
                  refine qb_iconst (pc' := 126) dX11_barrel_125 rfl rfl ?_
                  refine qb_callVi (pc' := 129) (b := 60) (as := [.inl x1, .inl 2]) (rest := []) dX11_barrel_126 rfl qe_mX11_barrel_mX11_saltOf rfl rfl qb_s60 rfl rfl (Nat.le_of_ble_eq_true rfl) (Nat.le_of_ble_eq_true rfl) ⟨rfl, rfl⟩ h (fun v263 hp263 h => ?_)
                  exact qb_reti dX11_barrel_129 rfl h
                · have h := h.2 c1642
                  by_cases c1643 : x3 = 5
                  · have h := h.1 c1643
                    refine qb_tabj (tgt := 130) dX11_barrel_51 5 (c1643.trans rfl) (by decide) rfl rfl ?_
                    refine qb_aloadn (pc' := 131) (i := 0) dX11_barrel_130 rfl rfl rfl ?_
                    refine qb_geti (pc' := 134) (v := (hp261 60 31)) dX11_barrel_131 rfl qf_X11_127 qb_s60 rfl rfl ?_
                    exact qb_reti dX11_barrel_134 rfl h
                  · have h := h.2 c1643
                    by_cases c1644 : x3 = 6
                    · have h := h.1 c1644
                      refine qb_tabj (tgt := 135) dX11_barrel_51 6 (c1644.trans rfl) (by decide) rfl rfl ?_
                      refine qb_aloadn (pc' := 136) (i := 0) dX11_barrel_135 rfl rfl rfl ?_
                      refine qb_geti (pc' := 139) (v := (hp261 60 32)) dX11_barrel_136 rfl qf_X11_176 qb_s60 rfl rfl ?_
                      exact qb_reti dX11_barrel_139 rfl h
                    · have h := h.2 c1644
                      refine qb_tabOut (tgt := 140) dX11_barrel_51 (qb_sw1 (qb_sw1 (qb_sw1 (qb_sw1 (qb_sw1 (qb_sw1 (qb_sw1 (Int.lt_or_le x3 0) c1638) c1639) c1640) c1641) c1642) c1643) c1644) rfl ?_
                      refine qb_bipush (pc' := 142) dX11_barrel_140 rfl rfl rfl ?_
                      exact qb_reti dX11_barrel_142 rfl h
      · have h := h.1 c1637
        refine qb_iconst (pc' := 49) dX11_barrel_48 rfl rfl ?_
        exact qb_reti dX11_barrel_49 rfl h
    · have h := h.1 c1635
      refine qb_aloadn (pc' := 15) (i := 0) dX11_barrel_14 rfl rfl rfl ?_
      refine qb_iloadn (pc' := 16) (i := 1) dX11_barrel_15 rfl rfl rfl ?_
      refine qb_callVu (pc' := 19) (b := 60) (as := [.inl x1]) (rest := []) dX11_barrel_16 rfl qe_mX11_barrel_mX11_workQuay rfl rfl qb_s60 rfl rfl (Nat.le_of_ble_eq_true rfl) (Nat.le_of_ble_eq_true rfl) ⟨rfl, rfl⟩ h (fun hp259 h => ?_)
      refine qb_iloadn (pc' := 20) (i := 3) dX11_barrel_19 rfl rfl rfl ?_
      refine qb_iconst (pc' := 21) dX11_barrel_20 rfl rfl ?_
      refine qb_bipush (pc' := 23) dX11_barrel_21 rfl rfl rfl ?_
      refine qb_callSi (pc' := 26) (as := [.inl x3, .inl 0, .inl 6]) (rest := []) dX11_barrel_23 rfl qe_mX11_barrel_mX11_in rfl rfl rfl (Nat.le_of_ble_eq_true rfl) (Nat.le_of_ble_eq_true rfl) ⟨rfl, rfl⟩ (K := fun vz hpz => (v_m_in x3 0 6) = vz ∧ hp259 = hpz) (s_m_in x3 0 6 hp259 _ trivial ⟨rfl, rfl⟩) (fun vz hpz ez => ?_)
      obtain ⟨ez1, ez2⟩ := ez
      subst ez1
      subst ez2
      obtain ⟨gb, h⟩ := h
      have k1157 : ∀ (y260 : Int), y260 = (if (v_m_in x3 0 6) = 0 then ((-2) : Int) else (v_m_barrelsNow hp259)) → qb_R mX11_barrel 0 0 qb_sh 38 [none, none, none, none] [.inl y260] hp259 (qb_I qb_sh K) := by
        intro y260 ey260
        have h := h y260 ey260
        exact qb_reti dX11_barrel_38 rfl h
      refine qb_feq (tgt := 36) (pc' := 29) dX11_barrel_26 rfl rfl (fun c1636 => ?_) (fun c1636 => ?_)
      · refine qb_bipush (pc' := 38) dX11_barrel_36 rfl rfl rfl ?_
        refine qb_cut (L' := [none, none, none, none]) [false, false, false, false] rfl ?_
        exact k1157 _ (if_pos c1636).symm
      · have h := gb c1636
        refine qb_aloadn (pc' := 30) (i := 0) dX11_barrel_29 rfl rfl rfl ?_
        have g1631 := h
        refine qb_callVi (pc' := 33) (b := 60) (as := []) (rest := []) dX11_barrel_30 rfl qe_mX11_barrel_mX11_barrelsNow rfl rfl qb_s60 rfl rfl (Nat.le_of_ble_eq_true rfl) (Nat.le_of_ble_eq_true rfl) ⟨rfl, rfl⟩ (K := fun vz hpz => (v_m_barrelsNow hp259) = vz ∧ hp259 = hpz) (s_m_barrelsNow  hp259 _ g1631 ⟨rfl, rfl⟩) (fun vz hpz ez => ?_)
        obtain ⟨ez1, ez2⟩ := ez
        subst ez1
        subst ez2
        refine qb_goto (tgt := 38) dX11_barrel_33 rfl ?_
        refine qb_cut (L' := [none, none, none, none]) [false, false, false, false] rfl ?_
        exact k1157 _ (if_neg c1636).symm
  · have h := h.1 c1634
    refine qb_iconst (pc' := 8) dX11_barrel_7 rfl rfl ?_
    exact qb_reti dX11_barrel_8 rfl h
def c_m_brand (x1 : Int) (x2 : Int) (x3 : Int) (hp : qb_H) (K : Int → qb_H → Prop) : Prop := qb_R mX11_brand 0 0 qb_sh 0 [qb_a 60, qb_i x1, qb_i x2, qb_i x3] [] hp (qb_I qb_sh K)
theorem b_m_brand {x1 x2 x3 : Int} {hp : qb_H} {K : Int → qb_H → Prop} (h : ((v_m_isQuay x1) = 0 → K (-1) hp) ∧ (¬ (v_m_isQuay x1) = 0 → c_m_takes x1 x2 hp (fun v266 hp266 => (v266 = 0 → K (-1) hp266) ∧ (¬ v266 = 0 → ((v_m_isDay x3) = 0 → K (-2) hp266) ∧ (¬ (v_m_isDay x3) = 0 → c_m_brandOf x1 x3 hp266 (fun v267 hp267 => K v267 hp267)))))) : c_m_brand x1 x2 x3 hp K := by
  unfold c_m_brand
  refine qb_iloadn (pc' := 1) (i := 1) dX11_brand_0 rfl rfl rfl ?_
  refine qb_callSi (pc' := 4) (as := [.inl x1]) (rest := []) dX11_brand_1 rfl qe_mX11_brand_mX11_isQuay rfl rfl rfl (Nat.le_of_ble_eq_true rfl) (Nat.le_of_ble_eq_true rfl) ⟨rfl, rfl⟩ (K := fun vz hpz => (v_m_isQuay x1) = vz ∧ hp = hpz) (s_m_isQuay x1 hp _ trivial ⟨rfl, rfl⟩) (fun vz hpz ez => ?_)
  obtain ⟨ez1, ez2⟩ := ez
  subst ez1
  subst ez2
  refine qb_feq (tgt := 16) (pc' := 7) dX11_brand_4 rfl rfl (fun c1648 => ?_) (fun c1648 => ?_)
  · have h := h.1 c1648
    refine qb_iconst (pc' := 17) dX11_brand_16 rfl rfl ?_
    exact qb_reti dX11_brand_17 rfl h
  · have h := h.2 c1648
    refine qb_aloadn (pc' := 8) (i := 0) dX11_brand_7 rfl rfl rfl ?_
    refine qb_iloadn (pc' := 9) (i := 1) dX11_brand_8 rfl rfl rfl ?_
    refine qb_iloadn (pc' := 10) (i := 2) dX11_brand_9 rfl rfl rfl ?_
    refine qb_callVi (pc' := 13) (b := 60) (as := [.inl x1, .inl x2]) (rest := []) dX11_brand_10 rfl qe_mX11_brand_mX11_takes rfl rfl qb_s60 rfl rfl (Nat.le_of_ble_eq_true rfl) (Nat.le_of_ble_eq_true rfl) ⟨rfl, rfl⟩ h (fun v266 hp266 h => ?_)
    refine qb_fne (tgt := 18) (pc' := 16) dX11_brand_13 rfl rfl (fun c1649 => ?_) (fun c1649 => ?_)
    · have h := h.2 c1649
      refine qb_iloadn (pc' := 19) (i := 3) dX11_brand_18 rfl rfl rfl ?_
      refine qb_callSi (pc' := 22) (as := [.inl x3]) (rest := []) dX11_brand_19 rfl qe_mX11_brand_mX11_isDay rfl rfl rfl (Nat.le_of_ble_eq_true rfl) (Nat.le_of_ble_eq_true rfl) ⟨rfl, rfl⟩ (K := fun vz hpz => (v_m_isDay x3) = vz ∧ hp266 = hpz) (s_m_isDay x3 hp266 _ trivial ⟨rfl, rfl⟩) (fun vz hpz ez => ?_)
      obtain ⟨ez1, ez2⟩ := ez
      subst ez1
      subst ez2
      refine qb_feq (tgt := 34) (pc' := 25) dX11_brand_22 rfl rfl (fun c1650 => ?_) (fun c1650 => ?_)
      · have h := h.1 c1650
        refine qb_bipush (pc' := 36) dX11_brand_34 rfl rfl rfl ?_
        exact qb_reti dX11_brand_36 rfl h
      · have h := h.2 c1650
        refine qb_aloadn (pc' := 26) (i := 0) dX11_brand_25 rfl rfl rfl ?_
        refine qb_iloadn (pc' := 27) (i := 1) dX11_brand_26 rfl rfl rfl ?_
        refine qb_iloadn (pc' := 28) (i := 3) dX11_brand_27 rfl rfl rfl ?_
        refine qb_callVi (pc' := 31) (b := 60) (as := [.inl x1, .inl x3]) (rest := []) dX11_brand_28 rfl qe_mX11_brand_mX11_brandOf rfl rfl qb_s60 rfl rfl (Nat.le_of_ble_eq_true rfl) (Nat.le_of_ble_eq_true rfl) ⟨rfl, rfl⟩ h (fun v267 hp267 h => ?_)
        refine qb_goto (tgt := 36) dX11_brand_31 rfl ?_
        exact qb_reti dX11_brand_36 rfl h
    · have h := h.1 c1649
      refine qb_iconst (pc' := 17) dX11_brand_16 rfl rfl ?_
      exact qb_reti dX11_brand_17 rfl h
def c_m_hasCause (x1 : Int) (x2 : Int) (hp : qb_H) (K : Int → qb_H → Prop) : Prop := qb_R mX11_hasCause 0 0 qb_sh 0 [qb_a 60, qb_i x1, qb_i x2] [] hp (qb_I qb_sh K)
theorem b_m_hasCause {x1 x2 : Int} {hp : qb_H} {K : Int → qb_H → Prop} (h : (qb_in (4 * x1)) ∧ (0 ≤ x2) ∧ (qb_in ((4 * x1) + (x2 / 10))) ∧ (0 ≤ ((4 * x1) + (x2 / 10)) ∧ ((4 * x1) + (x2 / 10)) < 96) ∧ K (if (hp 70 ((4 * x1) + (x2 / 10))) = (x2 % 10) then (1 : Int) else 0) hp) : c_m_hasCause x1 x2 hp K := by
  unfold c_m_hasCause
  refine qb_aloadn (pc' := 1) (i := 0) dX11_hasCause_0 rfl rfl rfl ?_
  refine qb_geta (pc' := 4) dX11_hasCause_1 rfl qf_X11_37 qb_s60 rfl ?_
  refine qb_iconst (pc' := 5) dX11_hasCause_4 rfl rfl ?_
  refine qb_iloadn (pc' := 6) (i := 1) dX11_hasCause_5 rfl rfl rfl ?_
  obtain ⟨g1638, h⟩ := h
  refine qb_imul (pc' := 7) dX11_hasCause_6 rfl g1638 ?_
  refine qb_iloadn (pc' := 8) (i := 2) dX11_hasCause_7 rfl rfl rfl ?_
  refine qb_bipush (pc' := 10) dX11_hasCause_8 rfl rfl rfl ?_
  obtain ⟨g1639, h⟩ := h
  refine qb_idiv (pc' := 11) dX11_hasCause_10 rfl g1639 (by decide) ?_
  obtain ⟨g1640, h⟩ := h
  refine qb_iadd (pc' := 12) dX11_hasCause_11 rfl g1640 ?_
  obtain ⟨g1641, h⟩ := h
  refine qb_iald (pc' := 13) (v := (hp 70 ((4 * x1) + (x2 / 10)))) dX11_hasCause_12 rfl qb_s70 g1641.1 g1641.2 rfl ?_
  refine qb_iloadn (pc' := 14) (i := 2) dX11_hasCause_13 rfl rfl rfl ?_
  refine qb_bipush (pc' := 16) dX11_hasCause_14 rfl rfl rfl ?_
  refine qb_irem (pc' := 17) dX11_hasCause_16 rfl g1639 (by decide) ?_
  have k1162 : qb_R mX11_hasCause 0 0 qb_sh 25 [none, none, none] [.inl (if (hp 70 ((4 * x1) + (x2 / 10))) = (x2 % 10) then (1 : Int) else 0)] hp (qb_I qb_sh K) := by
    exact qb_retz dX11_hasCause_25 rfl (by (repeat' split) <;> first | exact Or.inl rfl | exact Or.inr rfl) h
  refine qb_cne (tgt := 24) (pc' := 20) dX11_hasCause_17 rfl rfl (fun c1657 => ?_) (fun c1657 => ?_)
  · refine qb_iconst (pc' := 25) dX11_hasCause_24 rfl rfl ?_
    refine qb_cut (L' := [none, none, none]) [false, false, false] rfl ?_
    simpa only [if_neg c1657] using k1162
  · refine qb_iconst (pc' := 21) dX11_hasCause_20 rfl rfl ?_
    refine qb_goto (tgt := 25) dX11_hasCause_21 rfl ?_
    refine qb_cut (L' := [none, none, none]) [false, false, false] rfl ?_
    simpa only [if_pos c1657] using k1162
def v_m_hasCause (x1 : Int) (x2 : Int) (hp : qb_H) : Int := (if (hp 70 ((4 * x1) + (x2 / 10))) = (x2 % 10) then (1 : Int) else 0)
theorem vb_m_hasCause (x1 : Int) (x2 : Int) (hp : qb_H) : v_m_hasCause x1 x2 hp = 0 ∨ v_m_hasCause x1 x2 hp = 1 := by
  unfold v_m_hasCause
  (repeat' split) <;> first | exact Or.inl rfl | exact Or.inr rfl
def g_m_hasCause (x1 : Int) (x2 : Int) : Prop := (qb_in (4 * x1)) ∧ (0 ≤ x2) ∧ (qb_in ((4 * x1) + (x2 / 10))) ∧ 0 ≤ ((4 * x1) + (x2 / 10)) ∧ ((4 * x1) + (x2 / 10)) < 96
theorem s_m_hasCause (x1 : Int) (x2 : Int) (hp : qb_H) (K : Int → qb_H → Prop) (hg : g_m_hasCause x1 x2) (hK : K (v_m_hasCause x1 x2 hp) hp) : c_m_hasCause x1 x2 hp K := by
  refine b_m_hasCause ?_
  unfold g_m_hasCause at hg
  unfold v_m_hasCause at hK
  refine ⟨hg.1, ?_⟩
  have hg := hg.2
  refine ⟨hg.1, ?_⟩
  have hg := hg.2
  refine ⟨hg.1, ?_⟩
  have hg := hg.2
  refine ⟨hg, ?_⟩
  exact hK
def c_m_mayBe (x1 : Int) (hp : qb_H) (K : Int → qb_H → Prop) : Prop := qb_R mX11_mayBe 0 0 qb_sh 0 [qb_a 60, qb_i x1, none, none, none, none] [] hp (qb_I qb_sh K)
def r_m_mayBe_7 (x1 : Int) (x2 : Int) (x3 : Int) (x4 : Int) (hp : qb_H) (K : Int → qb_H → Prop) : Prop := qb_R mX11_mayBe 0 0 qb_sh 7 [qb_a 60, qb_i x1, qb_i x2, qb_i x3, qb_i x4, none] [] hp (qb_I qb_sh K)
theorem b_m_mayBe {x1 : Int} {hp : qb_H} {K : Int → qb_H → Prop} (h : r_m_mayBe_7 x1 0 0 0 hp K) : c_m_mayBe x1 hp K := by
  unfold c_m_mayBe
  refine qb_iconst (pc' := 1) dX11_mayBe_0 rfl rfl ?_
  refine qb_istoren (pc' := 2) (i := 2) (L' := [qb_a 60, qb_i x1, qb_i 0, none, none, none]) dX11_mayBe_1 rfl rfl (Nat.le_of_ble_eq_true rfl) rfl rfl ?_
  refine qb_iconst (pc' := 3) dX11_mayBe_2 rfl rfl ?_
  refine qb_istoren (pc' := 4) (i := 3) (L' := [qb_a 60, qb_i x1, qb_i 0, qb_i 0, none, none]) dX11_mayBe_3 rfl rfl (Nat.le_of_ble_eq_true rfl) rfl rfl ?_
  refine qb_iconst (pc' := 5) dX11_mayBe_4 rfl rfl ?_
  refine qb_istore (pc' := 7) (L' := [qb_a 60, qb_i x1, qb_i 0, qb_i 0, qb_i 0, none]) dX11_mayBe_5 rfl (Nat.le_of_ble_eq_true rfl) rfl rfl ?_
  refine qb_cut (L' := [qb_a 60, qb_i x1, qb_i 0, qb_i 0, qb_i 0, none]) [true, true, true, true, true, false] rfl ?_
  exact h
theorem b_m_mayBe_7 {x1 x2 x3 x4 : Int} {hp : qb_H} {K : Int → qb_H → Prop} (h : ((hp 60 13) ≤ x4 → (∀ (y268 : Int), y268 = (if x2 < 2 then (0 : Int) else (if x3 = 0 then (1 : Int) else 0)) → K y268 hp)) ∧ (¬ (hp 60 13) ≤ x4 → (g_m_hasCause x4 x1) ∧ (¬ (v_m_hasCause x4 x1 hp) = 0 → (qb_in (4 * x4)) ∧ (qb_in ((4 * x4) + 3)) ∧ 0 ≤ ((4 * x4) + 3) ∧ ((4 * x4) + 3) < 96) ∧ (qb_in (x2 + (if (v_m_hasCause x4 x1 hp) = 0 then (0 : Int) else (if (hp 70 ((4 * x4) + 3)) = 1 then (1 : Int) else 0)))) ∧ (x3 = 0 → (¬ (v_m_hasCause x4 x1 hp) = 0 → (qb_in (4 * x4)) ∧ (qb_in ((4 * x4) + 3)) ∧ 0 ≤ ((4 * x4) + 3) ∧ ((4 * x4) + 3) < 96)) ∧ (qb_in (x4 + 1)) ∧ r_m_mayBe_7 x1 (x2 + (if (v_m_hasCause x4 x1 hp) = 0 then (0 : Int) else (if (hp 70 ((4 * x4) + 3)) = 1 then (1 : Int) else 0))) (if x3 = 0 then (if (v_m_hasCause x4 x1 hp) = 0 then (0 : Int) else (if (hp 70 ((4 * x4) + 3)) = 0 then (1 : Int) else 0)) else 1) (x4 + 1) hp K)) : r_m_mayBe_7 x1 x2 x3 x4 hp K := by
  unfold r_m_mayBe_7
  refine qb_iload (pc' := 9) dX11_mayBe_7 rfl rfl ?_
  refine qb_aloadn (pc' := 10) (i := 0) dX11_mayBe_9 rfl rfl rfl ?_
  refine qb_geti (pc' := 13) (v := (hp 60 13)) dX11_mayBe_10 rfl qf_X11_201 qb_s60 rfl rfl ?_
  refine qb_cge (tgt := 88) (pc' := 16) dX11_mayBe_13 rfl rfl (fun c1652 => ?_) (fun c1652 => ?_)
  · have h := h.1 c1652
    refine qb_iloadn (pc' := 89) (i := 2) dX11_mayBe_88 rfl rfl rfl ?_
    refine qb_iconst (pc' := 90) dX11_mayBe_89 rfl rfl ?_
    have k1159 : ∀ (y268 : Int), y268 = (if x2 < 2 then (0 : Int) else (if x3 = 0 then (1 : Int) else 0)) → qb_R mX11_mayBe 0 0 qb_sh 102 [none, none, none, none, none, none] [.inl y268] hp (qb_I qb_sh K) := by
      intro y268 ey268
      have h := h y268 ey268
      exact qb_retz dX11_mayBe_102 rfl (by rw [ey268]; (repeat' split) <;> first | exact Or.inl rfl | exact Or.inr rfl) h
    refine qb_clt (tgt := 101) (pc' := 93) dX11_mayBe_90 rfl rfl (fun c1653 => ?_) (fun c1653 => ?_)
    · refine qb_iconst (pc' := 102) dX11_mayBe_101 rfl rfl ?_
      refine qb_cut (L' := [none, none, none, none, none, none]) [false, false, false, false, false, false] rfl ?_
      exact k1159 _ (if_pos c1653).symm
    · refine qb_iloadn (pc' := 94) (i := 3) dX11_mayBe_93 rfl rfl rfl ?_
      have k1160 : qb_R mX11_mayBe 0 0 qb_sh 102 [none, none, none, none, none, none] [.inl (if x3 = 0 then (1 : Int) else 0)] hp (qb_I qb_sh K) := by
        refine qb_cut (L' := [none, none, none, none, none, none]) [false, false, false, false, false, false] rfl ?_
        exact k1159 _ (if_neg c1653).symm
      refine qb_fne (tgt := 101) (pc' := 97) dX11_mayBe_94 rfl rfl (fun c1655 => ?_) (fun c1655 => ?_)
      · refine qb_iconst (pc' := 102) dX11_mayBe_101 rfl rfl ?_
        refine qb_cut (L' := [none, none, none, none, none, none]) [false, false, false, false, false, false] rfl ?_
        simpa only [if_neg c1655] using k1160
      · refine qb_iconst (pc' := 98) dX11_mayBe_97 rfl rfl ?_
        refine qb_goto (tgt := 102) dX11_mayBe_98 rfl ?_
        refine qb_cut (L' := [none, none, none, none, none, none]) [false, false, false, false, false, false] rfl ?_
        simpa only [if_pos c1655] using k1160
  · have h := h.2 c1652
    refine qb_aloadn (pc' := 17) (i := 0) dX11_mayBe_16 rfl rfl rfl ?_
    refine qb_iload (pc' := 19) dX11_mayBe_17 rfl rfl ?_
    refine qb_iloadn (pc' := 20) (i := 1) dX11_mayBe_19 rfl rfl rfl ?_
    obtain ⟨g1642, h⟩ := h
    refine qb_callVi (pc' := 23) (b := 60) (as := [.inl x4, .inl x1]) (rest := []) dX11_mayBe_20 rfl qe_mX11_mayBe_mX11_hasCause rfl rfl qb_s60 rfl rfl (Nat.le_of_ble_eq_true rfl) (Nat.le_of_ble_eq_true rfl) ⟨rfl, rfl⟩ (K := fun vz hpz => (v_m_hasCause x4 x1 hp) = vz ∧ hp = hpz) (s_m_hasCause x4 x1 hp _ g1642 ⟨rfl, rfl⟩) (fun vz hpz ez => ?_)
    obtain ⟨ez1, ez2⟩ := ez
    subst ez1
    subst ez2
    refine qb_istore (pc' := 25) (L' := [qb_a 60, qb_i x1, qb_i x2, qb_i x3, qb_i x4, qb_i (v_m_hasCause x4 x1 hp)]) dX11_mayBe_23 rfl (Nat.le_of_ble_eq_true rfl) rfl rfl ?_
    refine qb_iloadn (pc' := 26) (i := 2) dX11_mayBe_25 rfl rfl rfl ?_
    refine qb_iload (pc' := 28) dX11_mayBe_26 rfl rfl ?_
    obtain ⟨gb, h⟩ := h
    have k1164 : qb_R mX11_mayBe 0 0 qb_sh 51 [qb_a 60, qb_i x1, none, qb_i x3, qb_i x4, qb_i (v_m_hasCause x4 x1 hp)] [.inl (if (v_m_hasCause x4 x1 hp) = 0 then (0 : Int) else (if (hp 70 ((4 * x4) + 3)) = 1 then (1 : Int) else 0)), .inl x2] hp (qb_I qb_sh K) := by
      obtain ⟨g1649, h⟩ := h
      refine qb_iadd (pc' := 52) dX11_mayBe_51 rfl g1649 ?_
      refine qb_istoren (pc' := 53) (i := 2) (L' := [qb_a 60, qb_i x1, qb_i (x2 + (if (v_m_hasCause x4 x1 hp) = 0 then (0 : Int) else (if (hp 70 ((4 * x4) + 3)) = 1 then (1 : Int) else 0))), qb_i x3, qb_i x4, qb_i (v_m_hasCause x4 x1 hp)]) dX11_mayBe_52 rfl rfl (Nat.le_of_ble_eq_true rfl) rfl rfl ?_
      refine qb_iloadn (pc' := 54) (i := 3) dX11_mayBe_53 rfl rfl rfl ?_
      obtain ⟨ga, h⟩ := h
      have k1169 : qb_R mX11_mayBe 0 0 qb_sh 81 [qb_a 60, qb_i x1, qb_i (x2 + (if (v_m_hasCause x4 x1 hp) = 0 then (0 : Int) else (if (hp 70 ((4 * x4) + 3)) = 1 then (1 : Int) else 0))), none, qb_i x4, none] [.inl (if x3 = 0 then (if (v_m_hasCause x4 x1 hp) = 0 then (0 : Int) else (if (hp 70 ((4 * x4) + 3)) = 0 then (1 : Int) else 0)) else 1)] hp (qb_I qb_sh K) := by
        refine qb_istoren (pc' := 82) (i := 3) (L' := [qb_a 60, qb_i x1, qb_i (x2 + (if (v_m_hasCause x4 x1 hp) = 0 then (0 : Int) else (if (hp 70 ((4 * x4) + 3)) = 1 then (1 : Int) else 0))), qb_i (if x3 = 0 then (if (v_m_hasCause x4 x1 hp) = 0 then (0 : Int) else (if (hp 70 ((4 * x4) + 3)) = 0 then (1 : Int) else 0)) else 1), qb_i x4, none]) dX11_mayBe_81 rfl rfl (Nat.le_of_ble_eq_true rfl) rfl rfl ?_
        obtain ⟨g1662, h⟩ := h
        refine qb_iinc (pc' := 85) (L' := [qb_a 60, qb_i x1, qb_i (x2 + (if (v_m_hasCause x4 x1 hp) = 0 then (0 : Int) else (if (hp 70 ((4 * x4) + 3)) = 1 then (1 : Int) else 0))), qb_i (if x3 = 0 then (if (v_m_hasCause x4 x1 hp) = 0 then (0 : Int) else (if (hp 70 ((4 * x4) + 3)) = 0 then (1 : Int) else 0)) else 1), qb_i (x4 + 1), none]) dX11_mayBe_82 rfl rfl g1662 (Nat.le_of_ble_eq_true rfl) rfl rfl ?_
        refine qb_goto (tgt := 7) dX11_mayBe_85 rfl ?_
        refine qb_cut (L' := [qb_a 60, qb_i x1, qb_i (x2 + (if (v_m_hasCause x4 x1 hp) = 0 then (0 : Int) else (if (hp 70 ((4 * x4) + 3)) = 1 then (1 : Int) else 0))), qb_i (if x3 = 0 then (if (v_m_hasCause x4 x1 hp) = 0 then (0 : Int) else (if (hp 70 ((4 * x4) + 3)) = 0 then (1 : Int) else 0)) else 1), qb_i (x4 + 1), none]) [true, true, true, true, true, false] rfl ?_
        exact h
      refine qb_fne (tgt := 76) (pc' := 57) dX11_mayBe_54 rfl rfl (fun c1661 => ?_) (fun c1661 => ?_)
      · refine qb_iconst (pc' := 77) dX11_mayBe_76 rfl rfl ?_
        refine qb_goto (tgt := 81) dX11_mayBe_77 rfl ?_
        refine qb_cut (L' := [qb_a 60, qb_i x1, qb_i (x2 + (if (v_m_hasCause x4 x1 hp) = 0 then (0 : Int) else (if (hp 70 ((4 * x4) + 3)) = 1 then (1 : Int) else 0))), none, qb_i x4, none]) [true, true, true, false, true, false] rfl ?_
        simpa only [if_neg c1661] using k1169
      · have h := ga c1661
        refine qb_iload (pc' := 59) dX11_mayBe_57 rfl rfl ?_
        have gb := h
        have k1171 : qb_R mX11_mayBe 0 0 qb_sh 81 [qb_a 60, qb_i x1, qb_i (x2 + (if (v_m_hasCause x4 x1 hp) = 0 then (0 : Int) else (if (hp 70 ((4 * x4) + 3)) = 1 then (1 : Int) else 0))), none, qb_i x4, none] [.inl (if (v_m_hasCause x4 x1 hp) = 0 then (0 : Int) else (if (hp 70 ((4 * x4) + 3)) = 0 then (1 : Int) else 0))] hp (qb_I qb_sh K) := by
          refine qb_cut (L' := [qb_a 60, qb_i x1, qb_i (x2 + (if (v_m_hasCause x4 x1 hp) = 0 then (0 : Int) else (if (hp 70 ((4 * x4) + 3)) = 1 then (1 : Int) else 0))), none, qb_i x4, none]) [true, true, true, false, true, false] rfl ?_
          simpa only [if_pos c1661] using k1169
        refine qb_feq (tgt := 80) (pc' := 62) dX11_mayBe_59 rfl rfl (fun c1665 => ?_) (fun c1665 => ?_)
        · refine qb_iconst (pc' := 81) dX11_mayBe_80 rfl rfl ?_
          refine qb_cut (L' := [qb_a 60, qb_i x1, qb_i (x2 + (if (v_m_hasCause x4 x1 hp) = 0 then (0 : Int) else (if (hp 70 ((4 * x4) + 3)) = 1 then (1 : Int) else 0))), none, qb_i x4, none]) [true, true, true, false, true, false] rfl ?_
          simpa only [if_pos c1665] using k1171
        · have h := gb c1665
          refine qb_aloadn (pc' := 63) (i := 0) dX11_mayBe_62 rfl rfl rfl ?_
          refine qb_geta (pc' := 66) dX11_mayBe_63 rfl qf_X11_37 qb_s60 rfl ?_
          refine qb_iconst (pc' := 67) dX11_mayBe_66 rfl rfl ?_
          refine qb_iload (pc' := 69) dX11_mayBe_67 rfl rfl ?_
          obtain ⟨g1659, h⟩ := h
          refine qb_imul (pc' := 70) dX11_mayBe_69 rfl g1659 ?_
          refine qb_iconst (pc' := 71) dX11_mayBe_70 rfl rfl ?_
          obtain ⟨g1660, h⟩ := h
          refine qb_iadd (pc' := 72) dX11_mayBe_71 rfl g1660 ?_
          have g1661 := h
          refine qb_iald (pc' := 73) (v := (hp 70 ((4 * x4) + 3))) dX11_mayBe_72 rfl qb_s70 g1661.1 g1661.2 rfl ?_
          have k1172 : qb_R mX11_mayBe 0 0 qb_sh 81 [qb_a 60, qb_i x1, qb_i (x2 + (if (v_m_hasCause x4 x1 hp) = 0 then (0 : Int) else (if (hp 70 ((4 * x4) + 3)) = 1 then (1 : Int) else 0))), none, qb_i x4, none] [.inl (if (hp 70 ((4 * x4) + 3)) = 0 then (1 : Int) else 0)] hp (qb_I qb_sh K) := by
            refine qb_cut (L' := [qb_a 60, qb_i x1, qb_i (x2 + (if (v_m_hasCause x4 x1 hp) = 0 then (0 : Int) else (if (hp 70 ((4 * x4) + 3)) = 1 then (1 : Int) else 0))), none, qb_i x4, none]) [true, true, true, false, true, false] rfl ?_
            simpa only [if_neg c1665] using k1171
          refine qb_fne (tgt := 80) (pc' := 76) dX11_mayBe_73 rfl rfl (fun c1667 => ?_) (fun c1667 => ?_)
          · refine qb_iconst (pc' := 81) dX11_mayBe_80 rfl rfl ?_
            refine qb_cut (L' := [qb_a 60, qb_i x1, qb_i (x2 + (if (v_m_hasCause x4 x1 hp) = 0 then (0 : Int) else (if (hp 70 ((4 * x4) + 3)) = 1 then (1 : Int) else 0))), none, qb_i x4, none]) [true, true, true, false, true, false] rfl ?_
            simpa only [if_neg c1667] using k1172
          · refine qb_iconst (pc' := 77) dX11_mayBe_76 rfl rfl ?_
            refine qb_goto (tgt := 81) dX11_mayBe_77 rfl ?_
            refine qb_cut (L' := [qb_a 60, qb_i x1, qb_i (x2 + (if (v_m_hasCause x4 x1 hp) = 0 then (0 : Int) else (if (hp 70 ((4 * x4) + 3)) = 1 then (1 : Int) else 0))), none, qb_i x4, none]) [true, true, true, false, true, false] rfl ?_
            simpa only [if_pos c1667] using k1172
    refine qb_feq (tgt := 50) (pc' := 31) dX11_mayBe_28 rfl rfl (fun c1658 => ?_) (fun c1658 => ?_)
    · refine qb_iconst (pc' := 51) dX11_mayBe_50 rfl rfl ?_
      refine qb_cut (L' := [qb_a 60, qb_i x1, none, qb_i x3, qb_i x4, qb_i (v_m_hasCause x4 x1 hp)]) [true, true, false, true, true, true] rfl ?_
      simpa only [if_pos c1658] using k1164
    · have h := gb c1658
      refine qb_aloadn (pc' := 32) (i := 0) dX11_mayBe_31 rfl rfl rfl ?_
      refine qb_geta (pc' := 35) dX11_mayBe_32 rfl qf_X11_37 qb_s60 rfl ?_
      refine qb_iconst (pc' := 36) dX11_mayBe_35 rfl rfl ?_
      refine qb_iload (pc' := 38) dX11_mayBe_36 rfl rfl ?_
      obtain ⟨g1646, h⟩ := h
      refine qb_imul (pc' := 39) dX11_mayBe_38 rfl g1646 ?_
      refine qb_iconst (pc' := 40) dX11_mayBe_39 rfl rfl ?_
      obtain ⟨g1647, h⟩ := h
      refine qb_iadd (pc' := 41) dX11_mayBe_40 rfl g1647 ?_
      have g1648 := h
      refine qb_iald (pc' := 42) (v := (hp 70 ((4 * x4) + 3))) dX11_mayBe_41 rfl qb_s70 g1648.1 g1648.2 rfl ?_
      refine qb_iconst (pc' := 43) dX11_mayBe_42 rfl rfl ?_
      have k1165 : qb_R mX11_mayBe 0 0 qb_sh 51 [qb_a 60, qb_i x1, none, qb_i x3, qb_i x4, qb_i (v_m_hasCause x4 x1 hp)] [.inl (if (hp 70 ((4 * x4) + 3)) = 1 then (1 : Int) else 0), .inl x2] hp (qb_I qb_sh K) := by
        refine qb_cut (L' := [qb_a 60, qb_i x1, none, qb_i x3, qb_i x4, qb_i (v_m_hasCause x4 x1 hp)]) [true, true, false, true, true, true] rfl ?_
        simpa only [if_neg c1658] using k1164
      refine qb_cne (tgt := 50) (pc' := 46) dX11_mayBe_43 rfl rfl (fun c1660 => ?_) (fun c1660 => ?_)
      · refine qb_iconst (pc' := 51) dX11_mayBe_50 rfl rfl ?_
        refine qb_cut (L' := [qb_a 60, qb_i x1, none, qb_i x3, qb_i x4, qb_i (v_m_hasCause x4 x1 hp)]) [true, true, false, true, true, true] rfl ?_
        simpa only [if_neg c1660] using k1165
      · refine qb_iconst (pc' := 47) dX11_mayBe_46 rfl rfl ?_
        refine qb_goto (tgt := 51) dX11_mayBe_47 rfl ?_
        refine qb_cut (L' := [qb_a 60, qb_i x1, none, qb_i x3, qb_i x4, qb_i (v_m_hasCause x4 x1 hp)]) [true, true, false, true, true, true] rfl ?_
        simpa only [if_pos c1660] using k1165
def c_m_cause (x1 : Int) (hp : qb_H) (K : Int → qb_H → Prop) : Prop := qb_R mX11_cause 0 0 qb_sh 0 [qb_a 60, qb_i x1] [] hp (qb_I qb_sh K)
theorem b_m_cause {x1 : Int} {hp : qb_H} {K : Int → qb_H → Prop} (h : ((v_m_in x1 0 29) = 0 → K (-2) hp) ∧ (¬ (v_m_in x1 0 29) = 0 → c_m_mayBe x1 hp (fun v270 hp270 => (∀ (y271 : Int), y271 = (if v270 = 0 then (0 : Int) else 1) → K y271 hp270)))) : c_m_cause x1 hp K := by
  unfold c_m_cause
  refine qb_iloadn (pc' := 1) (i := 1) dX11_cause_0 rfl rfl rfl ?_
  refine qb_iconst (pc' := 2) dX11_cause_1 rfl rfl ?_
  refine qb_bipush (pc' := 4) dX11_cause_2 rfl rfl rfl ?_
  refine qb_callSi (pc' := 7) (as := [.inl x1, .inl 0, .inl 29]) (rest := []) dX11_cause_4 rfl qe_mX11_cause_mX11_in rfl rfl rfl (Nat.le_of_ble_eq_true rfl) (Nat.le_of_ble_eq_true rfl) ⟨rfl, rfl⟩ (K := fun vz hpz => (v_m_in x1 0 29) = vz ∧ hp = hpz) (s_m_in x1 0 29 hp _ trivial ⟨rfl, rfl⟩) (fun vz hpz ez => ?_)
  obtain ⟨ez1, ez2⟩ := ez
  subst ez1
  subst ez2
  refine qb_fne (tgt := 15) (pc' := 10) dX11_cause_7 rfl rfl (fun c1669 => ?_) (fun c1669 => ?_)
  · have h := h.2 c1669
    refine qb_aloadn (pc' := 16) (i := 0) dX11_cause_15 rfl rfl rfl ?_
    refine qb_iloadn (pc' := 17) (i := 1) dX11_cause_16 rfl rfl rfl ?_
    refine qb_callVi (pc' := 20) (b := 60) (as := [.inl x1]) (rest := []) dX11_cause_17 rfl qe_mX11_cause_mX11_mayBe rfl rfl qb_s60 rfl rfl (Nat.le_of_ble_eq_true rfl) (Nat.le_of_ble_eq_true rfl) ⟨rfl, rfl⟩ h (fun v270 hp270 h => ?_)
    have k1174 : ∀ (y271 : Int), y271 = (if v270 = 0 then (0 : Int) else 1) → qb_R mX11_cause 0 0 qb_sh 28 [none, none] [.inl y271] hp270 (qb_I qb_sh K) := by
      intro y271 ey271
      have h := h y271 ey271
      exact qb_reti dX11_cause_28 rfl h
    refine qb_feq (tgt := 27) (pc' := 23) dX11_cause_20 rfl rfl (fun c1670 => ?_) (fun c1670 => ?_)
    · refine qb_iconst (pc' := 28) dX11_cause_27 rfl rfl ?_
      refine qb_cut (L' := [none, none]) [false, false] rfl ?_
      exact k1174 _ (if_pos c1670).symm
    · refine qb_iconst (pc' := 24) dX11_cause_23 rfl rfl ?_
      refine qb_goto (tgt := 28) dX11_cause_24 rfl ?_
      refine qb_cut (L' := [none, none]) [false, false] rfl ?_
      exact k1174 _ (if_neg c1670).symm
  · have h := h.1 c1669
    refine qb_bipush (pc' := 12) dX11_cause_10 rfl rfl rfl ?_
    refine qb_goto (tgt := 28) dX11_cause_12 rfl ?_
    exact qb_reti dX11_cause_28 rfl h
def c_m_cost (x1 : Int) (x2 : Int) (x3 : Int) (x4 : Int) (hp : qb_H) (K : Int → qb_H → Prop) : Prop := qb_R mX11_cost 0 0 qb_sh 0 [qb_a 60, qb_i x1, qb_i x2, qb_i x3, qb_i x4] [] hp (qb_I qb_sh K)
theorem b_m_cost {x1 x2 x3 x4 : Int} {hp : qb_H} {K : Int → qb_H → Prop} (h : ((v_m_in x1 0 9) = 0 → K (-1) hp) ∧ (¬ (v_m_in x1 0 9) = 0 → ((v_m_isQuay x2) = 0 → K (-1) hp) ∧ (¬ (v_m_isQuay x2) = 0 → ((v_m_isDay x3) = 0 → K (-2) hp) ∧ (¬ (v_m_isDay x3) = 0 → ((v_m_in x4 0 2) = 0 → K (-2) hp) ∧ (¬ (v_m_in x4 0 2) = 0 → c_m_layCost x1 x2 x3 hp (fun hp273 => (¬ x4 = 0 → (x4 = 1 → qb_in ((hp273 60 43) - (hp273 60 42)))) ∧ (∀ (y274 : Int), y274 = (if x4 = 0 then (hp273 60 42) else (if x4 = 1 then ((hp273 60 43) - (hp273 60 42)) else (hp273 60 44))) → K y274 hp273))))))) : c_m_cost x1 x2 x3 x4 hp K := by
  unfold c_m_cost
  refine qb_iloadn (pc' := 1) (i := 1) dX11_cost_0 rfl rfl rfl ?_
  refine qb_iconst (pc' := 2) dX11_cost_1 rfl rfl ?_
  refine qb_bipush (pc' := 4) dX11_cost_2 rfl rfl rfl ?_
  refine qb_callSi (pc' := 7) (as := [.inl x1, .inl 0, .inl 9]) (rest := []) dX11_cost_4 rfl qe_mX11_cost_mX11_in rfl rfl rfl (Nat.le_of_ble_eq_true rfl) (Nat.le_of_ble_eq_true rfl) ⟨rfl, rfl⟩ (K := fun vz hpz => (v_m_in x1 0 9) = vz ∧ hp = hpz) (s_m_in x1 0 9 hp _ trivial ⟨rfl, rfl⟩) (fun vz hpz ez => ?_)
  obtain ⟨ez1, ez2⟩ := ez
  subst ez1
  subst ez2
  refine qb_feq (tgt := 17) (pc' := 10) dX11_cost_7 rfl rfl (fun c1678 => ?_) (fun c1678 => ?_)
  · have h := h.1 c1678
    refine qb_iconst (pc' := 18) dX11_cost_17 rfl rfl ?_
    exact qb_reti dX11_cost_18 rfl h
  · have h := h.2 c1678
    refine qb_iloadn (pc' := 11) (i := 2) dX11_cost_10 rfl rfl rfl ?_
    refine qb_callSi (pc' := 14) (as := [.inl x2]) (rest := []) dX11_cost_11 rfl qe_mX11_cost_mX11_isQuay rfl rfl rfl (Nat.le_of_ble_eq_true rfl) (Nat.le_of_ble_eq_true rfl) ⟨rfl, rfl⟩ (K := fun vz hpz => (v_m_isQuay x2) = vz ∧ hp = hpz) (s_m_isQuay x2 hp _ trivial ⟨rfl, rfl⟩) (fun vz hpz ez => ?_)
    obtain ⟨ez1, ez2⟩ := ez
    subst ez1
    subst ez2
    refine qb_fne (tgt := 19) (pc' := 17) dX11_cost_14 rfl rfl (fun c1679 => ?_) (fun c1679 => ?_)
    · have h := h.2 c1679
      refine qb_iloadn (pc' := 20) (i := 3) dX11_cost_19 rfl rfl rfl ?_
      refine qb_callSi (pc' := 23) (as := [.inl x3]) (rest := []) dX11_cost_20 rfl qe_mX11_cost_mX11_isDay rfl rfl rfl (Nat.le_of_ble_eq_true rfl) (Nat.le_of_ble_eq_true rfl) ⟨rfl, rfl⟩ (K := fun vz hpz => (v_m_isDay x3) = vz ∧ hp = hpz) (s_m_isDay x3 hp _ trivial ⟨rfl, rfl⟩) (fun vz hpz ez => ?_)
      obtain ⟨ez1, ez2⟩ := ez
      subst ez1
      subst ez2
      refine qb_feq (tgt := 36) (pc' := 26) dX11_cost_23 rfl rfl (fun c1680 => ?_) (fun c1680 => ?_)
      · have h := h.1 c1680
        refine qb_bipush (pc' := 38) dX11_cost_36 rfl rfl rfl ?_
        exact qb_reti dX11_cost_38 rfl h
      · have h := h.2 c1680
        refine qb_iload (pc' := 28) dX11_cost_26 rfl rfl ?_
        refine qb_iconst (pc' := 29) dX11_cost_28 rfl rfl ?_
        refine qb_iconst (pc' := 30) dX11_cost_29 rfl rfl ?_
        refine qb_callSi (pc' := 33) (as := [.inl x4, .inl 0, .inl 2]) (rest := []) dX11_cost_30 rfl qe_mX11_cost_mX11_in rfl rfl rfl (Nat.le_of_ble_eq_true rfl) (Nat.le_of_ble_eq_true rfl) ⟨rfl, rfl⟩ (K := fun vz hpz => (v_m_in x4 0 2) = vz ∧ hp = hpz) (s_m_in x4 0 2 hp _ trivial ⟨rfl, rfl⟩) (fun vz hpz ez => ?_)
        obtain ⟨ez1, ez2⟩ := ez
        subst ez1
        subst ez2
        refine qb_fne (tgt := 39) (pc' := 36) dX11_cost_33 rfl rfl (fun c1681 => ?_) (fun c1681 => ?_)
        · have h := h.2 c1681
          refine qb_aloadn (pc' := 40) (i := 0) dX11_cost_39 rfl rfl rfl ?_
          refine qb_iloadn (pc' := 41) (i := 1) dX11_cost_40 rfl rfl rfl ?_
          refine qb_iloadn (pc' := 42) (i := 2) dX11_cost_41 rfl rfl rfl ?_
          refine qb_iloadn (pc' := 43) (i := 3) dX11_cost_42 rfl rfl rfl ?_
          refine qb_callVu (pc' := 46) (b := 60) (as := [.inl x1, .inl x2, .inl x3]) (rest := []) dX11_cost_43 rfl qe_mX11_cost_mX11_layCost rfl rfl qb_s60 rfl rfl (Nat.le_of_ble_eq_true rfl) (Nat.le_of_ble_eq_true rfl) ⟨rfl, rfl⟩ h (fun hp273 h => ?_)
          refine qb_iload (pc' := 48) dX11_cost_46 rfl rfl ?_
          obtain ⟨gb, h⟩ := h
          have k1179 : ∀ (y274 : Int), y274 = (if x4 = 0 then (hp273 60 42) else (if x4 = 1 then ((hp273 60 43) - (hp273 60 42)) else (hp273 60 44))) → qb_R mX11_cost 0 0 qb_sh 80 [none, none, none, none, none] [.inl y274] hp273 (qb_I qb_sh K) := by
            intro y274 ey274
            have h := h y274 ey274
            exact qb_reti dX11_cost_80 rfl h
          refine qb_fne (tgt := 58) (pc' := 51) dX11_cost_48 rfl rfl (fun c1682 => ?_) (fun c1682 => ?_)
          · have h := gb c1682
            refine qb_iload (pc' := 60) dX11_cost_58 rfl rfl ?_
            refine qb_iconst (pc' := 61) dX11_cost_60 rfl rfl ?_
            have ga := h
            have k1180 : qb_R mX11_cost 0 0 qb_sh 80 [none, none, none, none, none] [.inl (if x4 = 1 then ((hp273 60 43) - (hp273 60 42)) else (hp273 60 44))] hp273 (qb_I qb_sh K) := by
              refine qb_cut (L' := [none, none, none, none, none]) [false, false, false, false, false] rfl ?_
              exact k1179 _ (if_neg c1682).symm
            refine qb_cne (tgt := 76) (pc' := 64) dX11_cost_61 rfl rfl (fun c1684 => ?_) (fun c1684 => ?_)
            · refine qb_aloadn (pc' := 77) (i := 0) dX11_cost_76 rfl rfl rfl ?_
              refine qb_geti (pc' := 80) (v := (hp273 60 44)) dX11_cost_77 rfl qf_X11_235 qb_s60 rfl rfl ?_
              refine qb_cut (L' := [none, none, none, none, none]) [false, false, false, false, false] rfl ?_
              simpa only [if_neg c1684] using k1180
            · have h := ga c1684
              refine qb_aloadn (pc' := 65) (i := 0) dX11_cost_64 rfl rfl rfl ?_
              refine qb_geti (pc' := 68) (v := (hp273 60 43)) dX11_cost_65 rfl qf_X11_232 qb_s60 rfl rfl ?_
              refine qb_aloadn (pc' := 69) (i := 0) dX11_cost_68 rfl rfl rfl ?_
              refine qb_geti (pc' := 72) (v := (hp273 60 42)) dX11_cost_69 rfl qf_X11_229 qb_s60 rfl rfl ?_
              have g1670 := h
              refine qb_isub (pc' := 73) dX11_cost_72 rfl g1670 ?_
              refine qb_goto (tgt := 80) dX11_cost_73 rfl ?_
              refine qb_cut (L' := [none, none, none, none, none]) [false, false, false, false, false] rfl ?_
              simpa only [if_pos c1684] using k1180
          · refine qb_aloadn (pc' := 52) (i := 0) dX11_cost_51 rfl rfl rfl ?_
            refine qb_geti (pc' := 55) (v := (hp273 60 42)) dX11_cost_52 rfl qf_X11_229 qb_s60 rfl rfl ?_
            refine qb_goto (tgt := 80) dX11_cost_55 rfl ?_
            refine qb_cut (L' := [none, none, none, none, none]) [false, false, false, false, false] rfl ?_
            exact k1179 _ (if_pos c1682).symm
        · have h := h.1 c1681
          refine qb_bipush (pc' := 38) dX11_cost_36 rfl rfl rfl ?_
          exact qb_reti dX11_cost_38 rfl h
    · have h := h.1 c1679
      refine qb_iconst (pc' := 18) dX11_cost_17 rfl rfl ?_
      exact qb_reti dX11_cost_18 rfl h
def c_m_isPrice (x0 : Int) (hp : qb_H) (K : Int → qb_H → Prop) : Prop := qb_R mX11_isPrice 0 0 qb_sh 0 [qb_i x0] [] hp (qb_I qb_sh K)
theorem b_m_isPrice {x0 : Int} {hp : qb_H} {K : Int → qb_H → Prop} (h : K (v_m_in x0 1 1000) hp) : c_m_isPrice x0 hp K := by
  unfold c_m_isPrice
  refine qb_iloadn (pc' := 1) (i := 0) dX11_isPrice_0 rfl rfl rfl ?_
  refine qb_iconst (pc' := 2) dX11_isPrice_1 rfl rfl ?_
  refine qb_sipush (pc' := 5) dX11_isPrice_2 rfl rfl rfl ?_
  refine qb_callSi (pc' := 8) (as := [.inl x0, .inl 1, .inl 1000]) (rest := []) dX11_isPrice_5 rfl qe_mX11_isPrice_mX11_in rfl rfl rfl (Nat.le_of_ble_eq_true rfl) (Nat.le_of_ble_eq_true rfl) ⟨rfl, rfl⟩ (K := fun vz hpz => (v_m_in x0 1 1000) = vz ∧ hp = hpz) (s_m_in x0 1 1000 hp _ trivial ⟨rfl, rfl⟩) (fun vz hpz ez => ?_)
  obtain ⟨ez1, ez2⟩ := ez
  subst ez1
  subst ez2
  exact qb_retz dX11_isPrice_8 rfl (by (repeat' split) <;> first | exact Or.inl rfl | exact Or.inr rfl | apply vb_m_in) h
def v_m_isPrice (x0 : Int) : Int := (v_m_in x0 1 1000)
theorem vb_m_isPrice (x0 : Int) : v_m_isPrice x0 = 0 ∨ v_m_isPrice x0 = 1 := by
  unfold v_m_isPrice
  (repeat' split) <;> first | exact Or.inl rfl | exact Or.inr rfl | apply vb_m_in
theorem s_m_isPrice (x0 : Int) (hp : qb_H) (K : Int → qb_H → Prop) (hg : True) (hK : K (v_m_isPrice x0) hp) : c_m_isPrice x0 hp K := by
  refine b_m_isPrice ?_
  unfold v_m_isPrice at hK
  exact hK
def c_m_engage (x1 : Int) (x2 : Int) (x3 : Int) (x4 : Int) (hp : qb_H) (K : Int → qb_H → Prop) : Prop := qb_R mX11_engage 0 0 qb_sh 0 [qb_a 60, qb_i x1, qb_i x2, qb_i x3, qb_i x4] [] hp (qb_I qb_sh K)
theorem b_m_engage {x1 x2 x3 x4 : Int} {hp : qb_H} {K : Int → qb_H → Prop} (h : ((v_m_in x1 0 9) = 0 → K (-1) hp) ∧ (¬ (v_m_in x1 0 9) = 0 → (x2 = (-1) → ((v_m_in x3 0 50) = 0 → K (-2) hp) ∧ (¬ (v_m_in x3 0 50) = 0 → ((v_m_isPrice x4) = 0 → K (-2) hp) ∧ (¬ (v_m_isPrice x4) = 0 → (0 ≤ x1 ∧ x1 < 10) ∧ K 1 (qb_st (qb_st (qb_st hp 71 x1 x2) 72 x1 x3) 73 x1 x4)))) ∧ (¬ x2 = (-1) → ((v_m_isQuay x2) = 0 → K (-1) hp) ∧ (¬ (v_m_isQuay x2) = 0 → ((v_m_in x3 0 50) = 0 → K (-2) hp) ∧ (¬ (v_m_in x3 0 50) = 0 → ((v_m_isPrice x4) = 0 → K (-2) hp) ∧ (¬ (v_m_isPrice x4) = 0 → (0 ≤ x1 ∧ x1 < 10) ∧ K 1 (qb_st (qb_st (qb_st hp 71 x1 x2) 72 x1 x3) 73 x1 x4))))))) : c_m_engage x1 x2 x3 x4 hp K := by
  unfold c_m_engage
  refine qb_iloadn (pc' := 1) (i := 1) dX11_engage_0 rfl rfl rfl ?_
  refine qb_iconst (pc' := 2) dX11_engage_1 rfl rfl ?_
  refine qb_bipush (pc' := 4) dX11_engage_2 rfl rfl rfl ?_
  refine qb_callSi (pc' := 7) (as := [.inl x1, .inl 0, .inl 9]) (rest := []) dX11_engage_4 rfl qe_mX11_engage_mX11_in rfl rfl rfl (Nat.le_of_ble_eq_true rfl) (Nat.le_of_ble_eq_true rfl) ⟨rfl, rfl⟩ (K := fun vz hpz => (v_m_in x1 0 9) = vz ∧ hp = hpz) (s_m_in x1 0 9 hp _ trivial ⟨rfl, rfl⟩) (fun vz hpz ez => ?_)
  obtain ⟨ez1, ez2⟩ := ez
  subst ez1
  subst ez2
  refine qb_feq (tgt := 22) (pc' := 10) dX11_engage_7 rfl rfl (fun c1692 => ?_) (fun c1692 => ?_)
  · have h := h.1 c1692
    refine qb_iconst (pc' := 23) dX11_engage_22 rfl rfl ?_
    exact qb_reti dX11_engage_23 rfl h
  · have h := h.2 c1692
    refine qb_iloadn (pc' := 11) (i := 2) dX11_engage_10 rfl rfl rfl ?_
    refine qb_iconst (pc' := 12) dX11_engage_11 rfl rfl ?_
    refine qb_ceq (tgt := 24) (pc' := 15) dX11_engage_12 rfl rfl (fun c1693 => ?_) (fun c1693 => ?_)
    · have h := h.1 c1693
      refine qb_iloadn (pc' := 25) (i := 3) dX11_engage_24 rfl rfl rfl ?_
      refine qb_iconst (pc' := 26) dX11_engage_25 rfl rfl ?_
      refine qb_bipush (pc' := 28) dX11_engage_26 rfl rfl rfl ?_
      refine qb_callSi (pc' := 31) (as := [.inl x3, .inl 0, .inl 50]) (rest := []) dX11_engage_28 rfl qe_mX11_engage_mX11_in rfl rfl rfl (Nat.le_of_ble_eq_true rfl) (Nat.le_of_ble_eq_true rfl) ⟨rfl, rfl⟩ (K := fun vz hpz => (v_m_in x3 0 50) = vz ∧ hp = hpz) (s_m_in x3 0 50 hp _ trivial ⟨rfl, rfl⟩) (fun vz hpz ez => ?_)
      obtain ⟨ez1, ez2⟩ := ez
      subst ez1
      subst ez2
      refine qb_feq (tgt := 42) (pc' := 34) dX11_engage_31 rfl rfl (fun c1694 => ?_) (fun c1694 => ?_)
      · have h := h.1 c1694
        refine qb_bipush (pc' := 44) dX11_engage_42 rfl rfl rfl ?_
        exact qb_reti dX11_engage_44 rfl h
      · have h := h.2 c1694
        refine qb_iload (pc' := 36) dX11_engage_34 rfl rfl ?_
        refine qb_callSi (pc' := 39) (as := [.inl x4]) (rest := []) dX11_engage_36 rfl qe_mX11_engage_mX11_isPrice rfl rfl rfl (Nat.le_of_ble_eq_true rfl) (Nat.le_of_ble_eq_true rfl) ⟨rfl, rfl⟩ (K := fun vz hpz => (v_m_isPrice x4) = vz ∧ hp = hpz) (s_m_isPrice x4 hp _ trivial ⟨rfl, rfl⟩) (fun vz hpz ez => ?_)
        obtain ⟨ez1, ez2⟩ := ez
        subst ez1
        subst ez2
        refine qb_fne (tgt := 45) (pc' := 42) dX11_engage_39 rfl rfl (fun c1695 => ?_) (fun c1695 => ?_)
        · have h := h.2 c1695
          refine qb_aloadn (pc' := 46) (i := 0) dX11_engage_45 rfl rfl rfl ?_
          refine qb_geta (pc' := 49) dX11_engage_46 rfl qf_X11_40 qb_s60 rfl ?_
          refine qb_iloadn (pc' := 50) (i := 1) dX11_engage_49 rfl rfl rfl ?_
          refine qb_iloadn (pc' := 51) (i := 2) dX11_engage_50 rfl rfl rfl ?_
          obtain ⟨g1673, h⟩ := h
          refine qb_iast (pc' := 52) dX11_engage_51 rfl qb_s71 g1673.1 g1673.2 ?_
          refine qb_aloadn (pc' := 53) (i := 0) dX11_engage_52 rfl rfl rfl ?_
          refine qb_geta (pc' := 56) dX11_engage_53 rfl qf_X11_43 qb_s60 rfl ?_
          refine qb_iloadn (pc' := 57) (i := 1) dX11_engage_56 rfl rfl rfl ?_
          refine qb_iloadn (pc' := 58) (i := 3) dX11_engage_57 rfl rfl rfl ?_
          refine qb_iast (pc' := 59) dX11_engage_58 rfl qb_s72 g1673.1 g1673.2 ?_
          refine qb_aloadn (pc' := 60) (i := 0) dX11_engage_59 rfl rfl rfl ?_
          refine qb_geta (pc' := 63) dX11_engage_60 rfl qf_X11_46 qb_s60 rfl ?_
          refine qb_iloadn (pc' := 64) (i := 1) dX11_engage_63 rfl rfl rfl ?_
          refine qb_iload (pc' := 66) dX11_engage_64 rfl rfl ?_
          refine qb_iast (pc' := 67) dX11_engage_66 rfl qb_s73 g1673.1 g1673.2 ?_
          refine qb_iconst (pc' := 68) dX11_engage_67 rfl rfl ?_
          exact qb_reti dX11_engage_68 rfl h
        · have h := h.1 c1695
          refine qb_bipush (pc' := 44) dX11_engage_42 rfl rfl rfl ?_
          exact qb_reti dX11_engage_44 rfl h
    · have h := h.2 c1693
      refine qb_iloadn (pc' := 16) (i := 2) dX11_engage_15 rfl rfl rfl ?_
      refine qb_callSi (pc' := 19) (as := [.inl x2]) (rest := []) dX11_engage_16 rfl qe_mX11_engage_mX11_isQuay rfl rfl rfl (Nat.le_of_ble_eq_true rfl) (Nat.le_of_ble_eq_true rfl) ⟨rfl, rfl⟩ (K := fun vz hpz => (v_m_isQuay x2) = vz ∧ hp = hpz) (s_m_isQuay x2 hp _ trivial ⟨rfl, rfl⟩) (fun vz hpz ez => ?_)
      obtain ⟨ez1, ez2⟩ := ez
      subst ez1
      subst ez2
      refine qb_fne (tgt := 24) (pc' := 22) dX11_engage_19 rfl rfl (fun c1696 => ?_) (fun c1696 => ?_)
      · have h := h.2 c1696
        refine qb_iloadn (pc' := 25) (i := 3) dX11_engage_24 rfl rfl rfl ?_
        refine qb_iconst (pc' := 26) dX11_engage_25 rfl rfl ?_
        refine qb_bipush (pc' := 28) dX11_engage_26 rfl rfl rfl ?_
        refine qb_callSi (pc' := 31) (as := [.inl x3, .inl 0, .inl 50]) (rest := []) dX11_engage_28 rfl qe_mX11_engage_mX11_in rfl rfl rfl (Nat.le_of_ble_eq_true rfl) (Nat.le_of_ble_eq_true rfl) ⟨rfl, rfl⟩ (K := fun vz hpz => (v_m_in x3 0 50) = vz ∧ hp = hpz) (s_m_in x3 0 50 hp _ trivial ⟨rfl, rfl⟩) (fun vz hpz ez => ?_)
        obtain ⟨ez1, ez2⟩ := ez
        subst ez1
        subst ez2
        refine qb_feq (tgt := 42) (pc' := 34) dX11_engage_31 rfl rfl (fun c1697 => ?_) (fun c1697 => ?_)
        · have h := h.1 c1697
          refine qb_bipush (pc' := 44) dX11_engage_42 rfl rfl rfl ?_
          exact qb_reti dX11_engage_44 rfl h
        · have h := h.2 c1697
          refine qb_iload (pc' := 36) dX11_engage_34 rfl rfl ?_
          refine qb_callSi (pc' := 39) (as := [.inl x4]) (rest := []) dX11_engage_36 rfl qe_mX11_engage_mX11_isPrice rfl rfl rfl (Nat.le_of_ble_eq_true rfl) (Nat.le_of_ble_eq_true rfl) ⟨rfl, rfl⟩ (K := fun vz hpz => (v_m_isPrice x4) = vz ∧ hp = hpz) (s_m_isPrice x4 hp _ trivial ⟨rfl, rfl⟩) (fun vz hpz ez => ?_)
          obtain ⟨ez1, ez2⟩ := ez
          subst ez1
          subst ez2
          refine qb_fne (tgt := 45) (pc' := 42) dX11_engage_39 rfl rfl (fun c1698 => ?_) (fun c1698 => ?_)
          · have h := h.2 c1698
            refine qb_aloadn (pc' := 46) (i := 0) dX11_engage_45 rfl rfl rfl ?_
            refine qb_geta (pc' := 49) dX11_engage_46 rfl qf_X11_40 qb_s60 rfl ?_
            refine qb_iloadn (pc' := 50) (i := 1) dX11_engage_49 rfl rfl rfl ?_
            refine qb_iloadn (pc' := 51) (i := 2) dX11_engage_50 rfl rfl rfl ?_
            obtain ⟨g1674, h⟩ := h
            refine qb_iast (pc' := 52) dX11_engage_51 rfl qb_s71 g1674.1 g1674.2 ?_
            refine qb_aloadn (pc' := 53) (i := 0) dX11_engage_52 rfl rfl rfl ?_
            refine qb_geta (pc' := 56) dX11_engage_53 rfl qf_X11_43 qb_s60 rfl ?_
            refine qb_iloadn (pc' := 57) (i := 1) dX11_engage_56 rfl rfl rfl ?_
            refine qb_iloadn (pc' := 58) (i := 3) dX11_engage_57 rfl rfl rfl ?_
            refine qb_iast (pc' := 59) dX11_engage_58 rfl qb_s72 g1674.1 g1674.2 ?_
            refine qb_aloadn (pc' := 60) (i := 0) dX11_engage_59 rfl rfl rfl ?_
            refine qb_geta (pc' := 63) dX11_engage_60 rfl qf_X11_46 qb_s60 rfl ?_
            refine qb_iloadn (pc' := 64) (i := 1) dX11_engage_63 rfl rfl rfl ?_
            refine qb_iload (pc' := 66) dX11_engage_64 rfl rfl ?_
            refine qb_iast (pc' := 67) dX11_engage_66 rfl qb_s73 g1674.1 g1674.2 ?_
            refine qb_iconst (pc' := 68) dX11_engage_67 rfl rfl ?_
            exact qb_reti dX11_engage_68 rfl h
          · have h := h.1 c1698
            refine qb_bipush (pc' := 44) dX11_engage_42 rfl rfl rfl ?_
            exact qb_reti dX11_engage_44 rfl h
      · have h := h.1 c1696
        refine qb_iconst (pc' := 23) dX11_engage_22 rfl rfl ?_
        exact qb_reti dX11_engage_23 rfl h
def v_m_engage (x1 : Int) (x2 : Int) (x3 : Int) (x4 : Int) : Int := (if (v_m_in x1 0 9) = 0 then ((-1) : Int) else (if x2 = (-1) then (if (v_m_in x3 0 50) = 0 then ((-2) : Int) else (if (v_m_isPrice x4) = 0 then ((-2) : Int) else 1)) else (if (v_m_isQuay x2) = 0 then ((-1) : Int) else (if (v_m_in x3 0 50) = 0 then ((-2) : Int) else (if (v_m_isPrice x4) = 0 then ((-2) : Int) else 1)))))
def h_m_engage (x1 : Int) (x2 : Int) (x3 : Int) (x4 : Int) (hp : qb_H) : qb_H := (if (v_m_in x1 0 9) = 0 then hp else (if x2 = (-1) then (if (v_m_in x3 0 50) = 0 then hp else (if (v_m_isPrice x4) = 0 then hp else (qb_st (qb_st (qb_st hp 71 x1 x2) 72 x1 x3) 73 x1 x4))) else (if (v_m_isQuay x2) = 0 then hp else (if (v_m_in x3 0 50) = 0 then hp else (if (v_m_isPrice x4) = 0 then hp else (qb_st (qb_st (qb_st hp 71 x1 x2) 72 x1 x3) 73 x1 x4))))))
theorem hn_m_engage (x1 : Int) (x2 : Int) (x3 : Int) (x4 : Int) (hp : qb_H) (c : Nat) (h71 : c ≠ 71) (h72 : c ≠ 72) (h73 : c ≠ 73) : h_m_engage x1 x2 x3 x4 hp c = hp c := by
  unfold h_m_engage
  (repeat' split) <;> simp only [qb_st_ne, qb_cpy_ne, ne_eq, not_false_eq_true, h71, h72, h73, ]
def g_m_engage (x1 : Int) (x2 : Int) (x3 : Int) (x4 : Int) : Prop := (¬ (v_m_in x1 0 9) = 0 → (x2 = (-1) → (¬ (v_m_in x3 0 50) = 0 → (¬ (v_m_isPrice x4) = 0 → 0 ≤ x1 ∧ x1 < 10))) ∧ (¬ x2 = (-1) → (¬ (v_m_isQuay x2) = 0 → (¬ (v_m_in x3 0 50) = 0 → (¬ (v_m_isPrice x4) = 0 → 0 ≤ x1 ∧ x1 < 10)))))
theorem s_m_engage (x1 : Int) (x2 : Int) (x3 : Int) (x4 : Int) (hp : qb_H) (K : Int → qb_H → Prop) (hg : g_m_engage x1 x2 x3 x4) (hK : K (v_m_engage x1 x2 x3 x4) (h_m_engage x1 x2 x3 x4 hp)) : c_m_engage x1 x2 x3 x4 hp K := by
  refine b_m_engage ?_
  unfold g_m_engage at hg
  unfold v_m_engage h_m_engage at hK
  refine ⟨fun c1699 => ?_, fun c1699 => ?_⟩
  · simpa only [if_pos c1699] using hK
  · have hg := hg c1699
    refine ⟨fun c1700 => ?_, fun c1700 => ?_⟩
    · have hg := hg.1 c1700
      refine ⟨fun c1701 => ?_, fun c1701 => ?_⟩
      · simpa only [if_neg c1699, if_pos c1700, if_pos c1701] using hK
      · have hg := hg c1701
        refine ⟨fun c1702 => ?_, fun c1702 => ?_⟩
        · simpa only [if_neg c1699, if_pos c1700, if_neg c1701, if_pos c1702] using hK
        · have hg := hg c1702
          refine ⟨hg, ?_⟩
          simpa only [if_neg c1699, if_pos c1700, if_neg c1701, if_neg c1702] using hK
    · have hg := hg.2 c1700
      refine ⟨fun c1703 => ?_, fun c1703 => ?_⟩
      · simpa only [if_neg c1699, if_neg c1700, if_pos c1703] using hK
      · have hg := hg c1703
        refine ⟨fun c1704 => ?_, fun c1704 => ?_⟩
        · simpa only [if_neg c1699, if_neg c1700, if_neg c1703, if_pos c1704] using hK
        · have hg := hg c1704
          refine ⟨fun c1705 => ?_, fun c1705 => ?_⟩
          · simpa only [if_neg c1699, if_neg c1700, if_neg c1703, if_neg c1704, if_pos c1705] using hK
          · have hg := hg c1705
            refine ⟨hg, ?_⟩
            simpa only [if_neg c1699, if_neg c1700, if_neg c1703, if_neg c1704, if_neg c1705] using hK
def c_m_explain (x1 : Int) (x2 : Int) (x3 : Int) (hp : qb_H) (K : Int → qb_H → Prop) : Prop := qb_R mX11_explain 0 0 qb_sh 0 [qb_a 60, qb_i x1, qb_i x2, qb_i x3, none, none, none] [] hp (qb_I qb_sh K)
def r_m_explain_6 (x1 : Int) (x2 : Int) (x3 : Int) (x4 : Int) (x5 : Int) (hp : qb_H) (K : Int → qb_H → Prop) : Prop := qb_R mX11_explain 0 0 qb_sh 6 [qb_a 60, qb_i x1, qb_i x2, qb_i x3, qb_i x4, qb_i x5, none] [] hp (qb_I qb_sh K)
theorem b_m_explain {x1 x2 x3 : Int} {hp : qb_H} {K : Int → qb_H → Prop} (h : r_m_explain_6 x1 x2 x3 1 0 hp K) : c_m_explain x1 x2 x3 hp K := by
  unfold c_m_explain
  refine qb_iconst (pc' := 1) dX11_explain_0 rfl rfl ?_
  refine qb_istore (pc' := 3) (L' := [qb_a 60, qb_i x1, qb_i x2, qb_i x3, qb_i 1, none, none]) dX11_explain_1 rfl (Nat.le_of_ble_eq_true rfl) rfl rfl ?_
  refine qb_iconst (pc' := 4) dX11_explain_3 rfl rfl ?_
  refine qb_istore (pc' := 6) (L' := [qb_a 60, qb_i x1, qb_i x2, qb_i x3, qb_i 1, qb_i 0, none]) dX11_explain_4 rfl (Nat.le_of_ble_eq_true rfl) rfl rfl ?_
  refine qb_cut (L' := [qb_a 60, qb_i x1, qb_i x2, qb_i x3, qb_i 1, qb_i 0, none]) [true, true, true, true, true, true, false] rfl ?_
  exact h
theorem b_m_explain_6 {x1 x2 x3 x4 x5 : Int} {hp : qb_H} {K : Int → qb_H → Prop} (h : ((hp 60 13) ≤ x5 → (x4 = 0 ∨ x4 = 1) ∧ K x4 hp) ∧ (¬ (hp 60 13) ≤ x5 → (x4 = 0 → (x4 = 0 ∨ x4 = 1) ∧ K x4 hp) ∧ (¬ x4 = 0 → (x1 < 0 → (x2 < 0 → (¬ x3 < 0 → g_m_hasCause x5 x3)) ∧ (¬ x2 < 0 → (g_m_hasCause x5 x2) ∧ ((v_m_hasCause x5 x2 hp) = 0 → (¬ x3 < 0 → g_m_hasCause x5 x3)))) ∧ (¬ x1 < 0 → (g_m_hasCause x5 x1) ∧ ((v_m_hasCause x5 x1 hp) = 0 → (x2 < 0 → (¬ x3 < 0 → g_m_hasCause x5 x3)) ∧ (¬ x2 < 0 → (g_m_hasCause x5 x2) ∧ ((v_m_hasCause x5 x2 hp) = 0 → (¬ x3 < 0 → g_m_hasCause x5 x3))))) ∧ (∀ (y281 : Int), y281 = (if x1 < 0 then (if x2 < 0 then (if x3 < 0 then (0 : Int) else (if (v_m_hasCause x5 x3 hp) = 0 then (0 : Int) else 1)) else (if (v_m_hasCause x5 x2 hp) = 0 then (if x3 < 0 then (0 : Int) else (if (v_m_hasCause x5 x3 hp) = 0 then (0 : Int) else 1)) else 1)) else (if (v_m_hasCause x5 x1 hp) = 0 then (if x2 < 0 then (if x3 < 0 then (0 : Int) else (if (v_m_hasCause x5 x3 hp) = 0 then (0 : Int) else 1)) else (if (v_m_hasCause x5 x2 hp) = 0 then (if x3 < 0 then (0 : Int) else (if (v_m_hasCause x5 x3 hp) = 0 then (0 : Int) else 1)) else 1)) else 1)) → (qb_in (4 * x5)) ∧ (qb_in ((4 * x5) + 3)) ∧ (0 ≤ ((4 * x5) + 3) ∧ ((4 * x5) + 3) < 96) ∧ (∀ (y282 : Int), y282 = (if (hp 70 ((4 * x5) + 3)) = 0 then (1 : Int) else (if y281 = 0 then (0 : Int) else 1)) → (qb_in (x5 + 1)) ∧ r_m_explain_6 x1 x2 x3 y282 (x5 + 1) hp K))))) : r_m_explain_6 x1 x2 x3 x4 x5 hp K := by
  unfold r_m_explain_6
  refine qb_iload (pc' := 8) dX11_explain_6 rfl rfl ?_
  refine qb_aloadn (pc' := 9) (i := 0) dX11_explain_8 rfl rfl rfl ?_
  refine qb_geti (pc' := 12) (v := (hp 60 13)) dX11_explain_9 rfl qf_X11_201 qb_s60 rfl rfl ?_
  refine qb_cge (tgt := 101) (pc' := 15) dX11_explain_12 rfl rfl (fun c1796 => ?_) (fun c1796 => ?_)
  · have h := h.1 c1796
    refine qb_iload (pc' := 103) dX11_explain_101 rfl rfl ?_
    obtain ⟨hz, h⟩ := h
    exact qb_retz dX11_explain_103 rfl hz h
  · have h := h.2 c1796
    refine qb_iload (pc' := 17) dX11_explain_15 rfl rfl ?_
    refine qb_feq (tgt := 101) (pc' := 20) dX11_explain_17 rfl rfl (fun c1797 => ?_) (fun c1797 => ?_)
    · have h := h.1 c1797
      refine qb_iload (pc' := 103) dX11_explain_101 rfl rfl ?_
      obtain ⟨hz, h⟩ := h
      exact qb_retz dX11_explain_103 rfl hz h
    · have h := h.2 c1797
      refine qb_iloadn (pc' := 21) (i := 1) dX11_explain_20 rfl rfl rfl ?_
      obtain ⟨ga, gb, h⟩ := h
      have k1318 : ∀ (y281 : Int), y281 = (if x1 < 0 then (if x2 < 0 then (if x3 < 0 then (0 : Int) else (if (v_m_hasCause x5 x3 hp) = 0 then (0 : Int) else 1)) else (if (v_m_hasCause x5 x2 hp) = 0 then (if x3 < 0 then (0 : Int) else (if (v_m_hasCause x5 x3 hp) = 0 then (0 : Int) else 1)) else 1)) else (if (v_m_hasCause x5 x1 hp) = 0 then (if x2 < 0 then (if x3 < 0 then (0 : Int) else (if (v_m_hasCause x5 x3 hp) = 0 then (0 : Int) else 1)) else (if (v_m_hasCause x5 x2 hp) = 0 then (if x3 < 0 then (0 : Int) else (if (v_m_hasCause x5 x3 hp) = 0 then (0 : Int) else 1)) else 1)) else 1)) → qb_R mX11_explain 0 0 qb_sh 67 [qb_a 60, qb_i x1, qb_i x2, qb_i x3, none, qb_i x5, none] [.inl y281] hp (qb_I qb_sh K) := by
        intro y281 ey281
        have h := h y281 ey281
        refine qb_istore (pc' := 69) (L' := [qb_a 60, qb_i x1, qb_i x2, qb_i x3, none, qb_i x5, qb_i y281]) dX11_explain_67 rfl (Nat.le_of_ble_eq_true rfl) rfl rfl ?_
        refine qb_aloadn (pc' := 70) (i := 0) dX11_explain_69 rfl rfl rfl ?_
        refine qb_geta (pc' := 73) dX11_explain_70 rfl qf_X11_37 qb_s60 rfl ?_
        refine qb_iconst (pc' := 74) dX11_explain_73 rfl rfl ?_
        refine qb_iload (pc' := 76) dX11_explain_74 rfl rfl ?_
        obtain ⟨g1764, h⟩ := h
        refine qb_imul (pc' := 77) dX11_explain_76 rfl g1764 ?_
        refine qb_iconst (pc' := 78) dX11_explain_77 rfl rfl ?_
        obtain ⟨g1765, h⟩ := h
        refine qb_iadd (pc' := 79) dX11_explain_78 rfl g1765 ?_
        obtain ⟨g1766, h⟩ := h
        refine qb_iald (pc' := 80) (v := (hp 70 ((4 * x5) + 3))) dX11_explain_79 rfl qb_s70 g1766.1 g1766.2 rfl ?_
        have k1384 : ∀ (y282 : Int), y282 = (if (hp 70 ((4 * x5) + 3)) = 0 then (1 : Int) else (if y281 = 0 then (0 : Int) else 1)) → qb_R mX11_explain 0 0 qb_sh 93 [qb_a 60, qb_i x1, qb_i x2, qb_i x3, none, qb_i x5, none] [.inl y282] hp (qb_I qb_sh K) := by
          intro y282 ey282
          have h := h y282 ey282
          refine qb_istore (pc' := 95) (L' := [qb_a 60, qb_i x1, qb_i x2, qb_i x3, qb_i y282, qb_i x5, none]) dX11_explain_93 rfl (Nat.le_of_ble_eq_true rfl) rfl rfl ?_
          obtain ⟨g1767, h⟩ := h
          refine qb_iinc (pc' := 98) (L' := [qb_a 60, qb_i x1, qb_i x2, qb_i x3, qb_i y282, qb_i (x5 + 1), none]) dX11_explain_95 rfl rfl g1767 (Nat.le_of_ble_eq_true rfl) rfl rfl ?_
          refine qb_goto (tgt := 6) dX11_explain_98 rfl ?_
          refine qb_cut (L' := [qb_a 60, qb_i x1, qb_i x2, qb_i x3, qb_i y282, qb_i (x5 + 1), none]) [true, true, true, true, true, true, false] rfl ?_
          exact h
        refine qb_feq (tgt := 88) (pc' := 83) dX11_explain_80 rfl rfl (fun c1927 => ?_) (fun c1927 => ?_)
        · refine qb_iconst (pc' := 89) dX11_explain_88 rfl rfl ?_
          refine qb_goto (tgt := 93) dX11_explain_89 rfl ?_
          refine qb_cut (L' := [qb_a 60, qb_i x1, qb_i x2, qb_i x3, none, qb_i x5, none]) [true, true, true, true, false, true, false] rfl ?_
          exact k1384 _ (if_pos c1927).symm
        · refine qb_iload (pc' := 85) dX11_explain_83 rfl rfl ?_
          have k1385 : qb_R mX11_explain 0 0 qb_sh 93 [qb_a 60, qb_i x1, qb_i x2, qb_i x3, none, qb_i x5, none] [.inl (if y281 = 0 then (0 : Int) else 1)] hp (qb_I qb_sh K) := by
            refine qb_cut (L' := [qb_a 60, qb_i x1, qb_i x2, qb_i x3, none, qb_i x5, none]) [true, true, true, true, false, true, false] rfl ?_
            exact k1384 _ (if_neg c1927).symm
          refine qb_feq (tgt := 92) (pc' := 88) dX11_explain_85 rfl rfl (fun c1929 => ?_) (fun c1929 => ?_)
          · refine qb_iconst (pc' := 93) dX11_explain_92 rfl rfl ?_
            refine qb_cut (L' := [qb_a 60, qb_i x1, qb_i x2, qb_i x3, none, qb_i x5, none]) [true, true, true, true, false, true, false] rfl ?_
            simpa only [if_pos c1929] using k1385
          · refine qb_iconst (pc' := 89) dX11_explain_88 rfl rfl ?_
            refine qb_goto (tgt := 93) dX11_explain_89 rfl ?_
            refine qb_cut (L' := [qb_a 60, qb_i x1, qb_i x2, qb_i x3, none, qb_i x5, none]) [true, true, true, true, false, true, false] rfl ?_
            simpa only [if_neg c1929] using k1385
      refine qb_flt (tgt := 34) (pc' := 24) dX11_explain_21 rfl rfl (fun c1798 => ?_) (fun c1798 => ?_)
      · have h := ga c1798
        refine qb_iloadn (pc' := 35) (i := 2) dX11_explain_34 rfl rfl rfl ?_
        obtain ⟨ga, gb⟩ := h
        have k1329 : qb_R mX11_explain 0 0 qb_sh 67 [qb_a 60, qb_i x1, qb_i x2, qb_i x3, none, qb_i x5, none] [.inl (if x2 < 0 then (if x3 < 0 then (0 : Int) else (if (v_m_hasCause x5 x3 hp) = 0 then (0 : Int) else 1)) else (if (v_m_hasCause x5 x2 hp) = 0 then (if x3 < 0 then (0 : Int) else (if (v_m_hasCause x5 x3 hp) = 0 then (0 : Int) else 1)) else 1))] hp (qb_I qb_sh K) := by
          refine qb_cut (L' := [qb_a 60, qb_i x1, qb_i x2, qb_i x3, none, qb_i x5, none]) [true, true, true, true, false, true, false] rfl ?_
          exact k1318 _ (if_pos c1798).symm
        refine qb_flt (tgt := 48) (pc' := 38) dX11_explain_35 rfl rfl (fun c1863 => ?_) (fun c1863 => ?_)
        · have h := ga c1863
          refine qb_iloadn (pc' := 49) (i := 3) dX11_explain_48 rfl rfl rfl ?_
          have gb := h
          have k1331 : qb_R mX11_explain 0 0 qb_sh 67 [qb_a 60, qb_i x1, qb_i x2, qb_i x3, none, qb_i x5, none] [.inl (if x3 < 0 then (0 : Int) else (if (v_m_hasCause x5 x3 hp) = 0 then (0 : Int) else 1))] hp (qb_I qb_sh K) := by
            refine qb_cut (L' := [qb_a 60, qb_i x1, qb_i x2, qb_i x3, none, qb_i x5, none]) [true, true, true, true, false, true, false] rfl ?_
            simpa only [if_pos c1863] using k1329
          refine qb_flt (tgt := 66) (pc' := 52) dX11_explain_49 rfl rfl (fun c1874 => ?_) (fun c1874 => ?_)
          · refine qb_iconst (pc' := 67) dX11_explain_66 rfl rfl ?_
            refine qb_cut (L' := [qb_a 60, qb_i x1, qb_i x2, qb_i x3, none, qb_i x5, none]) [true, true, true, true, false, true, false] rfl ?_
            simpa only [if_pos c1874] using k1331
          · have h := gb c1874
            refine qb_aloadn (pc' := 53) (i := 0) dX11_explain_52 rfl rfl rfl ?_
            refine qb_iload (pc' := 55) dX11_explain_53 rfl rfl ?_
            refine qb_iloadn (pc' := 56) (i := 3) dX11_explain_55 rfl rfl rfl ?_
            have g1729 := h
            refine qb_callVi (pc' := 59) (b := 60) (as := [.inl x5, .inl x3]) (rest := []) dX11_explain_56 rfl qe_mX11_explain_mX11_hasCause rfl rfl qb_s60 rfl rfl (Nat.le_of_ble_eq_true rfl) (Nat.le_of_ble_eq_true rfl) ⟨rfl, rfl⟩ (K := fun vz hpz => (v_m_hasCause x5 x3 hp) = vz ∧ hp = hpz) (s_m_hasCause x5 x3 hp _ g1729 ⟨rfl, rfl⟩) (fun vz hpz ez => ?_)
            obtain ⟨ez1, ez2⟩ := ez
            subst ez1
            subst ez2
            have k1332 : qb_R mX11_explain 0 0 qb_sh 67 [qb_a 60, qb_i x1, qb_i x2, qb_i x3, none, qb_i x5, none] [.inl (if (v_m_hasCause x5 x3 hp) = 0 then (0 : Int) else 1)] hp (qb_I qb_sh K) := by
              refine qb_cut (L' := [qb_a 60, qb_i x1, qb_i x2, qb_i x3, none, qb_i x5, none]) [true, true, true, true, false, true, false] rfl ?_
              simpa only [if_neg c1874] using k1331
            refine qb_feq (tgt := 66) (pc' := 62) dX11_explain_59 rfl rfl (fun c1876 => ?_) (fun c1876 => ?_)
            · refine qb_iconst (pc' := 67) dX11_explain_66 rfl rfl ?_
              refine qb_cut (L' := [qb_a 60, qb_i x1, qb_i x2, qb_i x3, none, qb_i x5, none]) [true, true, true, true, false, true, false] rfl ?_
              simpa only [if_pos c1876] using k1332
            · refine qb_iconst (pc' := 63) dX11_explain_62 rfl rfl ?_
              refine qb_goto (tgt := 67) dX11_explain_63 rfl ?_
              refine qb_cut (L' := [qb_a 60, qb_i x1, qb_i x2, qb_i x3, none, qb_i x5, none]) [true, true, true, true, false, true, false] rfl ?_
              simpa only [if_neg c1876] using k1332
        · have h := gb c1863
          refine qb_aloadn (pc' := 39) (i := 0) dX11_explain_38 rfl rfl rfl ?_
          refine qb_iload (pc' := 41) dX11_explain_39 rfl rfl ?_
          refine qb_iloadn (pc' := 42) (i := 2) dX11_explain_41 rfl rfl rfl ?_
          obtain ⟨g1730, h⟩ := h
          refine qb_callVi (pc' := 45) (b := 60) (as := [.inl x5, .inl x2]) (rest := []) dX11_explain_42 rfl qe_mX11_explain_mX11_hasCause rfl rfl qb_s60 rfl rfl (Nat.le_of_ble_eq_true rfl) (Nat.le_of_ble_eq_true rfl) ⟨rfl, rfl⟩ (K := fun vz hpz => (v_m_hasCause x5 x2 hp) = vz ∧ hp = hpz) (s_m_hasCause x5 x2 hp _ g1730 ⟨rfl, rfl⟩) (fun vz hpz ez => ?_)
          obtain ⟨ez1, ez2⟩ := ez
          subst ez1
          subst ez2
          have ga := h
          have k1336 : qb_R mX11_explain 0 0 qb_sh 67 [qb_a 60, qb_i x1, qb_i x2, qb_i x3, none, qb_i x5, none] [.inl (if (v_m_hasCause x5 x2 hp) = 0 then (if x3 < 0 then (0 : Int) else (if (v_m_hasCause x5 x3 hp) = 0 then (0 : Int) else 1)) else 1)] hp (qb_I qb_sh K) := by
            refine qb_cut (L' := [qb_a 60, qb_i x1, qb_i x2, qb_i x3, none, qb_i x5, none]) [true, true, true, true, false, true, false] rfl ?_
            simpa only [if_neg c1863] using k1329
          refine qb_fne (tgt := 62) (pc' := 48) dX11_explain_45 rfl rfl (fun c1877 => ?_) (fun c1877 => ?_)
          · refine qb_iconst (pc' := 63) dX11_explain_62 rfl rfl ?_
            refine qb_goto (tgt := 67) dX11_explain_63 rfl ?_
            refine qb_cut (L' := [qb_a 60, qb_i x1, qb_i x2, qb_i x3, none, qb_i x5, none]) [true, true, true, true, false, true, false] rfl ?_
            simpa only [if_neg c1877] using k1336
          · have h := ga c1877
            refine qb_iloadn (pc' := 49) (i := 3) dX11_explain_48 rfl rfl rfl ?_
            have gb := h
            have k1338 : qb_R mX11_explain 0 0 qb_sh 67 [qb_a 60, qb_i x1, qb_i x2, qb_i x3, none, qb_i x5, none] [.inl (if x3 < 0 then (0 : Int) else (if (v_m_hasCause x5 x3 hp) = 0 then (0 : Int) else 1))] hp (qb_I qb_sh K) := by
              refine qb_cut (L' := [qb_a 60, qb_i x1, qb_i x2, qb_i x3, none, qb_i x5, none]) [true, true, true, true, false, true, false] rfl ?_
              simpa only [if_pos c1877] using k1336
            refine qb_flt (tgt := 66) (pc' := 52) dX11_explain_49 rfl rfl (fun c1881 => ?_) (fun c1881 => ?_)
            · refine qb_iconst (pc' := 67) dX11_explain_66 rfl rfl ?_
              refine qb_cut (L' := [qb_a 60, qb_i x1, qb_i x2, qb_i x3, none, qb_i x5, none]) [true, true, true, true, false, true, false] rfl ?_
              simpa only [if_pos c1881] using k1338
            · have h := gb c1881
              refine qb_aloadn (pc' := 53) (i := 0) dX11_explain_52 rfl rfl rfl ?_
              refine qb_iload (pc' := 55) dX11_explain_53 rfl rfl ?_
              refine qb_iloadn (pc' := 56) (i := 3) dX11_explain_55 rfl rfl rfl ?_
              have g1734 := h
              refine qb_callVi (pc' := 59) (b := 60) (as := [.inl x5, .inl x3]) (rest := []) dX11_explain_56 rfl qe_mX11_explain_mX11_hasCause rfl rfl qb_s60 rfl rfl (Nat.le_of_ble_eq_true rfl) (Nat.le_of_ble_eq_true rfl) ⟨rfl, rfl⟩ (K := fun vz hpz => (v_m_hasCause x5 x3 hp) = vz ∧ hp = hpz) (s_m_hasCause x5 x3 hp _ g1734 ⟨rfl, rfl⟩) (fun vz hpz ez => ?_)
              obtain ⟨ez1, ez2⟩ := ez
              subst ez1
              subst ez2
              have k1339 : qb_R mX11_explain 0 0 qb_sh 67 [qb_a 60, qb_i x1, qb_i x2, qb_i x3, none, qb_i x5, none] [.inl (if (v_m_hasCause x5 x3 hp) = 0 then (0 : Int) else 1)] hp (qb_I qb_sh K) := by
                refine qb_cut (L' := [qb_a 60, qb_i x1, qb_i x2, qb_i x3, none, qb_i x5, none]) [true, true, true, true, false, true, false] rfl ?_
                simpa only [if_neg c1881] using k1338
              refine qb_feq (tgt := 66) (pc' := 62) dX11_explain_59 rfl rfl (fun c1883 => ?_) (fun c1883 => ?_)
              · refine qb_iconst (pc' := 67) dX11_explain_66 rfl rfl ?_
                refine qb_cut (L' := [qb_a 60, qb_i x1, qb_i x2, qb_i x3, none, qb_i x5, none]) [true, true, true, true, false, true, false] rfl ?_
                simpa only [if_pos c1883] using k1339
              · refine qb_iconst (pc' := 63) dX11_explain_62 rfl rfl ?_
                refine qb_goto (tgt := 67) dX11_explain_63 rfl ?_
                refine qb_cut (L' := [qb_a 60, qb_i x1, qb_i x2, qb_i x3, none, qb_i x5, none]) [true, true, true, true, false, true, false] rfl ?_
                simpa only [if_neg c1883] using k1339
      · have h := gb c1798
        refine qb_aloadn (pc' := 25) (i := 0) dX11_explain_24 rfl rfl rfl ?_
        refine qb_iload (pc' := 27) dX11_explain_25 rfl rfl ?_
        refine qb_iloadn (pc' := 28) (i := 1) dX11_explain_27 rfl rfl rfl ?_
        obtain ⟨g1735, h⟩ := h
        refine qb_callVi (pc' := 31) (b := 60) (as := [.inl x5, .inl x1]) (rest := []) dX11_explain_28 rfl qe_mX11_explain_mX11_hasCause rfl rfl qb_s60 rfl rfl (Nat.le_of_ble_eq_true rfl) (Nat.le_of_ble_eq_true rfl) ⟨rfl, rfl⟩ (K := fun vz hpz => (v_m_hasCause x5 x1 hp) = vz ∧ hp = hpz) (s_m_hasCause x5 x1 hp _ g1735 ⟨rfl, rfl⟩) (fun vz hpz ez => ?_)
        obtain ⟨ez1, ez2⟩ := ez
        subst ez1
        subst ez2
        have ga := h
        have k1361 : qb_R mX11_explain 0 0 qb_sh 67 [qb_a 60, qb_i x1, qb_i x2, qb_i x3, none, qb_i x5, none] [.inl (if (v_m_hasCause x5 x1 hp) = 0 then (if x2 < 0 then (if x3 < 0 then (0 : Int) else (if (v_m_hasCause x5 x3 hp) = 0 then (0 : Int) else 1)) else (if (v_m_hasCause x5 x2 hp) = 0 then (if x3 < 0 then (0 : Int) else (if (v_m_hasCause x5 x3 hp) = 0 then (0 : Int) else 1)) else 1)) else 1)] hp (qb_I qb_sh K) := by
          refine qb_cut (L' := [qb_a 60, qb_i x1, qb_i x2, qb_i x3, none, qb_i x5, none]) [true, true, true, true, false, true, false] rfl ?_
          exact k1318 _ (if_neg c1798).symm
        refine qb_fne (tgt := 62) (pc' := 34) dX11_explain_31 rfl rfl (fun c1884 => ?_) (fun c1884 => ?_)
        · refine qb_iconst (pc' := 63) dX11_explain_62 rfl rfl ?_
          refine qb_goto (tgt := 67) dX11_explain_63 rfl ?_
          refine qb_cut (L' := [qb_a 60, qb_i x1, qb_i x2, qb_i x3, none, qb_i x5, none]) [true, true, true, true, false, true, false] rfl ?_
          simpa only [if_neg c1884] using k1361
        · have h := ga c1884
          refine qb_iloadn (pc' := 35) (i := 2) dX11_explain_34 rfl rfl rfl ?_
          obtain ⟨ga, gb⟩ := h
          have k1372 : qb_R mX11_explain 0 0 qb_sh 67 [qb_a 60, qb_i x1, qb_i x2, qb_i x3, none, qb_i x5, none] [.inl (if x2 < 0 then (if x3 < 0 then (0 : Int) else (if (v_m_hasCause x5 x3 hp) = 0 then (0 : Int) else 1)) else (if (v_m_hasCause x5 x2 hp) = 0 then (if x3 < 0 then (0 : Int) else (if (v_m_hasCause x5 x3 hp) = 0 then (0 : Int) else 1)) else 1))] hp (qb_I qb_sh K) := by
            refine qb_cut (L' := [qb_a 60, qb_i x1, qb_i x2, qb_i x3, none, qb_i x5, none]) [true, true, true, true, false, true, false] rfl ?_
            simpa only [if_pos c1884] using k1361
          refine qb_flt (tgt := 48) (pc' := 38) dX11_explain_35 rfl rfl (fun c1906 => ?_) (fun c1906 => ?_)
          · have h := ga c1906
            refine qb_iloadn (pc' := 49) (i := 3) dX11_explain_48 rfl rfl rfl ?_
            have gb := h
            have k1374 : qb_R mX11_explain 0 0 qb_sh 67 [qb_a 60, qb_i x1, qb_i x2, qb_i x3, none, qb_i x5, none] [.inl (if x3 < 0 then (0 : Int) else (if (v_m_hasCause x5 x3 hp) = 0 then (0 : Int) else 1))] hp (qb_I qb_sh K) := by
              refine qb_cut (L' := [qb_a 60, qb_i x1, qb_i x2, qb_i x3, none, qb_i x5, none]) [true, true, true, true, false, true, false] rfl ?_
              simpa only [if_pos c1906] using k1372
            refine qb_flt (tgt := 66) (pc' := 52) dX11_explain_49 rfl rfl (fun c1917 => ?_) (fun c1917 => ?_)
            · refine qb_iconst (pc' := 67) dX11_explain_66 rfl rfl ?_
              refine qb_cut (L' := [qb_a 60, qb_i x1, qb_i x2, qb_i x3, none, qb_i x5, none]) [true, true, true, true, false, true, false] rfl ?_
              simpa only [if_pos c1917] using k1374
            · have h := gb c1917
              refine qb_aloadn (pc' := 53) (i := 0) dX11_explain_52 rfl rfl rfl ?_
              refine qb_iload (pc' := 55) dX11_explain_53 rfl rfl ?_
              refine qb_iloadn (pc' := 56) (i := 3) dX11_explain_55 rfl rfl rfl ?_
              have g1758 := h
              refine qb_callVi (pc' := 59) (b := 60) (as := [.inl x5, .inl x3]) (rest := []) dX11_explain_56 rfl qe_mX11_explain_mX11_hasCause rfl rfl qb_s60 rfl rfl (Nat.le_of_ble_eq_true rfl) (Nat.le_of_ble_eq_true rfl) ⟨rfl, rfl⟩ (K := fun vz hpz => (v_m_hasCause x5 x3 hp) = vz ∧ hp = hpz) (s_m_hasCause x5 x3 hp _ g1758 ⟨rfl, rfl⟩) (fun vz hpz ez => ?_)
              obtain ⟨ez1, ez2⟩ := ez
              subst ez1
              subst ez2
              have k1375 : qb_R mX11_explain 0 0 qb_sh 67 [qb_a 60, qb_i x1, qb_i x2, qb_i x3, none, qb_i x5, none] [.inl (if (v_m_hasCause x5 x3 hp) = 0 then (0 : Int) else 1)] hp (qb_I qb_sh K) := by
                refine qb_cut (L' := [qb_a 60, qb_i x1, qb_i x2, qb_i x3, none, qb_i x5, none]) [true, true, true, true, false, true, false] rfl ?_
                simpa only [if_neg c1917] using k1374
              refine qb_feq (tgt := 66) (pc' := 62) dX11_explain_59 rfl rfl (fun c1919 => ?_) (fun c1919 => ?_)
              · refine qb_iconst (pc' := 67) dX11_explain_66 rfl rfl ?_
                refine qb_cut (L' := [qb_a 60, qb_i x1, qb_i x2, qb_i x3, none, qb_i x5, none]) [true, true, true, true, false, true, false] rfl ?_
                simpa only [if_pos c1919] using k1375
              · refine qb_iconst (pc' := 63) dX11_explain_62 rfl rfl ?_
                refine qb_goto (tgt := 67) dX11_explain_63 rfl ?_
                refine qb_cut (L' := [qb_a 60, qb_i x1, qb_i x2, qb_i x3, none, qb_i x5, none]) [true, true, true, true, false, true, false] rfl ?_
                simpa only [if_neg c1919] using k1375
          · have h := gb c1906
            refine qb_aloadn (pc' := 39) (i := 0) dX11_explain_38 rfl rfl rfl ?_
            refine qb_iload (pc' := 41) dX11_explain_39 rfl rfl ?_
            refine qb_iloadn (pc' := 42) (i := 2) dX11_explain_41 rfl rfl rfl ?_
            obtain ⟨g1759, h⟩ := h
            refine qb_callVi (pc' := 45) (b := 60) (as := [.inl x5, .inl x2]) (rest := []) dX11_explain_42 rfl qe_mX11_explain_mX11_hasCause rfl rfl qb_s60 rfl rfl (Nat.le_of_ble_eq_true rfl) (Nat.le_of_ble_eq_true rfl) ⟨rfl, rfl⟩ (K := fun vz hpz => (v_m_hasCause x5 x2 hp) = vz ∧ hp = hpz) (s_m_hasCause x5 x2 hp _ g1759 ⟨rfl, rfl⟩) (fun vz hpz ez => ?_)
            obtain ⟨ez1, ez2⟩ := ez
            subst ez1
            subst ez2
            have ga := h
            have k1379 : qb_R mX11_explain 0 0 qb_sh 67 [qb_a 60, qb_i x1, qb_i x2, qb_i x3, none, qb_i x5, none] [.inl (if (v_m_hasCause x5 x2 hp) = 0 then (if x3 < 0 then (0 : Int) else (if (v_m_hasCause x5 x3 hp) = 0 then (0 : Int) else 1)) else 1)] hp (qb_I qb_sh K) := by
              refine qb_cut (L' := [qb_a 60, qb_i x1, qb_i x2, qb_i x3, none, qb_i x5, none]) [true, true, true, true, false, true, false] rfl ?_
              simpa only [if_neg c1906] using k1372
            refine qb_fne (tgt := 62) (pc' := 48) dX11_explain_45 rfl rfl (fun c1920 => ?_) (fun c1920 => ?_)
            · refine qb_iconst (pc' := 63) dX11_explain_62 rfl rfl ?_
              refine qb_goto (tgt := 67) dX11_explain_63 rfl ?_
              refine qb_cut (L' := [qb_a 60, qb_i x1, qb_i x2, qb_i x3, none, qb_i x5, none]) [true, true, true, true, false, true, false] rfl ?_
              simpa only [if_neg c1920] using k1379
            · have h := ga c1920
              refine qb_iloadn (pc' := 49) (i := 3) dX11_explain_48 rfl rfl rfl ?_
              have gb := h
              have k1381 : qb_R mX11_explain 0 0 qb_sh 67 [qb_a 60, qb_i x1, qb_i x2, qb_i x3, none, qb_i x5, none] [.inl (if x3 < 0 then (0 : Int) else (if (v_m_hasCause x5 x3 hp) = 0 then (0 : Int) else 1))] hp (qb_I qb_sh K) := by
                refine qb_cut (L' := [qb_a 60, qb_i x1, qb_i x2, qb_i x3, none, qb_i x5, none]) [true, true, true, true, false, true, false] rfl ?_
                simpa only [if_pos c1920] using k1379
              refine qb_flt (tgt := 66) (pc' := 52) dX11_explain_49 rfl rfl (fun c1924 => ?_) (fun c1924 => ?_)
              · refine qb_iconst (pc' := 67) dX11_explain_66 rfl rfl ?_
                refine qb_cut (L' := [qb_a 60, qb_i x1, qb_i x2, qb_i x3, none, qb_i x5, none]) [true, true, true, true, false, true, false] rfl ?_
                simpa only [if_pos c1924] using k1381
              · have h := gb c1924
                refine qb_aloadn (pc' := 53) (i := 0) dX11_explain_52 rfl rfl rfl ?_
                refine qb_iload (pc' := 55) dX11_explain_53 rfl rfl ?_
                refine qb_iloadn (pc' := 56) (i := 3) dX11_explain_55 rfl rfl rfl ?_
                have g1763 := h
                refine qb_callVi (pc' := 59) (b := 60) (as := [.inl x5, .inl x3]) (rest := []) dX11_explain_56 rfl qe_mX11_explain_mX11_hasCause rfl rfl qb_s60 rfl rfl (Nat.le_of_ble_eq_true rfl) (Nat.le_of_ble_eq_true rfl) ⟨rfl, rfl⟩ (K := fun vz hpz => (v_m_hasCause x5 x3 hp) = vz ∧ hp = hpz) (s_m_hasCause x5 x3 hp _ g1763 ⟨rfl, rfl⟩) (fun vz hpz ez => ?_)
                obtain ⟨ez1, ez2⟩ := ez
                subst ez1
                subst ez2
                have k1382 : qb_R mX11_explain 0 0 qb_sh 67 [qb_a 60, qb_i x1, qb_i x2, qb_i x3, none, qb_i x5, none] [.inl (if (v_m_hasCause x5 x3 hp) = 0 then (0 : Int) else 1)] hp (qb_I qb_sh K) := by
                  refine qb_cut (L' := [qb_a 60, qb_i x1, qb_i x2, qb_i x3, none, qb_i x5, none]) [true, true, true, true, false, true, false] rfl ?_
                  simpa only [if_neg c1924] using k1381
                refine qb_feq (tgt := 66) (pc' := 62) dX11_explain_59 rfl rfl (fun c1926 => ?_) (fun c1926 => ?_)
                · refine qb_iconst (pc' := 67) dX11_explain_66 rfl rfl ?_
                  refine qb_cut (L' := [qb_a 60, qb_i x1, qb_i x2, qb_i x3, none, qb_i x5, none]) [true, true, true, true, false, true, false] rfl ?_
                  simpa only [if_pos c1926] using k1382
                · refine qb_iconst (pc' := 63) dX11_explain_62 rfl rfl ?_
                  refine qb_goto (tgt := 67) dX11_explain_63 rfl ?_
                  refine qb_cut (L' := [qb_a 60, qb_i x1, qb_i x2, qb_i x3, none, qb_i x5, none]) [true, true, true, true, false, true, false] rfl ?_
                  simpa only [if_neg c1926] using k1382
def c_m_setOf (x1 : Int) (x2 : Int) (x3 : Int) (hp : qb_H) (K : Int → qb_H → Prop) : Prop := qb_R mX11_setOf 0 0 qb_sh 0 [qb_a 60, qb_i x1, qb_i x2, qb_i x3, none, none, none, none, none, none] [] hp (qb_I qb_sh K)
def r_m_setOf_6 (x1 : Int) (x2 : Int) (x3 : Int) (x4 : Int) (x5 : Int) (hp : qb_H) (K : Int → qb_H → Prop) : Prop := qb_R mX11_setOf 0 0 qb_sh 6 [qb_a 60, qb_i x1, qb_i x2, qb_i x3, qb_i x4, qb_i x5, none, none, none, none] [] hp (qb_I qb_sh K)
theorem b_m_setOf {x1 x2 x3 : Int} {hp : qb_H} {K : Int → qb_H → Prop} (h : r_m_setOf_6 x1 x2 x3 0 0 hp K) : c_m_setOf x1 x2 x3 hp K := by
  unfold c_m_setOf
  refine qb_iconst (pc' := 1) dX11_setOf_0 rfl rfl ?_
  refine qb_istore (pc' := 3) (L' := [qb_a 60, qb_i x1, qb_i x2, qb_i x3, qb_i 0, none, none, none, none, none]) dX11_setOf_1 rfl (Nat.le_of_ble_eq_true rfl) rfl rfl ?_
  refine qb_iconst (pc' := 4) dX11_setOf_3 rfl rfl ?_
  refine qb_istore (pc' := 6) (L' := [qb_a 60, qb_i x1, qb_i x2, qb_i x3, qb_i 0, qb_i 0, none, none, none, none]) dX11_setOf_4 rfl (Nat.le_of_ble_eq_true rfl) rfl rfl ?_
  refine qb_cut (L' := [qb_a 60, qb_i x1, qb_i x2, qb_i x3, qb_i 0, qb_i 0, none, none, none, none]) [true, true, true, true, true, true, false, false, false, false] rfl ?_
  exact h
theorem b_m_setOf_6 {x1 x2 x3 x4 x5 : Int} {hp : qb_H} {K : Int → qb_H → Prop} (h : (27000 ≤ x5 → (∀ (y275 : Int), y275 = (if x2 = (-1) then x4 else (-6)) → K y275 hp)) ∧ (¬ 27000 ≤ x5 → (0 ≤ x5) ∧ (0 ≤ (x5 / 30)) ∧ (∀ (y276 : Int), y276 = ((x5 / 30) % 30) → (∀ (y277 : Int), y277 = (if x1 = 0 then (if x5 = 0 then (1 : Int) else 0) else (if x1 = 1 then (if y276 = 0 then (if (x5 % 30) = 0 then (1 : Int) else 0) else 0) else (if x1 = 2 then (if y276 ≤ (x5 / 900) then (0 : Int) else (if (x5 % 30) = 0 then (1 : Int) else 0)) else (if y276 ≤ (x5 / 900) then (0 : Int) else (if (x5 % 30) ≤ y276 then (0 : Int) else 1))))) → (y277 = 0 → (qb_in (x5 + 1)) ∧ r_m_setOf_6 x1 x2 x3 x4 (x5 + 1) hp K) ∧ (¬ y277 = 0 → (x1 < 1 → (x1 < 2 → (x1 < 3 → (∀ (y278 : Int), y278 = (if x1 ≤ 0 then ((-1) : Int) else (x5 / 900)) → (∀ (y279 : Int), y279 = (if x1 ≤ 1 then ((-1) : Int) else y276) → (∀ (y280 : Int), y280 = (if x1 ≤ 2 then ((-1) : Int) else (x5 % 30)) → c_m_explain y278 y279 y280 hp (fun v283 hp283 => (v283 = 0 → (qb_in (x5 + 1)) ∧ r_m_setOf_6 x1 x2 x3 x4 (x5 + 1) hp283 K) ∧ (¬ v283 = 0 → (x4 = x2 → (qb_in (x1 - 1)) ∧ K (if (v_m_in x3 0 (x1 - 1)) = 0 then ((-6) : Int) else (if x3 = 0 then (x5 / 900) else (if x3 = 1 then y276 else (x5 % 30)))) hp283) ∧ (¬ x4 = x2 → (qb_in (x4 + 1)) ∧ (qb_in (x5 + 1)) ∧ r_m_setOf_6 x1 x2 x3 (x4 + 1) (x5 + 1) hp283 K))))))) ∧ (¬ x1 < 3 → c_m_mayBe (x5 % 30) hp (fun v284 hp284 => ((if v284 = 0 then (0 : Int) else 1) = 0 → (qb_in (x5 + 1)) ∧ r_m_setOf_6 x1 x2 x3 x4 (x5 + 1) hp284 K) ∧ (¬ (if v284 = 0 then (0 : Int) else 1) = 0 → c_m_explain (if x1 ≤ 0 then ((-1) : Int) else (x5 / 900)) (if x1 ≤ 1 then ((-1) : Int) else y276) (if x1 ≤ 2 then ((-1) : Int) else (x5 % 30)) hp284 (fun v285 hp285 => (v285 = 0 → (qb_in (x5 + 1)) ∧ r_m_setOf_6 x1 x2 x3 x4 (x5 + 1) hp285 K) ∧ (¬ v285 = 0 → (x4 = x2 → (qb_in (x1 - 1)) ∧ K (if (v_m_in x3 0 (x1 - 1)) = 0 then ((-6) : Int) else (if x3 = 0 then (x5 / 900) else (if x3 = 1 then y276 else (x5 % 30)))) hp285) ∧ (¬ x4 = x2 → (qb_in (x4 + 1)) ∧ (qb_in (x5 + 1)) ∧ r_m_setOf_6 x1 x2 x3 (x4 + 1) (x5 + 1) hp285 K))))))) ∧ (¬ x1 < 2 → c_m_mayBe y276 hp (fun v286 hp286 => (v286 = 0 → (qb_in (x5 + 1)) ∧ r_m_setOf_6 x1 x2 x3 x4 (x5 + 1) hp286 K) ∧ (¬ v286 = 0 → (x1 < 3 → c_m_explain (if x1 ≤ 0 then ((-1) : Int) else (x5 / 900)) (if x1 ≤ 1 then ((-1) : Int) else y276) (if x1 ≤ 2 then ((-1) : Int) else (x5 % 30)) hp286 (fun v287 hp287 => (v287 = 0 → (qb_in (x5 + 1)) ∧ r_m_setOf_6 x1 x2 x3 x4 (x5 + 1) hp287 K) ∧ (¬ v287 = 0 → (x4 = x2 → (qb_in (x1 - 1)) ∧ K (if (v_m_in x3 0 (x1 - 1)) = 0 then ((-6) : Int) else (if x3 = 0 then (x5 / 900) else (if x3 = 1 then y276 else (x5 % 30)))) hp287) ∧ (¬ x4 = x2 → (qb_in (x4 + 1)) ∧ (qb_in (x5 + 1)) ∧ r_m_setOf_6 x1 x2 x3 (x4 + 1) (x5 + 1) hp287 K)))) ∧ (¬ x1 < 3 → c_m_mayBe (x5 % 30) hp286 (fun v288 hp288 => ((if v288 = 0 then (0 : Int) else 1) = 0 → (qb_in (x5 + 1)) ∧ r_m_setOf_6 x1 x2 x3 x4 (x5 + 1) hp288 K) ∧ (¬ (if v288 = 0 then (0 : Int) else 1) = 0 → c_m_explain (if x1 ≤ 0 then ((-1) : Int) else (x5 / 900)) (if x1 ≤ 1 then ((-1) : Int) else y276) (if x1 ≤ 2 then ((-1) : Int) else (x5 % 30)) hp288 (fun v289 hp289 => (v289 = 0 → (qb_in (x5 + 1)) ∧ r_m_setOf_6 x1 x2 x3 x4 (x5 + 1) hp289 K) ∧ (¬ v289 = 0 → (x4 = x2 → (qb_in (x1 - 1)) ∧ K (if (v_m_in x3 0 (x1 - 1)) = 0 then ((-6) : Int) else (if x3 = 0 then (x5 / 900) else (if x3 = 1 then y276 else (x5 % 30)))) hp289) ∧ (¬ x4 = x2 → (qb_in (x4 + 1)) ∧ (qb_in (x5 + 1)) ∧ r_m_setOf_6 x1 x2 x3 (x4 + 1) (x5 + 1) hp289 K)))))))))) ∧ (¬ x1 < 1 → c_m_mayBe (x5 / 900) hp (fun v290 hp290 => (v290 = 0 → (qb_in (x5 + 1)) ∧ r_m_setOf_6 x1 x2 x3 x4 (x5 + 1) hp290 K) ∧ (¬ v290 = 0 → (x1 < 2 → (x1 < 3 → c_m_explain (if x1 ≤ 0 then ((-1) : Int) else (x5 / 900)) (if x1 ≤ 1 then ((-1) : Int) else y276) (if x1 ≤ 2 then ((-1) : Int) else (x5 % 30)) hp290 (fun v291 hp291 => (v291 = 0 → (qb_in (x5 + 1)) ∧ r_m_setOf_6 x1 x2 x3 x4 (x5 + 1) hp291 K) ∧ (¬ v291 = 0 → (x4 = x2 → (qb_in (x1 - 1)) ∧ K (if (v_m_in x3 0 (x1 - 1)) = 0 then ((-6) : Int) else (if x3 = 0 then (x5 / 900) else (if x3 = 1 then y276 else (x5 % 30)))) hp291) ∧ (¬ x4 = x2 → (qb_in (x4 + 1)) ∧ (qb_in (x5 + 1)) ∧ r_m_setOf_6 x1 x2 x3 (x4 + 1) (x5 + 1) hp291 K)))) ∧ (¬ x1 < 3 → c_m_mayBe (x5 % 30) hp290 (fun v292 hp292 => ((if v292 = 0 then (0 : Int) else 1) = 0 → (qb_in (x5 + 1)) ∧ r_m_setOf_6 x1 x2 x3 x4 (x5 + 1) hp292 K) ∧ (¬ (if v292 = 0 then (0 : Int) else 1) = 0 → c_m_explain (if x1 ≤ 0 then ((-1) : Int) else (x5 / 900)) (if x1 ≤ 1 then ((-1) : Int) else y276) (if x1 ≤ 2 then ((-1) : Int) else (x5 % 30)) hp292 (fun v293 hp293 => (v293 = 0 → (qb_in (x5 + 1)) ∧ r_m_setOf_6 x1 x2 x3 x4 (x5 + 1) hp293 K) ∧ (¬ v293 = 0 → (x4 = x2 → (qb_in (x1 - 1)) ∧ K (if (v_m_in x3 0 (x1 - 1)) = 0 then ((-6) : Int) else (if x3 = 0 then (x5 / 900) else (if x3 = 1 then y276 else (x5 % 30)))) hp293) ∧ (¬ x4 = x2 → (qb_in (x4 + 1)) ∧ (qb_in (x5 + 1)) ∧ r_m_setOf_6 x1 x2 x3 (x4 + 1) (x5 + 1) hp293 K))))))) ∧ (¬ x1 < 2 → c_m_mayBe y276 hp290 (fun v294 hp294 => (v294 = 0 → (qb_in (x5 + 1)) ∧ r_m_setOf_6 x1 x2 x3 x4 (x5 + 1) hp294 K) ∧ (¬ v294 = 0 → (x1 < 3 → c_m_explain (if x1 ≤ 0 then ((-1) : Int) else (x5 / 900)) (if x1 ≤ 1 then ((-1) : Int) else y276) (if x1 ≤ 2 then ((-1) : Int) else (x5 % 30)) hp294 (fun v295 hp295 => (v295 = 0 → (qb_in (x5 + 1)) ∧ r_m_setOf_6 x1 x2 x3 x4 (x5 + 1) hp295 K) ∧ (¬ v295 = 0 → (x4 = x2 → (qb_in (x1 - 1)) ∧ K (if (v_m_in x3 0 (x1 - 1)) = 0 then ((-6) : Int) else (if x3 = 0 then (x5 / 900) else (if x3 = 1 then y276 else (x5 % 30)))) hp295) ∧ (¬ x4 = x2 → (qb_in (x4 + 1)) ∧ (qb_in (x5 + 1)) ∧ r_m_setOf_6 x1 x2 x3 (x4 + 1) (x5 + 1) hp295 K)))) ∧ (¬ x1 < 3 → c_m_mayBe (x5 % 30) hp294 (fun v296 hp296 => ((if v296 = 0 then (0 : Int) else 1) = 0 → (qb_in (x5 + 1)) ∧ r_m_setOf_6 x1 x2 x3 x4 (x5 + 1) hp296 K) ∧ (¬ (if v296 = 0 then (0 : Int) else 1) = 0 → c_m_explain (if x1 ≤ 0 then ((-1) : Int) else (x5 / 900)) (if x1 ≤ 1 then ((-1) : Int) else y276) (if x1 ≤ 2 then ((-1) : Int) else (x5 % 30)) hp296 (fun v297 hp297 => (v297 = 0 → (qb_in (x5 + 1)) ∧ r_m_setOf_6 x1 x2 x3 x4 (x5 + 1) hp297 K) ∧ (¬ v297 = 0 → (x4 = x2 → (qb_in (x1 - 1)) ∧ K (if (v_m_in x3 0 (x1 - 1)) = 0 then ((-6) : Int) else (if x3 = 0 then (x5 / 900) else (if x3 = 1 then y276 else (x5 % 30)))) hp297) ∧ (¬ x4 = x2 → (qb_in (x4 + 1)) ∧ (qb_in (x5 + 1)) ∧ r_m_setOf_6 x1 x2 x3 (x4 + 1) (x5 + 1) hp297 K))))))))))))))))) : r_m_setOf_6 x1 x2 x3 x4 x5 hp K := by
  unfold r_m_setOf_6
  refine qb_iload (pc' := 8) dX11_setOf_6 rfl rfl ?_
  refine qb_sipush (pc' := 11) dX11_setOf_8 rfl rfl rfl ?_
  refine qb_cge (tgt := 276) (pc' := 14) dX11_setOf_11 rfl rfl (fun c1707 => ?_) (fun c1707 => ?_)
  · have h := h.1 c1707
    refine qb_iloadn (pc' := 277) (i := 2) dX11_setOf_276 rfl rfl rfl ?_
    refine qb_iconst (pc' := 278) dX11_setOf_277 rfl rfl ?_
    have k1181 : ∀ (y275 : Int), y275 = (if x2 = (-1) then x4 else (-6)) → qb_R mX11_setOf 0 0 qb_sh 288 [none, none, none, none, none, none, none, none, none, none] [.inl y275] hp (qb_I qb_sh K) := by
      intro y275 ey275
      have h := h y275 ey275
      exact qb_reti dX11_setOf_288 rfl h
    refine qb_cne (tgt := 286) (pc' := 281) dX11_setOf_278 rfl rfl (fun c1708 => ?_) (fun c1708 => ?_)
    · refine qb_bipush (pc' := 288) dX11_setOf_286 rfl rfl rfl ?_
      refine qb_cut (L' := [none, none, none, none, none, none, none, none, none, none]) [false, false, false, false, false, false, false, false, false, false] rfl ?_
      exact k1181 _ (if_neg c1708).symm
    · refine qb_iload (pc' := 283) dX11_setOf_281 rfl rfl ?_
      refine qb_goto (tgt := 288) dX11_setOf_283 rfl ?_
      refine qb_cut (L' := [none, none, none, none, none, none, none, none, none, none]) [false, false, false, false, false, false, false, false, false, false] rfl ?_
      exact k1181 _ (if_pos c1708).symm
  · have h := h.2 c1707
    refine qb_iload (pc' := 16) dX11_setOf_14 rfl rfl ?_
    refine qb_sipush (pc' := 19) dX11_setOf_16 rfl rfl rfl ?_
    obtain ⟨g1675, h⟩ := h
    refine qb_idiv (pc' := 20) dX11_setOf_19 rfl g1675 (by decide) ?_
    refine qb_istore (pc' := 22) (L' := [qb_a 60, qb_i x1, qb_i x2, qb_i x3, qb_i x4, qb_i x5, qb_i (x5 / 900), none, none, none]) dX11_setOf_20 rfl (Nat.le_of_ble_eq_true rfl) rfl rfl ?_
    refine qb_iload (pc' := 24) dX11_setOf_22 rfl rfl ?_
    refine qb_bipush (pc' := 26) dX11_setOf_24 rfl rfl rfl ?_
    refine qb_idiv (pc' := 27) dX11_setOf_26 rfl g1675 (by decide) ?_
    refine qb_bipush (pc' := 29) dX11_setOf_27 rfl rfl rfl ?_
    obtain ⟨g1676, h⟩ := h
    refine qb_irem (pc' := 30) dX11_setOf_29 rfl g1676 (by decide) ?_
    refine qb_istorey (pc' := 32) (Lf := fun y276 => [qb_a 60, qb_i x1, qb_i x2, qb_i x3, qb_i x4, qb_i x5, qb_i (x5 / 900), qb_i y276, none, none]) dX11_setOf_30 rfl (Nat.le_of_ble_eq_true rfl) rfl (fun _ => rfl) (fun y276 ey276 => ?_)
    have h := h y276 ey276
    refine qb_iload (pc' := 34) dX11_setOf_32 rfl rfl ?_
    refine qb_bipush (pc' := 36) dX11_setOf_34 rfl rfl rfl ?_
    refine qb_irem (pc' := 37) dX11_setOf_36 rfl g1675 (by decide) ?_
    refine qb_istore (pc' := 39) (L' := [qb_a 60, qb_i x1, qb_i x2, qb_i x3, qb_i x4, qb_i x5, qb_i (x5 / 900), qb_i y276, qb_i (x5 % 30), none]) dX11_setOf_37 rfl (Nat.le_of_ble_eq_true rfl) rfl rfl ?_
    refine qb_iloadn (pc' := 40) (i := 1) dX11_setOf_39 rfl rfl rfl ?_
    have k1216 : ∀ (y277 : Int), y277 = (if x1 = 0 then (if x5 = 0 then (1 : Int) else 0) else (if x1 = 1 then (if y276 = 0 then (if (x5 % 30) = 0 then (1 : Int) else 0) else 0) else (if x1 = 2 then (if y276 ≤ (x5 / 900) then (0 : Int) else (if (x5 % 30) = 0 then (1 : Int) else 0)) else (if y276 ≤ (x5 / 900) then (0 : Int) else (if (x5 % 30) ≤ y276 then (0 : Int) else 1))))) → qb_R mX11_setOf 0 0 qb_sh 123 [qb_a 60, qb_i x1, qb_i x2, qb_i x3, qb_i x4, qb_i x5, qb_i (x5 / 900), qb_i y276, qb_i (x5 % 30), none] [.inl y277] hp (qb_I qb_sh K) := by
      intro y277 ey277
      have h := h y277 ey277
      refine qb_istore (pc' := 125) (L' := [qb_a 60, qb_i x1, qb_i x2, qb_i x3, qb_i x4, qb_i x5, qb_i (x5 / 900), qb_i y276, qb_i (x5 % 30), qb_i y277]) dX11_setOf_123 rfl (Nat.le_of_ble_eq_true rfl) rfl rfl ?_
      refine qb_iload (pc' := 127) dX11_setOf_125 rfl rfl ?_
      refine qb_feq (tgt := 176) (pc' := 130) dX11_setOf_127 rfl rfl (fun c1778 => ?_) (fun c1778 => ?_)
      · have h := h.1 c1778
        refine qb_iconst (pc' := 177) dX11_setOf_176 rfl rfl ?_
        refine qb_istore (pc' := 179) (L' := [qb_a 60, qb_i x1, qb_i x2, qb_i x3, qb_i x4, qb_i x5, qb_i (x5 / 900), qb_i y276, qb_i (x5 % 30), qb_i 0]) dX11_setOf_177 rfl (Nat.le_of_ble_eq_true rfl) rfl rfl ?_
        refine qb_iload (pc' := 181) dX11_setOf_179 rfl rfl ?_
        refine qb_feq (tgt := 270) (pc' := 184) dX11_setOf_181 rfl rfl (fun _ => ?_) (fun hc => absurd hc (by decide))
        obtain ⟨g1677, h⟩ := h
        refine qb_iinc (pc' := 273) (L' := [qb_a 60, qb_i x1, qb_i x2, qb_i x3, qb_i x4, qb_i (x5 + 1), qb_i (x5 / 900), qb_i y276, qb_i (x5 % 30), qb_i 0]) dX11_setOf_270 rfl rfl g1677 (Nat.le_of_ble_eq_true rfl) rfl rfl ?_
        refine qb_goto (tgt := 6) dX11_setOf_273 rfl ?_
        refine qb_cut (L' := [qb_a 60, qb_i x1, qb_i x2, qb_i x3, qb_i x4, qb_i (x5 + 1), none, none, none, none]) [true, true, true, true, true, true, false, false, false, false] rfl ?_
        exact h
      · have h := h.2 c1778
        refine qb_iloadn (pc' := 131) (i := 1) dX11_setOf_130 rfl rfl rfl ?_
        refine qb_iconst (pc' := 132) dX11_setOf_131 rfl rfl ?_
        refine qb_clt (tgt := 144) (pc' := 135) dX11_setOf_132 rfl rfl (fun c1786 => ?_) (fun c1786 => ?_)
        · have h := h.1 c1786
          refine qb_iloadn (pc' := 145) (i := 1) dX11_setOf_144 rfl rfl rfl ?_
          refine qb_iconst (pc' := 146) dX11_setOf_145 rfl rfl ?_
          refine qb_clt (tgt := 158) (pc' := 149) dX11_setOf_146 rfl rfl (fun c1790 => ?_) (fun c1790 => ?_)
          · have h := h.1 c1790
            refine qb_iloadn (pc' := 159) (i := 1) dX11_setOf_158 rfl rfl rfl ?_
            refine qb_iconst (pc' := 160) dX11_setOf_159 rfl rfl ?_
            refine qb_clt (tgt := 172) (pc' := 163) dX11_setOf_160 rfl rfl (fun c1792 => ?_) (fun c1792 => ?_)
            · have h := h.1 c1792
              refine qb_iconst (pc' := 173) dX11_setOf_172 rfl rfl ?_
              refine qb_goto (tgt := 177) dX11_setOf_173 rfl ?_
              refine qb_istore (pc' := 179) (L' := [qb_a 60, qb_i x1, qb_i x2, qb_i x3, qb_i x4, qb_i x5, qb_i (x5 / 900), qb_i y276, qb_i (x5 % 30), qb_i 1]) dX11_setOf_177 rfl (Nat.le_of_ble_eq_true rfl) rfl rfl ?_
              refine qb_iload (pc' := 181) dX11_setOf_179 rfl rfl ?_
              refine qb_feq (tgt := 270) (pc' := 184) dX11_setOf_181 rfl rfl (fun hc => absurd hc (by decide)) (fun _ => ?_)
              refine qb_aloadn (pc' := 185) (i := 0) dX11_setOf_184 rfl rfl rfl ?_
              refine qb_iloadn (pc' := 186) (i := 1) dX11_setOf_185 rfl rfl rfl ?_
              have k1251 : ∀ (y278 : Int), y278 = (if x1 ≤ 0 then ((-1) : Int) else (x5 / 900)) → qb_R mX11_setOf 0 0 qb_sh 195 [qb_a 60, qb_i x1, qb_i x2, qb_i x3, qb_i x4, qb_i x5, qb_i (x5 / 900), qb_i y276, qb_i (x5 % 30), none] [.inl y278, .inr (.inl 60)] hp (qb_I qb_sh K) := by
                intro y278 ey278
                have h := h y278 ey278
                refine qb_iloadn (pc' := 196) (i := 1) dX11_setOf_195 rfl rfl rfl ?_
                refine qb_iconst (pc' := 197) dX11_setOf_196 rfl rfl ?_
                have k1252 : ∀ (y279 : Int), y279 = (if x1 ≤ 1 then ((-1) : Int) else y276) → qb_R mX11_setOf 0 0 qb_sh 206 [qb_a 60, qb_i x1, qb_i x2, qb_i x3, qb_i x4, qb_i x5, qb_i (x5 / 900), qb_i y276, qb_i (x5 % 30), none] [.inl y279, .inl y278, .inr (.inl 60)] hp (qb_I qb_sh K) := by
                  intro y279 ey279
                  have h := h y279 ey279
                  refine qb_iloadn (pc' := 207) (i := 1) dX11_setOf_206 rfl rfl rfl ?_
                  refine qb_iconst (pc' := 208) dX11_setOf_207 rfl rfl ?_
                  have k1253 : ∀ (y280 : Int), y280 = (if x1 ≤ 2 then ((-1) : Int) else (x5 % 30)) → qb_R mX11_setOf 0 0 qb_sh 217 [qb_a 60, qb_i x1, qb_i x2, qb_i x3, qb_i x4, qb_i x5, qb_i (x5 / 900), qb_i y276, qb_i (x5 % 30), none] [.inl y280, .inl y279, .inl y278, .inr (.inl 60)] hp (qb_I qb_sh K) := by
                    intro y280 ey280
                    have h := h y280 ey280
                    refine qb_callVi (pc' := 220) (b := 60) (as := [.inl y278, .inl y279, .inl y280]) (rest := []) dX11_setOf_217 rfl qe_mX11_setOf_mX11_explain rfl rfl qb_s60 rfl rfl (Nat.le_of_ble_eq_true rfl) (Nat.le_of_ble_eq_true rfl) ⟨rfl, rfl⟩ h (fun v283 hp283 h => ?_)
                    refine qb_feq (tgt := 270) (pc' := 223) dX11_setOf_220 rfl rfl (fun c1930 => ?_) (fun c1930 => ?_)
                    · have h := h.1 c1930
                      obtain ⟨g1768, h⟩ := h
                      refine qb_iinc (pc' := 273) (L' := [qb_a 60, qb_i x1, qb_i x2, qb_i x3, qb_i x4, qb_i (x5 + 1), qb_i (x5 / 900), qb_i y276, qb_i (x5 % 30), none]) dX11_setOf_270 rfl rfl g1768 (Nat.le_of_ble_eq_true rfl) rfl rfl ?_
                      refine qb_goto (tgt := 6) dX11_setOf_273 rfl ?_
                      refine qb_cut (L' := [qb_a 60, qb_i x1, qb_i x2, qb_i x3, qb_i x4, qb_i (x5 + 1), none, none, none, none]) [true, true, true, true, true, true, false, false, false, false] rfl ?_
                      exact h
                    · have h := h.2 c1930
                      refine qb_iload (pc' := 225) dX11_setOf_223 rfl rfl ?_
                      refine qb_iloadn (pc' := 226) (i := 2) dX11_setOf_225 rfl rfl rfl ?_
                      refine qb_cne (tgt := 267) (pc' := 229) dX11_setOf_226 rfl rfl (fun c1931 => ?_) (fun c1931 => ?_)
                      · have h := h.2 c1931
                        obtain ⟨g1770, h⟩ := h
                        refine qb_iinc (pc' := 270) (L' := [qb_a 60, qb_i x1, qb_i x2, qb_i x3, qb_i (x4 + 1), qb_i x5, qb_i (x5 / 900), qb_i y276, qb_i (x5 % 30), none]) dX11_setOf_267 rfl rfl g1770 (Nat.le_of_ble_eq_true rfl) rfl rfl ?_
                        obtain ⟨g1771, h⟩ := h
                        refine qb_iinc (pc' := 273) (L' := [qb_a 60, qb_i x1, qb_i x2, qb_i x3, qb_i (x4 + 1), qb_i (x5 + 1), qb_i (x5 / 900), qb_i y276, qb_i (x5 % 30), none]) dX11_setOf_270 rfl rfl g1771 (Nat.le_of_ble_eq_true rfl) rfl rfl ?_
                        refine qb_goto (tgt := 6) dX11_setOf_273 rfl ?_
                        refine qb_cut (L' := [qb_a 60, qb_i x1, qb_i x2, qb_i x3, qb_i (x4 + 1), qb_i (x5 + 1), none, none, none, none]) [true, true, true, true, true, true, false, false, false, false] rfl ?_
                        exact h
                      · have h := h.1 c1931
                        refine qb_iloadn (pc' := 230) (i := 3) dX11_setOf_229 rfl rfl rfl ?_
                        refine qb_iconst (pc' := 231) dX11_setOf_230 rfl rfl ?_
                        refine qb_iloadn (pc' := 232) (i := 1) dX11_setOf_231 rfl rfl rfl ?_
                        refine qb_iconst (pc' := 233) dX11_setOf_232 rfl rfl ?_
                        obtain ⟨g1769, h⟩ := h
                        refine qb_isub (pc' := 234) dX11_setOf_233 rfl g1769 ?_
                        refine qb_callSi (pc' := 237) (as := [.inl x3, .inl 0, .inl (x1 - 1)]) (rest := []) dX11_setOf_234 rfl qe_mX11_setOf_mX11_in rfl rfl rfl (Nat.le_of_ble_eq_true rfl) (Nat.le_of_ble_eq_true rfl) ⟨rfl, rfl⟩ (K := fun vz hpz => (v_m_in x3 0 (x1 - 1)) = vz ∧ hp283 = hpz) (s_m_in x3 0 (x1 - 1) hp283 _ trivial ⟨rfl, rfl⟩) (fun vz hpz ez => ?_)
                        obtain ⟨ez1, ez2⟩ := ez
                        subst ez1
                        subst ez2
                        have k1389 : qb_R mX11_setOf 0 0 qb_sh 266 [none, none, none, none, none, none, none, none, none, none] [.inl (if (v_m_in x3 0 (x1 - 1)) = 0 then ((-6) : Int) else (if x3 = 0 then (x5 / 900) else (if x3 = 1 then y276 else (x5 % 30))))] hp283 (qb_I qb_sh K) := by
                          exact qb_reti dX11_setOf_266 rfl h
                        refine qb_fne (tgt := 245) (pc' := 240) dX11_setOf_237 rfl rfl (fun c1932 => ?_) (fun c1932 => ?_)
                        · refine qb_iloadn (pc' := 246) (i := 3) dX11_setOf_245 rfl rfl rfl ?_
                          have k1391 : qb_R mX11_setOf 0 0 qb_sh 266 [none, none, none, none, none, none, none, none, none, none] [.inl (if x3 = 0 then (x5 / 900) else (if x3 = 1 then y276 else (x5 % 30)))] hp283 (qb_I qb_sh K) := by
                            refine qb_cut (L' := [none, none, none, none, none, none, none, none, none, none]) [false, false, false, false, false, false, false, false, false, false] rfl ?_
                            simpa only [if_neg c1932] using k1389
                          refine qb_fne (tgt := 254) (pc' := 249) dX11_setOf_246 rfl rfl (fun c1936 => ?_) (fun c1936 => ?_)
                          · refine qb_iloadn (pc' := 255) (i := 3) dX11_setOf_254 rfl rfl rfl ?_
                            refine qb_iconst (pc' := 256) dX11_setOf_255 rfl rfl ?_
                            have k1392 : qb_R mX11_setOf 0 0 qb_sh 266 [none, none, none, none, none, none, none, none, none, none] [.inl (if x3 = 1 then y276 else (x5 % 30))] hp283 (qb_I qb_sh K) := by
                              refine qb_cut (L' := [none, none, none, none, none, none, none, none, none, none]) [false, false, false, false, false, false, false, false, false, false] rfl ?_
                              simpa only [if_neg c1936] using k1391
                            refine qb_cne (tgt := 264) (pc' := 259) dX11_setOf_256 rfl rfl (fun c1938 => ?_) (fun c1938 => ?_)
                            · refine qb_iload (pc' := 266) dX11_setOf_264 rfl rfl ?_
                              refine qb_cut (L' := [none, none, none, none, none, none, none, none, none, none]) [false, false, false, false, false, false, false, false, false, false] rfl ?_
                              simpa only [if_neg c1938] using k1392
                            · refine qb_iload (pc' := 261) dX11_setOf_259 rfl rfl ?_
                              refine qb_goto (tgt := 266) dX11_setOf_261 rfl ?_
                              refine qb_cut (L' := [none, none, none, none, none, none, none, none, none, none]) [false, false, false, false, false, false, false, false, false, false] rfl ?_
                              simpa only [if_pos c1938] using k1392
                          · refine qb_iload (pc' := 251) dX11_setOf_249 rfl rfl ?_
                            refine qb_goto (tgt := 266) dX11_setOf_251 rfl ?_
                            refine qb_cut (L' := [none, none, none, none, none, none, none, none, none, none]) [false, false, false, false, false, false, false, false, false, false] rfl ?_
                            simpa only [if_pos c1936] using k1391
                        · refine qb_bipush (pc' := 242) dX11_setOf_240 rfl rfl rfl ?_
                          refine qb_goto (tgt := 266) dX11_setOf_242 rfl ?_
                          refine qb_cut (L' := [none, none, none, none, none, none, none, none, none, none]) [false, false, false, false, false, false, false, false, false, false] rfl ?_
                          simpa only [if_pos c1932] using k1389
                  refine qb_cle (tgt := 216) (pc' := 211) dX11_setOf_208 rfl rfl (fun c1795 => ?_) (fun c1795 => ?_)
                  · refine qb_iconst (pc' := 217) dX11_setOf_216 rfl rfl ?_
                    refine qb_cut (L' := [qb_a 60, qb_i x1, qb_i x2, qb_i x3, qb_i x4, qb_i x5, qb_i (x5 / 900), qb_i y276, qb_i (x5 % 30), none]) [true, true, true, true, true, true, true, true, true, false] rfl ?_
                    exact k1253 _ (if_pos c1795).symm
                  · refine qb_iload (pc' := 213) dX11_setOf_211 rfl rfl ?_
                    refine qb_goto (tgt := 217) dX11_setOf_213 rfl ?_
                    refine qb_cut (L' := [qb_a 60, qb_i x1, qb_i x2, qb_i x3, qb_i x4, qb_i x5, qb_i (x5 / 900), qb_i y276, qb_i (x5 % 30), none]) [true, true, true, true, true, true, true, true, true, false] rfl ?_
                    exact k1253 _ (if_neg c1795).symm
                refine qb_cle (tgt := 205) (pc' := 200) dX11_setOf_197 rfl rfl (fun c1794 => ?_) (fun c1794 => ?_)
                · refine qb_iconst (pc' := 206) dX11_setOf_205 rfl rfl ?_
                  refine qb_cut (L' := [qb_a 60, qb_i x1, qb_i x2, qb_i x3, qb_i x4, qb_i x5, qb_i (x5 / 900), qb_i y276, qb_i (x5 % 30), none]) [true, true, true, true, true, true, true, true, true, false] rfl ?_
                  exact k1252 _ (if_pos c1794).symm
                · refine qb_iload (pc' := 202) dX11_setOf_200 rfl rfl ?_
                  refine qb_goto (tgt := 206) dX11_setOf_202 rfl ?_
                  refine qb_cut (L' := [qb_a 60, qb_i x1, qb_i x2, qb_i x3, qb_i x4, qb_i x5, qb_i (x5 / 900), qb_i y276, qb_i (x5 % 30), none]) [true, true, true, true, true, true, true, true, true, false] rfl ?_
                  exact k1252 _ (if_neg c1794).symm
              refine qb_fle (tgt := 194) (pc' := 189) dX11_setOf_186 rfl rfl (fun c1793 => ?_) (fun c1793 => ?_)
              · refine qb_iconst (pc' := 195) dX11_setOf_194 rfl rfl ?_
                refine qb_cut (L' := [qb_a 60, qb_i x1, qb_i x2, qb_i x3, qb_i x4, qb_i x5, qb_i (x5 / 900), qb_i y276, qb_i (x5 % 30), none]) [true, true, true, true, true, true, true, true, true, false] rfl ?_
                exact k1251 _ (if_pos c1793).symm
              · refine qb_iload (pc' := 191) dX11_setOf_189 rfl rfl ?_
                refine qb_goto (tgt := 195) dX11_setOf_191 rfl ?_
                refine qb_cut (L' := [qb_a 60, qb_i x1, qb_i x2, qb_i x3, qb_i x4, qb_i x5, qb_i (x5 / 900), qb_i y276, qb_i (x5 % 30), none]) [true, true, true, true, true, true, true, true, true, false] rfl ?_
                exact k1251 _ (if_neg c1793).symm
            · have h := h.2 c1792
              refine qb_aloadn (pc' := 164) (i := 0) dX11_setOf_163 rfl rfl rfl ?_
              refine qb_iload (pc' := 166) dX11_setOf_164 rfl rfl ?_
              refine qb_callVi (pc' := 169) (b := 60) (as := [.inl (x5 % 30)]) (rest := []) dX11_setOf_166 rfl qe_mX11_setOf_mX11_mayBe rfl rfl qb_s60 rfl rfl (Nat.le_of_ble_eq_true rfl) (Nat.le_of_ble_eq_true rfl) ⟨rfl, rfl⟩ h (fun v284 hp284 h => ?_)
              have k1393 : qb_R mX11_setOf 0 0 qb_sh 177 [qb_a 60, qb_i x1, qb_i x2, qb_i x3, qb_i x4, qb_i x5, qb_i (x5 / 900), qb_i y276, qb_i (x5 % 30), none] [.inl (if v284 = 0 then (0 : Int) else 1)] hp284 (qb_I qb_sh K) := by
                refine qb_istore (pc' := 179) (L' := [qb_a 60, qb_i x1, qb_i x2, qb_i x3, qb_i x4, qb_i x5, qb_i (x5 / 900), qb_i y276, qb_i (x5 % 30), qb_i (if v284 = 0 then (0 : Int) else 1)]) dX11_setOf_177 rfl (Nat.le_of_ble_eq_true rfl) rfl rfl ?_
                refine qb_iload (pc' := 181) dX11_setOf_179 rfl rfl ?_
                refine qb_feq (tgt := 270) (pc' := 184) dX11_setOf_181 rfl rfl (fun c1940 => ?_) (fun c1940 => ?_)
                · have h := h.1 c1940
                  obtain ⟨g1772, h⟩ := h
                  refine qb_iinc (pc' := 273) (L' := [qb_a 60, qb_i x1, qb_i x2, qb_i x3, qb_i x4, qb_i (x5 + 1), qb_i (x5 / 900), qb_i y276, qb_i (x5 % 30), qb_i (if v284 = 0 then (0 : Int) else 1)]) dX11_setOf_270 rfl rfl g1772 (Nat.le_of_ble_eq_true rfl) rfl rfl ?_
                  refine qb_goto (tgt := 6) dX11_setOf_273 rfl ?_
                  refine qb_cut (L' := [qb_a 60, qb_i x1, qb_i x2, qb_i x3, qb_i x4, qb_i (x5 + 1), none, none, none, none]) [true, true, true, true, true, true, false, false, false, false] rfl ?_
                  exact h
                · have h := h.2 c1940
                  refine qb_aloadn (pc' := 185) (i := 0) dX11_setOf_184 rfl rfl rfl ?_
                  refine qb_iloadn (pc' := 186) (i := 1) dX11_setOf_185 rfl rfl rfl ?_
                  have k1394 : qb_R mX11_setOf 0 0 qb_sh 195 [qb_a 60, qb_i x1, qb_i x2, qb_i x3, qb_i x4, qb_i x5, qb_i (x5 / 900), qb_i y276, qb_i (x5 % 30), none] [.inl (if x1 ≤ 0 then ((-1) : Int) else (x5 / 900)), .inr (.inl 60)] hp284 (qb_I qb_sh K) := by
                    refine qb_iloadn (pc' := 196) (i := 1) dX11_setOf_195 rfl rfl rfl ?_
                    refine qb_iconst (pc' := 197) dX11_setOf_196 rfl rfl ?_
                    have k1395 : qb_R mX11_setOf 0 0 qb_sh 206 [qb_a 60, qb_i x1, qb_i x2, qb_i x3, qb_i x4, qb_i x5, qb_i (x5 / 900), qb_i y276, qb_i (x5 % 30), none] [.inl (if x1 ≤ 1 then ((-1) : Int) else y276), .inl (if x1 ≤ 0 then ((-1) : Int) else (x5 / 900)), .inr (.inl 60)] hp284 (qb_I qb_sh K) := by
                      refine qb_iloadn (pc' := 207) (i := 1) dX11_setOf_206 rfl rfl rfl ?_
                      refine qb_iconst (pc' := 208) dX11_setOf_207 rfl rfl ?_
                      have k1396 : qb_R mX11_setOf 0 0 qb_sh 217 [qb_a 60, qb_i x1, qb_i x2, qb_i x3, qb_i x4, qb_i x5, qb_i (x5 / 900), qb_i y276, qb_i (x5 % 30), none] [.inl (if x1 ≤ 2 then ((-1) : Int) else (x5 % 30)), .inl (if x1 ≤ 1 then ((-1) : Int) else y276), .inl (if x1 ≤ 0 then ((-1) : Int) else (x5 / 900)), .inr (.inl 60)] hp284 (qb_I qb_sh K) := by
                        refine qb_callVi (pc' := 220) (b := 60) (as := [.inl (if x1 ≤ 0 then ((-1) : Int) else (x5 / 900)), .inl (if x1 ≤ 1 then ((-1) : Int) else y276), .inl (if x1 ≤ 2 then ((-1) : Int) else (x5 % 30))]) (rest := []) dX11_setOf_217 rfl qe_mX11_setOf_mX11_explain rfl rfl qb_s60 rfl rfl (Nat.le_of_ble_eq_true rfl) (Nat.le_of_ble_eq_true rfl) ⟨rfl, rfl⟩ h (fun v285 hp285 h => ?_)
                        refine qb_feq (tgt := 270) (pc' := 223) dX11_setOf_220 rfl rfl (fun c1944 => ?_) (fun c1944 => ?_)
                        · have h := h.1 c1944
                          obtain ⟨g1773, h⟩ := h
                          refine qb_iinc (pc' := 273) (L' := [qb_a 60, qb_i x1, qb_i x2, qb_i x3, qb_i x4, qb_i (x5 + 1), qb_i (x5 / 900), qb_i y276, qb_i (x5 % 30), none]) dX11_setOf_270 rfl rfl g1773 (Nat.le_of_ble_eq_true rfl) rfl rfl ?_
                          refine qb_goto (tgt := 6) dX11_setOf_273 rfl ?_
                          refine qb_cut (L' := [qb_a 60, qb_i x1, qb_i x2, qb_i x3, qb_i x4, qb_i (x5 + 1), none, none, none, none]) [true, true, true, true, true, true, false, false, false, false] rfl ?_
                          exact h
                        · have h := h.2 c1944
                          refine qb_iload (pc' := 225) dX11_setOf_223 rfl rfl ?_
                          refine qb_iloadn (pc' := 226) (i := 2) dX11_setOf_225 rfl rfl rfl ?_
                          refine qb_cne (tgt := 267) (pc' := 229) dX11_setOf_226 rfl rfl (fun c1945 => ?_) (fun c1945 => ?_)
                          · have h := h.2 c1945
                            obtain ⟨g1775, h⟩ := h
                            refine qb_iinc (pc' := 270) (L' := [qb_a 60, qb_i x1, qb_i x2, qb_i x3, qb_i (x4 + 1), qb_i x5, qb_i (x5 / 900), qb_i y276, qb_i (x5 % 30), none]) dX11_setOf_267 rfl rfl g1775 (Nat.le_of_ble_eq_true rfl) rfl rfl ?_
                            obtain ⟨g1776, h⟩ := h
                            refine qb_iinc (pc' := 273) (L' := [qb_a 60, qb_i x1, qb_i x2, qb_i x3, qb_i (x4 + 1), qb_i (x5 + 1), qb_i (x5 / 900), qb_i y276, qb_i (x5 % 30), none]) dX11_setOf_270 rfl rfl g1776 (Nat.le_of_ble_eq_true rfl) rfl rfl ?_
                            refine qb_goto (tgt := 6) dX11_setOf_273 rfl ?_
                            refine qb_cut (L' := [qb_a 60, qb_i x1, qb_i x2, qb_i x3, qb_i (x4 + 1), qb_i (x5 + 1), none, none, none, none]) [true, true, true, true, true, true, false, false, false, false] rfl ?_
                            exact h
                          · have h := h.1 c1945
                            refine qb_iloadn (pc' := 230) (i := 3) dX11_setOf_229 rfl rfl rfl ?_
                            refine qb_iconst (pc' := 231) dX11_setOf_230 rfl rfl ?_
                            refine qb_iloadn (pc' := 232) (i := 1) dX11_setOf_231 rfl rfl rfl ?_
                            refine qb_iconst (pc' := 233) dX11_setOf_232 rfl rfl ?_
                            obtain ⟨g1774, h⟩ := h
                            refine qb_isub (pc' := 234) dX11_setOf_233 rfl g1774 ?_
                            refine qb_callSi (pc' := 237) (as := [.inl x3, .inl 0, .inl (x1 - 1)]) (rest := []) dX11_setOf_234 rfl qe_mX11_setOf_mX11_in rfl rfl rfl (Nat.le_of_ble_eq_true rfl) (Nat.le_of_ble_eq_true rfl) ⟨rfl, rfl⟩ (K := fun vz hpz => (v_m_in x3 0 (x1 - 1)) = vz ∧ hp285 = hpz) (s_m_in x3 0 (x1 - 1) hp285 _ trivial ⟨rfl, rfl⟩) (fun vz hpz ez => ?_)
                            obtain ⟨ez1, ez2⟩ := ez
                            subst ez1
                            subst ez2
                            have k1400 : qb_R mX11_setOf 0 0 qb_sh 266 [none, none, none, none, none, none, none, none, none, none] [.inl (if (v_m_in x3 0 (x1 - 1)) = 0 then ((-6) : Int) else (if x3 = 0 then (x5 / 900) else (if x3 = 1 then y276 else (x5 % 30))))] hp285 (qb_I qb_sh K) := by
                              exact qb_reti dX11_setOf_266 rfl h
                            refine qb_fne (tgt := 245) (pc' := 240) dX11_setOf_237 rfl rfl (fun c1946 => ?_) (fun c1946 => ?_)
                            · refine qb_iloadn (pc' := 246) (i := 3) dX11_setOf_245 rfl rfl rfl ?_
                              have k1402 : qb_R mX11_setOf 0 0 qb_sh 266 [none, none, none, none, none, none, none, none, none, none] [.inl (if x3 = 0 then (x5 / 900) else (if x3 = 1 then y276 else (x5 % 30)))] hp285 (qb_I qb_sh K) := by
                                refine qb_cut (L' := [none, none, none, none, none, none, none, none, none, none]) [false, false, false, false, false, false, false, false, false, false] rfl ?_
                                simpa only [if_neg c1946] using k1400
                              refine qb_fne (tgt := 254) (pc' := 249) dX11_setOf_246 rfl rfl (fun c1950 => ?_) (fun c1950 => ?_)
                              · refine qb_iloadn (pc' := 255) (i := 3) dX11_setOf_254 rfl rfl rfl ?_
                                refine qb_iconst (pc' := 256) dX11_setOf_255 rfl rfl ?_
                                have k1403 : qb_R mX11_setOf 0 0 qb_sh 266 [none, none, none, none, none, none, none, none, none, none] [.inl (if x3 = 1 then y276 else (x5 % 30))] hp285 (qb_I qb_sh K) := by
                                  refine qb_cut (L' := [none, none, none, none, none, none, none, none, none, none]) [false, false, false, false, false, false, false, false, false, false] rfl ?_
                                  simpa only [if_neg c1950] using k1402
                                refine qb_cne (tgt := 264) (pc' := 259) dX11_setOf_256 rfl rfl (fun c1952 => ?_) (fun c1952 => ?_)
                                · refine qb_iload (pc' := 266) dX11_setOf_264 rfl rfl ?_
                                  refine qb_cut (L' := [none, none, none, none, none, none, none, none, none, none]) [false, false, false, false, false, false, false, false, false, false] rfl ?_
                                  simpa only [if_neg c1952] using k1403
                                · refine qb_iload (pc' := 261) dX11_setOf_259 rfl rfl ?_
                                  refine qb_goto (tgt := 266) dX11_setOf_261 rfl ?_
                                  refine qb_cut (L' := [none, none, none, none, none, none, none, none, none, none]) [false, false, false, false, false, false, false, false, false, false] rfl ?_
                                  simpa only [if_pos c1952] using k1403
                              · refine qb_iload (pc' := 251) dX11_setOf_249 rfl rfl ?_
                                refine qb_goto (tgt := 266) dX11_setOf_251 rfl ?_
                                refine qb_cut (L' := [none, none, none, none, none, none, none, none, none, none]) [false, false, false, false, false, false, false, false, false, false] rfl ?_
                                simpa only [if_pos c1950] using k1402
                            · refine qb_bipush (pc' := 242) dX11_setOf_240 rfl rfl rfl ?_
                              refine qb_goto (tgt := 266) dX11_setOf_242 rfl ?_
                              refine qb_cut (L' := [none, none, none, none, none, none, none, none, none, none]) [false, false, false, false, false, false, false, false, false, false] rfl ?_
                              simpa only [if_pos c1946] using k1400
                      refine qb_cle (tgt := 216) (pc' := 211) dX11_setOf_208 rfl rfl (fun c1943 => ?_) (fun c1943 => ?_)
                      · refine qb_iconst (pc' := 217) dX11_setOf_216 rfl rfl ?_
                        refine qb_cut (L' := [qb_a 60, qb_i x1, qb_i x2, qb_i x3, qb_i x4, qb_i x5, qb_i (x5 / 900), qb_i y276, qb_i (x5 % 30), none]) [true, true, true, true, true, true, true, true, true, false] rfl ?_
                        simpa only [if_pos c1943] using k1396
                      · refine qb_iload (pc' := 213) dX11_setOf_211 rfl rfl ?_
                        refine qb_goto (tgt := 217) dX11_setOf_213 rfl ?_
                        refine qb_cut (L' := [qb_a 60, qb_i x1, qb_i x2, qb_i x3, qb_i x4, qb_i x5, qb_i (x5 / 900), qb_i y276, qb_i (x5 % 30), none]) [true, true, true, true, true, true, true, true, true, false] rfl ?_
                        simpa only [if_neg c1943] using k1396
                    refine qb_cle (tgt := 205) (pc' := 200) dX11_setOf_197 rfl rfl (fun c1942 => ?_) (fun c1942 => ?_)
                    · refine qb_iconst (pc' := 206) dX11_setOf_205 rfl rfl ?_
                      refine qb_cut (L' := [qb_a 60, qb_i x1, qb_i x2, qb_i x3, qb_i x4, qb_i x5, qb_i (x5 / 900), qb_i y276, qb_i (x5 % 30), none]) [true, true, true, true, true, true, true, true, true, false] rfl ?_
                      simpa only [if_pos c1942] using k1395
                    · refine qb_iload (pc' := 202) dX11_setOf_200 rfl rfl ?_
                      refine qb_goto (tgt := 206) dX11_setOf_202 rfl ?_
                      refine qb_cut (L' := [qb_a 60, qb_i x1, qb_i x2, qb_i x3, qb_i x4, qb_i x5, qb_i (x5 / 900), qb_i y276, qb_i (x5 % 30), none]) [true, true, true, true, true, true, true, true, true, false] rfl ?_
                      simpa only [if_neg c1942] using k1395
                  refine qb_fle (tgt := 194) (pc' := 189) dX11_setOf_186 rfl rfl (fun c1941 => ?_) (fun c1941 => ?_)
                  · refine qb_iconst (pc' := 195) dX11_setOf_194 rfl rfl ?_
                    refine qb_cut (L' := [qb_a 60, qb_i x1, qb_i x2, qb_i x3, qb_i x4, qb_i x5, qb_i (x5 / 900), qb_i y276, qb_i (x5 % 30), none]) [true, true, true, true, true, true, true, true, true, false] rfl ?_
                    simpa only [if_pos c1941] using k1394
                  · refine qb_iload (pc' := 191) dX11_setOf_189 rfl rfl ?_
                    refine qb_goto (tgt := 195) dX11_setOf_191 rfl ?_
                    refine qb_cut (L' := [qb_a 60, qb_i x1, qb_i x2, qb_i x3, qb_i x4, qb_i x5, qb_i (x5 / 900), qb_i y276, qb_i (x5 % 30), none]) [true, true, true, true, true, true, true, true, true, false] rfl ?_
                    simpa only [if_neg c1941] using k1394
              refine qb_feq (tgt := 176) (pc' := 172) dX11_setOf_169 rfl rfl (fun c1939 => ?_) (fun c1939 => ?_)
              · refine qb_iconst (pc' := 177) dX11_setOf_176 rfl rfl ?_
                refine qb_cut (L' := [qb_a 60, qb_i x1, qb_i x2, qb_i x3, qb_i x4, qb_i x5, qb_i (x5 / 900), qb_i y276, qb_i (x5 % 30), none]) [true, true, true, true, true, true, true, true, true, false] rfl ?_
                simpa only [if_pos c1939] using k1393
              · refine qb_iconst (pc' := 173) dX11_setOf_172 rfl rfl ?_
                refine qb_goto (tgt := 177) dX11_setOf_173 rfl ?_
                refine qb_cut (L' := [qb_a 60, qb_i x1, qb_i x2, qb_i x3, qb_i x4, qb_i x5, qb_i (x5 / 900), qb_i y276, qb_i (x5 % 30), none]) [true, true, true, true, true, true, true, true, true, false] rfl ?_
                simpa only [if_neg c1939] using k1393
          · have h := h.2 c1790
            refine qb_aloadn (pc' := 150) (i := 0) dX11_setOf_149 rfl rfl rfl ?_
            refine qb_iload (pc' := 152) dX11_setOf_150 rfl rfl ?_
            refine qb_callVi (pc' := 155) (b := 60) (as := [.inl y276]) (rest := []) dX11_setOf_152 rfl qe_mX11_setOf_mX11_mayBe rfl rfl qb_s60 rfl rfl (Nat.le_of_ble_eq_true rfl) (Nat.le_of_ble_eq_true rfl) ⟨rfl, rfl⟩ h (fun v286 hp286 h => ?_)
            refine qb_feq (tgt := 176) (pc' := 158) dX11_setOf_155 rfl rfl (fun c1953 => ?_) (fun c1953 => ?_)
            · have h := h.1 c1953
              refine qb_iconst (pc' := 177) dX11_setOf_176 rfl rfl ?_
              refine qb_istore (pc' := 179) (L' := [qb_a 60, qb_i x1, qb_i x2, qb_i x3, qb_i x4, qb_i x5, qb_i (x5 / 900), qb_i y276, qb_i (x5 % 30), qb_i 0]) dX11_setOf_177 rfl (Nat.le_of_ble_eq_true rfl) rfl rfl ?_
              refine qb_iload (pc' := 181) dX11_setOf_179 rfl rfl ?_
              refine qb_feq (tgt := 270) (pc' := 184) dX11_setOf_181 rfl rfl (fun _ => ?_) (fun hc => absurd hc (by decide))
              obtain ⟨g1777, h⟩ := h
              refine qb_iinc (pc' := 273) (L' := [qb_a 60, qb_i x1, qb_i x2, qb_i x3, qb_i x4, qb_i (x5 + 1), qb_i (x5 / 900), qb_i y276, qb_i (x5 % 30), qb_i 0]) dX11_setOf_270 rfl rfl g1777 (Nat.le_of_ble_eq_true rfl) rfl rfl ?_
              refine qb_goto (tgt := 6) dX11_setOf_273 rfl ?_
              refine qb_cut (L' := [qb_a 60, qb_i x1, qb_i x2, qb_i x3, qb_i x4, qb_i (x5 + 1), none, none, none, none]) [true, true, true, true, true, true, false, false, false, false] rfl ?_
              exact h
            · have h := h.2 c1953
              refine qb_iloadn (pc' := 159) (i := 1) dX11_setOf_158 rfl rfl rfl ?_
              refine qb_iconst (pc' := 160) dX11_setOf_159 rfl rfl ?_
              refine qb_clt (tgt := 172) (pc' := 163) dX11_setOf_160 rfl rfl (fun c1955 => ?_) (fun c1955 => ?_)
              · have h := h.1 c1955
                refine qb_iconst (pc' := 173) dX11_setOf_172 rfl rfl ?_
                refine qb_goto (tgt := 177) dX11_setOf_173 rfl ?_
                refine qb_istore (pc' := 179) (L' := [qb_a 60, qb_i x1, qb_i x2, qb_i x3, qb_i x4, qb_i x5, qb_i (x5 / 900), qb_i y276, qb_i (x5 % 30), qb_i 1]) dX11_setOf_177 rfl (Nat.le_of_ble_eq_true rfl) rfl rfl ?_
                refine qb_iload (pc' := 181) dX11_setOf_179 rfl rfl ?_
                refine qb_feq (tgt := 270) (pc' := 184) dX11_setOf_181 rfl rfl (fun hc => absurd hc (by decide)) (fun _ => ?_)
                refine qb_aloadn (pc' := 185) (i := 0) dX11_setOf_184 rfl rfl rfl ?_
                refine qb_iloadn (pc' := 186) (i := 1) dX11_setOf_185 rfl rfl rfl ?_
                have k1404 : qb_R mX11_setOf 0 0 qb_sh 195 [qb_a 60, qb_i x1, qb_i x2, qb_i x3, qb_i x4, qb_i x5, qb_i (x5 / 900), qb_i y276, qb_i (x5 % 30), none] [.inl (if x1 ≤ 0 then ((-1) : Int) else (x5 / 900)), .inr (.inl 60)] hp286 (qb_I qb_sh K) := by
                  refine qb_iloadn (pc' := 196) (i := 1) dX11_setOf_195 rfl rfl rfl ?_
                  refine qb_iconst (pc' := 197) dX11_setOf_196 rfl rfl ?_
                  have k1405 : qb_R mX11_setOf 0 0 qb_sh 206 [qb_a 60, qb_i x1, qb_i x2, qb_i x3, qb_i x4, qb_i x5, qb_i (x5 / 900), qb_i y276, qb_i (x5 % 30), none] [.inl (if x1 ≤ 1 then ((-1) : Int) else y276), .inl (if x1 ≤ 0 then ((-1) : Int) else (x5 / 900)), .inr (.inl 60)] hp286 (qb_I qb_sh K) := by
                    refine qb_iloadn (pc' := 207) (i := 1) dX11_setOf_206 rfl rfl rfl ?_
                    refine qb_iconst (pc' := 208) dX11_setOf_207 rfl rfl ?_
                    have k1406 : qb_R mX11_setOf 0 0 qb_sh 217 [qb_a 60, qb_i x1, qb_i x2, qb_i x3, qb_i x4, qb_i x5, qb_i (x5 / 900), qb_i y276, qb_i (x5 % 30), none] [.inl (if x1 ≤ 2 then ((-1) : Int) else (x5 % 30)), .inl (if x1 ≤ 1 then ((-1) : Int) else y276), .inl (if x1 ≤ 0 then ((-1) : Int) else (x5 / 900)), .inr (.inl 60)] hp286 (qb_I qb_sh K) := by
                      refine qb_callVi (pc' := 220) (b := 60) (as := [.inl (if x1 ≤ 0 then ((-1) : Int) else (x5 / 900)), .inl (if x1 ≤ 1 then ((-1) : Int) else y276), .inl (if x1 ≤ 2 then ((-1) : Int) else (x5 % 30))]) (rest := []) dX11_setOf_217 rfl qe_mX11_setOf_mX11_explain rfl rfl qb_s60 rfl rfl (Nat.le_of_ble_eq_true rfl) (Nat.le_of_ble_eq_true rfl) ⟨rfl, rfl⟩ h (fun v287 hp287 h => ?_)
                      refine qb_feq (tgt := 270) (pc' := 223) dX11_setOf_220 rfl rfl (fun c1959 => ?_) (fun c1959 => ?_)
                      · have h := h.1 c1959
                        obtain ⟨g1778, h⟩ := h
                        refine qb_iinc (pc' := 273) (L' := [qb_a 60, qb_i x1, qb_i x2, qb_i x3, qb_i x4, qb_i (x5 + 1), qb_i (x5 / 900), qb_i y276, qb_i (x5 % 30), none]) dX11_setOf_270 rfl rfl g1778 (Nat.le_of_ble_eq_true rfl) rfl rfl ?_
                        refine qb_goto (tgt := 6) dX11_setOf_273 rfl ?_
                        refine qb_cut (L' := [qb_a 60, qb_i x1, qb_i x2, qb_i x3, qb_i x4, qb_i (x5 + 1), none, none, none, none]) [true, true, true, true, true, true, false, false, false, false] rfl ?_
                        exact h
                      · have h := h.2 c1959
                        refine qb_iload (pc' := 225) dX11_setOf_223 rfl rfl ?_
                        refine qb_iloadn (pc' := 226) (i := 2) dX11_setOf_225 rfl rfl rfl ?_
                        refine qb_cne (tgt := 267) (pc' := 229) dX11_setOf_226 rfl rfl (fun c1960 => ?_) (fun c1960 => ?_)
                        · have h := h.2 c1960
                          obtain ⟨g1780, h⟩ := h
                          refine qb_iinc (pc' := 270) (L' := [qb_a 60, qb_i x1, qb_i x2, qb_i x3, qb_i (x4 + 1), qb_i x5, qb_i (x5 / 900), qb_i y276, qb_i (x5 % 30), none]) dX11_setOf_267 rfl rfl g1780 (Nat.le_of_ble_eq_true rfl) rfl rfl ?_
                          obtain ⟨g1781, h⟩ := h
                          refine qb_iinc (pc' := 273) (L' := [qb_a 60, qb_i x1, qb_i x2, qb_i x3, qb_i (x4 + 1), qb_i (x5 + 1), qb_i (x5 / 900), qb_i y276, qb_i (x5 % 30), none]) dX11_setOf_270 rfl rfl g1781 (Nat.le_of_ble_eq_true rfl) rfl rfl ?_
                          refine qb_goto (tgt := 6) dX11_setOf_273 rfl ?_
                          refine qb_cut (L' := [qb_a 60, qb_i x1, qb_i x2, qb_i x3, qb_i (x4 + 1), qb_i (x5 + 1), none, none, none, none]) [true, true, true, true, true, true, false, false, false, false] rfl ?_
                          exact h
                        · have h := h.1 c1960
                          refine qb_iloadn (pc' := 230) (i := 3) dX11_setOf_229 rfl rfl rfl ?_
                          refine qb_iconst (pc' := 231) dX11_setOf_230 rfl rfl ?_
                          refine qb_iloadn (pc' := 232) (i := 1) dX11_setOf_231 rfl rfl rfl ?_
                          refine qb_iconst (pc' := 233) dX11_setOf_232 rfl rfl ?_
                          obtain ⟨g1779, h⟩ := h
                          refine qb_isub (pc' := 234) dX11_setOf_233 rfl g1779 ?_
                          refine qb_callSi (pc' := 237) (as := [.inl x3, .inl 0, .inl (x1 - 1)]) (rest := []) dX11_setOf_234 rfl qe_mX11_setOf_mX11_in rfl rfl rfl (Nat.le_of_ble_eq_true rfl) (Nat.le_of_ble_eq_true rfl) ⟨rfl, rfl⟩ (K := fun vz hpz => (v_m_in x3 0 (x1 - 1)) = vz ∧ hp287 = hpz) (s_m_in x3 0 (x1 - 1) hp287 _ trivial ⟨rfl, rfl⟩) (fun vz hpz ez => ?_)
                          obtain ⟨ez1, ez2⟩ := ez
                          subst ez1
                          subst ez2
                          have k1410 : qb_R mX11_setOf 0 0 qb_sh 266 [none, none, none, none, none, none, none, none, none, none] [.inl (if (v_m_in x3 0 (x1 - 1)) = 0 then ((-6) : Int) else (if x3 = 0 then (x5 / 900) else (if x3 = 1 then y276 else (x5 % 30))))] hp287 (qb_I qb_sh K) := by
                            exact qb_reti dX11_setOf_266 rfl h
                          refine qb_fne (tgt := 245) (pc' := 240) dX11_setOf_237 rfl rfl (fun c1961 => ?_) (fun c1961 => ?_)
                          · refine qb_iloadn (pc' := 246) (i := 3) dX11_setOf_245 rfl rfl rfl ?_
                            have k1412 : qb_R mX11_setOf 0 0 qb_sh 266 [none, none, none, none, none, none, none, none, none, none] [.inl (if x3 = 0 then (x5 / 900) else (if x3 = 1 then y276 else (x5 % 30)))] hp287 (qb_I qb_sh K) := by
                              refine qb_cut (L' := [none, none, none, none, none, none, none, none, none, none]) [false, false, false, false, false, false, false, false, false, false] rfl ?_
                              simpa only [if_neg c1961] using k1410
                            refine qb_fne (tgt := 254) (pc' := 249) dX11_setOf_246 rfl rfl (fun c1965 => ?_) (fun c1965 => ?_)
                            · refine qb_iloadn (pc' := 255) (i := 3) dX11_setOf_254 rfl rfl rfl ?_
                              refine qb_iconst (pc' := 256) dX11_setOf_255 rfl rfl ?_
                              have k1413 : qb_R mX11_setOf 0 0 qb_sh 266 [none, none, none, none, none, none, none, none, none, none] [.inl (if x3 = 1 then y276 else (x5 % 30))] hp287 (qb_I qb_sh K) := by
                                refine qb_cut (L' := [none, none, none, none, none, none, none, none, none, none]) [false, false, false, false, false, false, false, false, false, false] rfl ?_
                                simpa only [if_neg c1965] using k1412
                              refine qb_cne (tgt := 264) (pc' := 259) dX11_setOf_256 rfl rfl (fun c1967 => ?_) (fun c1967 => ?_)
                              · refine qb_iload (pc' := 266) dX11_setOf_264 rfl rfl ?_
                                refine qb_cut (L' := [none, none, none, none, none, none, none, none, none, none]) [false, false, false, false, false, false, false, false, false, false] rfl ?_
                                simpa only [if_neg c1967] using k1413
                              · refine qb_iload (pc' := 261) dX11_setOf_259 rfl rfl ?_
                                refine qb_goto (tgt := 266) dX11_setOf_261 rfl ?_
                                refine qb_cut (L' := [none, none, none, none, none, none, none, none, none, none]) [false, false, false, false, false, false, false, false, false, false] rfl ?_
                                simpa only [if_pos c1967] using k1413
                            · refine qb_iload (pc' := 251) dX11_setOf_249 rfl rfl ?_
                              refine qb_goto (tgt := 266) dX11_setOf_251 rfl ?_
                              refine qb_cut (L' := [none, none, none, none, none, none, none, none, none, none]) [false, false, false, false, false, false, false, false, false, false] rfl ?_
                              simpa only [if_pos c1965] using k1412
                          · refine qb_bipush (pc' := 242) dX11_setOf_240 rfl rfl rfl ?_
                            refine qb_goto (tgt := 266) dX11_setOf_242 rfl ?_
                            refine qb_cut (L' := [none, none, none, none, none, none, none, none, none, none]) [false, false, false, false, false, false, false, false, false, false] rfl ?_
                            simpa only [if_pos c1961] using k1410
                    refine qb_cle (tgt := 216) (pc' := 211) dX11_setOf_208 rfl rfl (fun c1958 => ?_) (fun c1958 => ?_)
                    · refine qb_iconst (pc' := 217) dX11_setOf_216 rfl rfl ?_
                      refine qb_cut (L' := [qb_a 60, qb_i x1, qb_i x2, qb_i x3, qb_i x4, qb_i x5, qb_i (x5 / 900), qb_i y276, qb_i (x5 % 30), none]) [true, true, true, true, true, true, true, true, true, false] rfl ?_
                      simpa only [if_pos c1958] using k1406
                    · refine qb_iload (pc' := 213) dX11_setOf_211 rfl rfl ?_
                      refine qb_goto (tgt := 217) dX11_setOf_213 rfl ?_
                      refine qb_cut (L' := [qb_a 60, qb_i x1, qb_i x2, qb_i x3, qb_i x4, qb_i x5, qb_i (x5 / 900), qb_i y276, qb_i (x5 % 30), none]) [true, true, true, true, true, true, true, true, true, false] rfl ?_
                      simpa only [if_neg c1958] using k1406
                  refine qb_cle (tgt := 205) (pc' := 200) dX11_setOf_197 rfl rfl (fun c1957 => ?_) (fun c1957 => ?_)
                  · refine qb_iconst (pc' := 206) dX11_setOf_205 rfl rfl ?_
                    refine qb_cut (L' := [qb_a 60, qb_i x1, qb_i x2, qb_i x3, qb_i x4, qb_i x5, qb_i (x5 / 900), qb_i y276, qb_i (x5 % 30), none]) [true, true, true, true, true, true, true, true, true, false] rfl ?_
                    simpa only [if_pos c1957] using k1405
                  · refine qb_iload (pc' := 202) dX11_setOf_200 rfl rfl ?_
                    refine qb_goto (tgt := 206) dX11_setOf_202 rfl ?_
                    refine qb_cut (L' := [qb_a 60, qb_i x1, qb_i x2, qb_i x3, qb_i x4, qb_i x5, qb_i (x5 / 900), qb_i y276, qb_i (x5 % 30), none]) [true, true, true, true, true, true, true, true, true, false] rfl ?_
                    simpa only [if_neg c1957] using k1405
                refine qb_fle (tgt := 194) (pc' := 189) dX11_setOf_186 rfl rfl (fun c1956 => ?_) (fun c1956 => ?_)
                · refine qb_iconst (pc' := 195) dX11_setOf_194 rfl rfl ?_
                  refine qb_cut (L' := [qb_a 60, qb_i x1, qb_i x2, qb_i x3, qb_i x4, qb_i x5, qb_i (x5 / 900), qb_i y276, qb_i (x5 % 30), none]) [true, true, true, true, true, true, true, true, true, false] rfl ?_
                  simpa only [if_pos c1956] using k1404
                · refine qb_iload (pc' := 191) dX11_setOf_189 rfl rfl ?_
                  refine qb_goto (tgt := 195) dX11_setOf_191 rfl ?_
                  refine qb_cut (L' := [qb_a 60, qb_i x1, qb_i x2, qb_i x3, qb_i x4, qb_i x5, qb_i (x5 / 900), qb_i y276, qb_i (x5 % 30), none]) [true, true, true, true, true, true, true, true, true, false] rfl ?_
                  simpa only [if_neg c1956] using k1404
              · have h := h.2 c1955
                refine qb_aloadn (pc' := 164) (i := 0) dX11_setOf_163 rfl rfl rfl ?_
                refine qb_iload (pc' := 166) dX11_setOf_164 rfl rfl ?_
                refine qb_callVi (pc' := 169) (b := 60) (as := [.inl (x5 % 30)]) (rest := []) dX11_setOf_166 rfl qe_mX11_setOf_mX11_mayBe rfl rfl qb_s60 rfl rfl (Nat.le_of_ble_eq_true rfl) (Nat.le_of_ble_eq_true rfl) ⟨rfl, rfl⟩ h (fun v288 hp288 h => ?_)
                have k1414 : qb_R mX11_setOf 0 0 qb_sh 177 [qb_a 60, qb_i x1, qb_i x2, qb_i x3, qb_i x4, qb_i x5, qb_i (x5 / 900), qb_i y276, qb_i (x5 % 30), none] [.inl (if v288 = 0 then (0 : Int) else 1)] hp288 (qb_I qb_sh K) := by
                  refine qb_istore (pc' := 179) (L' := [qb_a 60, qb_i x1, qb_i x2, qb_i x3, qb_i x4, qb_i x5, qb_i (x5 / 900), qb_i y276, qb_i (x5 % 30), qb_i (if v288 = 0 then (0 : Int) else 1)]) dX11_setOf_177 rfl (Nat.le_of_ble_eq_true rfl) rfl rfl ?_
                  refine qb_iload (pc' := 181) dX11_setOf_179 rfl rfl ?_
                  refine qb_feq (tgt := 270) (pc' := 184) dX11_setOf_181 rfl rfl (fun c1969 => ?_) (fun c1969 => ?_)
                  · have h := h.1 c1969
                    obtain ⟨g1782, h⟩ := h
                    refine qb_iinc (pc' := 273) (L' := [qb_a 60, qb_i x1, qb_i x2, qb_i x3, qb_i x4, qb_i (x5 + 1), qb_i (x5 / 900), qb_i y276, qb_i (x5 % 30), qb_i (if v288 = 0 then (0 : Int) else 1)]) dX11_setOf_270 rfl rfl g1782 (Nat.le_of_ble_eq_true rfl) rfl rfl ?_
                    refine qb_goto (tgt := 6) dX11_setOf_273 rfl ?_
                    refine qb_cut (L' := [qb_a 60, qb_i x1, qb_i x2, qb_i x3, qb_i x4, qb_i (x5 + 1), none, none, none, none]) [true, true, true, true, true, true, false, false, false, false] rfl ?_
                    exact h
                  · have h := h.2 c1969
                    refine qb_aloadn (pc' := 185) (i := 0) dX11_setOf_184 rfl rfl rfl ?_
                    refine qb_iloadn (pc' := 186) (i := 1) dX11_setOf_185 rfl rfl rfl ?_
                    have k1415 : qb_R mX11_setOf 0 0 qb_sh 195 [qb_a 60, qb_i x1, qb_i x2, qb_i x3, qb_i x4, qb_i x5, qb_i (x5 / 900), qb_i y276, qb_i (x5 % 30), none] [.inl (if x1 ≤ 0 then ((-1) : Int) else (x5 / 900)), .inr (.inl 60)] hp288 (qb_I qb_sh K) := by
                      refine qb_iloadn (pc' := 196) (i := 1) dX11_setOf_195 rfl rfl rfl ?_
                      refine qb_iconst (pc' := 197) dX11_setOf_196 rfl rfl ?_
                      have k1416 : qb_R mX11_setOf 0 0 qb_sh 206 [qb_a 60, qb_i x1, qb_i x2, qb_i x3, qb_i x4, qb_i x5, qb_i (x5 / 900), qb_i y276, qb_i (x5 % 30), none] [.inl (if x1 ≤ 1 then ((-1) : Int) else y276), .inl (if x1 ≤ 0 then ((-1) : Int) else (x5 / 900)), .inr (.inl 60)] hp288 (qb_I qb_sh K) := by
                        refine qb_iloadn (pc' := 207) (i := 1) dX11_setOf_206 rfl rfl rfl ?_
                        refine qb_iconst (pc' := 208) dX11_setOf_207 rfl rfl ?_
                        have k1417 : qb_R mX11_setOf 0 0 qb_sh 217 [qb_a 60, qb_i x1, qb_i x2, qb_i x3, qb_i x4, qb_i x5, qb_i (x5 / 900), qb_i y276, qb_i (x5 % 30), none] [.inl (if x1 ≤ 2 then ((-1) : Int) else (x5 % 30)), .inl (if x1 ≤ 1 then ((-1) : Int) else y276), .inl (if x1 ≤ 0 then ((-1) : Int) else (x5 / 900)), .inr (.inl 60)] hp288 (qb_I qb_sh K) := by
                          refine qb_callVi (pc' := 220) (b := 60) (as := [.inl (if x1 ≤ 0 then ((-1) : Int) else (x5 / 900)), .inl (if x1 ≤ 1 then ((-1) : Int) else y276), .inl (if x1 ≤ 2 then ((-1) : Int) else (x5 % 30))]) (rest := []) dX11_setOf_217 rfl qe_mX11_setOf_mX11_explain rfl rfl qb_s60 rfl rfl (Nat.le_of_ble_eq_true rfl) (Nat.le_of_ble_eq_true rfl) ⟨rfl, rfl⟩ h (fun v289 hp289 h => ?_)
                          refine qb_feq (tgt := 270) (pc' := 223) dX11_setOf_220 rfl rfl (fun c1973 => ?_) (fun c1973 => ?_)
                          · have h := h.1 c1973
                            obtain ⟨g1783, h⟩ := h
                            refine qb_iinc (pc' := 273) (L' := [qb_a 60, qb_i x1, qb_i x2, qb_i x3, qb_i x4, qb_i (x5 + 1), qb_i (x5 / 900), qb_i y276, qb_i (x5 % 30), none]) dX11_setOf_270 rfl rfl g1783 (Nat.le_of_ble_eq_true rfl) rfl rfl ?_
                            refine qb_goto (tgt := 6) dX11_setOf_273 rfl ?_
                            refine qb_cut (L' := [qb_a 60, qb_i x1, qb_i x2, qb_i x3, qb_i x4, qb_i (x5 + 1), none, none, none, none]) [true, true, true, true, true, true, false, false, false, false] rfl ?_
                            exact h
                          · have h := h.2 c1973
                            refine qb_iload (pc' := 225) dX11_setOf_223 rfl rfl ?_
                            refine qb_iloadn (pc' := 226) (i := 2) dX11_setOf_225 rfl rfl rfl ?_
                            refine qb_cne (tgt := 267) (pc' := 229) dX11_setOf_226 rfl rfl (fun c1974 => ?_) (fun c1974 => ?_)
                            · have h := h.2 c1974
                              obtain ⟨g1785, h⟩ := h
                              refine qb_iinc (pc' := 270) (L' := [qb_a 60, qb_i x1, qb_i x2, qb_i x3, qb_i (x4 + 1), qb_i x5, qb_i (x5 / 900), qb_i y276, qb_i (x5 % 30), none]) dX11_setOf_267 rfl rfl g1785 (Nat.le_of_ble_eq_true rfl) rfl rfl ?_
                              obtain ⟨g1786, h⟩ := h
                              refine qb_iinc (pc' := 273) (L' := [qb_a 60, qb_i x1, qb_i x2, qb_i x3, qb_i (x4 + 1), qb_i (x5 + 1), qb_i (x5 / 900), qb_i y276, qb_i (x5 % 30), none]) dX11_setOf_270 rfl rfl g1786 (Nat.le_of_ble_eq_true rfl) rfl rfl ?_
                              refine qb_goto (tgt := 6) dX11_setOf_273 rfl ?_
                              refine qb_cut (L' := [qb_a 60, qb_i x1, qb_i x2, qb_i x3, qb_i (x4 + 1), qb_i (x5 + 1), none, none, none, none]) [true, true, true, true, true, true, false, false, false, false] rfl ?_
                              exact h
                            · have h := h.1 c1974
                              refine qb_iloadn (pc' := 230) (i := 3) dX11_setOf_229 rfl rfl rfl ?_
                              refine qb_iconst (pc' := 231) dX11_setOf_230 rfl rfl ?_
                              refine qb_iloadn (pc' := 232) (i := 1) dX11_setOf_231 rfl rfl rfl ?_
                              refine qb_iconst (pc' := 233) dX11_setOf_232 rfl rfl ?_
                              obtain ⟨g1784, h⟩ := h
                              refine qb_isub (pc' := 234) dX11_setOf_233 rfl g1784 ?_
                              refine qb_callSi (pc' := 237) (as := [.inl x3, .inl 0, .inl (x1 - 1)]) (rest := []) dX11_setOf_234 rfl qe_mX11_setOf_mX11_in rfl rfl rfl (Nat.le_of_ble_eq_true rfl) (Nat.le_of_ble_eq_true rfl) ⟨rfl, rfl⟩ (K := fun vz hpz => (v_m_in x3 0 (x1 - 1)) = vz ∧ hp289 = hpz) (s_m_in x3 0 (x1 - 1) hp289 _ trivial ⟨rfl, rfl⟩) (fun vz hpz ez => ?_)
                              obtain ⟨ez1, ez2⟩ := ez
                              subst ez1
                              subst ez2
                              have k1421 : qb_R mX11_setOf 0 0 qb_sh 266 [none, none, none, none, none, none, none, none, none, none] [.inl (if (v_m_in x3 0 (x1 - 1)) = 0 then ((-6) : Int) else (if x3 = 0 then (x5 / 900) else (if x3 = 1 then y276 else (x5 % 30))))] hp289 (qb_I qb_sh K) := by
                                exact qb_reti dX11_setOf_266 rfl h
                              refine qb_fne (tgt := 245) (pc' := 240) dX11_setOf_237 rfl rfl (fun c1975 => ?_) (fun c1975 => ?_)
                              · refine qb_iloadn (pc' := 246) (i := 3) dX11_setOf_245 rfl rfl rfl ?_
                                have k1423 : qb_R mX11_setOf 0 0 qb_sh 266 [none, none, none, none, none, none, none, none, none, none] [.inl (if x3 = 0 then (x5 / 900) else (if x3 = 1 then y276 else (x5 % 30)))] hp289 (qb_I qb_sh K) := by
                                  refine qb_cut (L' := [none, none, none, none, none, none, none, none, none, none]) [false, false, false, false, false, false, false, false, false, false] rfl ?_
                                  simpa only [if_neg c1975] using k1421
                                refine qb_fne (tgt := 254) (pc' := 249) dX11_setOf_246 rfl rfl (fun c1979 => ?_) (fun c1979 => ?_)
                                · refine qb_iloadn (pc' := 255) (i := 3) dX11_setOf_254 rfl rfl rfl ?_
                                  refine qb_iconst (pc' := 256) dX11_setOf_255 rfl rfl ?_
                                  have k1424 : qb_R mX11_setOf 0 0 qb_sh 266 [none, none, none, none, none, none, none, none, none, none] [.inl (if x3 = 1 then y276 else (x5 % 30))] hp289 (qb_I qb_sh K) := by
                                    refine qb_cut (L' := [none, none, none, none, none, none, none, none, none, none]) [false, false, false, false, false, false, false, false, false, false] rfl ?_
                                    simpa only [if_neg c1979] using k1423
                                  refine qb_cne (tgt := 264) (pc' := 259) dX11_setOf_256 rfl rfl (fun c1981 => ?_) (fun c1981 => ?_)
                                  · refine qb_iload (pc' := 266) dX11_setOf_264 rfl rfl ?_
                                    refine qb_cut (L' := [none, none, none, none, none, none, none, none, none, none]) [false, false, false, false, false, false, false, false, false, false] rfl ?_
                                    simpa only [if_neg c1981] using k1424
                                  · refine qb_iload (pc' := 261) dX11_setOf_259 rfl rfl ?_
                                    refine qb_goto (tgt := 266) dX11_setOf_261 rfl ?_
                                    refine qb_cut (L' := [none, none, none, none, none, none, none, none, none, none]) [false, false, false, false, false, false, false, false, false, false] rfl ?_
                                    simpa only [if_pos c1981] using k1424
                                · refine qb_iload (pc' := 251) dX11_setOf_249 rfl rfl ?_
                                  refine qb_goto (tgt := 266) dX11_setOf_251 rfl ?_
                                  refine qb_cut (L' := [none, none, none, none, none, none, none, none, none, none]) [false, false, false, false, false, false, false, false, false, false] rfl ?_
                                  simpa only [if_pos c1979] using k1423
                              · refine qb_bipush (pc' := 242) dX11_setOf_240 rfl rfl rfl ?_
                                refine qb_goto (tgt := 266) dX11_setOf_242 rfl ?_
                                refine qb_cut (L' := [none, none, none, none, none, none, none, none, none, none]) [false, false, false, false, false, false, false, false, false, false] rfl ?_
                                simpa only [if_pos c1975] using k1421
                        refine qb_cle (tgt := 216) (pc' := 211) dX11_setOf_208 rfl rfl (fun c1972 => ?_) (fun c1972 => ?_)
                        · refine qb_iconst (pc' := 217) dX11_setOf_216 rfl rfl ?_
                          refine qb_cut (L' := [qb_a 60, qb_i x1, qb_i x2, qb_i x3, qb_i x4, qb_i x5, qb_i (x5 / 900), qb_i y276, qb_i (x5 % 30), none]) [true, true, true, true, true, true, true, true, true, false] rfl ?_
                          simpa only [if_pos c1972] using k1417
                        · refine qb_iload (pc' := 213) dX11_setOf_211 rfl rfl ?_
                          refine qb_goto (tgt := 217) dX11_setOf_213 rfl ?_
                          refine qb_cut (L' := [qb_a 60, qb_i x1, qb_i x2, qb_i x3, qb_i x4, qb_i x5, qb_i (x5 / 900), qb_i y276, qb_i (x5 % 30), none]) [true, true, true, true, true, true, true, true, true, false] rfl ?_
                          simpa only [if_neg c1972] using k1417
                      refine qb_cle (tgt := 205) (pc' := 200) dX11_setOf_197 rfl rfl (fun c1971 => ?_) (fun c1971 => ?_)
                      · refine qb_iconst (pc' := 206) dX11_setOf_205 rfl rfl ?_
                        refine qb_cut (L' := [qb_a 60, qb_i x1, qb_i x2, qb_i x3, qb_i x4, qb_i x5, qb_i (x5 / 900), qb_i y276, qb_i (x5 % 30), none]) [true, true, true, true, true, true, true, true, true, false] rfl ?_
                        simpa only [if_pos c1971] using k1416
                      · refine qb_iload (pc' := 202) dX11_setOf_200 rfl rfl ?_
                        refine qb_goto (tgt := 206) dX11_setOf_202 rfl ?_
                        refine qb_cut (L' := [qb_a 60, qb_i x1, qb_i x2, qb_i x3, qb_i x4, qb_i x5, qb_i (x5 / 900), qb_i y276, qb_i (x5 % 30), none]) [true, true, true, true, true, true, true, true, true, false] rfl ?_
                        simpa only [if_neg c1971] using k1416
                    refine qb_fle (tgt := 194) (pc' := 189) dX11_setOf_186 rfl rfl (fun c1970 => ?_) (fun c1970 => ?_)
                    · refine qb_iconst (pc' := 195) dX11_setOf_194 rfl rfl ?_
                      refine qb_cut (L' := [qb_a 60, qb_i x1, qb_i x2, qb_i x3, qb_i x4, qb_i x5, qb_i (x5 / 900), qb_i y276, qb_i (x5 % 30), none]) [true, true, true, true, true, true, true, true, true, false] rfl ?_
                      simpa only [if_pos c1970] using k1415
                    · refine qb_iload (pc' := 191) dX11_setOf_189 rfl rfl ?_
                      refine qb_goto (tgt := 195) dX11_setOf_191 rfl ?_
                      refine qb_cut (L' := [qb_a 60, qb_i x1, qb_i x2, qb_i x3, qb_i x4, qb_i x5, qb_i (x5 / 900), qb_i y276, qb_i (x5 % 30), none]) [true, true, true, true, true, true, true, true, true, false] rfl ?_
                      simpa only [if_neg c1970] using k1415
                refine qb_feq (tgt := 176) (pc' := 172) dX11_setOf_169 rfl rfl (fun c1968 => ?_) (fun c1968 => ?_)
                · refine qb_iconst (pc' := 177) dX11_setOf_176 rfl rfl ?_
                  refine qb_cut (L' := [qb_a 60, qb_i x1, qb_i x2, qb_i x3, qb_i x4, qb_i x5, qb_i (x5 / 900), qb_i y276, qb_i (x5 % 30), none]) [true, true, true, true, true, true, true, true, true, false] rfl ?_
                  simpa only [if_pos c1968] using k1414
                · refine qb_iconst (pc' := 173) dX11_setOf_172 rfl rfl ?_
                  refine qb_goto (tgt := 177) dX11_setOf_173 rfl ?_
                  refine qb_cut (L' := [qb_a 60, qb_i x1, qb_i x2, qb_i x3, qb_i x4, qb_i x5, qb_i (x5 / 900), qb_i y276, qb_i (x5 % 30), none]) [true, true, true, true, true, true, true, true, true, false] rfl ?_
                  simpa only [if_neg c1968] using k1414
        · have h := h.2 c1786
          refine qb_aloadn (pc' := 136) (i := 0) dX11_setOf_135 rfl rfl rfl ?_
          refine qb_iload (pc' := 138) dX11_setOf_136 rfl rfl ?_
          refine qb_callVi (pc' := 141) (b := 60) (as := [.inl (x5 / 900)]) (rest := []) dX11_setOf_138 rfl qe_mX11_setOf_mX11_mayBe rfl rfl qb_s60 rfl rfl (Nat.le_of_ble_eq_true rfl) (Nat.le_of_ble_eq_true rfl) ⟨rfl, rfl⟩ h (fun v290 hp290 h => ?_)
          refine qb_feq (tgt := 176) (pc' := 144) dX11_setOf_141 rfl rfl (fun c1982 => ?_) (fun c1982 => ?_)
          · have h := h.1 c1982
            refine qb_iconst (pc' := 177) dX11_setOf_176 rfl rfl ?_
            refine qb_istore (pc' := 179) (L' := [qb_a 60, qb_i x1, qb_i x2, qb_i x3, qb_i x4, qb_i x5, qb_i (x5 / 900), qb_i y276, qb_i (x5 % 30), qb_i 0]) dX11_setOf_177 rfl (Nat.le_of_ble_eq_true rfl) rfl rfl ?_
            refine qb_iload (pc' := 181) dX11_setOf_179 rfl rfl ?_
            refine qb_feq (tgt := 270) (pc' := 184) dX11_setOf_181 rfl rfl (fun _ => ?_) (fun hc => absurd hc (by decide))
            obtain ⟨g1787, h⟩ := h
            refine qb_iinc (pc' := 273) (L' := [qb_a 60, qb_i x1, qb_i x2, qb_i x3, qb_i x4, qb_i (x5 + 1), qb_i (x5 / 900), qb_i y276, qb_i (x5 % 30), qb_i 0]) dX11_setOf_270 rfl rfl g1787 (Nat.le_of_ble_eq_true rfl) rfl rfl ?_
            refine qb_goto (tgt := 6) dX11_setOf_273 rfl ?_
            refine qb_cut (L' := [qb_a 60, qb_i x1, qb_i x2, qb_i x3, qb_i x4, qb_i (x5 + 1), none, none, none, none]) [true, true, true, true, true, true, false, false, false, false] rfl ?_
            exact h
          · have h := h.2 c1982
            refine qb_iloadn (pc' := 145) (i := 1) dX11_setOf_144 rfl rfl rfl ?_
            refine qb_iconst (pc' := 146) dX11_setOf_145 rfl rfl ?_
            refine qb_clt (tgt := 158) (pc' := 149) dX11_setOf_146 rfl rfl (fun c1986 => ?_) (fun c1986 => ?_)
            · have h := h.1 c1986
              refine qb_iloadn (pc' := 159) (i := 1) dX11_setOf_158 rfl rfl rfl ?_
              refine qb_iconst (pc' := 160) dX11_setOf_159 rfl rfl ?_
              refine qb_clt (tgt := 172) (pc' := 163) dX11_setOf_160 rfl rfl (fun c1988 => ?_) (fun c1988 => ?_)
              · have h := h.1 c1988
                refine qb_iconst (pc' := 173) dX11_setOf_172 rfl rfl ?_
                refine qb_goto (tgt := 177) dX11_setOf_173 rfl ?_
                refine qb_istore (pc' := 179) (L' := [qb_a 60, qb_i x1, qb_i x2, qb_i x3, qb_i x4, qb_i x5, qb_i (x5 / 900), qb_i y276, qb_i (x5 % 30), qb_i 1]) dX11_setOf_177 rfl (Nat.le_of_ble_eq_true rfl) rfl rfl ?_
                refine qb_iload (pc' := 181) dX11_setOf_179 rfl rfl ?_
                refine qb_feq (tgt := 270) (pc' := 184) dX11_setOf_181 rfl rfl (fun hc => absurd hc (by decide)) (fun _ => ?_)
                refine qb_aloadn (pc' := 185) (i := 0) dX11_setOf_184 rfl rfl rfl ?_
                refine qb_iloadn (pc' := 186) (i := 1) dX11_setOf_185 rfl rfl rfl ?_
                have k1425 : qb_R mX11_setOf 0 0 qb_sh 195 [qb_a 60, qb_i x1, qb_i x2, qb_i x3, qb_i x4, qb_i x5, qb_i (x5 / 900), qb_i y276, qb_i (x5 % 30), none] [.inl (if x1 ≤ 0 then ((-1) : Int) else (x5 / 900)), .inr (.inl 60)] hp290 (qb_I qb_sh K) := by
                  refine qb_iloadn (pc' := 196) (i := 1) dX11_setOf_195 rfl rfl rfl ?_
                  refine qb_iconst (pc' := 197) dX11_setOf_196 rfl rfl ?_
                  have k1426 : qb_R mX11_setOf 0 0 qb_sh 206 [qb_a 60, qb_i x1, qb_i x2, qb_i x3, qb_i x4, qb_i x5, qb_i (x5 / 900), qb_i y276, qb_i (x5 % 30), none] [.inl (if x1 ≤ 1 then ((-1) : Int) else y276), .inl (if x1 ≤ 0 then ((-1) : Int) else (x5 / 900)), .inr (.inl 60)] hp290 (qb_I qb_sh K) := by
                    refine qb_iloadn (pc' := 207) (i := 1) dX11_setOf_206 rfl rfl rfl ?_
                    refine qb_iconst (pc' := 208) dX11_setOf_207 rfl rfl ?_
                    have k1427 : qb_R mX11_setOf 0 0 qb_sh 217 [qb_a 60, qb_i x1, qb_i x2, qb_i x3, qb_i x4, qb_i x5, qb_i (x5 / 900), qb_i y276, qb_i (x5 % 30), none] [.inl (if x1 ≤ 2 then ((-1) : Int) else (x5 % 30)), .inl (if x1 ≤ 1 then ((-1) : Int) else y276), .inl (if x1 ≤ 0 then ((-1) : Int) else (x5 / 900)), .inr (.inl 60)] hp290 (qb_I qb_sh K) := by
                      refine qb_callVi (pc' := 220) (b := 60) (as := [.inl (if x1 ≤ 0 then ((-1) : Int) else (x5 / 900)), .inl (if x1 ≤ 1 then ((-1) : Int) else y276), .inl (if x1 ≤ 2 then ((-1) : Int) else (x5 % 30))]) (rest := []) dX11_setOf_217 rfl qe_mX11_setOf_mX11_explain rfl rfl qb_s60 rfl rfl (Nat.le_of_ble_eq_true rfl) (Nat.le_of_ble_eq_true rfl) ⟨rfl, rfl⟩ h (fun v291 hp291 h => ?_)
                      refine qb_feq (tgt := 270) (pc' := 223) dX11_setOf_220 rfl rfl (fun c1992 => ?_) (fun c1992 => ?_)
                      · have h := h.1 c1992
                        obtain ⟨g1788, h⟩ := h
                        refine qb_iinc (pc' := 273) (L' := [qb_a 60, qb_i x1, qb_i x2, qb_i x3, qb_i x4, qb_i (x5 + 1), qb_i (x5 / 900), qb_i y276, qb_i (x5 % 30), none]) dX11_setOf_270 rfl rfl g1788 (Nat.le_of_ble_eq_true rfl) rfl rfl ?_
                        refine qb_goto (tgt := 6) dX11_setOf_273 rfl ?_
                        refine qb_cut (L' := [qb_a 60, qb_i x1, qb_i x2, qb_i x3, qb_i x4, qb_i (x5 + 1), none, none, none, none]) [true, true, true, true, true, true, false, false, false, false] rfl ?_
                        exact h
                      · have h := h.2 c1992
                        refine qb_iload (pc' := 225) dX11_setOf_223 rfl rfl ?_
                        refine qb_iloadn (pc' := 226) (i := 2) dX11_setOf_225 rfl rfl rfl ?_
                        refine qb_cne (tgt := 267) (pc' := 229) dX11_setOf_226 rfl rfl (fun c1993 => ?_) (fun c1993 => ?_)
                        · have h := h.2 c1993
                          obtain ⟨g1790, h⟩ := h
                          refine qb_iinc (pc' := 270) (L' := [qb_a 60, qb_i x1, qb_i x2, qb_i x3, qb_i (x4 + 1), qb_i x5, qb_i (x5 / 900), qb_i y276, qb_i (x5 % 30), none]) dX11_setOf_267 rfl rfl g1790 (Nat.le_of_ble_eq_true rfl) rfl rfl ?_
                          obtain ⟨g1791, h⟩ := h
                          refine qb_iinc (pc' := 273) (L' := [qb_a 60, qb_i x1, qb_i x2, qb_i x3, qb_i (x4 + 1), qb_i (x5 + 1), qb_i (x5 / 900), qb_i y276, qb_i (x5 % 30), none]) dX11_setOf_270 rfl rfl g1791 (Nat.le_of_ble_eq_true rfl) rfl rfl ?_
                          refine qb_goto (tgt := 6) dX11_setOf_273 rfl ?_
                          refine qb_cut (L' := [qb_a 60, qb_i x1, qb_i x2, qb_i x3, qb_i (x4 + 1), qb_i (x5 + 1), none, none, none, none]) [true, true, true, true, true, true, false, false, false, false] rfl ?_
                          exact h
                        · have h := h.1 c1993
                          refine qb_iloadn (pc' := 230) (i := 3) dX11_setOf_229 rfl rfl rfl ?_
                          refine qb_iconst (pc' := 231) dX11_setOf_230 rfl rfl ?_
                          refine qb_iloadn (pc' := 232) (i := 1) dX11_setOf_231 rfl rfl rfl ?_
                          refine qb_iconst (pc' := 233) dX11_setOf_232 rfl rfl ?_
                          obtain ⟨g1789, h⟩ := h
                          refine qb_isub (pc' := 234) dX11_setOf_233 rfl g1789 ?_
                          refine qb_callSi (pc' := 237) (as := [.inl x3, .inl 0, .inl (x1 - 1)]) (rest := []) dX11_setOf_234 rfl qe_mX11_setOf_mX11_in rfl rfl rfl (Nat.le_of_ble_eq_true rfl) (Nat.le_of_ble_eq_true rfl) ⟨rfl, rfl⟩ (K := fun vz hpz => (v_m_in x3 0 (x1 - 1)) = vz ∧ hp291 = hpz) (s_m_in x3 0 (x1 - 1) hp291 _ trivial ⟨rfl, rfl⟩) (fun vz hpz ez => ?_)
                          obtain ⟨ez1, ez2⟩ := ez
                          subst ez1
                          subst ez2
                          have k1431 : qb_R mX11_setOf 0 0 qb_sh 266 [none, none, none, none, none, none, none, none, none, none] [.inl (if (v_m_in x3 0 (x1 - 1)) = 0 then ((-6) : Int) else (if x3 = 0 then (x5 / 900) else (if x3 = 1 then y276 else (x5 % 30))))] hp291 (qb_I qb_sh K) := by
                            exact qb_reti dX11_setOf_266 rfl h
                          refine qb_fne (tgt := 245) (pc' := 240) dX11_setOf_237 rfl rfl (fun c1994 => ?_) (fun c1994 => ?_)
                          · refine qb_iloadn (pc' := 246) (i := 3) dX11_setOf_245 rfl rfl rfl ?_
                            have k1433 : qb_R mX11_setOf 0 0 qb_sh 266 [none, none, none, none, none, none, none, none, none, none] [.inl (if x3 = 0 then (x5 / 900) else (if x3 = 1 then y276 else (x5 % 30)))] hp291 (qb_I qb_sh K) := by
                              refine qb_cut (L' := [none, none, none, none, none, none, none, none, none, none]) [false, false, false, false, false, false, false, false, false, false] rfl ?_
                              simpa only [if_neg c1994] using k1431
                            refine qb_fne (tgt := 254) (pc' := 249) dX11_setOf_246 rfl rfl (fun c1998 => ?_) (fun c1998 => ?_)
                            · refine qb_iloadn (pc' := 255) (i := 3) dX11_setOf_254 rfl rfl rfl ?_
                              refine qb_iconst (pc' := 256) dX11_setOf_255 rfl rfl ?_
                              have k1434 : qb_R mX11_setOf 0 0 qb_sh 266 [none, none, none, none, none, none, none, none, none, none] [.inl (if x3 = 1 then y276 else (x5 % 30))] hp291 (qb_I qb_sh K) := by
                                refine qb_cut (L' := [none, none, none, none, none, none, none, none, none, none]) [false, false, false, false, false, false, false, false, false, false] rfl ?_
                                simpa only [if_neg c1998] using k1433
                              refine qb_cne (tgt := 264) (pc' := 259) dX11_setOf_256 rfl rfl (fun c2000 => ?_) (fun c2000 => ?_)
                              · refine qb_iload (pc' := 266) dX11_setOf_264 rfl rfl ?_
                                refine qb_cut (L' := [none, none, none, none, none, none, none, none, none, none]) [false, false, false, false, false, false, false, false, false, false] rfl ?_
                                simpa only [if_neg c2000] using k1434
                              · refine qb_iload (pc' := 261) dX11_setOf_259 rfl rfl ?_
                                refine qb_goto (tgt := 266) dX11_setOf_261 rfl ?_
                                refine qb_cut (L' := [none, none, none, none, none, none, none, none, none, none]) [false, false, false, false, false, false, false, false, false, false] rfl ?_
                                simpa only [if_pos c2000] using k1434
                            · refine qb_iload (pc' := 251) dX11_setOf_249 rfl rfl ?_
                              refine qb_goto (tgt := 266) dX11_setOf_251 rfl ?_
                              refine qb_cut (L' := [none, none, none, none, none, none, none, none, none, none]) [false, false, false, false, false, false, false, false, false, false] rfl ?_
                              simpa only [if_pos c1998] using k1433
                          · refine qb_bipush (pc' := 242) dX11_setOf_240 rfl rfl rfl ?_
                            refine qb_goto (tgt := 266) dX11_setOf_242 rfl ?_
                            refine qb_cut (L' := [none, none, none, none, none, none, none, none, none, none]) [false, false, false, false, false, false, false, false, false, false] rfl ?_
                            simpa only [if_pos c1994] using k1431
                    refine qb_cle (tgt := 216) (pc' := 211) dX11_setOf_208 rfl rfl (fun c1991 => ?_) (fun c1991 => ?_)
                    · refine qb_iconst (pc' := 217) dX11_setOf_216 rfl rfl ?_
                      refine qb_cut (L' := [qb_a 60, qb_i x1, qb_i x2, qb_i x3, qb_i x4, qb_i x5, qb_i (x5 / 900), qb_i y276, qb_i (x5 % 30), none]) [true, true, true, true, true, true, true, true, true, false] rfl ?_
                      simpa only [if_pos c1991] using k1427
                    · refine qb_iload (pc' := 213) dX11_setOf_211 rfl rfl ?_
                      refine qb_goto (tgt := 217) dX11_setOf_213 rfl ?_
                      refine qb_cut (L' := [qb_a 60, qb_i x1, qb_i x2, qb_i x3, qb_i x4, qb_i x5, qb_i (x5 / 900), qb_i y276, qb_i (x5 % 30), none]) [true, true, true, true, true, true, true, true, true, false] rfl ?_
                      simpa only [if_neg c1991] using k1427
                  refine qb_cle (tgt := 205) (pc' := 200) dX11_setOf_197 rfl rfl (fun c1990 => ?_) (fun c1990 => ?_)
                  · refine qb_iconst (pc' := 206) dX11_setOf_205 rfl rfl ?_
                    refine qb_cut (L' := [qb_a 60, qb_i x1, qb_i x2, qb_i x3, qb_i x4, qb_i x5, qb_i (x5 / 900), qb_i y276, qb_i (x5 % 30), none]) [true, true, true, true, true, true, true, true, true, false] rfl ?_
                    simpa only [if_pos c1990] using k1426
                  · refine qb_iload (pc' := 202) dX11_setOf_200 rfl rfl ?_
                    refine qb_goto (tgt := 206) dX11_setOf_202 rfl ?_
                    refine qb_cut (L' := [qb_a 60, qb_i x1, qb_i x2, qb_i x3, qb_i x4, qb_i x5, qb_i (x5 / 900), qb_i y276, qb_i (x5 % 30), none]) [true, true, true, true, true, true, true, true, true, false] rfl ?_
                    simpa only [if_neg c1990] using k1426
                refine qb_fle (tgt := 194) (pc' := 189) dX11_setOf_186 rfl rfl (fun c1989 => ?_) (fun c1989 => ?_)
                · refine qb_iconst (pc' := 195) dX11_setOf_194 rfl rfl ?_
                  refine qb_cut (L' := [qb_a 60, qb_i x1, qb_i x2, qb_i x3, qb_i x4, qb_i x5, qb_i (x5 / 900), qb_i y276, qb_i (x5 % 30), none]) [true, true, true, true, true, true, true, true, true, false] rfl ?_
                  simpa only [if_pos c1989] using k1425
                · refine qb_iload (pc' := 191) dX11_setOf_189 rfl rfl ?_
                  refine qb_goto (tgt := 195) dX11_setOf_191 rfl ?_
                  refine qb_cut (L' := [qb_a 60, qb_i x1, qb_i x2, qb_i x3, qb_i x4, qb_i x5, qb_i (x5 / 900), qb_i y276, qb_i (x5 % 30), none]) [true, true, true, true, true, true, true, true, true, false] rfl ?_
                  simpa only [if_neg c1989] using k1425
              · have h := h.2 c1988
                refine qb_aloadn (pc' := 164) (i := 0) dX11_setOf_163 rfl rfl rfl ?_
                refine qb_iload (pc' := 166) dX11_setOf_164 rfl rfl ?_
                refine qb_callVi (pc' := 169) (b := 60) (as := [.inl (x5 % 30)]) (rest := []) dX11_setOf_166 rfl qe_mX11_setOf_mX11_mayBe rfl rfl qb_s60 rfl rfl (Nat.le_of_ble_eq_true rfl) (Nat.le_of_ble_eq_true rfl) ⟨rfl, rfl⟩ h (fun v292 hp292 h => ?_)
                have k1435 : qb_R mX11_setOf 0 0 qb_sh 177 [qb_a 60, qb_i x1, qb_i x2, qb_i x3, qb_i x4, qb_i x5, qb_i (x5 / 900), qb_i y276, qb_i (x5 % 30), none] [.inl (if v292 = 0 then (0 : Int) else 1)] hp292 (qb_I qb_sh K) := by
                  refine qb_istore (pc' := 179) (L' := [qb_a 60, qb_i x1, qb_i x2, qb_i x3, qb_i x4, qb_i x5, qb_i (x5 / 900), qb_i y276, qb_i (x5 % 30), qb_i (if v292 = 0 then (0 : Int) else 1)]) dX11_setOf_177 rfl (Nat.le_of_ble_eq_true rfl) rfl rfl ?_
                  refine qb_iload (pc' := 181) dX11_setOf_179 rfl rfl ?_
                  refine qb_feq (tgt := 270) (pc' := 184) dX11_setOf_181 rfl rfl (fun c2002 => ?_) (fun c2002 => ?_)
                  · have h := h.1 c2002
                    obtain ⟨g1792, h⟩ := h
                    refine qb_iinc (pc' := 273) (L' := [qb_a 60, qb_i x1, qb_i x2, qb_i x3, qb_i x4, qb_i (x5 + 1), qb_i (x5 / 900), qb_i y276, qb_i (x5 % 30), qb_i (if v292 = 0 then (0 : Int) else 1)]) dX11_setOf_270 rfl rfl g1792 (Nat.le_of_ble_eq_true rfl) rfl rfl ?_
                    refine qb_goto (tgt := 6) dX11_setOf_273 rfl ?_
                    refine qb_cut (L' := [qb_a 60, qb_i x1, qb_i x2, qb_i x3, qb_i x4, qb_i (x5 + 1), none, none, none, none]) [true, true, true, true, true, true, false, false, false, false] rfl ?_
                    exact h
                  · have h := h.2 c2002
                    refine qb_aloadn (pc' := 185) (i := 0) dX11_setOf_184 rfl rfl rfl ?_
                    refine qb_iloadn (pc' := 186) (i := 1) dX11_setOf_185 rfl rfl rfl ?_
                    have k1436 : qb_R mX11_setOf 0 0 qb_sh 195 [qb_a 60, qb_i x1, qb_i x2, qb_i x3, qb_i x4, qb_i x5, qb_i (x5 / 900), qb_i y276, qb_i (x5 % 30), none] [.inl (if x1 ≤ 0 then ((-1) : Int) else (x5 / 900)), .inr (.inl 60)] hp292 (qb_I qb_sh K) := by
                      refine qb_iloadn (pc' := 196) (i := 1) dX11_setOf_195 rfl rfl rfl ?_
                      refine qb_iconst (pc' := 197) dX11_setOf_196 rfl rfl ?_
                      have k1437 : qb_R mX11_setOf 0 0 qb_sh 206 [qb_a 60, qb_i x1, qb_i x2, qb_i x3, qb_i x4, qb_i x5, qb_i (x5 / 900), qb_i y276, qb_i (x5 % 30), none] [.inl (if x1 ≤ 1 then ((-1) : Int) else y276), .inl (if x1 ≤ 0 then ((-1) : Int) else (x5 / 900)), .inr (.inl 60)] hp292 (qb_I qb_sh K) := by
                        refine qb_iloadn (pc' := 207) (i := 1) dX11_setOf_206 rfl rfl rfl ?_
                        refine qb_iconst (pc' := 208) dX11_setOf_207 rfl rfl ?_
                        have k1438 : qb_R mX11_setOf 0 0 qb_sh 217 [qb_a 60, qb_i x1, qb_i x2, qb_i x3, qb_i x4, qb_i x5, qb_i (x5 / 900), qb_i y276, qb_i (x5 % 30), none] [.inl (if x1 ≤ 2 then ((-1) : Int) else (x5 % 30)), .inl (if x1 ≤ 1 then ((-1) : Int) else y276), .inl (if x1 ≤ 0 then ((-1) : Int) else (x5 / 900)), .inr (.inl 60)] hp292 (qb_I qb_sh K) := by
                          refine qb_callVi (pc' := 220) (b := 60) (as := [.inl (if x1 ≤ 0 then ((-1) : Int) else (x5 / 900)), .inl (if x1 ≤ 1 then ((-1) : Int) else y276), .inl (if x1 ≤ 2 then ((-1) : Int) else (x5 % 30))]) (rest := []) dX11_setOf_217 rfl qe_mX11_setOf_mX11_explain rfl rfl qb_s60 rfl rfl (Nat.le_of_ble_eq_true rfl) (Nat.le_of_ble_eq_true rfl) ⟨rfl, rfl⟩ h (fun v293 hp293 h => ?_)
                          refine qb_feq (tgt := 270) (pc' := 223) dX11_setOf_220 rfl rfl (fun c2006 => ?_) (fun c2006 => ?_)
                          · have h := h.1 c2006
                            obtain ⟨g1793, h⟩ := h
                            refine qb_iinc (pc' := 273) (L' := [qb_a 60, qb_i x1, qb_i x2, qb_i x3, qb_i x4, qb_i (x5 + 1), qb_i (x5 / 900), qb_i y276, qb_i (x5 % 30), none]) dX11_setOf_270 rfl rfl g1793 (Nat.le_of_ble_eq_true rfl) rfl rfl ?_
                            refine qb_goto (tgt := 6) dX11_setOf_273 rfl ?_
                            refine qb_cut (L' := [qb_a 60, qb_i x1, qb_i x2, qb_i x3, qb_i x4, qb_i (x5 + 1), none, none, none, none]) [true, true, true, true, true, true, false, false, false, false] rfl ?_
                            exact h
                          · have h := h.2 c2006
                            refine qb_iload (pc' := 225) dX11_setOf_223 rfl rfl ?_
                            refine qb_iloadn (pc' := 226) (i := 2) dX11_setOf_225 rfl rfl rfl ?_
                            refine qb_cne (tgt := 267) (pc' := 229) dX11_setOf_226 rfl rfl (fun c2007 => ?_) (fun c2007 => ?_)
                            · have h := h.2 c2007
                              obtain ⟨g1795, h⟩ := h
                              refine qb_iinc (pc' := 270) (L' := [qb_a 60, qb_i x1, qb_i x2, qb_i x3, qb_i (x4 + 1), qb_i x5, qb_i (x5 / 900), qb_i y276, qb_i (x5 % 30), none]) dX11_setOf_267 rfl rfl g1795 (Nat.le_of_ble_eq_true rfl) rfl rfl ?_
                              obtain ⟨g1796, h⟩ := h
                              refine qb_iinc (pc' := 273) (L' := [qb_a 60, qb_i x1, qb_i x2, qb_i x3, qb_i (x4 + 1), qb_i (x5 + 1), qb_i (x5 / 900), qb_i y276, qb_i (x5 % 30), none]) dX11_setOf_270 rfl rfl g1796 (Nat.le_of_ble_eq_true rfl) rfl rfl ?_
                              refine qb_goto (tgt := 6) dX11_setOf_273 rfl ?_
                              refine qb_cut (L' := [qb_a 60, qb_i x1, qb_i x2, qb_i x3, qb_i (x4 + 1), qb_i (x5 + 1), none, none, none, none]) [true, true, true, true, true, true, false, false, false, false] rfl ?_
                              exact h
                            · have h := h.1 c2007
                              refine qb_iloadn (pc' := 230) (i := 3) dX11_setOf_229 rfl rfl rfl ?_
                              refine qb_iconst (pc' := 231) dX11_setOf_230 rfl rfl ?_
                              refine qb_iloadn (pc' := 232) (i := 1) dX11_setOf_231 rfl rfl rfl ?_
                              refine qb_iconst (pc' := 233) dX11_setOf_232 rfl rfl ?_
                              obtain ⟨g1794, h⟩ := h
                              refine qb_isub (pc' := 234) dX11_setOf_233 rfl g1794 ?_
                              refine qb_callSi (pc' := 237) (as := [.inl x3, .inl 0, .inl (x1 - 1)]) (rest := []) dX11_setOf_234 rfl qe_mX11_setOf_mX11_in rfl rfl rfl (Nat.le_of_ble_eq_true rfl) (Nat.le_of_ble_eq_true rfl) ⟨rfl, rfl⟩ (K := fun vz hpz => (v_m_in x3 0 (x1 - 1)) = vz ∧ hp293 = hpz) (s_m_in x3 0 (x1 - 1) hp293 _ trivial ⟨rfl, rfl⟩) (fun vz hpz ez => ?_)
                              obtain ⟨ez1, ez2⟩ := ez
                              subst ez1
                              subst ez2
                              have k1442 : qb_R mX11_setOf 0 0 qb_sh 266 [none, none, none, none, none, none, none, none, none, none] [.inl (if (v_m_in x3 0 (x1 - 1)) = 0 then ((-6) : Int) else (if x3 = 0 then (x5 / 900) else (if x3 = 1 then y276 else (x5 % 30))))] hp293 (qb_I qb_sh K) := by
                                exact qb_reti dX11_setOf_266 rfl h
                              refine qb_fne (tgt := 245) (pc' := 240) dX11_setOf_237 rfl rfl (fun c2008 => ?_) (fun c2008 => ?_)
                              · refine qb_iloadn (pc' := 246) (i := 3) dX11_setOf_245 rfl rfl rfl ?_
                                have k1444 : qb_R mX11_setOf 0 0 qb_sh 266 [none, none, none, none, none, none, none, none, none, none] [.inl (if x3 = 0 then (x5 / 900) else (if x3 = 1 then y276 else (x5 % 30)))] hp293 (qb_I qb_sh K) := by
                                  refine qb_cut (L' := [none, none, none, none, none, none, none, none, none, none]) [false, false, false, false, false, false, false, false, false, false] rfl ?_
                                  simpa only [if_neg c2008] using k1442
                                refine qb_fne (tgt := 254) (pc' := 249) dX11_setOf_246 rfl rfl (fun c2012 => ?_) (fun c2012 => ?_)
                                · refine qb_iloadn (pc' := 255) (i := 3) dX11_setOf_254 rfl rfl rfl ?_
                                  refine qb_iconst (pc' := 256) dX11_setOf_255 rfl rfl ?_
                                  have k1445 : qb_R mX11_setOf 0 0 qb_sh 266 [none, none, none, none, none, none, none, none, none, none] [.inl (if x3 = 1 then y276 else (x5 % 30))] hp293 (qb_I qb_sh K) := by
                                    refine qb_cut (L' := [none, none, none, none, none, none, none, none, none, none]) [false, false, false, false, false, false, false, false, false, false] rfl ?_
                                    simpa only [if_neg c2012] using k1444
                                  refine qb_cne (tgt := 264) (pc' := 259) dX11_setOf_256 rfl rfl (fun c2014 => ?_) (fun c2014 => ?_)
                                  · refine qb_iload (pc' := 266) dX11_setOf_264 rfl rfl ?_
                                    refine qb_cut (L' := [none, none, none, none, none, none, none, none, none, none]) [false, false, false, false, false, false, false, false, false, false] rfl ?_
                                    simpa only [if_neg c2014] using k1445
                                  · refine qb_iload (pc' := 261) dX11_setOf_259 rfl rfl ?_
                                    refine qb_goto (tgt := 266) dX11_setOf_261 rfl ?_
                                    refine qb_cut (L' := [none, none, none, none, none, none, none, none, none, none]) [false, false, false, false, false, false, false, false, false, false] rfl ?_
                                    simpa only [if_pos c2014] using k1445
                                · refine qb_iload (pc' := 251) dX11_setOf_249 rfl rfl ?_
                                  refine qb_goto (tgt := 266) dX11_setOf_251 rfl ?_
                                  refine qb_cut (L' := [none, none, none, none, none, none, none, none, none, none]) [false, false, false, false, false, false, false, false, false, false] rfl ?_
                                  simpa only [if_pos c2012] using k1444
                              · refine qb_bipush (pc' := 242) dX11_setOf_240 rfl rfl rfl ?_
                                refine qb_goto (tgt := 266) dX11_setOf_242 rfl ?_
                                refine qb_cut (L' := [none, none, none, none, none, none, none, none, none, none]) [false, false, false, false, false, false, false, false, false, false] rfl ?_
                                simpa only [if_pos c2008] using k1442
                        refine qb_cle (tgt := 216) (pc' := 211) dX11_setOf_208 rfl rfl (fun c2005 => ?_) (fun c2005 => ?_)
                        · refine qb_iconst (pc' := 217) dX11_setOf_216 rfl rfl ?_
                          refine qb_cut (L' := [qb_a 60, qb_i x1, qb_i x2, qb_i x3, qb_i x4, qb_i x5, qb_i (x5 / 900), qb_i y276, qb_i (x5 % 30), none]) [true, true, true, true, true, true, true, true, true, false] rfl ?_
                          simpa only [if_pos c2005] using k1438
                        · refine qb_iload (pc' := 213) dX11_setOf_211 rfl rfl ?_
                          refine qb_goto (tgt := 217) dX11_setOf_213 rfl ?_
                          refine qb_cut (L' := [qb_a 60, qb_i x1, qb_i x2, qb_i x3, qb_i x4, qb_i x5, qb_i (x5 / 900), qb_i y276, qb_i (x5 % 30), none]) [true, true, true, true, true, true, true, true, true, false] rfl ?_
                          simpa only [if_neg c2005] using k1438
                      refine qb_cle (tgt := 205) (pc' := 200) dX11_setOf_197 rfl rfl (fun c2004 => ?_) (fun c2004 => ?_)
                      · refine qb_iconst (pc' := 206) dX11_setOf_205 rfl rfl ?_
                        refine qb_cut (L' := [qb_a 60, qb_i x1, qb_i x2, qb_i x3, qb_i x4, qb_i x5, qb_i (x5 / 900), qb_i y276, qb_i (x5 % 30), none]) [true, true, true, true, true, true, true, true, true, false] rfl ?_
                        simpa only [if_pos c2004] using k1437
                      · refine qb_iload (pc' := 202) dX11_setOf_200 rfl rfl ?_
                        refine qb_goto (tgt := 206) dX11_setOf_202 rfl ?_
                        refine qb_cut (L' := [qb_a 60, qb_i x1, qb_i x2, qb_i x3, qb_i x4, qb_i x5, qb_i (x5 / 900), qb_i y276, qb_i (x5 % 30), none]) [true, true, true, true, true, true, true, true, true, false] rfl ?_
                        simpa only [if_neg c2004] using k1437
                    refine qb_fle (tgt := 194) (pc' := 189) dX11_setOf_186 rfl rfl (fun c2003 => ?_) (fun c2003 => ?_)
                    · refine qb_iconst (pc' := 195) dX11_setOf_194 rfl rfl ?_
                      refine qb_cut (L' := [qb_a 60, qb_i x1, qb_i x2, qb_i x3, qb_i x4, qb_i x5, qb_i (x5 / 900), qb_i y276, qb_i (x5 % 30), none]) [true, true, true, true, true, true, true, true, true, false] rfl ?_
                      simpa only [if_pos c2003] using k1436
                    · refine qb_iload (pc' := 191) dX11_setOf_189 rfl rfl ?_
                      refine qb_goto (tgt := 195) dX11_setOf_191 rfl ?_
                      refine qb_cut (L' := [qb_a 60, qb_i x1, qb_i x2, qb_i x3, qb_i x4, qb_i x5, qb_i (x5 / 900), qb_i y276, qb_i (x5 % 30), none]) [true, true, true, true, true, true, true, true, true, false] rfl ?_
                      simpa only [if_neg c2003] using k1436
                refine qb_feq (tgt := 176) (pc' := 172) dX11_setOf_169 rfl rfl (fun c2001 => ?_) (fun c2001 => ?_)
                · refine qb_iconst (pc' := 177) dX11_setOf_176 rfl rfl ?_
                  refine qb_cut (L' := [qb_a 60, qb_i x1, qb_i x2, qb_i x3, qb_i x4, qb_i x5, qb_i (x5 / 900), qb_i y276, qb_i (x5 % 30), none]) [true, true, true, true, true, true, true, true, true, false] rfl ?_
                  simpa only [if_pos c2001] using k1435
                · refine qb_iconst (pc' := 173) dX11_setOf_172 rfl rfl ?_
                  refine qb_goto (tgt := 177) dX11_setOf_173 rfl ?_
                  refine qb_cut (L' := [qb_a 60, qb_i x1, qb_i x2, qb_i x3, qb_i x4, qb_i x5, qb_i (x5 / 900), qb_i y276, qb_i (x5 % 30), none]) [true, true, true, true, true, true, true, true, true, false] rfl ?_
                  simpa only [if_neg c2001] using k1435
            · have h := h.2 c1986
              refine qb_aloadn (pc' := 150) (i := 0) dX11_setOf_149 rfl rfl rfl ?_
              refine qb_iload (pc' := 152) dX11_setOf_150 rfl rfl ?_
              refine qb_callVi (pc' := 155) (b := 60) (as := [.inl y276]) (rest := []) dX11_setOf_152 rfl qe_mX11_setOf_mX11_mayBe rfl rfl qb_s60 rfl rfl (Nat.le_of_ble_eq_true rfl) (Nat.le_of_ble_eq_true rfl) ⟨rfl, rfl⟩ h (fun v294 hp294 h => ?_)
              refine qb_feq (tgt := 176) (pc' := 158) dX11_setOf_155 rfl rfl (fun c2015 => ?_) (fun c2015 => ?_)
              · have h := h.1 c2015
                refine qb_iconst (pc' := 177) dX11_setOf_176 rfl rfl ?_
                refine qb_istore (pc' := 179) (L' := [qb_a 60, qb_i x1, qb_i x2, qb_i x3, qb_i x4, qb_i x5, qb_i (x5 / 900), qb_i y276, qb_i (x5 % 30), qb_i 0]) dX11_setOf_177 rfl (Nat.le_of_ble_eq_true rfl) rfl rfl ?_
                refine qb_iload (pc' := 181) dX11_setOf_179 rfl rfl ?_
                refine qb_feq (tgt := 270) (pc' := 184) dX11_setOf_181 rfl rfl (fun _ => ?_) (fun hc => absurd hc (by decide))
                obtain ⟨g1797, h⟩ := h
                refine qb_iinc (pc' := 273) (L' := [qb_a 60, qb_i x1, qb_i x2, qb_i x3, qb_i x4, qb_i (x5 + 1), qb_i (x5 / 900), qb_i y276, qb_i (x5 % 30), qb_i 0]) dX11_setOf_270 rfl rfl g1797 (Nat.le_of_ble_eq_true rfl) rfl rfl ?_
                refine qb_goto (tgt := 6) dX11_setOf_273 rfl ?_
                refine qb_cut (L' := [qb_a 60, qb_i x1, qb_i x2, qb_i x3, qb_i x4, qb_i (x5 + 1), none, none, none, none]) [true, true, true, true, true, true, false, false, false, false] rfl ?_
                exact h
              · have h := h.2 c2015
                refine qb_iloadn (pc' := 159) (i := 1) dX11_setOf_158 rfl rfl rfl ?_
                refine qb_iconst (pc' := 160) dX11_setOf_159 rfl rfl ?_
                refine qb_clt (tgt := 172) (pc' := 163) dX11_setOf_160 rfl rfl (fun c2017 => ?_) (fun c2017 => ?_)
                · have h := h.1 c2017
                  refine qb_iconst (pc' := 173) dX11_setOf_172 rfl rfl ?_
                  refine qb_goto (tgt := 177) dX11_setOf_173 rfl ?_
                  refine qb_istore (pc' := 179) (L' := [qb_a 60, qb_i x1, qb_i x2, qb_i x3, qb_i x4, qb_i x5, qb_i (x5 / 900), qb_i y276, qb_i (x5 % 30), qb_i 1]) dX11_setOf_177 rfl (Nat.le_of_ble_eq_true rfl) rfl rfl ?_
                  refine qb_iload (pc' := 181) dX11_setOf_179 rfl rfl ?_
                  refine qb_feq (tgt := 270) (pc' := 184) dX11_setOf_181 rfl rfl (fun hc => absurd hc (by decide)) (fun _ => ?_)
                  refine qb_aloadn (pc' := 185) (i := 0) dX11_setOf_184 rfl rfl rfl ?_
                  refine qb_iloadn (pc' := 186) (i := 1) dX11_setOf_185 rfl rfl rfl ?_
                  have k1446 : qb_R mX11_setOf 0 0 qb_sh 195 [qb_a 60, qb_i x1, qb_i x2, qb_i x3, qb_i x4, qb_i x5, qb_i (x5 / 900), qb_i y276, qb_i (x5 % 30), none] [.inl (if x1 ≤ 0 then ((-1) : Int) else (x5 / 900)), .inr (.inl 60)] hp294 (qb_I qb_sh K) := by
                    refine qb_iloadn (pc' := 196) (i := 1) dX11_setOf_195 rfl rfl rfl ?_
                    refine qb_iconst (pc' := 197) dX11_setOf_196 rfl rfl ?_
                    have k1447 : qb_R mX11_setOf 0 0 qb_sh 206 [qb_a 60, qb_i x1, qb_i x2, qb_i x3, qb_i x4, qb_i x5, qb_i (x5 / 900), qb_i y276, qb_i (x5 % 30), none] [.inl (if x1 ≤ 1 then ((-1) : Int) else y276), .inl (if x1 ≤ 0 then ((-1) : Int) else (x5 / 900)), .inr (.inl 60)] hp294 (qb_I qb_sh K) := by
                      refine qb_iloadn (pc' := 207) (i := 1) dX11_setOf_206 rfl rfl rfl ?_
                      refine qb_iconst (pc' := 208) dX11_setOf_207 rfl rfl ?_
                      have k1448 : qb_R mX11_setOf 0 0 qb_sh 217 [qb_a 60, qb_i x1, qb_i x2, qb_i x3, qb_i x4, qb_i x5, qb_i (x5 / 900), qb_i y276, qb_i (x5 % 30), none] [.inl (if x1 ≤ 2 then ((-1) : Int) else (x5 % 30)), .inl (if x1 ≤ 1 then ((-1) : Int) else y276), .inl (if x1 ≤ 0 then ((-1) : Int) else (x5 / 900)), .inr (.inl 60)] hp294 (qb_I qb_sh K) := by
                        refine qb_callVi (pc' := 220) (b := 60) (as := [.inl (if x1 ≤ 0 then ((-1) : Int) else (x5 / 900)), .inl (if x1 ≤ 1 then ((-1) : Int) else y276), .inl (if x1 ≤ 2 then ((-1) : Int) else (x5 % 30))]) (rest := []) dX11_setOf_217 rfl qe_mX11_setOf_mX11_explain rfl rfl qb_s60 rfl rfl (Nat.le_of_ble_eq_true rfl) (Nat.le_of_ble_eq_true rfl) ⟨rfl, rfl⟩ h (fun v295 hp295 h => ?_)
                        refine qb_feq (tgt := 270) (pc' := 223) dX11_setOf_220 rfl rfl (fun c2021 => ?_) (fun c2021 => ?_)
                        · have h := h.1 c2021
                          obtain ⟨g1798, h⟩ := h
                          refine qb_iinc (pc' := 273) (L' := [qb_a 60, qb_i x1, qb_i x2, qb_i x3, qb_i x4, qb_i (x5 + 1), qb_i (x5 / 900), qb_i y276, qb_i (x5 % 30), none]) dX11_setOf_270 rfl rfl g1798 (Nat.le_of_ble_eq_true rfl) rfl rfl ?_
                          refine qb_goto (tgt := 6) dX11_setOf_273 rfl ?_
                          refine qb_cut (L' := [qb_a 60, qb_i x1, qb_i x2, qb_i x3, qb_i x4, qb_i (x5 + 1), none, none, none, none]) [true, true, true, true, true, true, false, false, false, false] rfl ?_
                          exact h
                        · have h := h.2 c2021
                          refine qb_iload (pc' := 225) dX11_setOf_223 rfl rfl ?_
                          refine qb_iloadn (pc' := 226) (i := 2) dX11_setOf_225 rfl rfl rfl ?_
                          refine qb_cne (tgt := 267) (pc' := 229) dX11_setOf_226 rfl rfl (fun c2022 => ?_) (fun c2022 => ?_)
                          · have h := h.2 c2022
                            obtain ⟨g1800, h⟩ := h
                            refine qb_iinc (pc' := 270) (L' := [qb_a 60, qb_i x1, qb_i x2, qb_i x3, qb_i (x4 + 1), qb_i x5, qb_i (x5 / 900), qb_i y276, qb_i (x5 % 30), none]) dX11_setOf_267 rfl rfl g1800 (Nat.le_of_ble_eq_true rfl) rfl rfl ?_
                            obtain ⟨g1801, h⟩ := h
                            refine qb_iinc (pc' := 273) (L' := [qb_a 60, qb_i x1, qb_i x2, qb_i x3, qb_i (x4 + 1), qb_i (x5 + 1), qb_i (x5 / 900), qb_i y276, qb_i (x5 % 30), none]) dX11_setOf_270 rfl rfl g1801 (Nat.le_of_ble_eq_true rfl) rfl rfl ?_
                            refine qb_goto (tgt := 6) dX11_setOf_273 rfl ?_
                            refine qb_cut (L' := [qb_a 60, qb_i x1, qb_i x2, qb_i x3, qb_i (x4 + 1), qb_i (x5 + 1), none, none, none, none]) [true, true, true, true, true, true, false, false, false, false] rfl ?_
                            exact h
                          · have h := h.1 c2022
                            refine qb_iloadn (pc' := 230) (i := 3) dX11_setOf_229 rfl rfl rfl ?_
                            refine qb_iconst (pc' := 231) dX11_setOf_230 rfl rfl ?_
                            refine qb_iloadn (pc' := 232) (i := 1) dX11_setOf_231 rfl rfl rfl ?_
                            refine qb_iconst (pc' := 233) dX11_setOf_232 rfl rfl ?_
                            obtain ⟨g1799, h⟩ := h
                            refine qb_isub (pc' := 234) dX11_setOf_233 rfl g1799 ?_
                            refine qb_callSi (pc' := 237) (as := [.inl x3, .inl 0, .inl (x1 - 1)]) (rest := []) dX11_setOf_234 rfl qe_mX11_setOf_mX11_in rfl rfl rfl (Nat.le_of_ble_eq_true rfl) (Nat.le_of_ble_eq_true rfl) ⟨rfl, rfl⟩ (K := fun vz hpz => (v_m_in x3 0 (x1 - 1)) = vz ∧ hp295 = hpz) (s_m_in x3 0 (x1 - 1) hp295 _ trivial ⟨rfl, rfl⟩) (fun vz hpz ez => ?_)
                            obtain ⟨ez1, ez2⟩ := ez
                            subst ez1
                            subst ez2
                            have k1452 : qb_R mX11_setOf 0 0 qb_sh 266 [none, none, none, none, none, none, none, none, none, none] [.inl (if (v_m_in x3 0 (x1 - 1)) = 0 then ((-6) : Int) else (if x3 = 0 then (x5 / 900) else (if x3 = 1 then y276 else (x5 % 30))))] hp295 (qb_I qb_sh K) := by
                              exact qb_reti dX11_setOf_266 rfl h
                            refine qb_fne (tgt := 245) (pc' := 240) dX11_setOf_237 rfl rfl (fun c2023 => ?_) (fun c2023 => ?_)
                            · refine qb_iloadn (pc' := 246) (i := 3) dX11_setOf_245 rfl rfl rfl ?_
                              have k1454 : qb_R mX11_setOf 0 0 qb_sh 266 [none, none, none, none, none, none, none, none, none, none] [.inl (if x3 = 0 then (x5 / 900) else (if x3 = 1 then y276 else (x5 % 30)))] hp295 (qb_I qb_sh K) := by
                                refine qb_cut (L' := [none, none, none, none, none, none, none, none, none, none]) [false, false, false, false, false, false, false, false, false, false] rfl ?_
                                simpa only [if_neg c2023] using k1452
                              refine qb_fne (tgt := 254) (pc' := 249) dX11_setOf_246 rfl rfl (fun c2027 => ?_) (fun c2027 => ?_)
                              · refine qb_iloadn (pc' := 255) (i := 3) dX11_setOf_254 rfl rfl rfl ?_
                                refine qb_iconst (pc' := 256) dX11_setOf_255 rfl rfl ?_
                                have k1455 : qb_R mX11_setOf 0 0 qb_sh 266 [none, none, none, none, none, none, none, none, none, none] [.inl (if x3 = 1 then y276 else (x5 % 30))] hp295 (qb_I qb_sh K) := by
                                  refine qb_cut (L' := [none, none, none, none, none, none, none, none, none, none]) [false, false, false, false, false, false, false, false, false, false] rfl ?_
                                  simpa only [if_neg c2027] using k1454
                                refine qb_cne (tgt := 264) (pc' := 259) dX11_setOf_256 rfl rfl (fun c2029 => ?_) (fun c2029 => ?_)
                                · refine qb_iload (pc' := 266) dX11_setOf_264 rfl rfl ?_
                                  refine qb_cut (L' := [none, none, none, none, none, none, none, none, none, none]) [false, false, false, false, false, false, false, false, false, false] rfl ?_
                                  simpa only [if_neg c2029] using k1455
                                · refine qb_iload (pc' := 261) dX11_setOf_259 rfl rfl ?_
                                  refine qb_goto (tgt := 266) dX11_setOf_261 rfl ?_
                                  refine qb_cut (L' := [none, none, none, none, none, none, none, none, none, none]) [false, false, false, false, false, false, false, false, false, false] rfl ?_
                                  simpa only [if_pos c2029] using k1455
                              · refine qb_iload (pc' := 251) dX11_setOf_249 rfl rfl ?_
                                refine qb_goto (tgt := 266) dX11_setOf_251 rfl ?_
                                refine qb_cut (L' := [none, none, none, none, none, none, none, none, none, none]) [false, false, false, false, false, false, false, false, false, false] rfl ?_
                                simpa only [if_pos c2027] using k1454
                            · refine qb_bipush (pc' := 242) dX11_setOf_240 rfl rfl rfl ?_
                              refine qb_goto (tgt := 266) dX11_setOf_242 rfl ?_
                              refine qb_cut (L' := [none, none, none, none, none, none, none, none, none, none]) [false, false, false, false, false, false, false, false, false, false] rfl ?_
                              simpa only [if_pos c2023] using k1452
                      refine qb_cle (tgt := 216) (pc' := 211) dX11_setOf_208 rfl rfl (fun c2020 => ?_) (fun c2020 => ?_)
                      · refine qb_iconst (pc' := 217) dX11_setOf_216 rfl rfl ?_
                        refine qb_cut (L' := [qb_a 60, qb_i x1, qb_i x2, qb_i x3, qb_i x4, qb_i x5, qb_i (x5 / 900), qb_i y276, qb_i (x5 % 30), none]) [true, true, true, true, true, true, true, true, true, false] rfl ?_
                        simpa only [if_pos c2020] using k1448
                      · refine qb_iload (pc' := 213) dX11_setOf_211 rfl rfl ?_
                        refine qb_goto (tgt := 217) dX11_setOf_213 rfl ?_
                        refine qb_cut (L' := [qb_a 60, qb_i x1, qb_i x2, qb_i x3, qb_i x4, qb_i x5, qb_i (x5 / 900), qb_i y276, qb_i (x5 % 30), none]) [true, true, true, true, true, true, true, true, true, false] rfl ?_
                        simpa only [if_neg c2020] using k1448
                    refine qb_cle (tgt := 205) (pc' := 200) dX11_setOf_197 rfl rfl (fun c2019 => ?_) (fun c2019 => ?_)
                    · refine qb_iconst (pc' := 206) dX11_setOf_205 rfl rfl ?_
                      refine qb_cut (L' := [qb_a 60, qb_i x1, qb_i x2, qb_i x3, qb_i x4, qb_i x5, qb_i (x5 / 900), qb_i y276, qb_i (x5 % 30), none]) [true, true, true, true, true, true, true, true, true, false] rfl ?_
                      simpa only [if_pos c2019] using k1447
                    · refine qb_iload (pc' := 202) dX11_setOf_200 rfl rfl ?_
                      refine qb_goto (tgt := 206) dX11_setOf_202 rfl ?_
                      refine qb_cut (L' := [qb_a 60, qb_i x1, qb_i x2, qb_i x3, qb_i x4, qb_i x5, qb_i (x5 / 900), qb_i y276, qb_i (x5 % 30), none]) [true, true, true, true, true, true, true, true, true, false] rfl ?_
                      simpa only [if_neg c2019] using k1447
                  refine qb_fle (tgt := 194) (pc' := 189) dX11_setOf_186 rfl rfl (fun c2018 => ?_) (fun c2018 => ?_)
                  · refine qb_iconst (pc' := 195) dX11_setOf_194 rfl rfl ?_
                    refine qb_cut (L' := [qb_a 60, qb_i x1, qb_i x2, qb_i x3, qb_i x4, qb_i x5, qb_i (x5 / 900), qb_i y276, qb_i (x5 % 30), none]) [true, true, true, true, true, true, true, true, true, false] rfl ?_
                    simpa only [if_pos c2018] using k1446
                  · refine qb_iload (pc' := 191) dX11_setOf_189 rfl rfl ?_
                    refine qb_goto (tgt := 195) dX11_setOf_191 rfl ?_
                    refine qb_cut (L' := [qb_a 60, qb_i x1, qb_i x2, qb_i x3, qb_i x4, qb_i x5, qb_i (x5 / 900), qb_i y276, qb_i (x5 % 30), none]) [true, true, true, true, true, true, true, true, true, false] rfl ?_
                    simpa only [if_neg c2018] using k1446
                · have h := h.2 c2017
                  refine qb_aloadn (pc' := 164) (i := 0) dX11_setOf_163 rfl rfl rfl ?_
                  refine qb_iload (pc' := 166) dX11_setOf_164 rfl rfl ?_
                  refine qb_callVi (pc' := 169) (b := 60) (as := [.inl (x5 % 30)]) (rest := []) dX11_setOf_166 rfl qe_mX11_setOf_mX11_mayBe rfl rfl qb_s60 rfl rfl (Nat.le_of_ble_eq_true rfl) (Nat.le_of_ble_eq_true rfl) ⟨rfl, rfl⟩ h (fun v296 hp296 h => ?_)
                  have k1456 : qb_R mX11_setOf 0 0 qb_sh 177 [qb_a 60, qb_i x1, qb_i x2, qb_i x3, qb_i x4, qb_i x5, qb_i (x5 / 900), qb_i y276, qb_i (x5 % 30), none] [.inl (if v296 = 0 then (0 : Int) else 1)] hp296 (qb_I qb_sh K) := by
                    refine qb_istore (pc' := 179) (L' := [qb_a 60, qb_i x1, qb_i x2, qb_i x3, qb_i x4, qb_i x5, qb_i (x5 / 900), qb_i y276, qb_i (x5 % 30), qb_i (if v296 = 0 then (0 : Int) else 1)]) dX11_setOf_177 rfl (Nat.le_of_ble_eq_true rfl) rfl rfl ?_
                    refine qb_iload (pc' := 181) dX11_setOf_179 rfl rfl ?_
                    refine qb_feq (tgt := 270) (pc' := 184) dX11_setOf_181 rfl rfl (fun c2031 => ?_) (fun c2031 => ?_)
                    · have h := h.1 c2031
                      obtain ⟨g1802, h⟩ := h
                      refine qb_iinc (pc' := 273) (L' := [qb_a 60, qb_i x1, qb_i x2, qb_i x3, qb_i x4, qb_i (x5 + 1), qb_i (x5 / 900), qb_i y276, qb_i (x5 % 30), qb_i (if v296 = 0 then (0 : Int) else 1)]) dX11_setOf_270 rfl rfl g1802 (Nat.le_of_ble_eq_true rfl) rfl rfl ?_
                      refine qb_goto (tgt := 6) dX11_setOf_273 rfl ?_
                      refine qb_cut (L' := [qb_a 60, qb_i x1, qb_i x2, qb_i x3, qb_i x4, qb_i (x5 + 1), none, none, none, none]) [true, true, true, true, true, true, false, false, false, false] rfl ?_
                      exact h
                    · have h := h.2 c2031
                      refine qb_aloadn (pc' := 185) (i := 0) dX11_setOf_184 rfl rfl rfl ?_
                      refine qb_iloadn (pc' := 186) (i := 1) dX11_setOf_185 rfl rfl rfl ?_
                      have k1457 : qb_R mX11_setOf 0 0 qb_sh 195 [qb_a 60, qb_i x1, qb_i x2, qb_i x3, qb_i x4, qb_i x5, qb_i (x5 / 900), qb_i y276, qb_i (x5 % 30), none] [.inl (if x1 ≤ 0 then ((-1) : Int) else (x5 / 900)), .inr (.inl 60)] hp296 (qb_I qb_sh K) := by
                        refine qb_iloadn (pc' := 196) (i := 1) dX11_setOf_195 rfl rfl rfl ?_
                        refine qb_iconst (pc' := 197) dX11_setOf_196 rfl rfl ?_
                        have k1458 : qb_R mX11_setOf 0 0 qb_sh 206 [qb_a 60, qb_i x1, qb_i x2, qb_i x3, qb_i x4, qb_i x5, qb_i (x5 / 900), qb_i y276, qb_i (x5 % 30), none] [.inl (if x1 ≤ 1 then ((-1) : Int) else y276), .inl (if x1 ≤ 0 then ((-1) : Int) else (x5 / 900)), .inr (.inl 60)] hp296 (qb_I qb_sh K) := by
                          refine qb_iloadn (pc' := 207) (i := 1) dX11_setOf_206 rfl rfl rfl ?_
                          refine qb_iconst (pc' := 208) dX11_setOf_207 rfl rfl ?_
                          have k1459 : qb_R mX11_setOf 0 0 qb_sh 217 [qb_a 60, qb_i x1, qb_i x2, qb_i x3, qb_i x4, qb_i x5, qb_i (x5 / 900), qb_i y276, qb_i (x5 % 30), none] [.inl (if x1 ≤ 2 then ((-1) : Int) else (x5 % 30)), .inl (if x1 ≤ 1 then ((-1) : Int) else y276), .inl (if x1 ≤ 0 then ((-1) : Int) else (x5 / 900)), .inr (.inl 60)] hp296 (qb_I qb_sh K) := by
                            refine qb_callVi (pc' := 220) (b := 60) (as := [.inl (if x1 ≤ 0 then ((-1) : Int) else (x5 / 900)), .inl (if x1 ≤ 1 then ((-1) : Int) else y276), .inl (if x1 ≤ 2 then ((-1) : Int) else (x5 % 30))]) (rest := []) dX11_setOf_217 rfl qe_mX11_setOf_mX11_explain rfl rfl qb_s60 rfl rfl (Nat.le_of_ble_eq_true rfl) (Nat.le_of_ble_eq_true rfl) ⟨rfl, rfl⟩ h (fun v297 hp297 h => ?_)
                            refine qb_feq (tgt := 270) (pc' := 223) dX11_setOf_220 rfl rfl (fun c2035 => ?_) (fun c2035 => ?_)
                            · have h := h.1 c2035
                              obtain ⟨g1803, h⟩ := h
                              refine qb_iinc (pc' := 273) (L' := [qb_a 60, qb_i x1, qb_i x2, qb_i x3, qb_i x4, qb_i (x5 + 1), qb_i (x5 / 900), qb_i y276, qb_i (x5 % 30), none]) dX11_setOf_270 rfl rfl g1803 (Nat.le_of_ble_eq_true rfl) rfl rfl ?_
                              refine qb_goto (tgt := 6) dX11_setOf_273 rfl ?_
                              refine qb_cut (L' := [qb_a 60, qb_i x1, qb_i x2, qb_i x3, qb_i x4, qb_i (x5 + 1), none, none, none, none]) [true, true, true, true, true, true, false, false, false, false] rfl ?_
                              exact h
                            · have h := h.2 c2035
                              refine qb_iload (pc' := 225) dX11_setOf_223 rfl rfl ?_
                              refine qb_iloadn (pc' := 226) (i := 2) dX11_setOf_225 rfl rfl rfl ?_
                              refine qb_cne (tgt := 267) (pc' := 229) dX11_setOf_226 rfl rfl (fun c2036 => ?_) (fun c2036 => ?_)
                              · have h := h.2 c2036
                                obtain ⟨g1805, h⟩ := h
                                refine qb_iinc (pc' := 270) (L' := [qb_a 60, qb_i x1, qb_i x2, qb_i x3, qb_i (x4 + 1), qb_i x5, qb_i (x5 / 900), qb_i y276, qb_i (x5 % 30), none]) dX11_setOf_267 rfl rfl g1805 (Nat.le_of_ble_eq_true rfl) rfl rfl ?_
                                obtain ⟨g1806, h⟩ := h
                                refine qb_iinc (pc' := 273) (L' := [qb_a 60, qb_i x1, qb_i x2, qb_i x3, qb_i (x4 + 1), qb_i (x5 + 1), qb_i (x5 / 900), qb_i y276, qb_i (x5 % 30), none]) dX11_setOf_270 rfl rfl g1806 (Nat.le_of_ble_eq_true rfl) rfl rfl ?_
                                refine qb_goto (tgt := 6) dX11_setOf_273 rfl ?_
                                refine qb_cut (L' := [qb_a 60, qb_i x1, qb_i x2, qb_i x3, qb_i (x4 + 1), qb_i (x5 + 1), none, none, none, none]) [true, true, true, true, true, true, false, false, false, false] rfl ?_
                                exact h
                              · have h := h.1 c2036
                                refine qb_iloadn (pc' := 230) (i := 3) dX11_setOf_229 rfl rfl rfl ?_
                                refine qb_iconst (pc' := 231) dX11_setOf_230 rfl rfl ?_
                                refine qb_iloadn (pc' := 232) (i := 1) dX11_setOf_231 rfl rfl rfl ?_
                                refine qb_iconst (pc' := 233) dX11_setOf_232 rfl rfl ?_
                                obtain ⟨g1804, h⟩ := h
                                refine qb_isub (pc' := 234) dX11_setOf_233 rfl g1804 ?_
                                refine qb_callSi (pc' := 237) (as := [.inl x3, .inl 0, .inl (x1 - 1)]) (rest := []) dX11_setOf_234 rfl qe_mX11_setOf_mX11_in rfl rfl rfl (Nat.le_of_ble_eq_true rfl) (Nat.le_of_ble_eq_true rfl) ⟨rfl, rfl⟩ (K := fun vz hpz => (v_m_in x3 0 (x1 - 1)) = vz ∧ hp297 = hpz) (s_m_in x3 0 (x1 - 1) hp297 _ trivial ⟨rfl, rfl⟩) (fun vz hpz ez => ?_)
                                obtain ⟨ez1, ez2⟩ := ez
                                subst ez1
                                subst ez2
                                have k1463 : qb_R mX11_setOf 0 0 qb_sh 266 [none, none, none, none, none, none, none, none, none, none] [.inl (if (v_m_in x3 0 (x1 - 1)) = 0 then ((-6) : Int) else (if x3 = 0 then (x5 / 900) else (if x3 = 1 then y276 else (x5 % 30))))] hp297 (qb_I qb_sh K) := by
                                  exact qb_reti dX11_setOf_266 rfl h
                                refine qb_fne (tgt := 245) (pc' := 240) dX11_setOf_237 rfl rfl (fun c2037 => ?_) (fun c2037 => ?_)
                                · refine qb_iloadn (pc' := 246) (i := 3) dX11_setOf_245 rfl rfl rfl ?_
                                  have k1465 : qb_R mX11_setOf 0 0 qb_sh 266 [none, none, none, none, none, none, none, none, none, none] [.inl (if x3 = 0 then (x5 / 900) else (if x3 = 1 then y276 else (x5 % 30)))] hp297 (qb_I qb_sh K) := by
                                    refine qb_cut (L' := [none, none, none, none, none, none, none, none, none, none]) [false, false, false, false, false, false, false, false, false, false] rfl ?_
                                    simpa only [if_neg c2037] using k1463
                                  refine qb_fne (tgt := 254) (pc' := 249) dX11_setOf_246 rfl rfl (fun c2041 => ?_) (fun c2041 => ?_)
                                  · refine qb_iloadn (pc' := 255) (i := 3) dX11_setOf_254 rfl rfl rfl ?_
                                    refine qb_iconst (pc' := 256) dX11_setOf_255 rfl rfl ?_
                                    have k1466 : qb_R mX11_setOf 0 0 qb_sh 266 [none, none, none, none, none, none, none, none, none, none] [.inl (if x3 = 1 then y276 else (x5 % 30))] hp297 (qb_I qb_sh K) := by
                                      refine qb_cut (L' := [none, none, none, none, none, none, none, none, none, none]) [false, false, false, false, false, false, false, false, false, false] rfl ?_
                                      simpa only [if_neg c2041] using k1465
                                    refine qb_cne (tgt := 264) (pc' := 259) dX11_setOf_256 rfl rfl (fun c2043 => ?_) (fun c2043 => ?_)
                                    · refine qb_iload (pc' := 266) dX11_setOf_264 rfl rfl ?_
                                      refine qb_cut (L' := [none, none, none, none, none, none, none, none, none, none]) [false, false, false, false, false, false, false, false, false, false] rfl ?_
                                      simpa only [if_neg c2043] using k1466
                                    · refine qb_iload (pc' := 261) dX11_setOf_259 rfl rfl ?_
                                      refine qb_goto (tgt := 266) dX11_setOf_261 rfl ?_
                                      refine qb_cut (L' := [none, none, none, none, none, none, none, none, none, none]) [false, false, false, false, false, false, false, false, false, false] rfl ?_
                                      simpa only [if_pos c2043] using k1466
                                  · refine qb_iload (pc' := 251) dX11_setOf_249 rfl rfl ?_
                                    refine qb_goto (tgt := 266) dX11_setOf_251 rfl ?_
                                    refine qb_cut (L' := [none, none, none, none, none, none, none, none, none, none]) [false, false, false, false, false, false, false, false, false, false] rfl ?_
                                    simpa only [if_pos c2041] using k1465
                                · refine qb_bipush (pc' := 242) dX11_setOf_240 rfl rfl rfl ?_
                                  refine qb_goto (tgt := 266) dX11_setOf_242 rfl ?_
                                  refine qb_cut (L' := [none, none, none, none, none, none, none, none, none, none]) [false, false, false, false, false, false, false, false, false, false] rfl ?_
                                  simpa only [if_pos c2037] using k1463
                          refine qb_cle (tgt := 216) (pc' := 211) dX11_setOf_208 rfl rfl (fun c2034 => ?_) (fun c2034 => ?_)
                          · refine qb_iconst (pc' := 217) dX11_setOf_216 rfl rfl ?_
                            refine qb_cut (L' := [qb_a 60, qb_i x1, qb_i x2, qb_i x3, qb_i x4, qb_i x5, qb_i (x5 / 900), qb_i y276, qb_i (x5 % 30), none]) [true, true, true, true, true, true, true, true, true, false] rfl ?_
                            simpa only [if_pos c2034] using k1459
                          · refine qb_iload (pc' := 213) dX11_setOf_211 rfl rfl ?_
                            refine qb_goto (tgt := 217) dX11_setOf_213 rfl ?_
                            refine qb_cut (L' := [qb_a 60, qb_i x1, qb_i x2, qb_i x3, qb_i x4, qb_i x5, qb_i (x5 / 900), qb_i y276, qb_i (x5 % 30), none]) [true, true, true, true, true, true, true, true, true, false] rfl ?_
                            simpa only [if_neg c2034] using k1459
                        refine qb_cle (tgt := 205) (pc' := 200) dX11_setOf_197 rfl rfl (fun c2033 => ?_) (fun c2033 => ?_)
                        · refine qb_iconst (pc' := 206) dX11_setOf_205 rfl rfl ?_
                          refine qb_cut (L' := [qb_a 60, qb_i x1, qb_i x2, qb_i x3, qb_i x4, qb_i x5, qb_i (x5 / 900), qb_i y276, qb_i (x5 % 30), none]) [true, true, true, true, true, true, true, true, true, false] rfl ?_
                          simpa only [if_pos c2033] using k1458
                        · refine qb_iload (pc' := 202) dX11_setOf_200 rfl rfl ?_
                          refine qb_goto (tgt := 206) dX11_setOf_202 rfl ?_
                          refine qb_cut (L' := [qb_a 60, qb_i x1, qb_i x2, qb_i x3, qb_i x4, qb_i x5, qb_i (x5 / 900), qb_i y276, qb_i (x5 % 30), none]) [true, true, true, true, true, true, true, true, true, false] rfl ?_
                          simpa only [if_neg c2033] using k1458
                      refine qb_fle (tgt := 194) (pc' := 189) dX11_setOf_186 rfl rfl (fun c2032 => ?_) (fun c2032 => ?_)
                      · refine qb_iconst (pc' := 195) dX11_setOf_194 rfl rfl ?_
                        refine qb_cut (L' := [qb_a 60, qb_i x1, qb_i x2, qb_i x3, qb_i x4, qb_i x5, qb_i (x5 / 900), qb_i y276, qb_i (x5 % 30), none]) [true, true, true, true, true, true, true, true, true, false] rfl ?_
                        simpa only [if_pos c2032] using k1457
                      · refine qb_iload (pc' := 191) dX11_setOf_189 rfl rfl ?_
                        refine qb_goto (tgt := 195) dX11_setOf_191 rfl ?_
                        refine qb_cut (L' := [qb_a 60, qb_i x1, qb_i x2, qb_i x3, qb_i x4, qb_i x5, qb_i (x5 / 900), qb_i y276, qb_i (x5 % 30), none]) [true, true, true, true, true, true, true, true, true, false] rfl ?_
                        simpa only [if_neg c2032] using k1457
                  refine qb_feq (tgt := 176) (pc' := 172) dX11_setOf_169 rfl rfl (fun c2030 => ?_) (fun c2030 => ?_)
                  · refine qb_iconst (pc' := 177) dX11_setOf_176 rfl rfl ?_
                    refine qb_cut (L' := [qb_a 60, qb_i x1, qb_i x2, qb_i x3, qb_i x4, qb_i x5, qb_i (x5 / 900), qb_i y276, qb_i (x5 % 30), none]) [true, true, true, true, true, true, true, true, true, false] rfl ?_
                    simpa only [if_pos c2030] using k1456
                  · refine qb_iconst (pc' := 173) dX11_setOf_172 rfl rfl ?_
                    refine qb_goto (tgt := 177) dX11_setOf_173 rfl ?_
                    refine qb_cut (L' := [qb_a 60, qb_i x1, qb_i x2, qb_i x3, qb_i x4, qb_i x5, qb_i (x5 / 900), qb_i y276, qb_i (x5 % 30), none]) [true, true, true, true, true, true, true, true, true, false] rfl ?_
                    simpa only [if_neg c2030] using k1456
    refine qb_fne (tgt := 56) (pc' := 43) dX11_setOf_40 rfl rfl (fun c1709 => ?_) (fun c1709 => ?_)
    · refine qb_iloadn (pc' := 57) (i := 1) dX11_setOf_56 rfl rfl rfl ?_
      refine qb_iconst (pc' := 58) dX11_setOf_57 rfl rfl ?_
      have k1234 : qb_R mX11_setOf 0 0 qb_sh 123 [qb_a 60, qb_i x1, qb_i x2, qb_i x3, qb_i x4, qb_i x5, qb_i (x5 / 900), qb_i y276, qb_i (x5 % 30), none] [.inl (if x1 = 1 then (if y276 = 0 then (if (x5 % 30) = 0 then (1 : Int) else 0) else 0) else (if x1 = 2 then (if y276 ≤ (x5 / 900) then (0 : Int) else (if (x5 % 30) = 0 then (1 : Int) else 0)) else (if y276 ≤ (x5 / 900) then (0 : Int) else (if (x5 % 30) ≤ y276 then (0 : Int) else 1))))] hp (qb_I qb_sh K) := by
        refine qb_cut (L' := [qb_a 60, qb_i x1, qb_i x2, qb_i x3, qb_i x4, qb_i x5, qb_i (x5 / 900), qb_i y276, qb_i (x5 % 30), none]) [true, true, true, true, true, true, true, true, true, false] rfl ?_
        exact k1216 _ (if_neg c1709).symm
      refine qb_cne (tgt := 79) (pc' := 61) dX11_setOf_58 rfl rfl (fun c1745 => ?_) (fun c1745 => ?_)
      · refine qb_iloadn (pc' := 80) (i := 1) dX11_setOf_79 rfl rfl rfl ?_
        refine qb_iconst (pc' := 81) dX11_setOf_80 rfl rfl ?_
        have k1244 : qb_R mX11_setOf 0 0 qb_sh 123 [qb_a 60, qb_i x1, qb_i x2, qb_i x3, qb_i x4, qb_i x5, qb_i (x5 / 900), qb_i y276, qb_i (x5 % 30), none] [.inl (if x1 = 2 then (if y276 ≤ (x5 / 900) then (0 : Int) else (if (x5 % 30) = 0 then (1 : Int) else 0)) else (if y276 ≤ (x5 / 900) then (0 : Int) else (if (x5 % 30) ≤ y276 then (0 : Int) else 1)))] hp (qb_I qb_sh K) := by
          refine qb_cut (L' := [qb_a 60, qb_i x1, qb_i x2, qb_i x3, qb_i x4, qb_i x5, qb_i (x5 / 900), qb_i y276, qb_i (x5 % 30), none]) [true, true, true, true, true, true, true, true, true, false] rfl ?_
          simpa only [if_neg c1745] using k1234
        refine qb_cne (tgt := 104) (pc' := 84) dX11_setOf_81 rfl rfl (fun c1765 => ?_) (fun c1765 => ?_)
        · refine qb_iload (pc' := 106) dX11_setOf_104 rfl rfl ?_
          refine qb_iload (pc' := 108) dX11_setOf_106 rfl rfl ?_
          have k1249 : qb_R mX11_setOf 0 0 qb_sh 123 [qb_a 60, qb_i x1, qb_i x2, qb_i x3, qb_i x4, qb_i x5, qb_i (x5 / 900), qb_i y276, qb_i (x5 % 30), none] [.inl (if y276 ≤ (x5 / 900) then (0 : Int) else (if (x5 % 30) ≤ y276 then (0 : Int) else 1))] hp (qb_I qb_sh K) := by
            refine qb_cut (L' := [qb_a 60, qb_i x1, qb_i x2, qb_i x3, qb_i x4, qb_i x5, qb_i (x5 / 900), qb_i y276, qb_i (x5 % 30), none]) [true, true, true, true, true, true, true, true, true, false] rfl ?_
            simpa only [if_neg c1765] using k1244
          refine qb_cge (tgt := 122) (pc' := 111) dX11_setOf_108 rfl rfl (fun c1775 => ?_) (fun c1775 => ?_)
          · refine qb_iconst (pc' := 123) dX11_setOf_122 rfl rfl ?_
            refine qb_cut (L' := [qb_a 60, qb_i x1, qb_i x2, qb_i x3, qb_i x4, qb_i x5, qb_i (x5 / 900), qb_i y276, qb_i (x5 % 30), none]) [true, true, true, true, true, true, true, true, true, false] rfl ?_
            simpa only [if_pos c1775] using k1249
          · refine qb_iload (pc' := 113) dX11_setOf_111 rfl rfl ?_
            refine qb_iload (pc' := 115) dX11_setOf_113 rfl rfl ?_
            have k1250 : qb_R mX11_setOf 0 0 qb_sh 123 [qb_a 60, qb_i x1, qb_i x2, qb_i x3, qb_i x4, qb_i x5, qb_i (x5 / 900), qb_i y276, qb_i (x5 % 30), none] [.inl (if (x5 % 30) ≤ y276 then (0 : Int) else 1)] hp (qb_I qb_sh K) := by
              refine qb_cut (L' := [qb_a 60, qb_i x1, qb_i x2, qb_i x3, qb_i x4, qb_i x5, qb_i (x5 / 900), qb_i y276, qb_i (x5 % 30), none]) [true, true, true, true, true, true, true, true, true, false] rfl ?_
              simpa only [if_neg c1775] using k1249
            refine qb_cge (tgt := 122) (pc' := 118) dX11_setOf_115 rfl rfl (fun c1777 => ?_) (fun c1777 => ?_)
            · refine qb_iconst (pc' := 123) dX11_setOf_122 rfl rfl ?_
              refine qb_cut (L' := [qb_a 60, qb_i x1, qb_i x2, qb_i x3, qb_i x4, qb_i x5, qb_i (x5 / 900), qb_i y276, qb_i (x5 % 30), none]) [true, true, true, true, true, true, true, true, true, false] rfl ?_
              simpa only [if_pos c1777] using k1250
            · refine qb_iconst (pc' := 119) dX11_setOf_118 rfl rfl ?_
              refine qb_goto (tgt := 123) dX11_setOf_119 rfl ?_
              refine qb_cut (L' := [qb_a 60, qb_i x1, qb_i x2, qb_i x3, qb_i x4, qb_i x5, qb_i (x5 / 900), qb_i y276, qb_i (x5 % 30), none]) [true, true, true, true, true, true, true, true, true, false] rfl ?_
              simpa only [if_neg c1777] using k1250
        · refine qb_iload (pc' := 86) dX11_setOf_84 rfl rfl ?_
          refine qb_iload (pc' := 88) dX11_setOf_86 rfl rfl ?_
          have k1246 : qb_R mX11_setOf 0 0 qb_sh 123 [qb_a 60, qb_i x1, qb_i x2, qb_i x3, qb_i x4, qb_i x5, qb_i (x5 / 900), qb_i y276, qb_i (x5 % 30), none] [.inl (if y276 ≤ (x5 / 900) then (0 : Int) else (if (x5 % 30) = 0 then (1 : Int) else 0))] hp (qb_I qb_sh K) := by
            refine qb_cut (L' := [qb_a 60, qb_i x1, qb_i x2, qb_i x3, qb_i x4, qb_i x5, qb_i (x5 / 900), qb_i y276, qb_i (x5 % 30), none]) [true, true, true, true, true, true, true, true, true, false] rfl ?_
            simpa only [if_pos c1765] using k1244
          refine qb_cge (tgt := 100) (pc' := 91) dX11_setOf_88 rfl rfl (fun c1772 => ?_) (fun c1772 => ?_)
          · refine qb_iconst (pc' := 101) dX11_setOf_100 rfl rfl ?_
            refine qb_goto (tgt := 123) dX11_setOf_101 rfl ?_
            refine qb_cut (L' := [qb_a 60, qb_i x1, qb_i x2, qb_i x3, qb_i x4, qb_i x5, qb_i (x5 / 900), qb_i y276, qb_i (x5 % 30), none]) [true, true, true, true, true, true, true, true, true, false] rfl ?_
            simpa only [if_pos c1772] using k1246
          · refine qb_iload (pc' := 93) dX11_setOf_91 rfl rfl ?_
            have k1247 : qb_R mX11_setOf 0 0 qb_sh 123 [qb_a 60, qb_i x1, qb_i x2, qb_i x3, qb_i x4, qb_i x5, qb_i (x5 / 900), qb_i y276, qb_i (x5 % 30), none] [.inl (if (x5 % 30) = 0 then (1 : Int) else 0)] hp (qb_I qb_sh K) := by
              refine qb_cut (L' := [qb_a 60, qb_i x1, qb_i x2, qb_i x3, qb_i x4, qb_i x5, qb_i (x5 / 900), qb_i y276, qb_i (x5 % 30), none]) [true, true, true, true, true, true, true, true, true, false] rfl ?_
              simpa only [if_neg c1772] using k1246
            refine qb_fne (tgt := 100) (pc' := 96) dX11_setOf_93 rfl rfl (fun c1774 => ?_) (fun c1774 => ?_)
            · refine qb_iconst (pc' := 101) dX11_setOf_100 rfl rfl ?_
              refine qb_goto (tgt := 123) dX11_setOf_101 rfl ?_
              refine qb_cut (L' := [qb_a 60, qb_i x1, qb_i x2, qb_i x3, qb_i x4, qb_i x5, qb_i (x5 / 900), qb_i y276, qb_i (x5 % 30), none]) [true, true, true, true, true, true, true, true, true, false] rfl ?_
              simpa only [if_neg c1774] using k1247
            · refine qb_iconst (pc' := 97) dX11_setOf_96 rfl rfl ?_
              refine qb_goto (tgt := 123) dX11_setOf_97 rfl ?_
              refine qb_cut (L' := [qb_a 60, qb_i x1, qb_i x2, qb_i x3, qb_i x4, qb_i x5, qb_i (x5 / 900), qb_i y276, qb_i (x5 % 30), none]) [true, true, true, true, true, true, true, true, true, false] rfl ?_
              simpa only [if_pos c1774] using k1247
      · refine qb_iload (pc' := 63) dX11_setOf_61 rfl rfl ?_
        have k1236 : qb_R mX11_setOf 0 0 qb_sh 123 [qb_a 60, qb_i x1, qb_i x2, qb_i x3, qb_i x4, qb_i x5, qb_i (x5 / 900), qb_i y276, qb_i (x5 % 30), none] [.inl (if y276 = 0 then (if (x5 % 30) = 0 then (1 : Int) else 0) else 0)] hp (qb_I qb_sh K) := by
          refine qb_cut (L' := [qb_a 60, qb_i x1, qb_i x2, qb_i x3, qb_i x4, qb_i x5, qb_i (x5 / 900), qb_i y276, qb_i (x5 % 30), none]) [true, true, true, true, true, true, true, true, true, false] rfl ?_
          simpa only [if_pos c1745] using k1234
        refine qb_fne (tgt := 75) (pc' := 66) dX11_setOf_63 rfl rfl (fun c1762 => ?_) (fun c1762 => ?_)
        · refine qb_iconst (pc' := 76) dX11_setOf_75 rfl rfl ?_
          refine qb_goto (tgt := 123) dX11_setOf_76 rfl ?_
          refine qb_cut (L' := [qb_a 60, qb_i x1, qb_i x2, qb_i x3, qb_i x4, qb_i x5, qb_i (x5 / 900), qb_i y276, qb_i (x5 % 30), none]) [true, true, true, true, true, true, true, true, true, false] rfl ?_
          simpa only [if_neg c1762] using k1236
        · refine qb_iload (pc' := 68) dX11_setOf_66 rfl rfl ?_
          have k1237 : qb_R mX11_setOf 0 0 qb_sh 123 [qb_a 60, qb_i x1, qb_i x2, qb_i x3, qb_i x4, qb_i x5, qb_i (x5 / 900), qb_i y276, qb_i (x5 % 30), none] [.inl (if (x5 % 30) = 0 then (1 : Int) else 0)] hp (qb_I qb_sh K) := by
            refine qb_cut (L' := [qb_a 60, qb_i x1, qb_i x2, qb_i x3, qb_i x4, qb_i x5, qb_i (x5 / 900), qb_i y276, qb_i (x5 % 30), none]) [true, true, true, true, true, true, true, true, true, false] rfl ?_
            simpa only [if_pos c1762] using k1236
          refine qb_fne (tgt := 75) (pc' := 71) dX11_setOf_68 rfl rfl (fun c1764 => ?_) (fun c1764 => ?_)
          · refine qb_iconst (pc' := 76) dX11_setOf_75 rfl rfl ?_
            refine qb_goto (tgt := 123) dX11_setOf_76 rfl ?_
            refine qb_cut (L' := [qb_a 60, qb_i x1, qb_i x2, qb_i x3, qb_i x4, qb_i x5, qb_i (x5 / 900), qb_i y276, qb_i (x5 % 30), none]) [true, true, true, true, true, true, true, true, true, false] rfl ?_
            simpa only [if_neg c1764] using k1237
          · refine qb_iconst (pc' := 72) dX11_setOf_71 rfl rfl ?_
            refine qb_goto (tgt := 123) dX11_setOf_72 rfl ?_
            refine qb_cut (L' := [qb_a 60, qb_i x1, qb_i x2, qb_i x3, qb_i x4, qb_i x5, qb_i (x5 / 900), qb_i y276, qb_i (x5 % 30), none]) [true, true, true, true, true, true, true, true, true, false] rfl ?_
            simpa only [if_pos c1764] using k1237
    · refine qb_iload (pc' := 45) dX11_setOf_43 rfl rfl ?_
      have k1217 : qb_R mX11_setOf 0 0 qb_sh 123 [qb_a 60, qb_i x1, qb_i x2, qb_i x3, qb_i x4, qb_i x5, qb_i (x5 / 900), qb_i y276, qb_i (x5 % 30), none] [.inl (if x5 = 0 then (1 : Int) else 0)] hp (qb_I qb_sh K) := by
        refine qb_cut (L' := [qb_a 60, qb_i x1, qb_i x2, qb_i x3, qb_i x4, qb_i x5, qb_i (x5 / 900), qb_i y276, qb_i (x5 % 30), none]) [true, true, true, true, true, true, true, true, true, false] rfl ?_
        exact k1216 _ (if_pos c1709).symm
      refine qb_fne (tgt := 52) (pc' := 48) dX11_setOf_45 rfl rfl (fun c1744 => ?_) (fun c1744 => ?_)
      · refine qb_iconst (pc' := 53) dX11_setOf_52 rfl rfl ?_
        refine qb_goto (tgt := 123) dX11_setOf_53 rfl ?_
        refine qb_cut (L' := [qb_a 60, qb_i x1, qb_i x2, qb_i x3, qb_i x4, qb_i x5, qb_i (x5 / 900), qb_i y276, qb_i (x5 % 30), none]) [true, true, true, true, true, true, true, true, true, false] rfl ?_
        simpa only [if_neg c1744] using k1217
      · refine qb_iconst (pc' := 49) dX11_setOf_48 rfl rfl ?_
        refine qb_goto (tgt := 123) dX11_setOf_49 rfl ?_
        refine qb_cut (L' := [qb_a 60, qb_i x1, qb_i x2, qb_i x3, qb_i x4, qb_i x5, qb_i (x5 / 900), qb_i y276, qb_i (x5 % 30), none]) [true, true, true, true, true, true, true, true, true, false] rfl ?_
        simpa only [if_pos c1744] using k1217
def c_m_fewest (hp : qb_H) (K : Int → qb_H → Prop) : Prop := qb_R mX11_fewest 0 0 qb_sh 0 [qb_a 60, none] [] hp (qb_I qb_sh K)
def r_m_fewest_2 (x1 : Int) (hp : qb_H) (K : Int → qb_H → Prop) : Prop := qb_R mX11_fewest 0 0 qb_sh 2 [qb_a 60, qb_i x1] [] hp (qb_I qb_sh K)
theorem b_m_fewest {hp : qb_H} {K : Int → qb_H → Prop} (h : r_m_fewest_2 0 hp K) : c_m_fewest hp K := by
  unfold c_m_fewest
  refine qb_iconst (pc' := 1) dX11_fewest_0 rfl rfl ?_
  refine qb_istoren (pc' := 2) (i := 1) (L' := [qb_a 60, qb_i 0]) dX11_fewest_1 rfl rfl (Nat.le_of_ble_eq_true rfl) rfl rfl ?_
  refine qb_cut (L' := [qb_a 60, qb_i 0]) [true, true] rfl ?_
  exact h
theorem b_m_fewest_2 {x1 : Int} {hp : qb_H} {K : Int → qb_H → Prop} (h : (4 ≤ x1 → K (-6) hp) ∧ (¬ 4 ≤ x1 → c_m_setOf x1 (-1) 0 hp (fun v298 hp298 => (v298 ≤ 0 → (qb_in (x1 + 1)) ∧ r_m_fewest_2 (x1 + 1) hp298 K) ∧ (¬ v298 ≤ 0 → K x1 hp298)))) : r_m_fewest_2 x1 hp K := by
  unfold r_m_fewest_2
  refine qb_iloadn (pc' := 3) (i := 1) dX11_fewest_2 rfl rfl rfl ?_
  refine qb_iconst (pc' := 4) dX11_fewest_3 rfl rfl ?_
  refine qb_cge (tgt := 25) (pc' := 7) dX11_fewest_4 rfl rfl (fun c1706 => ?_) (fun c1706 => ?_)
  · have h := h.1 c1706
    refine qb_bipush (pc' := 27) dX11_fewest_25 rfl rfl rfl ?_
    exact qb_reti dX11_fewest_27 rfl h
  · have h := h.2 c1706
    refine qb_aloadn (pc' := 8) (i := 0) dX11_fewest_7 rfl rfl rfl ?_
    refine qb_iloadn (pc' := 9) (i := 1) dX11_fewest_8 rfl rfl rfl ?_
    refine qb_iconst (pc' := 10) dX11_fewest_9 rfl rfl ?_
    refine qb_iconst (pc' := 11) dX11_fewest_10 rfl rfl ?_
    refine qb_callVi (pc' := 14) (b := 60) (as := [.inl x1, .inl (-1), .inl 0]) (rest := []) dX11_fewest_11 rfl qe_mX11_fewest_mX11_setOf rfl rfl qb_s60 rfl rfl (Nat.le_of_ble_eq_true rfl) (Nat.le_of_ble_eq_true rfl) ⟨rfl, rfl⟩ h (fun v298 hp298 h => ?_)
    refine qb_fle (tgt := 19) (pc' := 17) dX11_fewest_14 rfl rfl (fun c2044 => ?_) (fun c2044 => ?_)
    · have h := h.1 c2044
      obtain ⟨g1807, h⟩ := h
      refine qb_iinc (pc' := 22) (L' := [qb_a 60, qb_i (x1 + 1)]) dX11_fewest_19 rfl rfl g1807 (Nat.le_of_ble_eq_true rfl) rfl rfl ?_
      refine qb_goto (tgt := 2) dX11_fewest_22 rfl ?_
      refine qb_cut (L' := [qb_a 60, qb_i (x1 + 1)]) [true, true] rfl ?_
      exact h
    · have h := h.2 c2044
      refine qb_iloadn (pc' := 18) (i := 1) dX11_fewest_17 rfl rfl rfl ?_
      exact qb_reti dX11_fewest_18 rfl h
def c_m_explained (hp : qb_H) (K : Int → qb_H → Prop) : Prop := qb_R mX11_explained 0 0 qb_sh 0 [qb_a 60] [] hp (qb_I qb_sh K)
theorem b_m_explained {hp : qb_H} {K : Int → qb_H → Prop} (h : c_m_fewest hp (fun v300 hp300 => K v300 hp300)) : c_m_explained hp K := by
  unfold c_m_explained
  refine qb_aloadn (pc' := 1) (i := 0) dX11_explained_0 rfl rfl rfl ?_
  refine qb_callVi (pc' := 4) (b := 60) (as := []) (rest := []) dX11_explained_1 rfl qe_mX11_explained_mX11_fewest rfl rfl qb_s60 rfl rfl (Nat.le_of_ble_eq_true rfl) (Nat.le_of_ble_eq_true rfl) ⟨rfl, rfl⟩ h (fun v300 hp300 h => ?_)
  exact qb_reti dX11_explained_4 rfl h
def c_m_fault (hp : qb_H) (K : Int → qb_H → Prop) : Prop := qb_R mX11_fault 0 0 qb_sh 0 [qb_a 60] [] hp (qb_I qb_sh K)
theorem b_m_fault {hp : qb_H} {K : Int → qb_H → Prop} (h : c_m_faultOf hp (fun v302 hp302 => K v302 hp302)) : c_m_fault hp K := by
  unfold c_m_fault
  refine qb_aloadn (pc' := 1) (i := 0) dX11_fault_0 rfl rfl rfl ?_
  refine qb_callVi (pc' := 4) (b := 60) (as := []) (rest := []) dX11_fault_1 rfl qe_mX11_fault_mX11_faultOf rfl rfl qb_s60 rfl rfl (Nat.le_of_ble_eq_true rfl) (Nat.le_of_ble_eq_true rfl) ⟨rfl, rfl⟩ h (fun v302 hp302 h => ?_)
  exact qb_reti dX11_fault_4 rfl h
def c_m_isHour (x0 : Int) (hp : qb_H) (K : Int → qb_H → Prop) : Prop := qb_R mX11_isHour 0 0 qb_sh 0 [qb_i x0] [] hp (qb_I qb_sh K)
theorem b_m_isHour {x0 : Int} {hp : qb_H} {K : Int → qb_H → Prop} (h : K (v_m_in x0 0 2000) hp) : c_m_isHour x0 hp K := by
  unfold c_m_isHour
  refine qb_iloadn (pc' := 1) (i := 0) dX11_isHour_0 rfl rfl rfl ?_
  refine qb_iconst (pc' := 2) dX11_isHour_1 rfl rfl ?_
  refine qb_sipush (pc' := 5) dX11_isHour_2 rfl rfl rfl ?_
  refine qb_callSi (pc' := 8) (as := [.inl x0, .inl 0, .inl 2000]) (rest := []) dX11_isHour_5 rfl qe_mX11_isHour_mX11_in rfl rfl rfl (Nat.le_of_ble_eq_true rfl) (Nat.le_of_ble_eq_true rfl) ⟨rfl, rfl⟩ (K := fun vz hpz => (v_m_in x0 0 2000) = vz ∧ hp = hpz) (s_m_in x0 0 2000 hp _ trivial ⟨rfl, rfl⟩) (fun vz hpz ez => ?_)
  obtain ⟨ez1, ez2⟩ := ez
  subst ez1
  subst ez2
  exact qb_retz dX11_isHour_8 rfl (by (repeat' split) <;> first | exact Or.inl rfl | exact Or.inr rfl | apply vb_m_in) h
def v_m_isHour (x0 : Int) : Int := (v_m_in x0 0 2000)
theorem vb_m_isHour (x0 : Int) : v_m_isHour x0 = 0 ∨ v_m_isHour x0 = 1 := by
  unfold v_m_isHour
  (repeat' split) <;> first | exact Or.inl rfl | exact Or.inr rfl | apply vb_m_in
theorem s_m_isHour (x0 : Int) (hp : qb_H) (K : Int → qb_H → Prop) (hg : True) (hK : K (v_m_isHour x0) hp) : c_m_isHour x0 hp K := by
  refine b_m_isHour ?_
  unfold v_m_isHour at hK
  exact hK
def c_m_filled (x1 : Int) (x2 : Int) (x3 : Int) (x4 : Int) (hp : qb_H) (K : Int → qb_H → Prop) : Prop := qb_R mX11_filled 0 0 qb_sh 0 [qb_a 60, qb_i x1, qb_i x2, qb_i x3, qb_i x4, none, none, none] [] hp (qb_I qb_sh K)
def r_m_filled_55 (x1 : Int) (x2 : Int) (x3 : Int) (x4 : Int) (x5 : Int) (x6 : Int) (x7 : Int) (hp : qb_H) (K : Int → qb_H → Prop) : Prop := qb_R mX11_filled 0 0 qb_sh 55 [qb_a 60, qb_i x1, qb_i x2, qb_i x3, qb_i x4, qb_i x5, qb_i x6, qb_i x7] [] hp (qb_I qb_sh K)
theorem b_m_filled {x1 x2 x3 x4 : Int} {hp : qb_H} {K : Int → qb_H → Prop} (h : ((v_m_isQuay x1) = 0 → K (-1) hp) ∧ (¬ (v_m_isQuay x1) = 0 → ((v_m_in x2 0 5) = 0 → K (-1) hp) ∧ (¬ (v_m_in x2 0 5) = 0 → ((v_m_isHour x3) = 0 → K (-2) hp) ∧ (¬ (v_m_isHour x3) = 0 → ((v_m_in x4 0 1) = 0 → K (-2) hp) ∧ (¬ (v_m_in x4 0 1) = 0 → c_m_beginBarrels x1 hp (fun hp304 => (g_m_barrelsNow hp304) ∧ (∀ (y305 : Int), y305 = (v_m_barrelsNow hp304) → r_m_filled_55 x1 x2 x3 x4 y305 0 0 hp304 K))))))) : c_m_filled x1 x2 x3 x4 hp K := by
  unfold c_m_filled
  refine qb_iloadn (pc' := 1) (i := 1) dX11_filled_0 rfl rfl rfl ?_
  refine qb_callSi (pc' := 4) (as := [.inl x1]) (rest := []) dX11_filled_1 rfl qe_mX11_filled_mX11_isQuay rfl rfl rfl (Nat.le_of_ble_eq_true rfl) (Nat.le_of_ble_eq_true rfl) ⟨rfl, rfl⟩ (K := fun vz hpz => (v_m_isQuay x1) = vz ∧ hp = hpz) (s_m_isQuay x1 hp _ trivial ⟨rfl, rfl⟩) (fun vz hpz ez => ?_)
  obtain ⟨ez1, ez2⟩ := ez
  subst ez1
  subst ez2
  refine qb_feq (tgt := 16) (pc' := 7) dX11_filled_4 rfl rfl (fun c2049 => ?_) (fun c2049 => ?_)
  · have h := h.1 c2049
    refine qb_iconst (pc' := 17) dX11_filled_16 rfl rfl ?_
    exact qb_reti dX11_filled_17 rfl h
  · have h := h.2 c2049
    refine qb_iloadn (pc' := 8) (i := 2) dX11_filled_7 rfl rfl rfl ?_
    refine qb_iconst (pc' := 9) dX11_filled_8 rfl rfl ?_
    refine qb_iconst (pc' := 10) dX11_filled_9 rfl rfl ?_
    refine qb_callSi (pc' := 13) (as := [.inl x2, .inl 0, .inl 5]) (rest := []) dX11_filled_10 rfl qe_mX11_filled_mX11_in rfl rfl rfl (Nat.le_of_ble_eq_true rfl) (Nat.le_of_ble_eq_true rfl) ⟨rfl, rfl⟩ (K := fun vz hpz => (v_m_in x2 0 5) = vz ∧ hp = hpz) (s_m_in x2 0 5 hp _ trivial ⟨rfl, rfl⟩) (fun vz hpz ez => ?_)
    obtain ⟨ez1, ez2⟩ := ez
    subst ez1
    subst ez2
    refine qb_fne (tgt := 18) (pc' := 16) dX11_filled_13 rfl rfl (fun c2050 => ?_) (fun c2050 => ?_)
    · have h := h.2 c2050
      refine qb_iloadn (pc' := 19) (i := 3) dX11_filled_18 rfl rfl rfl ?_
      refine qb_callSi (pc' := 22) (as := [.inl x3]) (rest := []) dX11_filled_19 rfl qe_mX11_filled_mX11_isHour rfl rfl rfl (Nat.le_of_ble_eq_true rfl) (Nat.le_of_ble_eq_true rfl) ⟨rfl, rfl⟩ (K := fun vz hpz => (v_m_isHour x3) = vz ∧ hp = hpz) (s_m_isHour x3 hp _ trivial ⟨rfl, rfl⟩) (fun vz hpz ez => ?_)
      obtain ⟨ez1, ez2⟩ := ez
      subst ez1
      subst ez2
      refine qb_feq (tgt := 35) (pc' := 25) dX11_filled_22 rfl rfl (fun c2051 => ?_) (fun c2051 => ?_)
      · have h := h.1 c2051
        refine qb_bipush (pc' := 37) dX11_filled_35 rfl rfl rfl ?_
        exact qb_reti dX11_filled_37 rfl h
      · have h := h.2 c2051
        refine qb_iload (pc' := 27) dX11_filled_25 rfl rfl ?_
        refine qb_iconst (pc' := 28) dX11_filled_27 rfl rfl ?_
        refine qb_iconst (pc' := 29) dX11_filled_28 rfl rfl ?_
        refine qb_callSi (pc' := 32) (as := [.inl x4, .inl 0, .inl 1]) (rest := []) dX11_filled_29 rfl qe_mX11_filled_mX11_in rfl rfl rfl (Nat.le_of_ble_eq_true rfl) (Nat.le_of_ble_eq_true rfl) ⟨rfl, rfl⟩ (K := fun vz hpz => (v_m_in x4 0 1) = vz ∧ hp = hpz) (s_m_in x4 0 1 hp _ trivial ⟨rfl, rfl⟩) (fun vz hpz ez => ?_)
        obtain ⟨ez1, ez2⟩ := ez
        subst ez1
        subst ez2
        refine qb_fne (tgt := 38) (pc' := 35) dX11_filled_32 rfl rfl (fun c2052 => ?_) (fun c2052 => ?_)
        · have h := h.2 c2052
          refine qb_aloadn (pc' := 39) (i := 0) dX11_filled_38 rfl rfl rfl ?_
          refine qb_iloadn (pc' := 40) (i := 1) dX11_filled_39 rfl rfl rfl ?_
          refine qb_callVu (pc' := 43) (b := 60) (as := [.inl x1]) (rest := []) dX11_filled_40 rfl qe_mX11_filled_mX11_beginBarrels rfl rfl qb_s60 rfl rfl (Nat.le_of_ble_eq_true rfl) (Nat.le_of_ble_eq_true rfl) ⟨rfl, rfl⟩ h (fun hp304 h => ?_)
          refine qb_aloadn (pc' := 44) (i := 0) dX11_filled_43 rfl rfl rfl ?_
          obtain ⟨g1809, h⟩ := h
          refine qb_callVi (pc' := 47) (b := 60) (as := []) (rest := []) dX11_filled_44 rfl qe_mX11_filled_mX11_barrelsNow rfl rfl qb_s60 rfl rfl (Nat.le_of_ble_eq_true rfl) (Nat.le_of_ble_eq_true rfl) ⟨rfl, rfl⟩ (K := fun vz hpz => (v_m_barrelsNow hp304) = vz ∧ hp304 = hpz) (s_m_barrelsNow  hp304 _ g1809 ⟨rfl, rfl⟩) (fun vz hpz ez => ?_)
          obtain ⟨ez1, ez2⟩ := ez
          subst ez1
          subst ez2
          refine qb_istorey (pc' := 49) (Lf := fun y305 => [qb_a 60, qb_i x1, qb_i x2, qb_i x3, qb_i x4, qb_i y305, none, none]) dX11_filled_47 rfl (Nat.le_of_ble_eq_true rfl) rfl (fun _ => rfl) (fun y305 ey305 => ?_)
          have h := h y305 ey305
          refine qb_iconst (pc' := 50) dX11_filled_49 rfl rfl ?_
          refine qb_istore (pc' := 52) (L' := [qb_a 60, qb_i x1, qb_i x2, qb_i x3, qb_i x4, qb_i y305, qb_i 0, none]) dX11_filled_50 rfl (Nat.le_of_ble_eq_true rfl) rfl rfl ?_
          refine qb_iconst (pc' := 53) dX11_filled_52 rfl rfl ?_
          refine qb_istore (pc' := 55) (L' := [qb_a 60, qb_i x1, qb_i x2, qb_i x3, qb_i x4, qb_i y305, qb_i 0, qb_i 0]) dX11_filled_53 rfl (Nat.le_of_ble_eq_true rfl) rfl rfl ?_
          refine qb_cut (L' := [qb_a 60, qb_i x1, qb_i x2, qb_i x3, qb_i x4, qb_i y305, qb_i 0, qb_i 0]) [true, true, true, true, true, true, true, true] rfl ?_
          exact h
        · have h := h.1 c2052
          refine qb_bipush (pc' := 37) dX11_filled_35 rfl rfl rfl ?_
          exact qb_reti dX11_filled_37 rfl h
    · have h := h.1 c2050
      refine qb_iconst (pc' := 17) dX11_filled_16 rfl rfl ?_
      exact qb_reti dX11_filled_17 rfl h
theorem b_m_filled_55 {x1 x2 x3 x4 x5 x6 x7 : Int} {hp : qb_H} {K : Int → qb_H → Prop} (h : (x5 ≤ x7 → (qb_in ((hp 67 1) * (hp 67 3))) ∧ (0 ≤ ((hp 67 1) * (hp 67 3))) ∧ (qb_in ((hp 67 1) - (((hp 67 1) * (hp 67 3)) / 100))) ∧ (qb_in (x6 * ((hp 67 1) - (((hp 67 1) * (hp 67 3)) / 100)))) ∧ (∀ (y306 : Int), y306 = (x6 * ((hp 67 1) - (((hp 67 1) * (hp 67 3)) / 100))) → (x4 = 0 → (0 ≤ y306) ∧ 0 < (hp 67 1)) ∧ (¬ x4 = 0 → (0 ≤ y306) ∧ 0 < (hp 67 1)) ∧ (∀ (y307 : Int), y307 = (if x4 = 0 then (y306 / (hp 67 1)) else (y306 % (hp 67 1))) → K y307 hp))) ∧ (¬ x5 ≤ x7 → c_m_takeBarrel hp (fun hp308 => (qb_in (x3 - 240)) ∧ (((x3 - 240) < (hp308 60 29) → (qb_in (x6 + 0)) ∧ (qb_in (x7 + 1)) ∧ r_m_filled_55 x1 x2 x3 x4 x5 (x6 + 0) (x7 + 1) hp308 K) ∧ (¬ (x3 - 240) < (hp308 60 29) → (0 ≤ (hp308 60 29)) ∧ c_m_brandOf x1 ((hp308 60 29) / 24) hp308 (fun v309 hp309 => (∀ (y310 : Int), y310 = (if v309 = x2 then (1 : Int) else 0) → (qb_in (x6 + y310)) ∧ (qb_in (x7 + 1)) ∧ r_m_filled_55 x1 x2 x3 x4 x5 (x6 + y310) (x7 + 1) hp309 K))))))) : r_m_filled_55 x1 x2 x3 x4 x5 x6 x7 hp K := by
  unfold r_m_filled_55
  refine qb_iload (pc' := 57) dX11_filled_55 rfl rfl ?_
  refine qb_iload (pc' := 59) dX11_filled_57 rfl rfl ?_
  refine qb_cge (tgt := 110) (pc' := 62) dX11_filled_59 rfl rfl (fun c2053 => ?_) (fun c2053 => ?_)
  · have h := h.1 c2053
    refine qb_iload (pc' := 112) dX11_filled_110 rfl rfl ?_
    refine qb_aloadn (pc' := 113) (i := 0) dX11_filled_112 rfl rfl rfl ?_
    refine qb_geta (pc' := 116) dX11_filled_113 rfl qf_X11_28 qb_s60 rfl ?_
    refine qb_iconst (pc' := 117) dX11_filled_116 rfl rfl ?_
    refine qb_iald (pc' := 118) (v := (hp 67 1)) dX11_filled_117 rfl qb_s67 (by decide) (by decide) rfl ?_
    refine qb_aloadn (pc' := 119) (i := 0) dX11_filled_118 rfl rfl rfl ?_
    refine qb_geta (pc' := 122) dX11_filled_119 rfl qf_X11_28 qb_s60 rfl ?_
    refine qb_iconst (pc' := 123) dX11_filled_122 rfl rfl ?_
    refine qb_iald (pc' := 124) (v := (hp 67 1)) dX11_filled_123 rfl qb_s67 (by decide) (by decide) rfl ?_
    refine qb_aloadn (pc' := 125) (i := 0) dX11_filled_124 rfl rfl rfl ?_
    refine qb_geta (pc' := 128) dX11_filled_125 rfl qf_X11_28 qb_s60 rfl ?_
    refine qb_iconst (pc' := 129) dX11_filled_128 rfl rfl ?_
    refine qb_iald (pc' := 130) (v := (hp 67 3)) dX11_filled_129 rfl qb_s67 (by decide) (by decide) rfl ?_
    obtain ⟨g1810, h⟩ := h
    refine qb_imul (pc' := 131) dX11_filled_130 rfl g1810 ?_
    refine qb_bipush (pc' := 133) dX11_filled_131 rfl rfl rfl ?_
    obtain ⟨g1811, h⟩ := h
    refine qb_idiv (pc' := 134) dX11_filled_133 rfl g1811 (by decide) ?_
    obtain ⟨g1812, h⟩ := h
    refine qb_isub (pc' := 135) dX11_filled_134 rfl g1812 ?_
    obtain ⟨g1813, h⟩ := h
    refine qb_imul (pc' := 136) dX11_filled_135 rfl g1813 ?_
    refine qb_istorey (pc' := 138) (Lf := fun y306 => [qb_a 60, qb_i x1, qb_i x2, qb_i x3, qb_i x4, qb_i x5, qb_i x6, qb_i y306]) dX11_filled_136 rfl (Nat.le_of_ble_eq_true rfl) rfl (fun _ => rfl) (fun y306 ey306 => ?_)
    have h := h y306 ey306
    refine qb_iload (pc' := 140) dX11_filled_138 rfl rfl ?_
    obtain ⟨ga, gb, h⟩ := h
    have k1467 : ∀ (y307 : Int), y307 = (if x4 = 0 then (y306 / (hp 67 1)) else (y306 % (hp 67 1))) → qb_R mX11_filled 0 0 qb_sh 164 [none, none, none, none, none, none, none, none] [.inl y307] hp (qb_I qb_sh K) := by
      intro y307 ey307
      have h := h y307 ey307
      exact qb_reti dX11_filled_164 rfl h
    refine qb_fne (tgt := 155) (pc' := 143) dX11_filled_140 rfl rfl (fun c2054 => ?_) (fun c2054 => ?_)
    · have h := gb c2054
      refine qb_iload (pc' := 157) dX11_filled_155 rfl rfl ?_
      refine qb_aloadn (pc' := 158) (i := 0) dX11_filled_157 rfl rfl rfl ?_
      refine qb_geta (pc' := 161) dX11_filled_158 rfl qf_X11_28 qb_s60 rfl ?_
      refine qb_iconst (pc' := 162) dX11_filled_161 rfl rfl ?_
      refine qb_iald (pc' := 163) (v := (hp 67 1)) dX11_filled_162 rfl qb_s67 (by decide) (by decide) rfl ?_
      obtain ⟨g1820, h⟩ := h
      have g1821 := h
      refine qb_irem (pc' := 164) dX11_filled_163 rfl g1820 g1821 ?_
      refine qb_cut (L' := [none, none, none, none, none, none, none, none]) [false, false, false, false, false, false, false, false] rfl ?_
      exact k1467 _ (if_neg c2054).symm
    · have h := ga c2054
      refine qb_iload (pc' := 145) dX11_filled_143 rfl rfl ?_
      refine qb_aloadn (pc' := 146) (i := 0) dX11_filled_145 rfl rfl rfl ?_
      refine qb_geta (pc' := 149) dX11_filled_146 rfl qf_X11_28 qb_s60 rfl ?_
      refine qb_iconst (pc' := 150) dX11_filled_149 rfl rfl ?_
      refine qb_iald (pc' := 151) (v := (hp 67 1)) dX11_filled_150 rfl qb_s67 (by decide) (by decide) rfl ?_
      obtain ⟨g1818, h⟩ := h
      have g1819 := h
      refine qb_idiv (pc' := 152) dX11_filled_151 rfl g1818 g1819 ?_
      refine qb_goto (tgt := 164) dX11_filled_152 rfl ?_
      refine qb_cut (L' := [none, none, none, none, none, none, none, none]) [false, false, false, false, false, false, false, false] rfl ?_
      exact k1467 _ (if_pos c2054).symm
  · have h := h.2 c2053
    refine qb_aloadn (pc' := 63) (i := 0) dX11_filled_62 rfl rfl rfl ?_
    refine qb_callVu (pc' := 66) (b := 60) (as := []) (rest := []) dX11_filled_63 rfl qe_mX11_filled_mX11_takeBarrel rfl rfl qb_s60 rfl rfl (Nat.le_of_ble_eq_true rfl) (Nat.le_of_ble_eq_true rfl) ⟨rfl, rfl⟩ h (fun hp308 h => ?_)
    refine qb_iload (pc' := 68) dX11_filled_66 rfl rfl ?_
    refine qb_aloadn (pc' := 69) (i := 0) dX11_filled_68 rfl rfl rfl ?_
    refine qb_geti (pc' := 72) (v := (hp308 60 29)) dX11_filled_69 rfl qf_X11_167 qb_s60 rfl rfl ?_
    refine qb_iloadn (pc' := 73) (i := 3) dX11_filled_72 rfl rfl rfl ?_
    refine qb_sipush (pc' := 76) dX11_filled_73 rfl rfl rfl ?_
    obtain ⟨g1822, h⟩ := h
    refine qb_isub (pc' := 77) dX11_filled_76 rfl g1822 ?_
    refine qb_cgt (tgt := 100) (pc' := 80) dX11_filled_77 rfl rfl (fun c2055 => ?_) (fun c2055 => ?_)
    · have h := h.1 c2055
      refine qb_iconst (pc' := 101) dX11_filled_100 rfl rfl ?_
      obtain ⟨g1824, h⟩ := h
      refine qb_iadd (pc' := 102) dX11_filled_101 rfl g1824 ?_
      refine qb_istore (pc' := 104) (L' := [qb_a 60, qb_i x1, qb_i x2, qb_i x3, qb_i x4, qb_i x5, qb_i (x6 + 0), qb_i x7]) dX11_filled_102 rfl (Nat.le_of_ble_eq_true rfl) rfl rfl ?_
      obtain ⟨g1825, h⟩ := h
      refine qb_iinc (pc' := 107) (L' := [qb_a 60, qb_i x1, qb_i x2, qb_i x3, qb_i x4, qb_i x5, qb_i (x6 + 0), qb_i (x7 + 1)]) dX11_filled_104 rfl rfl g1825 (Nat.le_of_ble_eq_true rfl) rfl rfl ?_
      refine qb_goto (tgt := 55) dX11_filled_107 rfl ?_
      refine qb_cut (L' := [qb_a 60, qb_i x1, qb_i x2, qb_i x3, qb_i x4, qb_i x5, qb_i (x6 + 0), qb_i (x7 + 1)]) [true, true, true, true, true, true, true, true] rfl ?_
      exact h
    · have h := h.2 c2055
      refine qb_aloadn (pc' := 81) (i := 0) dX11_filled_80 rfl rfl rfl ?_
      refine qb_iloadn (pc' := 82) (i := 1) dX11_filled_81 rfl rfl rfl ?_
      refine qb_aloadn (pc' := 83) (i := 0) dX11_filled_82 rfl rfl rfl ?_
      refine qb_geti (pc' := 86) (v := (hp308 60 29)) dX11_filled_83 rfl qf_X11_167 qb_s60 rfl rfl ?_
      refine qb_bipush (pc' := 88) dX11_filled_86 rfl rfl rfl ?_
      obtain ⟨g1826, h⟩ := h
      refine qb_idiv (pc' := 89) dX11_filled_88 rfl g1826 (by decide) ?_
      refine qb_callVi (pc' := 92) (b := 60) (as := [.inl x1, .inl ((hp308 60 29) / 24)]) (rest := [.inl x6]) dX11_filled_89 rfl qe_mX11_filled_mX11_brandOf rfl rfl qb_s60 rfl rfl (Nat.le_of_ble_eq_true rfl) (Nat.le_of_ble_eq_true rfl) ⟨rfl, rfl⟩ h (fun v309 hp309 h => ?_)
      refine qb_iloadn (pc' := 93) (i := 2) dX11_filled_92 rfl rfl rfl ?_
      have k1468 : ∀ (y310 : Int), y310 = (if v309 = x2 then (1 : Int) else 0) → qb_R mX11_filled 0 0 qb_sh 101 [qb_a 60, qb_i x1, qb_i x2, qb_i x3, qb_i x4, qb_i x5, none, qb_i x7] [.inl y310, .inl x6] hp309 (qb_I qb_sh K) := by
        intro y310 ey310
        have h := h y310 ey310
        obtain ⟨g1827, h⟩ := h
        refine qb_iadd (pc' := 102) dX11_filled_101 rfl g1827 ?_
        refine qb_istore (pc' := 104) (L' := [qb_a 60, qb_i x1, qb_i x2, qb_i x3, qb_i x4, qb_i x5, qb_i (x6 + y310), qb_i x7]) dX11_filled_102 rfl (Nat.le_of_ble_eq_true rfl) rfl rfl ?_
        obtain ⟨g1828, h⟩ := h
        refine qb_iinc (pc' := 107) (L' := [qb_a 60, qb_i x1, qb_i x2, qb_i x3, qb_i x4, qb_i x5, qb_i (x6 + y310), qb_i (x7 + 1)]) dX11_filled_104 rfl rfl g1828 (Nat.le_of_ble_eq_true rfl) rfl rfl ?_
        refine qb_goto (tgt := 55) dX11_filled_107 rfl ?_
        refine qb_cut (L' := [qb_a 60, qb_i x1, qb_i x2, qb_i x3, qb_i x4, qb_i x5, qb_i (x6 + y310), qb_i (x7 + 1)]) [true, true, true, true, true, true, true, true] rfl ?_
        exact h
      refine qb_cne (tgt := 100) (pc' := 96) dX11_filled_93 rfl rfl (fun c2056 => ?_) (fun c2056 => ?_)
      · refine qb_iconst (pc' := 101) dX11_filled_100 rfl rfl ?_
        refine qb_cut (L' := [qb_a 60, qb_i x1, qb_i x2, qb_i x3, qb_i x4, qb_i x5, none, qb_i x7]) [true, true, true, true, true, true, false, true] rfl ?_
        exact k1468 _ (if_neg c2056).symm
      · refine qb_iconst (pc' := 97) dX11_filled_96 rfl rfl ?_
        refine qb_goto (tgt := 101) dX11_filled_97 rfl ?_
        refine qb_cut (L' := [qb_a 60, qb_i x1, qb_i x2, qb_i x3, qb_i x4, qb_i x5, none, qb_i x7]) [true, true, true, true, true, true, false, true] rfl ?_
        exact k1468 _ (if_pos c2056).symm
def c_m_free (x1 : Int) (x2 : Int) (x3 : Int) (hp : qb_H) (K : Int → qb_H → Prop) : Prop := qb_R mX11_free 0 0 qb_sh 0 [qb_a 60, qb_i x1, qb_i x2, qb_i x3] [] hp (qb_I qb_sh K)
theorem b_m_free {x1 x2 x3 : Int} {hp : qb_H} {K : Int → qb_H → Prop} (h : ((v_m_isDay x1) = 0 → K (-2) hp) ∧ (¬ (v_m_isDay x1) = 0 → ((v_m_isPrice x2) = 0 → K (-2) hp) ∧ (¬ (v_m_isPrice x2) = 0 → ((v_m_isDay x3) = 0 → K (-2) hp) ∧ (¬ (v_m_isDay x3) = 0 → ((hp 60 18) = 60 → K (-4) hp) ∧ (¬ (hp 60 18) = 60 → (0 ≤ (hp 60 18) ∧ (hp 60 18) < 60) ∧ K ((hp 60 18) + 1) (qb_st (qb_st (qb_st (qb_st hp 74 (hp 60 18) x1) 75 (hp 60 18) x2) 76 (hp 60 18) x3) 60 18 ((hp 60 18) + 1))))))) : c_m_free x1 x2 x3 hp K := by
  unfold c_m_free
  refine qb_iloadn (pc' := 1) (i := 1) dX11_free_0 rfl rfl rfl ?_
  refine qb_callSi (pc' := 4) (as := [.inl x1]) (rest := []) dX11_free_1 rfl qe_mX11_free_mX11_isDay rfl rfl rfl (Nat.le_of_ble_eq_true rfl) (Nat.le_of_ble_eq_true rfl) ⟨rfl, rfl⟩ (K := fun vz hpz => (v_m_isDay x1) = vz ∧ hp = hpz) (s_m_isDay x1 hp _ trivial ⟨rfl, rfl⟩) (fun vz hpz ez => ?_)
  obtain ⟨ez1, ez2⟩ := ez
  subst ez1
  subst ez2
  refine qb_feq (tgt := 21) (pc' := 7) dX11_free_4 rfl rfl (fun c2061 => ?_) (fun c2061 => ?_)
  · have h := h.1 c2061
    refine qb_bipush (pc' := 23) dX11_free_21 rfl rfl rfl ?_
    exact qb_reti dX11_free_23 rfl h
  · have h := h.2 c2061
    refine qb_iloadn (pc' := 8) (i := 2) dX11_free_7 rfl rfl rfl ?_
    refine qb_callSi (pc' := 11) (as := [.inl x2]) (rest := []) dX11_free_8 rfl qe_mX11_free_mX11_isPrice rfl rfl rfl (Nat.le_of_ble_eq_true rfl) (Nat.le_of_ble_eq_true rfl) ⟨rfl, rfl⟩ (K := fun vz hpz => (v_m_isPrice x2) = vz ∧ hp = hpz) (s_m_isPrice x2 hp _ trivial ⟨rfl, rfl⟩) (fun vz hpz ez => ?_)
    obtain ⟨ez1, ez2⟩ := ez
    subst ez1
    subst ez2
    refine qb_feq (tgt := 21) (pc' := 14) dX11_free_11 rfl rfl (fun c2062 => ?_) (fun c2062 => ?_)
    · have h := h.1 c2062
      refine qb_bipush (pc' := 23) dX11_free_21 rfl rfl rfl ?_
      exact qb_reti dX11_free_23 rfl h
    · have h := h.2 c2062
      refine qb_iloadn (pc' := 15) (i := 3) dX11_free_14 rfl rfl rfl ?_
      refine qb_callSi (pc' := 18) (as := [.inl x3]) (rest := []) dX11_free_15 rfl qe_mX11_free_mX11_isDay rfl rfl rfl (Nat.le_of_ble_eq_true rfl) (Nat.le_of_ble_eq_true rfl) ⟨rfl, rfl⟩ (K := fun vz hpz => (v_m_isDay x3) = vz ∧ hp = hpz) (s_m_isDay x3 hp _ trivial ⟨rfl, rfl⟩) (fun vz hpz ez => ?_)
      obtain ⟨ez1, ez2⟩ := ez
      subst ez1
      subst ez2
      refine qb_fne (tgt := 24) (pc' := 21) dX11_free_18 rfl rfl (fun c2063 => ?_) (fun c2063 => ?_)
      · have h := h.2 c2063
        refine qb_aloadn (pc' := 25) (i := 0) dX11_free_24 rfl rfl rfl ?_
        refine qb_geti (pc' := 28) (v := (hp 60 18)) dX11_free_25 rfl qf_X11_223 qb_s60 rfl rfl ?_
        refine qb_bipush (pc' := 30) dX11_free_28 rfl rfl rfl ?_
        refine qb_cne (tgt := 36) (pc' := 33) dX11_free_30 rfl rfl (fun c2064 => ?_) (fun c2064 => ?_)
        · have h := h.2 c2064
          refine qb_aloadn (pc' := 37) (i := 0) dX11_free_36 rfl rfl rfl ?_
          refine qb_geta (pc' := 40) dX11_free_37 rfl qf_X11_49 qb_s60 rfl ?_
          refine qb_aloadn (pc' := 41) (i := 0) dX11_free_40 rfl rfl rfl ?_
          refine qb_geti (pc' := 44) (v := (hp 60 18)) dX11_free_41 rfl qf_X11_223 qb_s60 rfl rfl ?_
          refine qb_iloadn (pc' := 45) (i := 1) dX11_free_44 rfl rfl rfl ?_
          obtain ⟨g1830, h⟩ := h
          refine qb_iast (pc' := 46) dX11_free_45 rfl qb_s74 g1830.1 g1830.2 ?_
          refine qb_aloadn (pc' := 47) (i := 0) dX11_free_46 rfl rfl rfl ?_
          refine qb_geta (pc' := 50) dX11_free_47 rfl qf_X11_52 qb_s60 rfl ?_
          refine qb_aloadn (pc' := 51) (i := 0) dX11_free_50 rfl rfl rfl ?_
          refine qb_geti (pc' := 54) (v := (hp 60 18)) dX11_free_51 rfl qf_X11_223 qb_s60 rfl (qb_rdn rfl rfl) ?_
          refine qb_iloadn (pc' := 55) (i := 2) dX11_free_54 rfl rfl rfl ?_
          refine qb_iast (pc' := 56) dX11_free_55 rfl qb_s75 g1830.1 g1830.2 ?_
          refine qb_aloadn (pc' := 57) (i := 0) dX11_free_56 rfl rfl rfl ?_
          refine qb_geta (pc' := 60) dX11_free_57 rfl qf_X11_55 qb_s60 rfl ?_
          refine qb_aloadn (pc' := 61) (i := 0) dX11_free_60 rfl rfl rfl ?_
          refine qb_geti (pc' := 64) (v := (hp 60 18)) dX11_free_61 rfl qf_X11_223 qb_s60 rfl (qb_rdn rfl (qb_rdn rfl rfl)) ?_
          refine qb_iloadn (pc' := 65) (i := 3) dX11_free_64 rfl rfl rfl ?_
          refine qb_iast (pc' := 66) dX11_free_65 rfl qb_s76 g1830.1 g1830.2 ?_
          refine qb_aloadn (pc' := 67) (i := 0) dX11_free_66 rfl rfl rfl ?_
          refine qb_dup (pc' := 68) dX11_free_67 rfl rfl ?_
          refine qb_geti (pc' := 71) (v := (hp 60 18)) dX11_free_68 rfl qf_X11_223 qb_s60 rfl (qb_rdn rfl (qb_rdn rfl (qb_rdn rfl rfl))) ?_
          refine qb_iconst (pc' := 72) dX11_free_71 rfl rfl ?_
          refine qb_iadd (pc' := 73) dX11_free_72 rfl (qb_ina g1830 (by decide)) ?_
          refine qb_puti (pc' := 76) (hp' := (qb_st (qb_st (qb_st (qb_st hp 74 (hp 60 18) x1) 75 (hp 60 18) x2) 76 (hp 60 18) x3) 60 18 ((hp 60 18) + 1))) dX11_free_73 rfl qf_X11_223 (Or.inl rfl) qb_s60 rfl rfl ?_
          refine qb_aloadn (pc' := 77) (i := 0) dX11_free_76 rfl rfl rfl ?_
          refine qb_geti (pc' := 80) (v := ((hp 60 18) + 1)) dX11_free_77 rfl qf_X11_223 qb_s60 rfl qb_rds ?_
          exact qb_reti dX11_free_80 rfl h
        · have h := h.1 c2064
          refine qb_bipush (pc' := 35) dX11_free_33 rfl rfl rfl ?_
          exact qb_reti dX11_free_35 rfl h
      · have h := h.1 c2063
        refine qb_bipush (pc' := 23) dX11_free_21 rfl rfl rfl ?_
        exact qb_reti dX11_free_23 rfl h
def v_m_free (x1 : Int) (x2 : Int) (x3 : Int) (hp : qb_H) : Int := (if (v_m_isDay x1) = 0 then ((-2) : Int) else (if (v_m_isPrice x2) = 0 then ((-2) : Int) else (if (v_m_isDay x3) = 0 then ((-2) : Int) else (if (hp 60 18) = 60 then ((-4) : Int) else ((hp 60 18) + 1)))))
def h_m_free (x1 : Int) (x2 : Int) (x3 : Int) (hp : qb_H) : qb_H := (if (v_m_isDay x1) = 0 then hp else (if (v_m_isPrice x2) = 0 then hp else (if (v_m_isDay x3) = 0 then hp else (if (hp 60 18) = 60 then hp else (qb_st (qb_st (qb_st (qb_st hp 74 (hp 60 18) x1) 75 (hp 60 18) x2) 76 (hp 60 18) x3) 60 18 ((hp 60 18) + 1))))))
theorem hn_m_free (x1 : Int) (x2 : Int) (x3 : Int) (hp : qb_H) (c : Nat) (h60 : c ≠ 60) (h74 : c ≠ 74) (h75 : c ≠ 75) (h76 : c ≠ 76) : h_m_free x1 x2 x3 hp c = hp c := by
  unfold h_m_free
  (repeat' split) <;> simp only [qb_st_ne, qb_cpy_ne, ne_eq, not_false_eq_true, h60, h74, h75, h76, ]
def g_m_free (x1 : Int) (x2 : Int) (x3 : Int) (hp : qb_H) : Prop := (¬ (v_m_isDay x1) = 0 → (¬ (v_m_isPrice x2) = 0 → (¬ (v_m_isDay x3) = 0 → (¬ (hp 60 18) = 60 → 0 ≤ (hp 60 18) ∧ (hp 60 18) < 60))))
theorem s_m_free (x1 : Int) (x2 : Int) (x3 : Int) (hp : qb_H) (K : Int → qb_H → Prop) (hg : g_m_free x1 x2 x3 hp) (hK : K (v_m_free x1 x2 x3 hp) (h_m_free x1 x2 x3 hp)) : c_m_free x1 x2 x3 hp K := by
  refine b_m_free ?_
  unfold g_m_free at hg
  unfold v_m_free h_m_free at hK
  refine ⟨fun c2065 => ?_, fun c2065 => ?_⟩
  · simpa only [if_pos c2065] using hK
  · have hg := hg c2065
    refine ⟨fun c2066 => ?_, fun c2066 => ?_⟩
    · simpa only [if_neg c2065, if_pos c2066] using hK
    · have hg := hg c2066
      refine ⟨fun c2067 => ?_, fun c2067 => ?_⟩
      · simpa only [if_neg c2065, if_neg c2066, if_pos c2067] using hK
      · have hg := hg c2067
        refine ⟨fun c2068 => ?_, fun c2068 => ?_⟩
        · simpa only [if_neg c2065, if_neg c2066, if_neg c2067, if_pos c2068] using hK
        · have hg := hg c2068
          refine ⟨hg, ?_⟩
          simpa only [if_neg c2065, if_neg c2066, if_neg c2067, if_neg c2068] using hK
def c_m_freeOn (x1 : Int) (x2 : Int) (hp : qb_H) (K : Int → qb_H → Prop) : Prop := qb_R mX11_freeOn 0 0 qb_sh 0 [qb_a 60, qb_i x1, qb_i x2] [] hp (qb_I qb_sh K)
theorem b_m_freeOn {x1 x2 : Int} {hp : qb_H} {K : Int → qb_H → Prop} (h : ((v_m_isDay x1) = 0 → K (-2) hp) ∧ (¬ (v_m_isDay x1) = 0 → ((v_m_isDay x2) = 0 → K (-2) hp) ∧ (¬ (v_m_isDay x2) = 0 → c_m_freeAt x1 x2 hp (fun v312 hp312 => K v312 hp312)))) : c_m_freeOn x1 x2 hp K := by
  unfold c_m_freeOn
  refine qb_iloadn (pc' := 1) (i := 1) dX11_freeOn_0 rfl rfl rfl ?_
  refine qb_callSi (pc' := 4) (as := [.inl x1]) (rest := []) dX11_freeOn_1 rfl qe_mX11_freeOn_mX11_isDay rfl rfl rfl (Nat.le_of_ble_eq_true rfl) (Nat.le_of_ble_eq_true rfl) ⟨rfl, rfl⟩ (K := fun vz hpz => (v_m_isDay x1) = vz ∧ hp = hpz) (s_m_isDay x1 hp _ trivial ⟨rfl, rfl⟩) (fun vz hpz ez => ?_)
  obtain ⟨ez1, ez2⟩ := ez
  subst ez1
  subst ez2
  refine qb_feq (tgt := 23) (pc' := 7) dX11_freeOn_4 rfl rfl (fun c2072 => ?_) (fun c2072 => ?_)
  · have h := h.1 c2072
    refine qb_bipush (pc' := 25) dX11_freeOn_23 rfl rfl rfl ?_
    exact qb_reti dX11_freeOn_25 rfl h
  · have h := h.2 c2072
    refine qb_iloadn (pc' := 8) (i := 2) dX11_freeOn_7 rfl rfl rfl ?_
    refine qb_callSi (pc' := 11) (as := [.inl x2]) (rest := []) dX11_freeOn_8 rfl qe_mX11_freeOn_mX11_isDay rfl rfl rfl (Nat.le_of_ble_eq_true rfl) (Nat.le_of_ble_eq_true rfl) ⟨rfl, rfl⟩ (K := fun vz hpz => (v_m_isDay x2) = vz ∧ hp = hpz) (s_m_isDay x2 hp _ trivial ⟨rfl, rfl⟩) (fun vz hpz ez => ?_)
    obtain ⟨ez1, ez2⟩ := ez
    subst ez1
    subst ez2
    refine qb_feq (tgt := 23) (pc' := 14) dX11_freeOn_11 rfl rfl (fun c2074 => ?_) (fun c2074 => ?_)
    · have h := h.1 c2074
      refine qb_bipush (pc' := 25) dX11_freeOn_23 rfl rfl rfl ?_
      exact qb_reti dX11_freeOn_25 rfl h
    · have h := h.2 c2074
      refine qb_aloadn (pc' := 15) (i := 0) dX11_freeOn_14 rfl rfl rfl ?_
      refine qb_iloadn (pc' := 16) (i := 1) dX11_freeOn_15 rfl rfl rfl ?_
      refine qb_iloadn (pc' := 17) (i := 2) dX11_freeOn_16 rfl rfl rfl ?_
      refine qb_callVi (pc' := 20) (b := 60) (as := [.inl x1, .inl x2]) (rest := []) dX11_freeOn_17 rfl qe_mX11_freeOn_mX11_freeAt rfl rfl qb_s60 rfl rfl (Nat.le_of_ble_eq_true rfl) (Nat.le_of_ble_eq_true rfl) ⟨rfl, rfl⟩ h (fun v312 hp312 h => ?_)
      refine qb_goto (tgt := 25) dX11_freeOn_20 rfl ?_
      exact qb_reti dX11_freeOn_25 rfl h
