/-! walks by program -/
def c_ac_isComparer (x0 : Int) (hp : qb_H) (K : Int → qb_H → Prop) : Prop := qb_R mX0_isComparer 0 0 qb_sh 0 [qb_i x0] [] hp (qb_I qb_sh K)
theorem b_ac_isComparer {x0 : Int} {hp : qb_H} {K : Int → qb_H → Prop} (h : K (v_q_within x0 60 62) hp) : c_ac_isComparer x0 hp K := by
  unfold c_ac_isComparer
  refine qb_iloadn (pc' := 1) (i := 0) dX0_isComparer_0 rfl rfl rfl ?_
  refine qb_bipush (pc' := 3) dX0_isComparer_1 rfl rfl rfl ?_
  refine qb_bipush (pc' := 5) dX0_isComparer_3 rfl rfl rfl ?_
  refine qb_callNi (pc' := 8) (as := [.inl x0, .inl 60, .inl 62]) (rest := []) dX0_isComparer_5 rfl qe_mX0_isComparer_mX10_within rfl rfl qst_mX10_within rfl rfl rfl (Nat.le_of_ble_eq_true rfl) (Nat.le_of_ble_eq_true rfl) ⟨rfl, rfl⟩ (K := fun vz hpz => (v_q_within x0 60 62) = vz ∧ hp = hpz) (s_q_within x0 60 62 hp _ trivial ⟨rfl, rfl⟩) (fun vz hpz ez => ?_)
  obtain ⟨ez1, ez2⟩ := ez
  subst ez1
  subst ez2
  exact qb_retz dX0_isComparer_8 rfl (by (repeat' split) <;> first | exact Or.inl rfl | exact Or.inr rfl | apply vb_q_within) h
def v_ac_isComparer (x0 : Int) : Int := (v_q_within x0 60 62)
theorem vb_ac_isComparer (x0 : Int) : v_ac_isComparer x0 = 0 ∨ v_ac_isComparer x0 = 1 := by
  unfold v_ac_isComparer
  (repeat' split) <;> first | exact Or.inl rfl | exact Or.inr rfl | apply vb_q_within
theorem s_ac_isComparer (x0 : Int) (hp : qb_H) (K : Int → qb_H → Prop) (hg : True) (hK : K (v_ac_isComparer x0) hp) : c_ac_isComparer x0 hp K := by
  refine b_ac_isComparer ?_
  unfold v_ac_isComparer at hK
  exact hK
def c_ac_isDigit (x0 : Int) (hp : qb_H) (K : Int → qb_H → Prop) : Prop := qb_R mX0_isDigit 0 0 qb_sh 0 [qb_i x0] [] hp (qb_I qb_sh K)
theorem b_ac_isDigit {x0 : Int} {hp : qb_H} {K : Int → qb_H → Prop} (h : K (v_q_within x0 48 57) hp) : c_ac_isDigit x0 hp K := by
  unfold c_ac_isDigit
  refine qb_iloadn (pc' := 1) (i := 0) dX0_isDigit_0 rfl rfl rfl ?_
  refine qb_bipush (pc' := 3) dX0_isDigit_1 rfl rfl rfl ?_
  refine qb_bipush (pc' := 5) dX0_isDigit_3 rfl rfl rfl ?_
  refine qb_callNi (pc' := 8) (as := [.inl x0, .inl 48, .inl 57]) (rest := []) dX0_isDigit_5 rfl qe_mX0_isDigit_mX10_within rfl rfl qst_mX10_within rfl rfl rfl (Nat.le_of_ble_eq_true rfl) (Nat.le_of_ble_eq_true rfl) ⟨rfl, rfl⟩ (K := fun vz hpz => (v_q_within x0 48 57) = vz ∧ hp = hpz) (s_q_within x0 48 57 hp _ trivial ⟨rfl, rfl⟩) (fun vz hpz ez => ?_)
  obtain ⟨ez1, ez2⟩ := ez
  subst ez1
  subst ez2
  exact qb_retz dX0_isDigit_8 rfl (by (repeat' split) <;> first | exact Or.inl rfl | exact Or.inr rfl | apply vb_q_within) h
def v_ac_isDigit (x0 : Int) : Int := (v_q_within x0 48 57)
theorem vb_ac_isDigit (x0 : Int) : v_ac_isDigit x0 = 0 ∨ v_ac_isDigit x0 = 1 := by
  unfold v_ac_isDigit
  (repeat' split) <;> first | exact Or.inl rfl | exact Or.inr rfl | apply vb_q_within
theorem s_ac_isDigit (x0 : Int) (hp : qb_H) (K : Int → qb_H → Prop) (hg : True) (hK : K (v_ac_isDigit x0) hp) : c_ac_isDigit x0 hp K := by
  refine b_ac_isDigit ?_
  unfold v_ac_isDigit at hK
  exact hK
def c_dr_behindDigit (x0 : Int) (x1 : Int) (x2 : Int) (hp : qb_H) (K : Int → qb_H → Prop) : Prop := qb_R mX3_behindDigit 0 0 qb_sh 0 [qb_i x0, qb_i x1, qb_i x2] [] hp (qb_I qb_sh K)
theorem b_dr_behindDigit {x0 x1 x2 : Int} {hp : qb_H} {K : Int → qb_H → Prop} (h : (x1 = 44 → K 2 hp) ∧ (¬ x1 = 44 → (x1 = 59 → K (if x2 = 63 then ((-1) : Int) else 0) hp) ∧ (¬ x1 = 59 → (¬ (v_ac_isDigit x1) = 0 → (¬ 8 ≤ x0 → qb_in (x0 + 1))) ∧ K (if (v_ac_isDigit x1) = 0 then ((-1) : Int) else (if 8 ≤ x0 then ((-1) : Int) else (x0 + 1))) hp))) : c_dr_behindDigit x0 x1 x2 hp K := by
  unfold c_dr_behindDigit
  refine qb_iloadn (pc' := 1) (i := 1) dX3_behindDigit_0 rfl rfl rfl ?_
  refine qb_bipush (pc' := 3) dX3_behindDigit_1 rfl rfl rfl ?_
  refine qb_cne (tgt := 8) (pc' := 6) dX3_behindDigit_3 rfl rfl (fun c188 => ?_) (fun c188 => ?_)
  · have h := h.2 c188
    refine qb_iloadn (pc' := 9) (i := 1) dX3_behindDigit_8 rfl rfl rfl ?_
    refine qb_bipush (pc' := 11) dX3_behindDigit_9 rfl rfl rfl ?_
    refine qb_cne (tgt := 26) (pc' := 14) dX3_behindDigit_11 rfl rfl (fun c189 => ?_) (fun c189 => ?_)
    · have h := h.2 c189
      refine qb_iloadn (pc' := 27) (i := 1) dX3_behindDigit_26 rfl rfl rfl ?_
      refine qb_callSi (pc' := 30) (as := [.inl x1]) (rest := []) dX3_behindDigit_27 rfl qe_mX3_behindDigit_mX0_isDigit rfl rfl rfl (Nat.le_of_ble_eq_true rfl) (Nat.le_of_ble_eq_true rfl) ⟨rfl, rfl⟩ (K := fun vz hpz => (v_ac_isDigit x1) = vz ∧ hp = hpz) (s_ac_isDigit x1 hp _ trivial ⟨rfl, rfl⟩) (fun vz hpz ez => ?_)
      obtain ⟨ez1, ez2⟩ := ez
      subst ez1
      subst ez2
      obtain ⟨gb, h⟩ := h
      have k120 : qb_R mX3_behindDigit 0 0 qb_sh 46 [none, none, none] [.inl (if (v_ac_isDigit x1) = 0 then ((-1) : Int) else (if 8 ≤ x0 then ((-1) : Int) else (x0 + 1)))] hp (qb_I qb_sh K) := by
        exact qb_reti dX3_behindDigit_46 rfl h
      refine qb_feq (tgt := 45) (pc' := 33) dX3_behindDigit_30 rfl rfl (fun c191 => ?_) (fun c191 => ?_)
      · refine qb_iconst (pc' := 46) dX3_behindDigit_45 rfl rfl ?_
        refine qb_cut (L' := [none, none, none]) [false, false, false] rfl ?_
        simpa only [if_pos c191] using k120
      · have h := gb c191
        refine qb_iloadn (pc' := 34) (i := 0) dX3_behindDigit_33 rfl rfl rfl ?_
        refine qb_bipush (pc' := 36) dX3_behindDigit_34 rfl rfl rfl ?_
        have gb := h
        have k121 : qb_R mX3_behindDigit 0 0 qb_sh 46 [none, none, none] [.inl (if 8 ≤ x0 then ((-1) : Int) else (x0 + 1))] hp (qb_I qb_sh K) := by
          refine qb_cut (L' := [none, none, none]) [false, false, false] rfl ?_
          simpa only [if_neg c191] using k120
        refine qb_cge (tgt := 45) (pc' := 39) dX3_behindDigit_36 rfl rfl (fun c193 => ?_) (fun c193 => ?_)
        · refine qb_iconst (pc' := 46) dX3_behindDigit_45 rfl rfl ?_
          refine qb_cut (L' := [none, none, none]) [false, false, false] rfl ?_
          simpa only [if_pos c193] using k121
        · have h := gb c193
          refine qb_iloadn (pc' := 40) (i := 0) dX3_behindDigit_39 rfl rfl rfl ?_
          refine qb_iconst (pc' := 41) dX3_behindDigit_40 rfl rfl ?_
          have g273 := h
          refine qb_iadd (pc' := 42) dX3_behindDigit_41 rfl g273 ?_
          refine qb_goto (tgt := 46) dX3_behindDigit_42 rfl ?_
          refine qb_cut (L' := [none, none, none]) [false, false, false] rfl ?_
          simpa only [if_neg c193] using k121
    · have h := h.1 c189
      refine qb_iloadn (pc' := 15) (i := 2) dX3_behindDigit_14 rfl rfl rfl ?_
      refine qb_bipush (pc' := 17) dX3_behindDigit_15 rfl rfl rfl ?_
      have k118 : qb_R mX3_behindDigit 0 0 qb_sh 25 [none, none, none] [.inl (if x2 = 63 then ((-1) : Int) else 0)] hp (qb_I qb_sh K) := by
        exact qb_reti dX3_behindDigit_25 rfl h
      refine qb_cne (tgt := 24) (pc' := 20) dX3_behindDigit_17 rfl rfl (fun c190 => ?_) (fun c190 => ?_)
      · refine qb_iconst (pc' := 25) dX3_behindDigit_24 rfl rfl ?_
        refine qb_cut (L' := [none, none, none]) [false, false, false] rfl ?_
        simpa only [if_neg c190] using k118
      · refine qb_iconst (pc' := 21) dX3_behindDigit_20 rfl rfl ?_
        refine qb_goto (tgt := 25) dX3_behindDigit_21 rfl ?_
        refine qb_cut (L' := [none, none, none]) [false, false, false] rfl ?_
        simpa only [if_pos c190] using k118
  · have h := h.1 c188
    refine qb_iconst (pc' := 7) dX3_behindDigit_6 rfl rfl ?_
    exact qb_reti dX3_behindDigit_7 rfl h
def v_dr_behindDigit (x0 : Int) (x1 : Int) (x2 : Int) : Int := (if x1 = 44 then (2 : Int) else (if x1 = 59 then (if x2 = 63 then ((-1) : Int) else 0) else (if (v_ac_isDigit x1) = 0 then ((-1) : Int) else (if 8 ≤ x0 then ((-1) : Int) else (x0 + 1)))))
def g_dr_behindDigit (x0 : Int) (x1 : Int) (x2 : Int) : Prop := (¬ x1 = 44 → (¬ x1 = 59 → (¬ (v_ac_isDigit x1) = 0 → (¬ 8 ≤ x0 → qb_in (x0 + 1)))))
theorem s_dr_behindDigit (x0 : Int) (x1 : Int) (x2 : Int) (hp : qb_H) (K : Int → qb_H → Prop) (hg : g_dr_behindDigit x0 x1 x2) (hK : K (v_dr_behindDigit x0 x1 x2) hp) : c_dr_behindDigit x0 x1 x2 hp K := by
  refine b_dr_behindDigit ?_
  unfold g_dr_behindDigit at hg
  unfold v_dr_behindDigit at hK
  refine ⟨fun c194 => ?_, fun c194 => ?_⟩
  · simpa only [if_pos c194] using hK
  · have hg := hg c194
    refine ⟨fun c195 => ?_, fun c195 => ?_⟩
    · simpa only [if_neg c194, if_pos c195] using hK
    · have hg := hg c195
      refine ⟨hg, ?_⟩
      simpa only [if_neg c194, if_neg c195] using hK
def c_dr_following (x0 : Int) (x1 : Int) (x2 : Int) (hp : qb_H) (K : Int → qb_H → Prop) : Prop := qb_R mX3_following 0 0 qb_sh 0 [qb_i x0, qb_i x1, qb_i x2] [] hp (qb_I qb_sh K)
theorem b_dr_following {x0 x1 x2 : Int} {hp : qb_H} {K : Int → qb_H → Prop} (h : (x0 = 0 → (g_dr_isNewLetter x1 x2) ∧ K (if (v_dr_isNewLetter x1 x2) = 0 then ((-1) : Int) else 1) hp) ∧ (¬ x0 = 0 → (x0 = 1 → K (if x1 = 58 then (2 : Int) else (-1)) hp) ∧ (¬ x0 = 1 → (x0 = 2 → K (if (v_ac_factOf x1) = (-6) then ((-1) : Int) else 3) hp) ∧ (¬ x0 = 2 → (x0 = 3 → K (if (v_ac_isComparer x1) = 0 then ((-1) : Int) else 4) hp) ∧ (¬ x0 = 3 → (x0 = 4 → K (if (v_ac_isDigit x1) = 0 then ((-1) : Int) else 5) hp) ∧ (¬ x0 = 4 → (g_dr_behindDigit x0 x1 x2) ∧ K (v_dr_behindDigit x0 x1 x2) hp)))))) : c_dr_following x0 x1 x2 hp K := by
  unfold c_dr_following
  refine qb_iloadn (pc' := 1) (i := 0) dX3_following_0 rfl rfl rfl ?_
  by_cases c196 : x0 = 0
  · have h := h.1 c196
    refine qb_tabj (tgt := 36) dX3_following_1 0 (c196.trans rfl) (by decide) rfl rfl ?_
    refine qb_iloadn (pc' := 37) (i := 1) dX3_following_36 rfl rfl rfl ?_
    refine qb_iloadn (pc' := 38) (i := 2) dX3_following_37 rfl rfl rfl ?_
    obtain ⟨g275, h⟩ := h
    refine qb_callSi (pc' := 41) (as := [.inl x1, .inl x2]) (rest := []) dX3_following_38 rfl qe_mX3_following_mX3_isNewLetter rfl rfl rfl (Nat.le_of_ble_eq_true rfl) (Nat.le_of_ble_eq_true rfl) ⟨rfl, rfl⟩ (K := fun vz hpz => (v_dr_isNewLetter x1 x2) = vz ∧ hp = hpz) (s_dr_isNewLetter x1 x2 hp _ g275 ⟨rfl, rfl⟩) (fun vz hpz ez => ?_)
    obtain ⟨ez1, ez2⟩ := ez
    subst ez1
    subst ez2
    have k122 : qb_R mX3_following 0 0 qb_sh 49 [none, none, none] [.inl (if (v_dr_isNewLetter x1 x2) = 0 then ((-1) : Int) else 1)] hp (qb_I qb_sh K) := by
      exact qb_reti dX3_following_49 rfl h
    refine qb_feq (tgt := 48) (pc' := 44) dX3_following_41 rfl rfl (fun c197 => ?_) (fun c197 => ?_)
    · refine qb_iconst (pc' := 49) dX3_following_48 rfl rfl ?_
      refine qb_cut (L' := [none, none, none]) [false, false, false] rfl ?_
      simpa only [if_pos c197] using k122
    · refine qb_iconst (pc' := 45) dX3_following_44 rfl rfl ?_
      refine qb_goto (tgt := 49) dX3_following_45 rfl ?_
      refine qb_cut (L' := [none, none, none]) [false, false, false] rfl ?_
      simpa only [if_neg c197] using k122
  · have h := h.2 c196
    by_cases c198 : x0 = 1
    · have h := h.1 c198
      refine qb_tabj (tgt := 50) dX3_following_1 1 (c198.trans rfl) (by decide) rfl rfl ?_
      refine qb_iloadn (pc' := 51) (i := 1) dX3_following_50 rfl rfl rfl ?_
      refine qb_bipush (pc' := 53) dX3_following_51 rfl rfl rfl ?_
      have k123 : qb_R mX3_following 0 0 qb_sh 61 [none, none, none] [.inl (if x1 = 58 then (2 : Int) else (-1))] hp (qb_I qb_sh K) := by
        exact qb_reti dX3_following_61 rfl h
      refine qb_cne (tgt := 60) (pc' := 56) dX3_following_53 rfl rfl (fun c199 => ?_) (fun c199 => ?_)
      · refine qb_iconst (pc' := 61) dX3_following_60 rfl rfl ?_
        refine qb_cut (L' := [none, none, none]) [false, false, false] rfl ?_
        simpa only [if_neg c199] using k123
      · refine qb_iconst (pc' := 57) dX3_following_56 rfl rfl ?_
        refine qb_goto (tgt := 61) dX3_following_57 rfl ?_
        refine qb_cut (L' := [none, none, none]) [false, false, false] rfl ?_
        simpa only [if_pos c199] using k123
    · have h := h.2 c198
      by_cases c200 : x0 = 2
      · have h := h.1 c200
        refine qb_tabj (tgt := 62) dX3_following_1 2 (c200.trans rfl) (by decide) rfl rfl ?_
        refine qb_iloadn (pc' := 63) (i := 1) dX3_following_62 rfl rfl rfl ?_
        refine qb_callSi (pc' := 66) (as := [.inl x1]) (rest := []) dX3_following_63 rfl qe_mX3_following_mX0_factOf rfl rfl rfl (Nat.le_of_ble_eq_true rfl) (Nat.le_of_ble_eq_true rfl) ⟨rfl, rfl⟩ (K := fun vz hpz => (v_ac_factOf x1) = vz ∧ hp = hpz) (s_ac_factOf x1 hp _ trivial ⟨rfl, rfl⟩) (fun vz hpz ez => ?_)
        obtain ⟨ez1, ez2⟩ := ez
        subst ez1
        subst ez2
        refine qb_bipush (pc' := 68) dX3_following_66 rfl rfl rfl ?_
        have k124 : qb_R mX3_following 0 0 qb_sh 76 [none, none, none] [.inl (if (v_ac_factOf x1) = (-6) then ((-1) : Int) else 3)] hp (qb_I qb_sh K) := by
          exact qb_reti dX3_following_76 rfl h
        refine qb_ceq (tgt := 75) (pc' := 71) dX3_following_68 rfl rfl (fun c201 => ?_) (fun c201 => ?_)
        · refine qb_iconst (pc' := 76) dX3_following_75 rfl rfl ?_
          refine qb_cut (L' := [none, none, none]) [false, false, false] rfl ?_
          simpa only [if_pos c201] using k124
        · refine qb_iconst (pc' := 72) dX3_following_71 rfl rfl ?_
          refine qb_goto (tgt := 76) dX3_following_72 rfl ?_
          refine qb_cut (L' := [none, none, none]) [false, false, false] rfl ?_
          simpa only [if_neg c201] using k124
      · have h := h.2 c200
        by_cases c202 : x0 = 3
        · have h := h.1 c202
          refine qb_tabj (tgt := 77) dX3_following_1 3 (c202.trans rfl) (by decide) rfl rfl ?_
          refine qb_iloadn (pc' := 78) (i := 1) dX3_following_77 rfl rfl rfl ?_
          refine qb_callSi (pc' := 81) (as := [.inl x1]) (rest := []) dX3_following_78 rfl qe_mX3_following_mX0_isComparer rfl rfl rfl (Nat.le_of_ble_eq_true rfl) (Nat.le_of_ble_eq_true rfl) ⟨rfl, rfl⟩ (K := fun vz hpz => (v_ac_isComparer x1) = vz ∧ hp = hpz) (s_ac_isComparer x1 hp _ trivial ⟨rfl, rfl⟩) (fun vz hpz ez => ?_)
          obtain ⟨ez1, ez2⟩ := ez
          subst ez1
          subst ez2
          have k125 : qb_R mX3_following 0 0 qb_sh 89 [none, none, none] [.inl (if (v_ac_isComparer x1) = 0 then ((-1) : Int) else 4)] hp (qb_I qb_sh K) := by
            exact qb_reti dX3_following_89 rfl h
          refine qb_feq (tgt := 88) (pc' := 84) dX3_following_81 rfl rfl (fun c203 => ?_) (fun c203 => ?_)
          · refine qb_iconst (pc' := 89) dX3_following_88 rfl rfl ?_
            refine qb_cut (L' := [none, none, none]) [false, false, false] rfl ?_
            simpa only [if_pos c203] using k125
          · refine qb_iconst (pc' := 85) dX3_following_84 rfl rfl ?_
            refine qb_goto (tgt := 89) dX3_following_85 rfl ?_
            refine qb_cut (L' := [none, none, none]) [false, false, false] rfl ?_
            simpa only [if_neg c203] using k125
        · have h := h.2 c202
          by_cases c204 : x0 = 4
          · have h := h.1 c204
            refine qb_tabj (tgt := 90) dX3_following_1 4 (c204.trans rfl) (by decide) rfl rfl ?_
            refine qb_iloadn (pc' := 91) (i := 1) dX3_following_90 rfl rfl rfl ?_
            refine qb_callSi (pc' := 94) (as := [.inl x1]) (rest := []) dX3_following_91 rfl qe_mX3_following_mX0_isDigit rfl rfl rfl (Nat.le_of_ble_eq_true rfl) (Nat.le_of_ble_eq_true rfl) ⟨rfl, rfl⟩ (K := fun vz hpz => (v_ac_isDigit x1) = vz ∧ hp = hpz) (s_ac_isDigit x1 hp _ trivial ⟨rfl, rfl⟩) (fun vz hpz ez => ?_)
            obtain ⟨ez1, ez2⟩ := ez
            subst ez1
            subst ez2
            have k126 : qb_R mX3_following 0 0 qb_sh 102 [none, none, none] [.inl (if (v_ac_isDigit x1) = 0 then ((-1) : Int) else 5)] hp (qb_I qb_sh K) := by
              exact qb_reti dX3_following_102 rfl h
            refine qb_feq (tgt := 101) (pc' := 97) dX3_following_94 rfl rfl (fun c205 => ?_) (fun c205 => ?_)
            · refine qb_iconst (pc' := 102) dX3_following_101 rfl rfl ?_
              refine qb_cut (L' := [none, none, none]) [false, false, false] rfl ?_
              simpa only [if_pos c205] using k126
            · refine qb_iconst (pc' := 98) dX3_following_97 rfl rfl ?_
              refine qb_goto (tgt := 102) dX3_following_98 rfl ?_
              refine qb_cut (L' := [none, none, none]) [false, false, false] rfl ?_
              simpa only [if_neg c205] using k126
          · have h := h.2 c204
            refine qb_tabOut (tgt := 103) dX3_following_1 (qb_sw1 (qb_sw1 (qb_sw1 (qb_sw1 (qb_sw1 (Int.lt_or_le x0 0) c196) c198) c200) c202) c204) rfl ?_
            refine qb_iloadn (pc' := 104) (i := 0) dX3_following_103 rfl rfl rfl ?_
            refine qb_iloadn (pc' := 105) (i := 1) dX3_following_104 rfl rfl rfl ?_
            refine qb_iloadn (pc' := 106) (i := 2) dX3_following_105 rfl rfl rfl ?_
            obtain ⟨g276, h⟩ := h
            refine qb_callSi (pc' := 109) (as := [.inl x0, .inl x1, .inl x2]) (rest := []) dX3_following_106 rfl qe_mX3_following_mX3_behindDigit rfl rfl rfl (Nat.le_of_ble_eq_true rfl) (Nat.le_of_ble_eq_true rfl) ⟨rfl, rfl⟩ (K := fun vz hpz => (v_dr_behindDigit x0 x1 x2) = vz ∧ hp = hpz) (s_dr_behindDigit x0 x1 x2 hp _ g276 ⟨rfl, rfl⟩) (fun vz hpz ez => ?_)
            obtain ⟨ez1, ez2⟩ := ez
            subst ez1
            subst ez2
            exact qb_reti dX3_following_109 rfl h
def v_dr_following (x0 : Int) (x1 : Int) (x2 : Int) : Int := (if x0 = 0 then (if (v_dr_isNewLetter x1 x2) = 0 then ((-1) : Int) else 1) else (if x0 = 1 then (if x1 = 58 then (2 : Int) else (-1)) else (if x0 = 2 then (if (v_ac_factOf x1) = (-6) then ((-1) : Int) else 3) else (if x0 = 3 then (if (v_ac_isComparer x1) = 0 then ((-1) : Int) else 4) else (if x0 = 4 then (if (v_ac_isDigit x1) = 0 then ((-1) : Int) else 5) else (v_dr_behindDigit x0 x1 x2))))))
def g_dr_following (x0 : Int) (x1 : Int) (x2 : Int) : Prop := (x0 = 0 → g_dr_isNewLetter x1 x2) ∧ (¬ x0 = 0 → (¬ x0 = 1 → (¬ x0 = 2 → (¬ x0 = 3 → (¬ x0 = 4 → g_dr_behindDigit x0 x1 x2)))))
theorem s_dr_following (x0 : Int) (x1 : Int) (x2 : Int) (hp : qb_H) (K : Int → qb_H → Prop) (hg : g_dr_following x0 x1 x2) (hK : K (v_dr_following x0 x1 x2) hp) : c_dr_following x0 x1 x2 hp K := by
  refine b_dr_following ?_
  unfold g_dr_following at hg
  unfold v_dr_following at hK
  refine ⟨fun c206 => ?_, fun c206 => ?_⟩
  · have hg := hg.1 c206
    refine ⟨hg, ?_⟩
    simpa only [if_pos c206] using hK
  · have hg := hg.2 c206
    refine ⟨fun c207 => ?_, fun c207 => ?_⟩
    · simpa only [if_neg c206, if_pos c207] using hK
    · have hg := hg c207
      refine ⟨fun c208 => ?_, fun c208 => ?_⟩
      · simpa only [if_neg c206, if_neg c207, if_pos c208] using hK
      · have hg := hg c208
        refine ⟨fun c209 => ?_, fun c209 => ?_⟩
        · simpa only [if_neg c206, if_neg c207, if_neg c208, if_pos c209] using hK
        · have hg := hg c209
          refine ⟨fun c210 => ?_, fun c210 => ?_⟩
          · simpa only [if_neg c206, if_neg c207, if_neg c208, if_neg c209, if_pos c210] using hK
          · have hg := hg c210
            refine ⟨hg, ?_⟩
            simpa only [if_neg c206, if_neg c207, if_neg c208, if_neg c209, if_neg c210] using hK
def c_dr_firstFault (hp : qb_H) (K : Int → qb_H → Prop) : Prop := qb_R mX3_firstFault 0 0 qb_sh 0 [qb_a 1, none, none, none, none] [] hp (qb_I qb_sh K)
def r_dr_firstFault_6 (x1 : Int) (x2 : Int) (x3 : Int) (hp : qb_H) (K : Int → qb_H → Prop) : Prop := qb_R mX3_firstFault 0 0 qb_sh 6 [qb_a 1, qb_i x1, qb_i x2, qb_i x3, none] [] hp (qb_I qb_sh K)
theorem b_dr_firstFault {hp : qb_H} {K : Int → qb_H → Prop} (h : r_dr_firstFault_6 0 0 0 hp K) : c_dr_firstFault hp K := by
  unfold c_dr_firstFault
  refine qb_iconst (pc' := 1) dX3_firstFault_0 rfl rfl ?_
  refine qb_istoren (pc' := 2) (i := 1) (L' := [qb_a 1, qb_i 0, none, none, none]) dX3_firstFault_1 rfl rfl (Nat.le_of_ble_eq_true rfl) rfl rfl ?_
  refine qb_iconst (pc' := 3) dX3_firstFault_2 rfl rfl ?_
  refine qb_istoren (pc' := 4) (i := 2) (L' := [qb_a 1, qb_i 0, qb_i 0, none, none]) dX3_firstFault_3 rfl rfl (Nat.le_of_ble_eq_true rfl) rfl rfl ?_
  refine qb_iconst (pc' := 5) dX3_firstFault_4 rfl rfl ?_
  refine qb_istoren (pc' := 6) (i := 3) (L' := [qb_a 1, qb_i 0, qb_i 0, qb_i 0, none]) dX3_firstFault_5 rfl rfl (Nat.le_of_ble_eq_true rfl) rfl rfl ?_
  refine qb_cut (L' := [qb_a 1, qb_i 0, qb_i 0, qb_i 0, none]) [true, true, true, true, false] rfl ?_
  exact h
theorem b_dr_firstFault_6 {x1 x2 x3 : Int} {hp : qb_H} {K : Int → qb_H → Prop} (h : ((hp 1 1) ≤ x3 → (∀ (y51 : Int), y51 = (if x1 < 5 then (hp 1 1) else (-6)) → K y51 hp)) ∧ (¬ (hp 1 1) ≤ x3 → (0 ≤ x3 ∧ x3 < 60) ∧ (g_dr_following x1 (hp 2 x3) x2) ∧ (((v_dr_following x1 (hp 2 x3) x2) = (-1) → K x3 hp) ∧ (¬ (v_dr_following x1 (hp 2 x3) x2) = (-1) → (x1 = 0 → g_ac_letterOf (hp 2 x3)) ∧ r_dr_firstFault_6 (v_dr_following x1 (hp 2 x3) x2) (if x1 = 0 then (qb_or x2 (qb_shl 1 (v_ac_letterOf (hp 2 x3)))) else x2) (x3 + 1) hp K)))) : r_dr_firstFault_6 x1 x2 x3 hp K := by
  unfold r_dr_firstFault_6
  refine qb_iloadn (pc' := 7) (i := 3) dX3_firstFault_6 rfl rfl rfl ?_
  refine qb_aloadn (pc' := 8) (i := 0) dX3_firstFault_7 rfl rfl rfl ?_
  refine qb_geti (pc' := 11) (v := (hp 1 1)) dX3_firstFault_8 rfl qf_X3_15 qb_s1 rfl rfl ?_
  refine qb_cge (tgt := 62) (pc' := 14) dX3_firstFault_11 rfl rfl (fun c147 => ?_) (fun c147 => ?_)
  · have h := h.1 c147
    refine qb_iloadn (pc' := 63) (i := 1) dX3_firstFault_62 rfl rfl rfl ?_
    refine qb_iconst (pc' := 64) dX3_firstFault_63 rfl rfl ?_
    have k100 : ∀ (y51 : Int), y51 = (if x1 < 5 then (hp 1 1) else (-6)) → qb_R mX3_firstFault 0 0 qb_sh 76 [none, none, none, none, none] [.inl y51] hp (qb_I qb_sh K) := by
      intro y51 ey51
      have h := h y51 ey51
      exact qb_reti dX3_firstFault_76 rfl h
    refine qb_clt (tgt := 72) (pc' := 67) dX3_firstFault_64 rfl rfl (fun c148 => ?_) (fun c148 => ?_)
    · refine qb_aloadn (pc' := 73) (i := 0) dX3_firstFault_72 rfl rfl rfl ?_
      refine qb_geti (pc' := 76) (v := (hp 1 1)) dX3_firstFault_73 rfl qf_X3_15 qb_s1 rfl rfl ?_
      refine qb_cut (L' := [none, none, none, none, none]) [false, false, false, false, false] rfl ?_
      exact k100 _ (if_pos c148).symm
    · refine qb_bipush (pc' := 69) dX3_firstFault_67 rfl rfl rfl ?_
      refine qb_goto (tgt := 76) dX3_firstFault_69 rfl ?_
      refine qb_cut (L' := [none, none, none, none, none]) [false, false, false, false, false] rfl ?_
      exact k100 _ (if_neg c148).symm
  · have h := h.2 c147
    refine qb_iloadn (pc' := 15) (i := 1) dX3_firstFault_14 rfl rfl rfl ?_
    refine qb_aloadn (pc' := 16) (i := 0) dX3_firstFault_15 rfl rfl rfl ?_
    refine qb_geta (pc' := 19) dX3_firstFault_16 rfl qf_X3_9 qb_s1 rfl ?_
    refine qb_iloadn (pc' := 20) (i := 3) dX3_firstFault_19 rfl rfl rfl ?_
    obtain ⟨g258, h⟩ := h
    refine qb_iald (pc' := 21) (v := (hp 2 x3)) dX3_firstFault_20 rfl qb_s2 g258.1 g258.2 rfl ?_
    refine qb_iloadn (pc' := 22) (i := 2) dX3_firstFault_21 rfl rfl rfl ?_
    obtain ⟨g277, h⟩ := h
    refine qb_callSi (pc' := 25) (as := [.inl x1, .inl (hp 2 x3), .inl x2]) (rest := []) dX3_firstFault_22 rfl qe_mX3_firstFault_mX3_following rfl rfl rfl (Nat.le_of_ble_eq_true rfl) (Nat.le_of_ble_eq_true rfl) ⟨rfl, rfl⟩ (K := fun vz hpz => (v_dr_following x1 (hp 2 x3) x2) = vz ∧ hp = hpz) (s_dr_following x1 (hp 2 x3) x2 hp _ g277 ⟨rfl, rfl⟩) (fun vz hpz ez => ?_)
    obtain ⟨ez1, ez2⟩ := ez
    subst ez1
    subst ez2
    refine qb_istore (pc' := 27) (L' := [qb_a 1, qb_i x1, qb_i x2, qb_i x3, qb_i (v_dr_following x1 (hp 2 x3) x2)]) dX3_firstFault_25 rfl (Nat.le_of_ble_eq_true rfl) rfl rfl ?_
    refine qb_iload (pc' := 29) dX3_firstFault_27 rfl rfl ?_
    refine qb_iconst (pc' := 30) dX3_firstFault_29 rfl rfl ?_
    refine qb_cne (tgt := 35) (pc' := 33) dX3_firstFault_30 rfl rfl (fun c211 => ?_) (fun c211 => ?_)
    · have h := h.2 c211
      refine qb_iloadn (pc' := 36) (i := 1) dX3_firstFault_35 rfl rfl rfl ?_
      obtain ⟨ga, h⟩ := h
      have k127 : qb_R mX3_firstFault 0 0 qb_sh 53 [qb_a 1, none, qb_i (if x1 = 0 then (qb_or x2 (qb_shl 1 (v_ac_letterOf (hp 2 x3)))) else x2), qb_i x3, qb_i (v_dr_following x1 (hp 2 x3) x2)] [] hp (qb_I qb_sh K) := by
        refine qb_iload (pc' := 55) dX3_firstFault_53 rfl rfl ?_
        refine qb_istoren (pc' := 56) (i := 1) (L' := [qb_a 1, qb_i (v_dr_following x1 (hp 2 x3) x2), qb_i (if x1 = 0 then (qb_or x2 (qb_shl 1 (v_ac_letterOf (hp 2 x3)))) else x2), qb_i x3, qb_i (v_dr_following x1 (hp 2 x3) x2)]) dX3_firstFault_55 rfl rfl (Nat.le_of_ble_eq_true rfl) rfl rfl ?_
        refine qb_iinc (pc' := 59) (L' := [qb_a 1, qb_i (v_dr_following x1 (hp 2 x3) x2), qb_i (if x1 = 0 then (qb_or x2 (qb_shl 1 (v_ac_letterOf (hp 2 x3)))) else x2), qb_i (x3 + 1), qb_i (v_dr_following x1 (hp 2 x3) x2)]) dX3_firstFault_56 rfl rfl (qb_ina g258 (by decide)) (Nat.le_of_ble_eq_true rfl) rfl rfl ?_
        refine qb_goto (tgt := 6) dX3_firstFault_59 rfl ?_
        refine qb_cut (L' := [qb_a 1, qb_i (v_dr_following x1 (hp 2 x3) x2), qb_i (if x1 = 0 then (qb_or x2 (qb_shl 1 (v_ac_letterOf (hp 2 x3)))) else x2), qb_i (x3 + 1), none]) [true, true, true, true, false] rfl ?_
        exact h
      refine qb_fne (tgt := 53) (pc' := 39) dX3_firstFault_36 rfl rfl (fun c212 => ?_) (fun c212 => ?_)
      · refine qb_cut (L' := [qb_a 1, none, qb_i x2, qb_i x3, qb_i (v_dr_following x1 (hp 2 x3) x2)]) [true, false, true, true, true] rfl ?_
        simpa only [if_neg c212] using k127
      · have h := ga c212
        refine qb_iloadn (pc' := 40) (i := 2) dX3_firstFault_39 rfl rfl rfl ?_
        refine qb_iconst (pc' := 41) dX3_firstFault_40 rfl rfl ?_
        refine qb_aloadn (pc' := 42) (i := 0) dX3_firstFault_41 rfl rfl rfl ?_
        refine qb_geta (pc' := 45) dX3_firstFault_42 rfl qf_X3_9 qb_s1 rfl ?_
        refine qb_iloadn (pc' := 46) (i := 3) dX3_firstFault_45 rfl rfl rfl ?_
        refine qb_iald (pc' := 47) (v := (hp 2 x3)) dX3_firstFault_46 rfl qb_s2 g258.1 g258.2 rfl ?_
        have g279 := h
        refine qb_callSi (pc' := 50) (as := [.inl (hp 2 x3)]) (rest := [.inl 1, .inl x2]) dX3_firstFault_47 rfl qe_mX3_firstFault_mX0_letterOf rfl rfl rfl (Nat.le_of_ble_eq_true rfl) (Nat.le_of_ble_eq_true rfl) ⟨rfl, rfl⟩ (K := fun vz hpz => (v_ac_letterOf (hp 2 x3)) = vz ∧ hp = hpz) (s_ac_letterOf (hp 2 x3) hp _ g279 ⟨rfl, rfl⟩) (fun vz hpz ez => ?_)
        obtain ⟨ez1, ez2⟩ := ez
        subst ez1
        subst ez2
        refine qb_ishl (pc' := 51) dX3_firstFault_50 rfl ?_
        refine qb_ior (pc' := 52) dX3_firstFault_51 rfl ?_
        refine qb_istoren (pc' := 53) (i := 2) (L' := [qb_a 1, qb_i x1, qb_i (qb_or x2 (qb_shl 1 (v_ac_letterOf (hp 2 x3)))), qb_i x3, qb_i (v_dr_following x1 (hp 2 x3) x2)]) dX3_firstFault_52 rfl rfl (Nat.le_of_ble_eq_true rfl) rfl rfl ?_
        refine qb_cut (L' := [qb_a 1, none, qb_i (qb_or x2 (qb_shl 1 (v_ac_letterOf (hp 2 x3)))), qb_i x3, qb_i (v_dr_following x1 (hp 2 x3) x2)]) [true, false, true, true, true] rfl ?_
        simpa only [if_pos c212] using k127
    · have h := h.1 c211
      refine qb_iloadn (pc' := 34) (i := 3) dX3_firstFault_33 rfl rfl rfl ?_
      exact qb_reti dX3_firstFault_34 rfl h
def c_ac_add (x1 : Int) (hp : qb_H) (K : qb_H → Prop) : Prop := qb_R mX0_add 0 0 qb_sh 0 [qb_a 3, qb_i x1, qb_a 1, none, none, none, none, none, none] [] hp (qb_U qb_sh K)
def r_ac_add_20 (x1 : Int) (x3 : Int) (x4 : Int) (x5 : Int) (x6 : Int) (x7 : Int) (hp : qb_H) (K : qb_H → Prop) : Prop := qb_R mX0_add 0 0 qb_sh 20 [qb_a 3, qb_i x1, qb_a 1, qb_i x3, qb_i x4, qb_i x5, qb_i x6, qb_i x7, none] [] hp (qb_U qb_sh K)
theorem b_ac_add {x1 : Int} {hp : qb_H} {K : qb_H → Prop} (h : (qb_in ((hp 3 6) * 15)) ∧ (∀ (y53 : Int), y53 = ((hp 3 6) * 15) → r_ac_add_20 x1 0 0 0 y53 0 hp K)) : c_ac_add x1 hp K := by
  unfold c_ac_add
  refine qb_iconst (pc' := 1) dX0_add_0 rfl rfl ?_
  refine qb_istoren (pc' := 2) (i := 3) (L' := [qb_a 3, qb_i x1, qb_a 1, qb_i 0, none, none, none, none, none]) dX0_add_1 rfl rfl (Nat.le_of_ble_eq_true rfl) rfl rfl ?_
  refine qb_iconst (pc' := 3) dX0_add_2 rfl rfl ?_
  refine qb_istore (pc' := 5) (L' := [qb_a 3, qb_i x1, qb_a 1, qb_i 0, qb_i 0, none, none, none, none]) dX0_add_3 rfl (Nat.le_of_ble_eq_true rfl) rfl rfl ?_
  refine qb_iconst (pc' := 6) dX0_add_5 rfl rfl ?_
  refine qb_istore (pc' := 8) (L' := [qb_a 3, qb_i x1, qb_a 1, qb_i 0, qb_i 0, qb_i 0, none, none, none]) dX0_add_6 rfl (Nat.le_of_ble_eq_true rfl) rfl rfl ?_
  refine qb_aloadn (pc' := 9) (i := 0) dX0_add_8 rfl rfl rfl ?_
  refine qb_geti (pc' := 12) (v := (hp 3 6)) dX0_add_9 rfl qf_X0_34 qb_s3 rfl rfl ?_
  refine qb_bipush (pc' := 14) dX0_add_12 rfl rfl rfl ?_
  obtain ⟨g281, h⟩ := h
  refine qb_imul (pc' := 15) dX0_add_14 rfl g281 ?_
  refine qb_istorey (pc' := 17) (Lf := fun y53 => [qb_a 3, qb_i x1, qb_a 1, qb_i 0, qb_i 0, qb_i 0, qb_i y53, none, none]) dX0_add_15 rfl (Nat.le_of_ble_eq_true rfl) rfl (fun _ => rfl) (fun y53 ey53 => ?_)
  have h := h y53 ey53
  refine qb_iconst (pc' := 18) dX0_add_17 rfl rfl ?_
  refine qb_istore (pc' := 20) (L' := [qb_a 3, qb_i x1, qb_a 1, qb_i 0, qb_i 0, qb_i 0, qb_i y53, qb_i 0, none]) dX0_add_18 rfl (Nat.le_of_ble_eq_true rfl) rfl rfl ?_
  refine qb_cut (L' := [qb_a 3, qb_i x1, qb_a 1, qb_i 0, qb_i 0, qb_i 0, qb_i y53, qb_i 0, none]) [true, true, true, true, true, true, true, true, false] rfl ?_
  exact h
theorem b_ac_add_20 {x1 x3 x4 x5 x6 x7 : Int} {hp : qb_H} {K : qb_H → Prop} (h : ((hp 1 1) ≤ x7 → (0 ≤ (hp 3 6) ∧ (hp 3 6) < 8) ∧ K (qb_st (qb_st (qb_st hp 4 (hp 3 6) x1) 5 (hp 3 6) x3) 3 6 ((hp 3 6) + 1))) ∧ (¬ (hp 1 1) ≤ x7 → (0 ≤ x7 ∧ x7 < 60) ∧ (g_ac_letterOf (hp 2 x7)) ∧ ((v_ac_letterOf (hp 2 x7)) = (-6) → ((v_ac_factOf (hp 2 x7)) = (-6) → ((v_ac_isComparer (hp 2 x7)) = 0 → (¬ (v_ac_isDigit (hp 2 x7)) = 0 → (¬ x3 ≤ 0 → (qb_in (x6 + x3)) ∧ (qb_in ((x6 + x3) - 1)) ∧ (0 ≤ ((x6 + x3) - 1) ∧ ((x6 + x3) - 1) < 120) ∧ (qb_in ((hp 9 ((x6 + x3) - 1)) * 10)) ∧ (qb_in (((hp 9 ((x6 + x3) - 1)) * 10) + (hp 2 x7))) ∧ qb_in ((((hp 9 ((x6 + x3) - 1)) * 10) + (hp 2 x7)) - 48)))) ∧ (¬ (v_ac_isComparer (hp 2 x7)) = 0 → (15 ≤ x3 → (¬ (v_ac_isDigit (hp 2 x7)) = 0 → (¬ x3 ≤ 0 → (qb_in (x6 + x3)) ∧ (qb_in ((x6 + x3) - 1)) ∧ (0 ≤ ((x6 + x3) - 1) ∧ ((x6 + x3) - 1) < 120) ∧ (qb_in ((hp 9 ((x6 + x3) - 1)) * 10)) ∧ (qb_in (((hp 9 ((x6 + x3) - 1)) * 10) + (hp 2 x7))) ∧ qb_in ((((hp 9 ((x6 + x3) - 1)) * 10) + (hp 2 x7)) - 48)))) ∧ (¬ 15 ≤ x3 → (qb_in (x6 + x3)) ∧ (0 ≤ (x6 + x3) ∧ (x6 + x3) < 120) ∧ qb_in (x3 + 1))))) ∧ (∀ (y54 : Int) (y55 : Int) (y56 : Int) (hq57 : qb_H), y54 = (if (v_ac_letterOf (hp 2 x7)) = (-6) then (if (v_ac_factOf (hp 2 x7)) = (-6) then (if (v_ac_isComparer (hp 2 x7)) = 0 then x3 else (if 15 ≤ x3 then x3 else (x3 + 1))) else x3) else x3) → y55 = (if (v_ac_letterOf (hp 2 x7)) = (-6) then x4 else (v_ac_letterOf (hp 2 x7))) → y56 = (if (v_ac_letterOf (hp 2 x7)) = (-6) then (if (v_ac_factOf (hp 2 x7)) = (-6) then x5 else (v_ac_factOf (hp 2 x7))) else x5) → hq57 = (if (v_ac_letterOf (hp 2 x7)) = (-6) then (if (v_ac_factOf (hp 2 x7)) = (-6) then (if (v_ac_isComparer (hp 2 x7)) = 0 then (if (v_ac_isDigit (hp 2 x7)) = 0 then hp else (if x3 ≤ 0 then hp else (qb_st hp 9 ((x6 + x3) - 1) ((((hp 9 ((x6 + x3) - 1)) * 10) + (hp 2 x7)) - 48)))) else (if 15 ≤ x3 then (if (v_ac_isDigit (hp 2 x7)) = 0 then hp else (if x3 ≤ 0 then hp else (qb_st hp 9 ((x6 + x3) - 1) ((((hp 9 ((x6 + x3) - 1)) * 10) + (hp 2 x7)) - 48)))) else (qb_st (qb_st (qb_st (qb_st hp 6 (x6 + x3) x4) 7 (x6 + x3) x5) 8 (x6 + x3) (hp 2 x7)) 9 (x6 + x3) 0))) else hp) else hp) → r_ac_add_20 x1 y54 y55 y56 x6 (x7 + 1) hq57 K))) : r_ac_add_20 x1 x3 x4 x5 x6 x7 hp K := by
  unfold r_ac_add_20
  refine qb_iload (pc' := 22) dX0_add_20 rfl rfl ?_
  refine qb_aloadn (pc' := 23) (i := 2) dX0_add_22 rfl rfl rfl ?_
  refine qb_geti (pc' := 26) (v := (hp 1 1)) dX0_add_23 rfl qf_X0_38 qb_s1 rfl rfl ?_
  refine qb_cge (tgt := 190) (pc' := 29) dX0_add_26 rfl rfl (fun c214 => ?_) (fun c214 => ?_)
  · have h := h.1 c214
    refine qb_aloadn (pc' := 191) (i := 0) dX0_add_190 rfl rfl rfl ?_
    refine qb_geta (pc' := 194) dX0_add_191 rfl qf_X0_9 qb_s3 rfl ?_
    refine qb_aloadn (pc' := 195) (i := 0) dX0_add_194 rfl rfl rfl ?_
    refine qb_geti (pc' := 198) (v := (hp 3 6)) dX0_add_195 rfl qf_X0_34 qb_s3 rfl rfl ?_
    refine qb_iloadn (pc' := 199) (i := 1) dX0_add_198 rfl rfl rfl ?_
    obtain ⟨g282, h⟩ := h
    refine qb_iast (pc' := 200) dX0_add_199 rfl qb_s4 g282.1 g282.2 ?_
    refine qb_aloadn (pc' := 201) (i := 0) dX0_add_200 rfl rfl rfl ?_
    refine qb_geta (pc' := 204) dX0_add_201 rfl qf_X0_15 qb_s3 rfl ?_
    refine qb_aloadn (pc' := 205) (i := 0) dX0_add_204 rfl rfl rfl ?_
    refine qb_geti (pc' := 208) (v := (hp 3 6)) dX0_add_205 rfl qf_X0_34 qb_s3 rfl (qb_rdn rfl rfl) ?_
    refine qb_iloadn (pc' := 209) (i := 3) dX0_add_208 rfl rfl rfl ?_
    refine qb_iast (pc' := 210) dX0_add_209 rfl qb_s5 g282.1 g282.2 ?_
    refine qb_aloadn (pc' := 211) (i := 0) dX0_add_210 rfl rfl rfl ?_
    refine qb_dup (pc' := 212) dX0_add_211 rfl rfl ?_
    refine qb_geti (pc' := 215) (v := (hp 3 6)) dX0_add_212 rfl qf_X0_34 qb_s3 rfl (qb_rdn rfl (qb_rdn rfl rfl)) ?_
    refine qb_iconst (pc' := 216) dX0_add_215 rfl rfl ?_
    refine qb_iadd (pc' := 217) dX0_add_216 rfl (qb_ina g282 (by decide)) ?_
    refine qb_puti (pc' := 220) (hp' := (qb_st (qb_st (qb_st hp 4 (hp 3 6) x1) 5 (hp 3 6) x3) 3 6 ((hp 3 6) + 1))) dX0_add_217 rfl qf_X0_34 (Or.inl rfl) qb_s3 rfl rfl ?_
    exact qb_retv dX0_add_220 rfl h
  · have h := h.2 c214
    refine qb_aloadn (pc' := 30) (i := 2) dX0_add_29 rfl rfl rfl ?_
    refine qb_geta (pc' := 33) dX0_add_30 rfl qf_X0_41 qb_s1 rfl ?_
    refine qb_iload (pc' := 35) dX0_add_33 rfl rfl ?_
    obtain ⟨g283, h⟩ := h
    refine qb_iald (pc' := 36) (v := (hp 2 x7)) dX0_add_35 rfl qb_s2 g283.1 g283.2 rfl ?_
    refine qb_istore (pc' := 38) (L' := [qb_a 3, qb_i x1, qb_a 1, qb_i x3, qb_i x4, qb_i x5, qb_i x6, qb_i x7, qb_i (hp 2 x7)]) dX0_add_36 rfl (Nat.le_of_ble_eq_true rfl) rfl rfl ?_
    refine qb_iload (pc' := 40) dX0_add_38 rfl rfl ?_
    obtain ⟨g284, h⟩ := h
    refine qb_callSi (pc' := 43) (as := [.inl (hp 2 x7)]) (rest := []) dX0_add_40 rfl qe_mX0_add_mX0_letterOf rfl rfl rfl (Nat.le_of_ble_eq_true rfl) (Nat.le_of_ble_eq_true rfl) ⟨rfl, rfl⟩ (K := fun vz hpz => (v_ac_letterOf (hp 2 x7)) = vz ∧ hp = hpz) (s_ac_letterOf (hp 2 x7) hp _ g284 ⟨rfl, rfl⟩) (fun vz hpz ez => ?_)
    obtain ⟨ez1, ez2⟩ := ez
    subst ez1
    subst ez2
    refine qb_bipush (pc' := 45) dX0_add_43 rfl rfl rfl ?_
    obtain ⟨ga, h⟩ := h
    have k171 : ∀ (y54 : Int) (y55 : Int) (y56 : Int) (hq57 : qb_H), y54 = (if (v_ac_letterOf (hp 2 x7)) = (-6) then (if (v_ac_factOf (hp 2 x7)) = (-6) then (if (v_ac_isComparer (hp 2 x7)) = 0 then x3 else (if 15 ≤ x3 then x3 else (x3 + 1))) else x3) else x3) → y55 = (if (v_ac_letterOf (hp 2 x7)) = (-6) then x4 else (v_ac_letterOf (hp 2 x7))) → y56 = (if (v_ac_letterOf (hp 2 x7)) = (-6) then (if (v_ac_factOf (hp 2 x7)) = (-6) then x5 else (v_ac_factOf (hp 2 x7))) else x5) → hq57 = (if (v_ac_letterOf (hp 2 x7)) = (-6) then (if (v_ac_factOf (hp 2 x7)) = (-6) then (if (v_ac_isComparer (hp 2 x7)) = 0 then (if (v_ac_isDigit (hp 2 x7)) = 0 then hp else (if x3 ≤ 0 then hp else (qb_st hp 9 ((x6 + x3) - 1) ((((hp 9 ((x6 + x3) - 1)) * 10) + (hp 2 x7)) - 48)))) else (if 15 ≤ x3 then (if (v_ac_isDigit (hp 2 x7)) = 0 then hp else (if x3 ≤ 0 then hp else (qb_st hp 9 ((x6 + x3) - 1) ((((hp 9 ((x6 + x3) - 1)) * 10) + (hp 2 x7)) - 48)))) else (qb_st (qb_st (qb_st (qb_st hp 6 (x6 + x3) x4) 7 (x6 + x3) x5) 8 (x6 + x3) (hp 2 x7)) 9 (x6 + x3) 0))) else hp) else hp) → qb_R mX0_add 0 0 qb_sh 184 [qb_a 3, qb_i x1, qb_a 1, qb_i y54, qb_i y55, qb_i y56, qb_i x6, qb_i x7, none] [] hq57 (qb_U qb_sh K) := by
      intro y54 y55 y56 hq57 ey54 ey55 ey56 ehq57
      have h := h y54 y55 y56 hq57 ey54 ey55 ey56 ehq57
      refine qb_iinc (pc' := 187) (L' := [qb_a 3, qb_i x1, qb_a 1, qb_i y54, qb_i y55, qb_i y56, qb_i x6, qb_i (x7 + 1), none]) dX0_add_184 rfl rfl (qb_ina g283 (by decide)) (Nat.le_of_ble_eq_true rfl) rfl rfl ?_
      refine qb_goto (tgt := 20) dX0_add_187 rfl ?_
      refine qb_cut (L' := [qb_a 3, qb_i x1, qb_a 1, qb_i y54, qb_i y55, qb_i y56, qb_i x6, qb_i (x7 + 1), none]) [true, true, true, true, true, true, true, true, false] rfl ?_
      exact h
    refine qb_ceq (tgt := 58) (pc' := 48) dX0_add_45 rfl rfl (fun c215 => ?_) (fun c215 => ?_)
    · have h := ga c215
      refine qb_iload (pc' := 60) dX0_add_58 rfl rfl ?_
      refine qb_callSi (pc' := 63) (as := [.inl (hp 2 x7)]) (rest := []) dX0_add_60 rfl qe_mX0_add_mX0_factOf rfl rfl rfl (Nat.le_of_ble_eq_true rfl) (Nat.le_of_ble_eq_true rfl) ⟨rfl, rfl⟩ (K := fun vz hpz => (v_ac_factOf (hp 2 x7)) = vz ∧ hp = hpz) (s_ac_factOf (hp 2 x7) hp _ trivial ⟨rfl, rfl⟩) (fun vz hpz ez => ?_)
      obtain ⟨ez1, ez2⟩ := ez
      subst ez1
      subst ez2
      refine qb_bipush (pc' := 65) dX0_add_63 rfl rfl rfl ?_
      have ga := h
      have k193 : qb_R mX0_add 0 0 qb_sh 184 [qb_a 3, qb_i x1, qb_a 1, qb_i (if (v_ac_factOf (hp 2 x7)) = (-6) then (if (v_ac_isComparer (hp 2 x7)) = 0 then x3 else (if 15 ≤ x3 then x3 else (x3 + 1))) else x3), qb_i x4, qb_i (if (v_ac_factOf (hp 2 x7)) = (-6) then x5 else (v_ac_factOf (hp 2 x7))), qb_i x6, qb_i x7, none] [] (if (v_ac_factOf (hp 2 x7)) = (-6) then (if (v_ac_isComparer (hp 2 x7)) = 0 then (if (v_ac_isDigit (hp 2 x7)) = 0 then hp else (if x3 ≤ 0 then hp else (qb_st hp 9 ((x6 + x3) - 1) ((((hp 9 ((x6 + x3) - 1)) * 10) + (hp 2 x7)) - 48)))) else (if 15 ≤ x3 then (if (v_ac_isDigit (hp 2 x7)) = 0 then hp else (if x3 ≤ 0 then hp else (qb_st hp 9 ((x6 + x3) - 1) ((((hp 9 ((x6 + x3) - 1)) * 10) + (hp 2 x7)) - 48)))) else (qb_st (qb_st (qb_st (qb_st hp 6 (x6 + x3) x4) 7 (x6 + x3) x5) 8 (x6 + x3) (hp 2 x7)) 9 (x6 + x3) 0))) else hp) (qb_U qb_sh K) := by
        refine qb_cut (L' := [qb_a 3, qb_i x1, qb_a 1, qb_i (if (v_ac_factOf (hp 2 x7)) = (-6) then (if (v_ac_isComparer (hp 2 x7)) = 0 then x3 else (if 15 ≤ x3 then x3 else (x3 + 1))) else x3), qb_i x4, qb_i (if (v_ac_factOf (hp 2 x7)) = (-6) then x5 else (v_ac_factOf (hp 2 x7))), qb_i x6, qb_i x7, none]) [true, true, true, true, true, true, true, true, false] rfl ?_
        exact k171 _ _ _ _ (if_pos c215).symm (if_pos c215).symm (if_pos c215).symm (if_pos c215).symm
      refine qb_ceq (tgt := 78) (pc' := 68) dX0_add_65 rfl rfl (fun c259 => ?_) (fun c259 => ?_)
      · have h := ga c259
        refine qb_iload (pc' := 80) dX0_add_78 rfl rfl ?_
        refine qb_callSi (pc' := 83) (as := [.inl (hp 2 x7)]) (rest := []) dX0_add_80 rfl qe_mX0_add_mX0_isComparer rfl rfl rfl (Nat.le_of_ble_eq_true rfl) (Nat.le_of_ble_eq_true rfl) ⟨rfl, rfl⟩ (K := fun vz hpz => (v_ac_isComparer (hp 2 x7)) = vz ∧ hp = hpz) (s_ac_isComparer (hp 2 x7) hp _ trivial ⟨rfl, rfl⟩) (fun vz hpz ez => ?_)
        obtain ⟨ez1, ez2⟩ := ez
        subst ez1
        subst ez2
        obtain ⟨ga, gb⟩ := h
        have k204 : qb_R mX0_add 0 0 qb_sh 184 [qb_a 3, qb_i x1, qb_a 1, qb_i (if (v_ac_isComparer (hp 2 x7)) = 0 then x3 else (if 15 ≤ x3 then x3 else (x3 + 1))), qb_i x4, qb_i x5, qb_i x6, qb_i x7, none] [] (if (v_ac_isComparer (hp 2 x7)) = 0 then (if (v_ac_isDigit (hp 2 x7)) = 0 then hp else (if x3 ≤ 0 then hp else (qb_st hp 9 ((x6 + x3) - 1) ((((hp 9 ((x6 + x3) - 1)) * 10) + (hp 2 x7)) - 48)))) else (if 15 ≤ x3 then (if (v_ac_isDigit (hp 2 x7)) = 0 then hp else (if x3 ≤ 0 then hp else (qb_st hp 9 ((x6 + x3) - 1) ((((hp 9 ((x6 + x3) - 1)) * 10) + (hp 2 x7)) - 48)))) else (qb_st (qb_st (qb_st (qb_st hp 6 (x6 + x3) x4) 7 (x6 + x3) x5) 8 (x6 + x3) (hp 2 x7)) 9 (x6 + x3) 0))) (qb_U qb_sh K) := by
          refine qb_cut (L' := [qb_a 3, qb_i x1, qb_a 1, qb_i (if (v_ac_isComparer (hp 2 x7)) = 0 then x3 else (if 15 ≤ x3 then x3 else (x3 + 1))), qb_i x4, qb_i x5, qb_i x6, qb_i x7, none]) [true, true, true, true, true, true, true, true, false] rfl ?_
          simpa only [if_pos c259] using k193
        refine qb_feq (tgt := 141) (pc' := 86) dX0_add_83 rfl rfl (fun c281 => ?_) (fun c281 => ?_)
        · have h := ga c281
          refine qb_iload (pc' := 143) dX0_add_141 rfl rfl ?_
          refine qb_callSi (pc' := 146) (as := [.inl (hp 2 x7)]) (rest := []) dX0_add_143 rfl qe_mX0_add_mX0_isDigit rfl rfl rfl (Nat.le_of_ble_eq_true rfl) (Nat.le_of_ble_eq_true rfl) ⟨rfl, rfl⟩ (K := fun vz hpz => (v_ac_isDigit (hp 2 x7)) = vz ∧ hp = hpz) (s_ac_isDigit (hp 2 x7) hp _ trivial ⟨rfl, rfl⟩) (fun vz hpz ez => ?_)
          obtain ⟨ez1, ez2⟩ := ez
          subst ez1
          subst ez2
          have gb := h
          have k206 : qb_R mX0_add 0 0 qb_sh 184 [qb_a 3, qb_i x1, qb_a 1, qb_i x3, qb_i x4, qb_i x5, qb_i x6, qb_i x7, none] [] (if (v_ac_isDigit (hp 2 x7)) = 0 then hp else (if x3 ≤ 0 then hp else (qb_st hp 9 ((x6 + x3) - 1) ((((hp 9 ((x6 + x3) - 1)) * 10) + (hp 2 x7)) - 48)))) (qb_U qb_sh K) := by
            refine qb_cut (L' := [qb_a 3, qb_i x1, qb_a 1, qb_i x3, qb_i x4, qb_i x5, qb_i x6, qb_i x7, none]) [true, true, true, true, true, true, true, true, false] rfl ?_
            simpa only [if_pos c281] using k204
          refine qb_feq (tgt := 184) (pc' := 149) dX0_add_146 rfl rfl (fun c292 => ?_) (fun c292 => ?_)
          · refine qb_cut (L' := [qb_a 3, qb_i x1, qb_a 1, qb_i x3, qb_i x4, qb_i x5, qb_i x6, qb_i x7, none]) [true, true, true, true, true, true, true, true, false] rfl ?_
            simpa only [if_pos c292] using k206
          · have h := gb c292
            refine qb_iloadn (pc' := 150) (i := 3) dX0_add_149 rfl rfl rfl ?_
            have gb := h
            have k207 : qb_R mX0_add 0 0 qb_sh 184 [qb_a 3, qb_i x1, qb_a 1, qb_i x3, qb_i x4, qb_i x5, qb_i x6, qb_i x7, none] [] (if x3 ≤ 0 then hp else (qb_st hp 9 ((x6 + x3) - 1) ((((hp 9 ((x6 + x3) - 1)) * 10) + (hp 2 x7)) - 48))) (qb_U qb_sh K) := by
              refine qb_cut (L' := [qb_a 3, qb_i x1, qb_a 1, qb_i x3, qb_i x4, qb_i x5, qb_i x6, qb_i x7, none]) [true, true, true, true, true, true, true, true, false] rfl ?_
              simpa only [if_neg c292] using k206
            refine qb_fle (tgt := 184) (pc' := 153) dX0_add_150 rfl rfl (fun c294 => ?_) (fun c294 => ?_)
            · refine qb_cut (L' := [qb_a 3, qb_i x1, qb_a 1, qb_i x3, qb_i x4, qb_i x5, qb_i x6, qb_i x7, none]) [true, true, true, true, true, true, true, true, false] rfl ?_
              simpa only [if_pos c294] using k207
            · have h := gb c294
              refine qb_aloadn (pc' := 154) (i := 0) dX0_add_153 rfl rfl rfl ?_
              refine qb_geta (pc' := 157) dX0_add_154 rfl qf_X0_27 qb_s3 rfl ?_
              refine qb_iload (pc' := 159) dX0_add_157 rfl rfl ?_
              refine qb_iloadn (pc' := 160) (i := 3) dX0_add_159 rfl rfl rfl ?_
              obtain ⟨g849, h⟩ := h
              refine qb_iadd (pc' := 161) dX0_add_160 rfl g849 ?_
              refine qb_iconst (pc' := 162) dX0_add_161 rfl rfl ?_
              obtain ⟨g850, h⟩ := h
              refine qb_isub (pc' := 163) dX0_add_162 rfl g850 ?_
              refine qb_aloadn (pc' := 164) (i := 0) dX0_add_163 rfl rfl rfl ?_
              refine qb_geta (pc' := 167) dX0_add_164 rfl qf_X0_27 qb_s3 rfl ?_
              refine qb_iload (pc' := 169) dX0_add_167 rfl rfl ?_
              refine qb_iloadn (pc' := 170) (i := 3) dX0_add_169 rfl rfl rfl ?_
              refine qb_iadd (pc' := 171) dX0_add_170 rfl g849 ?_
              refine qb_iconst (pc' := 172) dX0_add_171 rfl rfl ?_
              refine qb_isub (pc' := 173) dX0_add_172 rfl g850 ?_
              obtain ⟨g851, h⟩ := h
              refine qb_iald (pc' := 174) (v := (hp 9 ((x6 + x3) - 1))) dX0_add_173 rfl qb_s9 g851.1 g851.2 rfl ?_
              refine qb_bipush (pc' := 176) dX0_add_174 rfl rfl rfl ?_
              obtain ⟨g852, h⟩ := h
              refine qb_imul (pc' := 177) dX0_add_176 rfl g852 ?_
              refine qb_iload (pc' := 179) dX0_add_177 rfl rfl ?_
              obtain ⟨g853, h⟩ := h
              refine qb_iadd (pc' := 180) dX0_add_179 rfl g853 ?_
              refine qb_bipush (pc' := 182) dX0_add_180 rfl rfl rfl ?_
              have g854 := h
              refine qb_isub (pc' := 183) dX0_add_182 rfl g854 ?_
              refine qb_iast (pc' := 184) dX0_add_183 rfl qb_s9 g851.1 g851.2 ?_
              refine qb_cut (L' := [qb_a 3, qb_i x1, qb_a 1, qb_i x3, qb_i x4, qb_i x5, qb_i x6, qb_i x7, none]) [true, true, true, true, true, true, true, true, false] rfl ?_
              simpa only [if_neg c294] using k207
        · have h := gb c281
          refine qb_iloadn (pc' := 87) (i := 3) dX0_add_86 rfl rfl rfl ?_
          refine qb_bipush (pc' := 89) dX0_add_87 rfl rfl rfl ?_
          obtain ⟨ga, gb⟩ := h
          have k211 : qb_R mX0_add 0 0 qb_sh 184 [qb_a 3, qb_i x1, qb_a 1, qb_i (if 15 ≤ x3 then x3 else (x3 + 1)), qb_i x4, qb_i x5, qb_i x6, qb_i x7, none] [] (if 15 ≤ x3 then (if (v_ac_isDigit (hp 2 x7)) = 0 then hp else (if x3 ≤ 0 then hp else (qb_st hp 9 ((x6 + x3) - 1) ((((hp 9 ((x6 + x3) - 1)) * 10) + (hp 2 x7)) - 48)))) else (qb_st (qb_st (qb_st (qb_st hp 6 (x6 + x3) x4) 7 (x6 + x3) x5) 8 (x6 + x3) (hp 2 x7)) 9 (x6 + x3) 0)) (qb_U qb_sh K) := by
            refine qb_cut (L' := [qb_a 3, qb_i x1, qb_a 1, qb_i (if 15 ≤ x3 then x3 else (x3 + 1)), qb_i x4, qb_i x5, qb_i x6, qb_i x7, none]) [true, true, true, true, true, true, true, true, false] rfl ?_
            simpa only [if_neg c281] using k204
          refine qb_cge (tgt := 141) (pc' := 92) dX0_add_89 rfl rfl (fun c295 => ?_) (fun c295 => ?_)
          · have h := ga c295
            refine qb_iload (pc' := 143) dX0_add_141 rfl rfl ?_
            refine qb_callSi (pc' := 146) (as := [.inl (hp 2 x7)]) (rest := []) dX0_add_143 rfl qe_mX0_add_mX0_isDigit rfl rfl rfl (Nat.le_of_ble_eq_true rfl) (Nat.le_of_ble_eq_true rfl) ⟨rfl, rfl⟩ (K := fun vz hpz => (v_ac_isDigit (hp 2 x7)) = vz ∧ hp = hpz) (s_ac_isDigit (hp 2 x7) hp _ trivial ⟨rfl, rfl⟩) (fun vz hpz ez => ?_)
            obtain ⟨ez1, ez2⟩ := ez
            subst ez1
            subst ez2
            have gb := h
            have k213 : qb_R mX0_add 0 0 qb_sh 184 [qb_a 3, qb_i x1, qb_a 1, qb_i x3, qb_i x4, qb_i x5, qb_i x6, qb_i x7, none] [] (if (v_ac_isDigit (hp 2 x7)) = 0 then hp else (if x3 ≤ 0 then hp else (qb_st hp 9 ((x6 + x3) - 1) ((((hp 9 ((x6 + x3) - 1)) * 10) + (hp 2 x7)) - 48)))) (qb_U qb_sh K) := by
              refine qb_cut (L' := [qb_a 3, qb_i x1, qb_a 1, qb_i x3, qb_i x4, qb_i x5, qb_i x6, qb_i x7, none]) [true, true, true, true, true, true, true, true, false] rfl ?_
              simpa only [if_pos c295] using k211
            refine qb_feq (tgt := 184) (pc' := 149) dX0_add_146 rfl rfl (fun c299 => ?_) (fun c299 => ?_)
            · refine qb_cut (L' := [qb_a 3, qb_i x1, qb_a 1, qb_i x3, qb_i x4, qb_i x5, qb_i x6, qb_i x7, none]) [true, true, true, true, true, true, true, true, false] rfl ?_
              simpa only [if_pos c299] using k213
            · have h := gb c299
              refine qb_iloadn (pc' := 150) (i := 3) dX0_add_149 rfl rfl rfl ?_
              have gb := h
              have k214 : qb_R mX0_add 0 0 qb_sh 184 [qb_a 3, qb_i x1, qb_a 1, qb_i x3, qb_i x4, qb_i x5, qb_i x6, qb_i x7, none] [] (if x3 ≤ 0 then hp else (qb_st hp 9 ((x6 + x3) - 1) ((((hp 9 ((x6 + x3) - 1)) * 10) + (hp 2 x7)) - 48))) (qb_U qb_sh K) := by
                refine qb_cut (L' := [qb_a 3, qb_i x1, qb_a 1, qb_i x3, qb_i x4, qb_i x5, qb_i x6, qb_i x7, none]) [true, true, true, true, true, true, true, true, false] rfl ?_
                simpa only [if_neg c299] using k213
              refine qb_fle (tgt := 184) (pc' := 153) dX0_add_150 rfl rfl (fun c301 => ?_) (fun c301 => ?_)
              · refine qb_cut (L' := [qb_a 3, qb_i x1, qb_a 1, qb_i x3, qb_i x4, qb_i x5, qb_i x6, qb_i x7, none]) [true, true, true, true, true, true, true, true, false] rfl ?_
                simpa only [if_pos c301] using k214
              · have h := gb c301
                refine qb_aloadn (pc' := 154) (i := 0) dX0_add_153 rfl rfl rfl ?_
                refine qb_geta (pc' := 157) dX0_add_154 rfl qf_X0_27 qb_s3 rfl ?_
                refine qb_iload (pc' := 159) dX0_add_157 rfl rfl ?_
                refine qb_iloadn (pc' := 160) (i := 3) dX0_add_159 rfl rfl rfl ?_
                obtain ⟨g900, h⟩ := h
                refine qb_iadd (pc' := 161) dX0_add_160 rfl g900 ?_
                refine qb_iconst (pc' := 162) dX0_add_161 rfl rfl ?_
                obtain ⟨g901, h⟩ := h
                refine qb_isub (pc' := 163) dX0_add_162 rfl g901 ?_
                refine qb_aloadn (pc' := 164) (i := 0) dX0_add_163 rfl rfl rfl ?_
                refine qb_geta (pc' := 167) dX0_add_164 rfl qf_X0_27 qb_s3 rfl ?_
                refine qb_iload (pc' := 169) dX0_add_167 rfl rfl ?_
                refine qb_iloadn (pc' := 170) (i := 3) dX0_add_169 rfl rfl rfl ?_
                refine qb_iadd (pc' := 171) dX0_add_170 rfl g900 ?_
                refine qb_iconst (pc' := 172) dX0_add_171 rfl rfl ?_
                refine qb_isub (pc' := 173) dX0_add_172 rfl g901 ?_
                obtain ⟨g902, h⟩ := h
                refine qb_iald (pc' := 174) (v := (hp 9 ((x6 + x3) - 1))) dX0_add_173 rfl qb_s9 g902.1 g902.2 rfl ?_
                refine qb_bipush (pc' := 176) dX0_add_174 rfl rfl rfl ?_
                obtain ⟨g903, h⟩ := h
                refine qb_imul (pc' := 177) dX0_add_176 rfl g903 ?_
                refine qb_iload (pc' := 179) dX0_add_177 rfl rfl ?_
                obtain ⟨g904, h⟩ := h
                refine qb_iadd (pc' := 180) dX0_add_179 rfl g904 ?_
                refine qb_bipush (pc' := 182) dX0_add_180 rfl rfl rfl ?_
                have g905 := h
                refine qb_isub (pc' := 183) dX0_add_182 rfl g905 ?_
                refine qb_iast (pc' := 184) dX0_add_183 rfl qb_s9 g902.1 g902.2 ?_
                refine qb_cut (L' := [qb_a 3, qb_i x1, qb_a 1, qb_i x3, qb_i x4, qb_i x5, qb_i x6, qb_i x7, none]) [true, true, true, true, true, true, true, true, false] rfl ?_
                simpa only [if_neg c301] using k214
          · have h := gb c295
            refine qb_aloadn (pc' := 93) (i := 0) dX0_add_92 rfl rfl rfl ?_
            refine qb_geta (pc' := 96) dX0_add_93 rfl qf_X0_18 qb_s3 rfl ?_
            refine qb_iload (pc' := 98) dX0_add_96 rfl rfl ?_
            refine qb_iloadn (pc' := 99) (i := 3) dX0_add_98 rfl rfl rfl ?_
            obtain ⟨g906, h⟩ := h
            refine qb_iadd (pc' := 100) dX0_add_99 rfl g906 ?_
            refine qb_iload (pc' := 102) dX0_add_100 rfl rfl ?_
            obtain ⟨g907, h⟩ := h
            refine qb_iast (pc' := 103) dX0_add_102 rfl qb_s6 g907.1 g907.2 ?_
            refine qb_aloadn (pc' := 104) (i := 0) dX0_add_103 rfl rfl rfl ?_
            refine qb_geta (pc' := 107) dX0_add_104 rfl qf_X0_21 qb_s3 rfl ?_
            refine qb_iload (pc' := 109) dX0_add_107 rfl rfl ?_
            refine qb_iloadn (pc' := 110) (i := 3) dX0_add_109 rfl rfl rfl ?_
            refine qb_iadd (pc' := 111) dX0_add_110 rfl g906 ?_
            refine qb_iload (pc' := 113) dX0_add_111 rfl rfl ?_
            refine qb_iast (pc' := 114) dX0_add_113 rfl qb_s7 g907.1 g907.2 ?_
            refine qb_aloadn (pc' := 115) (i := 0) dX0_add_114 rfl rfl rfl ?_
            refine qb_geta (pc' := 118) dX0_add_115 rfl qf_X0_24 qb_s3 rfl ?_
            refine qb_iload (pc' := 120) dX0_add_118 rfl rfl ?_
            refine qb_iloadn (pc' := 121) (i := 3) dX0_add_120 rfl rfl rfl ?_
            refine qb_iadd (pc' := 122) dX0_add_121 rfl g906 ?_
            refine qb_iload (pc' := 124) dX0_add_122 rfl rfl ?_
            refine qb_iast (pc' := 125) dX0_add_124 rfl qb_s8 g907.1 g907.2 ?_
            refine qb_aloadn (pc' := 126) (i := 0) dX0_add_125 rfl rfl rfl ?_
            refine qb_geta (pc' := 129) dX0_add_126 rfl qf_X0_27 qb_s3 rfl ?_
            refine qb_iload (pc' := 131) dX0_add_129 rfl rfl ?_
            refine qb_iloadn (pc' := 132) (i := 3) dX0_add_131 rfl rfl rfl ?_
            refine qb_iadd (pc' := 133) dX0_add_132 rfl g906 ?_
            refine qb_iconst (pc' := 134) dX0_add_133 rfl rfl ?_
            refine qb_iast (pc' := 135) dX0_add_134 rfl qb_s9 g907.1 g907.2 ?_
            have g908 := h
            refine qb_iinc (pc' := 138) (L' := [qb_a 3, qb_i x1, qb_a 1, qb_i (x3 + 1), qb_i x4, qb_i x5, qb_i x6, qb_i x7, qb_i (hp 2 x7)]) dX0_add_135 rfl rfl g908 (Nat.le_of_ble_eq_true rfl) rfl rfl ?_
            refine qb_goto (tgt := 184) dX0_add_138 rfl ?_
            refine qb_cut (L' := [qb_a 3, qb_i x1, qb_a 1, qb_i (x3 + 1), qb_i x4, qb_i x5, qb_i x6, qb_i x7, none]) [true, true, true, true, true, true, true, true, false] rfl ?_
            simpa only [if_neg c295] using k211
      · refine qb_iload (pc' := 70) dX0_add_68 rfl rfl ?_
        refine qb_callSi (pc' := 73) (as := [.inl (hp 2 x7)]) (rest := []) dX0_add_70 rfl qe_mX0_add_mX0_factOf rfl rfl rfl (Nat.le_of_ble_eq_true rfl) (Nat.le_of_ble_eq_true rfl) ⟨rfl, rfl⟩ (K := fun vz hpz => (v_ac_factOf (hp 2 x7)) = vz ∧ hp = hpz) (s_ac_factOf (hp 2 x7) hp _ trivial ⟨rfl, rfl⟩) (fun vz hpz ez => ?_)
        obtain ⟨ez1, ez2⟩ := ez
        subst ez1
        subst ez2
        refine qb_istore (pc' := 75) (L' := [qb_a 3, qb_i x1, qb_a 1, qb_i x3, qb_i x4, qb_i (v_ac_factOf (hp 2 x7)), qb_i x6, qb_i x7, qb_i (hp 2 x7)]) dX0_add_73 rfl (Nat.le_of_ble_eq_true rfl) rfl rfl ?_
        refine qb_goto (tgt := 184) dX0_add_75 rfl ?_
        refine qb_cut (L' := [qb_a 3, qb_i x1, qb_a 1, qb_i x3, qb_i x4, qb_i (v_ac_factOf (hp 2 x7)), qb_i x6, qb_i x7, none]) [true, true, true, true, true, true, true, true, false] rfl ?_
        simpa only [if_neg c259] using k193
    · refine qb_iload (pc' := 50) dX0_add_48 rfl rfl ?_
      refine qb_callSi (pc' := 53) (as := [.inl (hp 2 x7)]) (rest := []) dX0_add_50 rfl qe_mX0_add_mX0_letterOf rfl rfl rfl (Nat.le_of_ble_eq_true rfl) (Nat.le_of_ble_eq_true rfl) ⟨rfl, rfl⟩ (K := fun vz hpz => (v_ac_letterOf (hp 2 x7)) = vz ∧ hp = hpz) (s_ac_letterOf (hp 2 x7) hp _ g284 ⟨rfl, rfl⟩) (fun vz hpz ez => ?_)
      obtain ⟨ez1, ez2⟩ := ez
      subst ez1
      subst ez2
      refine qb_istore (pc' := 55) (L' := [qb_a 3, qb_i x1, qb_a 1, qb_i x3, qb_i (v_ac_letterOf (hp 2 x7)), qb_i x5, qb_i x6, qb_i x7, qb_i (hp 2 x7)]) dX0_add_53 rfl (Nat.le_of_ble_eq_true rfl) rfl rfl ?_
      refine qb_goto (tgt := 184) dX0_add_55 rfl ?_
      refine qb_cut (L' := [qb_a 3, qb_i x1, qb_a 1, qb_i x3, qb_i (v_ac_letterOf (hp 2 x7)), qb_i x5, qb_i x6, qb_i x7, none]) [true, true, true, true, true, true, true, true, false] rfl ?_
      exact k171 _ _ _ _ (if_neg c215).symm (if_neg c215).symm (if_neg c215).symm (if_neg c215).symm
def c_dr_clear (hp : qb_H) (K : Int → qb_H → Prop) : Prop := qb_R mX3_clear 0 0 qb_sh 0 [qb_a 1, none] [] hp (qb_I qb_sh K)
theorem b_dr_clear {hp : qb_H} {K : Int → qb_H → Prop} (h : K (hp 1 1) (qb_st hp 1 1 0)) : c_dr_clear hp K := by
  unfold c_dr_clear
  refine qb_aloadn (pc' := 1) (i := 0) dX3_clear_0 rfl rfl rfl ?_
  refine qb_geti (pc' := 4) (v := (hp 1 1)) dX3_clear_1 rfl qf_X3_15 qb_s1 rfl rfl ?_
  refine qb_istoren (pc' := 5) (i := 1) (L' := [qb_a 1, qb_i (hp 1 1)]) dX3_clear_4 rfl rfl (Nat.le_of_ble_eq_true rfl) rfl rfl ?_
  refine qb_aloadn (pc' := 6) (i := 0) dX3_clear_5 rfl rfl rfl ?_
  refine qb_iconst (pc' := 7) dX3_clear_6 rfl rfl ?_
  refine qb_puti (pc' := 10) (hp' := (qb_st hp 1 1 0)) dX3_clear_7 rfl qf_X3_15 (Or.inl rfl) qb_s1 rfl rfl ?_
  refine qb_iloadn (pc' := 11) (i := 1) dX3_clear_10 rfl rfl rfl ?_
  exact qb_reti dX3_clear_11 rfl h
def v_dr_clear (hp : qb_H) : Int := (hp 1 1)
def h_dr_clear (hp : qb_H) : qb_H := (qb_st hp 1 1 0)
theorem hn_dr_clear (hp : qb_H) (c : Nat) (h1 : c ≠ 1) : h_dr_clear hp c = hp c := by
  unfold h_dr_clear
  (repeat' split) <;> simp only [qb_st_ne, qb_cpy_ne, ne_eq, not_false_eq_true, h1, ]
theorem s_dr_clear (hp : qb_H) (K : Int → qb_H → Prop) (hg : True) (hK : K (v_dr_clear hp) (h_dr_clear hp)) : c_dr_clear hp K := by
  refine b_dr_clear ?_
  unfold v_dr_clear h_dr_clear at hK
  exact hK
def c_q_act (x1 : Int) (hp : qb_H) (K : Int → qb_H → Prop) : Prop := qb_R mX10_act 0 0 qb_sh 0 [qb_a 0, qb_i x1] [] hp (qb_I qb_sh K)
theorem b_q_act {x1 : Int} {hp : qb_H} {K : Int → qb_H → Prop} (h : ((v_q_isDay x1) = 0 → K (-2) hp) ∧ (¬ (v_q_isDay x1) = 0 → ((hp 3 6) < 8 → c_dr_firstFault hp (fun v59 hp59 => (v59 = (-6) → c_ac_add x1 hp59 (fun hp60 => K (hp60 3 6) (h_dr_clear hp60))) ∧ (¬ v59 = (-6) → K (-5) hp59))) ∧ (¬ (hp 3 6) < 8 → K (-4) hp))) : c_q_act x1 hp K := by
  unfold c_q_act
  refine qb_iloadn (pc' := 1) (i := 1) dX10_act_0 rfl rfl rfl ?_
  refine qb_callSi (pc' := 4) (as := [.inl x1]) (rest := []) dX10_act_1 rfl qe_mX10_act_mX10_isDay rfl rfl rfl (Nat.le_of_ble_eq_true rfl) (Nat.le_of_ble_eq_true rfl) ⟨rfl, rfl⟩ (K := fun vz hpz => (v_q_isDay x1) = vz ∧ hp = hpz) (s_q_isDay x1 hp _ trivial ⟨rfl, rfl⟩) (fun vz hpz ez => ?_)
  obtain ⟨ez1, ez2⟩ := ez
  subst ez1
  subst ez2
  refine qb_fne (tgt := 10) (pc' := 7) dX10_act_4 rfl rfl (fun c302 => ?_) (fun c302 => ?_)
  · have h := h.2 c302
    refine qb_aloadn (pc' := 11) (i := 0) dX10_act_10 rfl rfl rfl ?_
    refine qb_geta (pc' := 14) dX10_act_11 rfl qf_X10_19 qb_s0 rfl ?_
    refine qb_geti (pc' := 17) (v := (hp 3 6)) dX10_act_14 rfl qf_X10_112 qb_s3 rfl rfl ?_
    refine qb_bipush (pc' := 19) dX10_act_17 rfl rfl rfl ?_
    refine qb_clt (tgt := 25) (pc' := 22) dX10_act_19 rfl rfl (fun c303 => ?_) (fun c303 => ?_)
    · have h := h.1 c303
      refine qb_aloadn (pc' := 26) (i := 0) dX10_act_25 rfl rfl rfl ?_
      refine qb_geta (pc' := 29) dX10_act_26 rfl qf_X10_10 qb_s0 rfl ?_
      refine qb_callVi (pc' := 32) (b := 1) (as := []) (rest := []) dX10_act_29 rfl qe_mX10_act_mX3_firstFault rfl rfl qb_s1 rfl rfl (Nat.le_of_ble_eq_true rfl) (Nat.le_of_ble_eq_true rfl) ⟨rfl, rfl⟩ h (fun v59 hp59 h => ?_)
      refine qb_bipush (pc' := 34) dX10_act_32 rfl rfl rfl ?_
      refine qb_ceq (tgt := 40) (pc' := 37) dX10_act_34 rfl rfl (fun c304 => ?_) (fun c304 => ?_)
      · have h := h.1 c304
        refine qb_aloadn (pc' := 41) (i := 0) dX10_act_40 rfl rfl rfl ?_
        refine qb_geta (pc' := 44) dX10_act_41 rfl qf_X10_19 qb_s0 rfl ?_
        refine qb_iloadn (pc' := 45) (i := 1) dX10_act_44 rfl rfl rfl ?_
        refine qb_aloadn (pc' := 46) (i := 0) dX10_act_45 rfl rfl rfl ?_
        refine qb_geta (pc' := 49) dX10_act_46 rfl qf_X10_10 qb_s0 rfl ?_
        refine qb_callVu (pc' := 52) (b := 3) (as := [.inl x1, .inr (.inl 1)]) (rest := []) dX10_act_49 rfl qe_mX10_act_mX0_add rfl rfl qb_s3 rfl rfl (Nat.le_of_ble_eq_true rfl) (Nat.le_of_ble_eq_true rfl) ⟨rfl, rfl⟩ h (fun hp60 h => ?_)
        refine qb_aloadn (pc' := 53) (i := 0) dX10_act_52 rfl rfl rfl ?_
        refine qb_geta (pc' := 56) dX10_act_53 rfl qf_X10_10 qb_s0 rfl ?_
        refine qb_callVi (pc' := 59) (b := 1) (as := []) (rest := []) dX10_act_56 rfl qe_mX10_act_mX3_clear rfl rfl qb_s1 rfl rfl (Nat.le_of_ble_eq_true rfl) (Nat.le_of_ble_eq_true rfl) ⟨rfl, rfl⟩ (K := fun vz hpz => (v_dr_clear hp60) = vz ∧ (h_dr_clear hp60) = hpz) (s_dr_clear  hp60 _ trivial ⟨rfl, rfl⟩) (fun vz hpz ez => ?_)
        obtain ⟨ez1, ez2⟩ := ez
        subst ez1
        subst ez2
        refine qb_pop (pc' := 60) dX10_act_59 rfl rfl ?_
        refine qb_aloadn (pc' := 61) (i := 0) dX10_act_60 rfl rfl rfl ?_
        refine qb_geta (pc' := 64) dX10_act_61 rfl qf_X10_19 qb_s0 rfl ?_
        refine qb_geti (pc' := 67) (v := (hp60 3 6)) dX10_act_64 rfl qf_X10_112 qb_s3 rfl ((congrFun (hn_dr_clear  hp60 3 (by decide)) _).trans rfl) ?_
        exact qb_reti dX10_act_67 rfl h
      · have h := h.2 c304
        refine qb_bipush (pc' := 39) dX10_act_37 rfl rfl rfl ?_
        exact qb_reti dX10_act_39 rfl h
    · have h := h.2 c303
      refine qb_bipush (pc' := 24) dX10_act_22 rfl rfl rfl ?_
      exact qb_reti dX10_act_24 rfl h
  · have h := h.1 c302
    refine qb_bipush (pc' := 9) dX10_act_7 rfl rfl rfl ?_
    exact qb_reti dX10_act_9 rfl h
def c_q_measureOne (x1 : Int) (x2 : Int) (hp : qb_H) (K : qb_H → Prop) : Prop := qb_R mX10_measureOne 0 0 qb_sh 0 [qb_a 0, qb_i x1, qb_i x2] [] hp (qb_U qb_sh K)
theorem b_q_measureOne {x1 x2 : Int} {hp : qb_H} {K : qb_H → Prop} (h : c_la_measure x2 (hp 10 1) (h_ck_start x1 hp) (fun hp63 => K hp63)) : c_q_measureOne x1 x2 hp K := by
  unfold c_q_measureOne
  refine qb_aloadn (pc' := 1) (i := 0) dX10_measureOne_0 rfl rfl rfl ?_
  refine qb_geta (pc' := 4) dX10_measureOne_1 rfl qf_X10_37 qb_s0 rfl ?_
  refine qb_iloadn (pc' := 5) (i := 1) dX10_measureOne_4 rfl rfl rfl ?_
  refine qb_callVu (pc' := 8) (b := 25) (as := [.inl x1]) (rest := []) dX10_measureOne_5 rfl qe_mX10_measureOne_mX2_start rfl rfl qb_s25 rfl rfl (Nat.le_of_ble_eq_true rfl) (Nat.le_of_ble_eq_true rfl) ⟨rfl, rfl⟩ (K := fun hpz => (h_ck_start x1 hp) = hpz) (s_ck_start x1 hp _ trivial rfl) (fun hpz ez => ?_)
  subst ez
  refine qb_aloadn (pc' := 9) (i := 0) dX10_measureOne_8 rfl rfl rfl ?_
  refine qb_geta (pc' := 12) dX10_measureOne_9 rfl qf_X10_30 qb_s0 rfl ?_
  refine qb_aloadn (pc' := 13) (i := 0) dX10_measureOne_12 rfl rfl rfl ?_
  refine qb_geta (pc' := 16) dX10_measureOne_13 rfl qf_X10_37 qb_s0 rfl ?_
  refine qb_iloadn (pc' := 17) (i := 2) dX10_measureOne_16 rfl rfl rfl ?_
  refine qb_aloadn (pc' := 18) (i := 0) dX10_measureOne_17 rfl rfl rfl ?_
  refine qb_geta (pc' := 21) dX10_measureOne_18 rfl qf_X10_23 qb_s0 rfl ?_
  refine qb_iconst (pc' := 22) dX10_measureOne_21 rfl rfl ?_
  refine qb_iald (pc' := 23) (v := (hp 10 1)) dX10_measureOne_22 rfl qb_s10 (by decide) (by decide) ((congrFun (hn_ck_start x1 hp 10 (by decide)) _).trans rfl) ?_
  refine qb_callVu (pc' := 26) (b := 11) (as := [.inr (.inl 25), .inl x2, .inl (hp 10 1)]) (rest := []) dX10_measureOne_23 rfl qe_mX10_measureOne_mX7_measure rfl rfl qb_s11 rfl rfl (Nat.le_of_ble_eq_true rfl) (Nat.le_of_ble_eq_true rfl) ⟨rfl, rfl⟩ h (fun hp63 h => ?_)
  exact qb_retv dX10_measureOne_26 rfl h
def c_sa_lotAt (x1 : Int) (x2 : Int) (hp : qb_H) (K : Int → qb_H → Prop) : Prop := qb_R mX8_lotAt 0 0 qb_sh 0 [qb_a 26, qb_i x1, qb_i x2, none] [] hp (qb_I qb_sh K)
theorem b_sa_lotAt {x1 x2 : Int} {hp : qb_H} {K : Int → qb_H → Prop} (h : c_sa_find x1 x2 hp (fun v67 hp67 => (¬ v67 = (-6) → 0 ≤ v67 ∧ v67 < 12) ∧ (∀ (y68 : Int), y68 = (if v67 = (-6) then (0 : Int) else (hp67 29 v67)) → K y68 hp67))) : c_sa_lotAt x1 x2 hp K := by
  unfold c_sa_lotAt
  refine qb_aloadn (pc' := 1) (i := 0) dX8_lotAt_0 rfl rfl rfl ?_
  refine qb_iloadn (pc' := 2) (i := 1) dX8_lotAt_1 rfl rfl rfl ?_
  refine qb_iloadn (pc' := 3) (i := 2) dX8_lotAt_2 rfl rfl rfl ?_
  refine qb_callVi (pc' := 6) (b := 26) (as := [.inl x1, .inl x2]) (rest := []) dX8_lotAt_3 rfl qe_mX8_lotAt_mX8_find rfl rfl qb_s26 rfl rfl (Nat.le_of_ble_eq_true rfl) (Nat.le_of_ble_eq_true rfl) ⟨rfl, rfl⟩ h (fun v67 hp67 h => ?_)
  refine qb_istoren (pc' := 7) (i := 3) (L' := [qb_a 26, qb_i x1, qb_i x2, qb_i v67]) dX8_lotAt_6 rfl rfl (Nat.le_of_ble_eq_true rfl) rfl rfl ?_
  refine qb_iloadn (pc' := 8) (i := 3) dX8_lotAt_7 rfl rfl rfl ?_
  refine qb_bipush (pc' := 10) dX8_lotAt_8 rfl rfl rfl ?_
  obtain ⟨gb, h⟩ := h
  have k216 : ∀ (y68 : Int), y68 = (if v67 = (-6) then (0 : Int) else (hp67 29 v67)) → qb_R mX8_lotAt 0 0 qb_sh 23 [none, none, none, none] [.inl y68] hp67 (qb_I qb_sh K) := by
    intro y68 ey68
    have h := h y68 ey68
    exact qb_reti dX8_lotAt_23 rfl h
  refine qb_cne (tgt := 17) (pc' := 13) dX8_lotAt_10 rfl rfl (fun c315 => ?_) (fun c315 => ?_)
  · have h := gb c315
    refine qb_aloadn (pc' := 18) (i := 0) dX8_lotAt_17 rfl rfl rfl ?_
    refine qb_geta (pc' := 21) dX8_lotAt_18 rfl qf_X8_18 qb_s26 rfl ?_
    refine qb_iloadn (pc' := 22) (i := 3) dX8_lotAt_21 rfl rfl rfl ?_
    have g915 := h
    refine qb_iald (pc' := 23) (v := (hp67 29 v67)) dX8_lotAt_22 rfl qb_s29 g915.1 g915.2 rfl ?_
    refine qb_cut (L' := [none, none, none, none]) [false, false, false, false] rfl ?_
    exact k216 _ (if_neg c315).symm
  · refine qb_iconst (pc' := 14) dX8_lotAt_13 rfl rfl ?_
    refine qb_goto (tgt := 23) dX8_lotAt_14 rfl ?_
    refine qb_cut (L' := [none, none, none, none]) [false, false, false, false] rfl ?_
    exact k216 _ (if_pos c315).symm
def c_q_ofCask (x1 : Int) (hp : qb_H) (K : Int → qb_H → Prop) : Prop := qb_R mX10_ofCask 0 0 qb_sh 0 [qb_a 0, qb_i x1] [] hp (qb_I qb_sh K)
theorem b_q_ofCask {x1 : Int} {hp : qb_H} {K : Int → qb_H → Prop} (h : (x1 = 0 → K (hp 25 2) hp) ∧ (¬ x1 = 0 → (x1 = 1 → K (hp 25 3) hp) ∧ (¬ x1 = 1 → (x1 = 2 → (g_q_tiers hp) ∧ K (v_q_tiers hp) hp) ∧ (¬ x1 = 2 → (x1 = 3 → c_sa_muchAt (hp 25 0) (hp 25 2) hp (fun v70 hp70 => K v70 hp70)) ∧ (¬ x1 = 3 → (x1 = 4 → c_sa_lotAt (hp 25 0) (hp 25 2) hp (fun v71 hp71 => K v71 hp71)) ∧ (¬ x1 = 4 → (x1 = 5 → K (hp 25 4) hp) ∧ (¬ x1 = 5 → K (hp 25 5) hp))))))) : c_q_ofCask x1 hp K := by
  unfold c_q_ofCask
  refine qb_iloadn (pc' := 1) (i := 1) dX10_ofCask_0 rfl rfl rfl ?_
  by_cases c317 : x1 = 0
  · have h := h.1 c317
    refine qb_tabj (tgt := 40) dX10_ofCask_1 0 (c317.trans rfl) (by decide) rfl rfl ?_
    refine qb_aloadn (pc' := 41) (i := 0) dX10_ofCask_40 rfl rfl rfl ?_
    refine qb_geta (pc' := 44) dX10_ofCask_41 rfl qf_X10_37 qb_s0 rfl ?_
    refine qb_geti (pc' := 47) (v := (hp 25 2)) dX10_ofCask_44 rfl qf_X10_315 qb_s25 rfl rfl ?_
    exact qb_reti dX10_ofCask_47 rfl h
  · have h := h.2 c317
    by_cases c318 : x1 = 1
    · have h := h.1 c318
      refine qb_tabj (tgt := 48) dX10_ofCask_1 1 (c318.trans rfl) (by decide) rfl rfl ?_
      refine qb_aloadn (pc' := 49) (i := 0) dX10_ofCask_48 rfl rfl rfl ?_
      refine qb_geta (pc' := 52) dX10_ofCask_49 rfl qf_X10_37 qb_s0 rfl ?_
      refine qb_geti (pc' := 55) (v := (hp 25 3)) dX10_ofCask_52 rfl qf_X10_318 qb_s25 rfl rfl ?_
      exact qb_reti dX10_ofCask_55 rfl h
    · have h := h.2 c318
      by_cases c319 : x1 = 2
      · have h := h.1 c319
        refine qb_tabj (tgt := 56) dX10_ofCask_1 2 (c319.trans rfl) (by decide) rfl rfl ?_
        refine qb_aloadn (pc' := 57) (i := 0) dX10_ofCask_56 rfl rfl rfl ?_
        obtain ⟨g916, h⟩ := h
        refine qb_callVi (pc' := 60) (b := 0) (as := []) (rest := []) dX10_ofCask_57 rfl qe_mX10_ofCask_mX10_tiers rfl rfl qb_s0 rfl rfl (Nat.le_of_ble_eq_true rfl) (Nat.le_of_ble_eq_true rfl) ⟨rfl, rfl⟩ (K := fun vz hpz => (v_q_tiers hp) = vz ∧ hp = hpz) (s_q_tiers  hp _ g916 ⟨rfl, rfl⟩) (fun vz hpz ez => ?_)
        obtain ⟨ez1, ez2⟩ := ez
        subst ez1
        subst ez2
        exact qb_reti dX10_ofCask_60 rfl h
      · have h := h.2 c319
        by_cases c320 : x1 = 3
        · have h := h.1 c320
          refine qb_tabj (tgt := 61) dX10_ofCask_1 3 (c320.trans rfl) (by decide) rfl rfl ?_
          refine qb_aloadn (pc' := 62) (i := 0) dX10_ofCask_61 rfl rfl rfl ?_
          refine qb_geta (pc' := 65) dX10_ofCask_62 rfl qf_X10_44 qb_s0 rfl ?_
          refine qb_aloadn (pc' := 66) (i := 0) dX10_ofCask_65 rfl rfl rfl ?_
          refine qb_geta (pc' := 69) dX10_ofCask_66 rfl qf_X10_37 qb_s0 rfl ?_
          refine qb_geti (pc' := 72) (v := (hp 25 0)) dX10_ofCask_69 rfl qf_X10_324 qb_s25 rfl rfl ?_
          refine qb_aloadn (pc' := 73) (i := 0) dX10_ofCask_72 rfl rfl rfl ?_
          refine qb_geta (pc' := 76) dX10_ofCask_73 rfl qf_X10_37 qb_s0 rfl ?_
          refine qb_geti (pc' := 79) (v := (hp 25 2)) dX10_ofCask_76 rfl qf_X10_315 qb_s25 rfl rfl ?_
          refine qb_callVi (pc' := 82) (b := 26) (as := [.inl (hp 25 0), .inl (hp 25 2)]) (rest := []) dX10_ofCask_79 rfl qe_mX10_ofCask_mX8_muchAt rfl rfl qb_s26 rfl rfl (Nat.le_of_ble_eq_true rfl) (Nat.le_of_ble_eq_true rfl) ⟨rfl, rfl⟩ h (fun v70 hp70 h => ?_)
          exact qb_reti dX10_ofCask_82 rfl h
        · have h := h.2 c320
          by_cases c321 : x1 = 4
          · have h := h.1 c321
            refine qb_tabj (tgt := 83) dX10_ofCask_1 4 (c321.trans rfl) (by decide) rfl rfl ?_
            refine qb_aloadn (pc' := 84) (i := 0) dX10_ofCask_83 rfl rfl rfl ?_
            refine qb_geta (pc' := 87) dX10_ofCask_84 rfl qf_X10_44 qb_s0 rfl ?_
            refine qb_aloadn (pc' := 88) (i := 0) dX10_ofCask_87 rfl rfl rfl ?_
            refine qb_geta (pc' := 91) dX10_ofCask_88 rfl qf_X10_37 qb_s0 rfl ?_
            refine qb_geti (pc' := 94) (v := (hp 25 0)) dX10_ofCask_91 rfl qf_X10_324 qb_s25 rfl rfl ?_
            refine qb_aloadn (pc' := 95) (i := 0) dX10_ofCask_94 rfl rfl rfl ?_
            refine qb_geta (pc' := 98) dX10_ofCask_95 rfl qf_X10_37 qb_s0 rfl ?_
            refine qb_geti (pc' := 101) (v := (hp 25 2)) dX10_ofCask_98 rfl qf_X10_315 qb_s25 rfl rfl ?_
            refine qb_callVi (pc' := 104) (b := 26) (as := [.inl (hp 25 0), .inl (hp 25 2)]) (rest := []) dX10_ofCask_101 rfl qe_mX10_ofCask_mX8_lotAt rfl rfl qb_s26 rfl rfl (Nat.le_of_ble_eq_true rfl) (Nat.le_of_ble_eq_true rfl) ⟨rfl, rfl⟩ h (fun v71 hp71 h => ?_)
            exact qb_reti dX10_ofCask_104 rfl h
          · have h := h.2 c321
            by_cases c322 : x1 = 5
            · have h := h.1 c322
              refine qb_tabj (tgt := 105) dX10_ofCask_1 5 (c322.trans rfl) (by decide) rfl rfl ?_
              refine qb_aloadn (pc' := 106) (i := 0) dX10_ofCask_105 rfl rfl rfl ?_
              refine qb_geta (pc' := 109) dX10_ofCask_106 rfl qf_X10_37 qb_s0 rfl ?_
              refine qb_geti (pc' := 112) (v := (hp 25 4)) dX10_ofCask_109 rfl qf_X10_333 qb_s25 rfl rfl ?_
              exact qb_reti dX10_ofCask_112 rfl h
            · have h := h.2 c322
              refine qb_tabOut (tgt := 113) dX10_ofCask_1 (qb_sw1 (qb_sw1 (qb_sw1 (qb_sw1 (qb_sw1 (qb_sw1 (Int.lt_or_le x1 0) c317) c318) c319) c320) c321) c322) rfl ?_
              refine qb_aloadn (pc' := 114) (i := 0) dX10_ofCask_113 rfl rfl rfl ?_
              refine qb_geta (pc' := 117) dX10_ofCask_114 rfl qf_X10_37 qb_s0 rfl ?_
              refine qb_geti (pc' := 120) (v := (hp 25 5)) dX10_ofCask_117 rfl qf_X10_336 qb_s25 rfl rfl ?_
              exact qb_reti dX10_ofCask_120 rfl h
def c_q_barrel (x1 : Int) (x2 : Int) (x3 : Int) (hp : qb_H) (K : Int → qb_H → Prop) : Prop := qb_R mX10_barrel 0 0 qb_sh 0 [qb_a 0, qb_i x1, qb_i x2, qb_i x3, none] [] hp (qb_I qb_sh K)
theorem b_q_barrel {x1 x2 x3 : Int} {hp : qb_H} {K : Int → qb_H → Prop} (h : ((v_q_isQuay x1) = 0 → K (-1) hp) ∧ (¬ (v_q_isQuay x1) = 0 → c_q_work hp (fun hp73 => (g_q_barrelsAt x1 hp73) ∧ (∀ (y74 : Int), y74 = (v_q_barrelsAt x1 hp73) → (qb_in (y74 - 1)) ∧ (((v_q_within x2 (-1) (y74 - 1)) = 0 → K (-1) hp73) ∧ (¬ (v_q_within x2 (-1) (y74 - 1)) = 0 → ((v_q_within x3 0 6) = 0 → K (-2) hp73) ∧ (¬ (v_q_within x3 0 6) = 0 → (x2 = (-1) → K y74 hp73) ∧ (¬ x2 = (-1) → c_q_measureOne x1 x2 hp73 (fun hp75 => c_q_ofCask x3 hp75 (fun v76 hp76 => K v76 hp76)))))))))) : c_q_barrel x1 x2 x3 hp K := by
  unfold c_q_barrel
  refine qb_iloadn (pc' := 1) (i := 1) dX10_barrel_0 rfl rfl rfl ?_
  refine qb_callSi (pc' := 4) (as := [.inl x1]) (rest := []) dX10_barrel_1 rfl qe_mX10_barrel_mX10_isQuay rfl rfl rfl (Nat.le_of_ble_eq_true rfl) (Nat.le_of_ble_eq_true rfl) ⟨rfl, rfl⟩ (K := fun vz hpz => (v_q_isQuay x1) = vz ∧ hp = hpz) (s_q_isQuay x1 hp _ trivial ⟨rfl, rfl⟩) (fun vz hpz ez => ?_)
  obtain ⟨ez1, ez2⟩ := ez
  subst ez1
  subst ez2
  refine qb_fne (tgt := 9) (pc' := 7) dX10_barrel_4 rfl rfl (fun c323 => ?_) (fun c323 => ?_)
  · have h := h.2 c323
    refine qb_aloadn (pc' := 10) (i := 0) dX10_barrel_9 rfl rfl rfl ?_
    refine qb_callVu (pc' := 13) (b := 0) (as := []) (rest := []) dX10_barrel_10 rfl qe_mX10_barrel_mX10_work rfl rfl qb_s0 rfl rfl (Nat.le_of_ble_eq_true rfl) (Nat.le_of_ble_eq_true rfl) ⟨rfl, rfl⟩ h (fun hp73 h => ?_)
    refine qb_aloadn (pc' := 14) (i := 0) dX10_barrel_13 rfl rfl rfl ?_
    refine qb_iloadn (pc' := 15) (i := 1) dX10_barrel_14 rfl rfl rfl ?_
    obtain ⟨g917, h⟩ := h
    refine qb_callVi (pc' := 18) (b := 0) (as := [.inl x1]) (rest := []) dX10_barrel_15 rfl qe_mX10_barrel_mX10_barrelsAt rfl rfl qb_s0 rfl rfl (Nat.le_of_ble_eq_true rfl) (Nat.le_of_ble_eq_true rfl) ⟨rfl, rfl⟩ (K := fun vz hpz => (v_q_barrelsAt x1 hp73) = vz ∧ hp73 = hpz) (s_q_barrelsAt x1 hp73 _ g917 ⟨rfl, rfl⟩) (fun vz hpz ez => ?_)
    obtain ⟨ez1, ez2⟩ := ez
    subst ez1
    subst ez2
    refine qb_istorey (pc' := 20) (Lf := fun y74 => [qb_a 0, qb_i x1, qb_i x2, qb_i x3, qb_i y74]) dX10_barrel_18 rfl (Nat.le_of_ble_eq_true rfl) rfl (fun _ => rfl) (fun y74 ey74 => ?_)
    have h := h y74 ey74
    refine qb_iloadn (pc' := 21) (i := 2) dX10_barrel_20 rfl rfl rfl ?_
    refine qb_iconst (pc' := 22) dX10_barrel_21 rfl rfl ?_
    refine qb_iload (pc' := 24) dX10_barrel_22 rfl rfl ?_
    refine qb_iconst (pc' := 25) dX10_barrel_24 rfl rfl ?_
    obtain ⟨g918, h⟩ := h
    refine qb_isub (pc' := 26) dX10_barrel_25 rfl g918 ?_
    refine qb_callSi (pc' := 29) (as := [.inl x2, .inl (-1), .inl (y74 - 1)]) (rest := []) dX10_barrel_26 rfl qe_mX10_barrel_mX10_within rfl rfl rfl (Nat.le_of_ble_eq_true rfl) (Nat.le_of_ble_eq_true rfl) ⟨rfl, rfl⟩ (K := fun vz hpz => (v_q_within x2 (-1) (y74 - 1)) = vz ∧ hp73 = hpz) (s_q_within x2 (-1) (y74 - 1) hp73 _ trivial ⟨rfl, rfl⟩) (fun vz hpz ez => ?_)
    obtain ⟨ez1, ez2⟩ := ez
    subst ez1
    subst ez2
    refine qb_fne (tgt := 34) (pc' := 32) dX10_barrel_29 rfl rfl (fun c324 => ?_) (fun c324 => ?_)
    · have h := h.2 c324
      refine qb_iloadn (pc' := 35) (i := 3) dX10_barrel_34 rfl rfl rfl ?_
      refine qb_iconst (pc' := 36) dX10_barrel_35 rfl rfl ?_
      refine qb_bipush (pc' := 38) dX10_barrel_36 rfl rfl rfl ?_
      refine qb_callSi (pc' := 41) (as := [.inl x3, .inl 0, .inl 6]) (rest := []) dX10_barrel_38 rfl qe_mX10_barrel_mX10_within rfl rfl rfl (Nat.le_of_ble_eq_true rfl) (Nat.le_of_ble_eq_true rfl) ⟨rfl, rfl⟩ (K := fun vz hpz => (v_q_within x3 0 6) = vz ∧ hp73 = hpz) (s_q_within x3 0 6 hp73 _ trivial ⟨rfl, rfl⟩) (fun vz hpz ez => ?_)
      obtain ⟨ez1, ez2⟩ := ez
      subst ez1
      subst ez2
      refine qb_fne (tgt := 47) (pc' := 44) dX10_barrel_41 rfl rfl (fun c325 => ?_) (fun c325 => ?_)
      · have h := h.2 c325
        refine qb_iloadn (pc' := 48) (i := 2) dX10_barrel_47 rfl rfl rfl ?_
        refine qb_iconst (pc' := 49) dX10_barrel_48 rfl rfl ?_
        refine qb_cne (tgt := 55) (pc' := 52) dX10_barrel_49 rfl rfl (fun c326 => ?_) (fun c326 => ?_)
        · have h := h.2 c326
          refine qb_aloadn (pc' := 56) (i := 0) dX10_barrel_55 rfl rfl rfl ?_
          refine qb_iloadn (pc' := 57) (i := 1) dX10_barrel_56 rfl rfl rfl ?_
          refine qb_iloadn (pc' := 58) (i := 2) dX10_barrel_57 rfl rfl rfl ?_
          refine qb_callVu (pc' := 61) (b := 0) (as := [.inl x1, .inl x2]) (rest := []) dX10_barrel_58 rfl qe_mX10_barrel_mX10_measureOne rfl rfl qb_s0 rfl rfl (Nat.le_of_ble_eq_true rfl) (Nat.le_of_ble_eq_true rfl) ⟨rfl, rfl⟩ h (fun hp75 h => ?_)
          refine qb_aloadn (pc' := 62) (i := 0) dX10_barrel_61 rfl rfl rfl ?_
          refine qb_iloadn (pc' := 63) (i := 3) dX10_barrel_62 rfl rfl rfl ?_
          refine qb_callVi (pc' := 66) (b := 0) (as := [.inl x3]) (rest := []) dX10_barrel_63 rfl qe_mX10_barrel_mX10_ofCask rfl rfl qb_s0 rfl rfl (Nat.le_of_ble_eq_true rfl) (Nat.le_of_ble_eq_true rfl) ⟨rfl, rfl⟩ h (fun v76 hp76 h => ?_)
          exact qb_reti dX10_barrel_66 rfl h
        · have h := h.1 c326
          refine qb_iload (pc' := 54) dX10_barrel_52 rfl rfl ?_
          exact qb_reti dX10_barrel_54 rfl h
      · have h := h.1 c325
        refine qb_bipush (pc' := 46) dX10_barrel_44 rfl rfl rfl ?_
        exact qb_reti dX10_barrel_46 rfl h
    · have h := h.1 c324
      refine qb_iconst (pc' := 33) dX10_barrel_32 rfl rfl ?_
      exact qb_reti dX10_barrel_33 rfl h
  · have h := h.1 c323
    refine qb_iconst (pc' := 8) dX10_barrel_7 rfl rfl ?_
    exact qb_reti dX10_barrel_8 rfl h
def c_q_brand (x1 : Int) (x2 : Int) (x3 : Int) (hp : qb_H) (K : Int → qb_H → Prop) : Prop := qb_R mX10_brand 0 0 qb_sh 0 [qb_a 0, qb_i x1, qb_i x2, qb_i x3] [] hp (qb_I qb_sh K)
theorem b_q_brand {x1 x2 x3 : Int} {hp : qb_H} {K : Int → qb_H → Prop} (h : ((v_q_isQuay x1) = 0 → K (-1) hp) ∧ (¬ (v_q_isQuay x1) = 0 → c_q_work hp (fun hp80 => (g_q_barrelsAt x1 hp80) ∧ (qb_in ((v_q_barrelsAt x1 hp80) - 1)) ∧ (((v_q_within x2 0 ((v_q_barrelsAt x1 hp80) - 1)) = 0 → K (-1) hp80) ∧ (¬ (v_q_within x2 0 ((v_q_barrelsAt x1 hp80) - 1)) = 0 → ((v_q_isDay x3) = 0 → K (-2) hp80) ∧ (¬ (v_q_isDay x3) = 0 → c_q_measureOne x1 x2 hp80 (fun hp81 => c_q_brandOfCask x3 hp81 (fun v82 hp82 => K v82 hp82)))))))) : c_q_brand x1 x2 x3 hp K := by
  unfold c_q_brand
  refine qb_iloadn (pc' := 1) (i := 1) dX10_brand_0 rfl rfl rfl ?_
  refine qb_callSi (pc' := 4) (as := [.inl x1]) (rest := []) dX10_brand_1 rfl qe_mX10_brand_mX10_isQuay rfl rfl rfl (Nat.le_of_ble_eq_true rfl) (Nat.le_of_ble_eq_true rfl) ⟨rfl, rfl⟩ (K := fun vz hpz => (v_q_isQuay x1) = vz ∧ hp = hpz) (s_q_isQuay x1 hp _ trivial ⟨rfl, rfl⟩) (fun vz hpz ez => ?_)
  obtain ⟨ez1, ez2⟩ := ez
  subst ez1
  subst ez2
  refine qb_fne (tgt := 9) (pc' := 7) dX10_brand_4 rfl rfl (fun c330 => ?_) (fun c330 => ?_)
  · have h := h.2 c330
    refine qb_aloadn (pc' := 10) (i := 0) dX10_brand_9 rfl rfl rfl ?_
    refine qb_callVu (pc' := 13) (b := 0) (as := []) (rest := []) dX10_brand_10 rfl qe_mX10_brand_mX10_work rfl rfl qb_s0 rfl rfl (Nat.le_of_ble_eq_true rfl) (Nat.le_of_ble_eq_true rfl) ⟨rfl, rfl⟩ h (fun hp80 h => ?_)
    refine qb_iloadn (pc' := 14) (i := 2) dX10_brand_13 rfl rfl rfl ?_
    refine qb_iconst (pc' := 15) dX10_brand_14 rfl rfl ?_
    refine qb_aloadn (pc' := 16) (i := 0) dX10_brand_15 rfl rfl rfl ?_
    refine qb_iloadn (pc' := 17) (i := 1) dX10_brand_16 rfl rfl rfl ?_
    obtain ⟨g921, h⟩ := h
    refine qb_callVi (pc' := 20) (b := 0) (as := [.inl x1]) (rest := [.inl 0, .inl x2]) dX10_brand_17 rfl qe_mX10_brand_mX10_barrelsAt rfl rfl qb_s0 rfl rfl (Nat.le_of_ble_eq_true rfl) (Nat.le_of_ble_eq_true rfl) ⟨rfl, rfl⟩ (K := fun vz hpz => (v_q_barrelsAt x1 hp80) = vz ∧ hp80 = hpz) (s_q_barrelsAt x1 hp80 _ g921 ⟨rfl, rfl⟩) (fun vz hpz ez => ?_)
    obtain ⟨ez1, ez2⟩ := ez
    subst ez1
    subst ez2
    refine qb_iconst (pc' := 21) dX10_brand_20 rfl rfl ?_
    obtain ⟨g922, h⟩ := h
    refine qb_isub (pc' := 22) dX10_brand_21 rfl g922 ?_
    refine qb_callSi (pc' := 25) (as := [.inl x2, .inl 0, .inl ((v_q_barrelsAt x1 hp80) - 1)]) (rest := []) dX10_brand_22 rfl qe_mX10_brand_mX10_within rfl rfl rfl (Nat.le_of_ble_eq_true rfl) (Nat.le_of_ble_eq_true rfl) ⟨rfl, rfl⟩ (K := fun vz hpz => (v_q_within x2 0 ((v_q_barrelsAt x1 hp80) - 1)) = vz ∧ hp80 = hpz) (s_q_within x2 0 ((v_q_barrelsAt x1 hp80) - 1) hp80 _ trivial ⟨rfl, rfl⟩) (fun vz hpz ez => ?_)
    obtain ⟨ez1, ez2⟩ := ez
    subst ez1
    subst ez2
    refine qb_fne (tgt := 30) (pc' := 28) dX10_brand_25 rfl rfl (fun c331 => ?_) (fun c331 => ?_)
    · have h := h.2 c331
      refine qb_iloadn (pc' := 31) (i := 3) dX10_brand_30 rfl rfl rfl ?_
      refine qb_callSi (pc' := 34) (as := [.inl x3]) (rest := []) dX10_brand_31 rfl qe_mX10_brand_mX10_isDay rfl rfl rfl (Nat.le_of_ble_eq_true rfl) (Nat.le_of_ble_eq_true rfl) ⟨rfl, rfl⟩ (K := fun vz hpz => (v_q_isDay x3) = vz ∧ hp80 = hpz) (s_q_isDay x3 hp80 _ trivial ⟨rfl, rfl⟩) (fun vz hpz ez => ?_)
      obtain ⟨ez1, ez2⟩ := ez
      subst ez1
      subst ez2
      refine qb_fne (tgt := 40) (pc' := 37) dX10_brand_34 rfl rfl (fun c332 => ?_) (fun c332 => ?_)
      · have h := h.2 c332
        refine qb_aloadn (pc' := 41) (i := 0) dX10_brand_40 rfl rfl rfl ?_
        refine qb_iloadn (pc' := 42) (i := 1) dX10_brand_41 rfl rfl rfl ?_
        refine qb_iloadn (pc' := 43) (i := 2) dX10_brand_42 rfl rfl rfl ?_
        refine qb_callVu (pc' := 46) (b := 0) (as := [.inl x1, .inl x2]) (rest := []) dX10_brand_43 rfl qe_mX10_brand_mX10_measureOne rfl rfl qb_s0 rfl rfl (Nat.le_of_ble_eq_true rfl) (Nat.le_of_ble_eq_true rfl) ⟨rfl, rfl⟩ h (fun hp81 h => ?_)
        refine qb_aloadn (pc' := 47) (i := 0) dX10_brand_46 rfl rfl rfl ?_
        refine qb_iloadn (pc' := 48) (i := 3) dX10_brand_47 rfl rfl rfl ?_
        refine qb_callVi (pc' := 51) (b := 0) (as := [.inl x3]) (rest := []) dX10_brand_48 rfl qe_mX10_brand_mX10_brandOfCask rfl rfl qb_s0 rfl rfl (Nat.le_of_ble_eq_true rfl) (Nat.le_of_ble_eq_true rfl) ⟨rfl, rfl⟩ h (fun v82 hp82 h => ?_)
        exact qb_reti dX10_brand_51 rfl h
      · have h := h.1 c332
        refine qb_bipush (pc' := 39) dX10_brand_37 rfl rfl rfl ?_
        exact qb_reti dX10_brand_39 rfl h
    · have h := h.1 c331
      refine qb_iconst (pc' := 29) dX10_brand_28 rfl rfl ?_
      exact qb_reti dX10_brand_29 rfl h
  · have h := h.1 c330
    refine qb_iconst (pc' := 8) dX10_brand_7 rfl rfl ?_
    exact qb_reti dX10_brand_8 rfl h
def c_int_bitCount (x0 : Int) (hp : qb_H) (K : Int → qb_H → Prop) : Prop := qb_R mJ6_bitCount_0f7a4 0 0 qb_sh 0 [qb_i x0] [] hp (qb_I qb_sh K)
theorem b_int_bitCount {x0 : Int} {hp : qb_H} {K : Int → qb_H → Prop} (h : (qb_in (x0 - (qb_and (qb_ushr x0 1) 1431655765))) ∧ (qb_in ((qb_and (x0 - (qb_and (qb_ushr x0 1) 1431655765)) 858993459) + (qb_and (qb_ushr (x0 - (qb_and (qb_ushr x0 1) 1431655765)) 2) 858993459))) ∧ (qb_in (((qb_and (x0 - (qb_and (qb_ushr x0 1) 1431655765)) 858993459) + (qb_and (qb_ushr (x0 - (qb_and (qb_ushr x0 1) 1431655765)) 2) 858993459)) + (qb_ushr ((qb_and (x0 - (qb_and (qb_ushr x0 1) 1431655765)) 858993459) + (qb_and (qb_ushr (x0 - (qb_and (qb_ushr x0 1) 1431655765)) 2) 858993459)) 4))) ∧ (qb_in ((qb_and (((qb_and (x0 - (qb_and (qb_ushr x0 1) 1431655765)) 858993459) + (qb_and (qb_ushr (x0 - (qb_and (qb_ushr x0 1) 1431655765)) 2) 858993459)) + (qb_ushr ((qb_and (x0 - (qb_and (qb_ushr x0 1) 1431655765)) 858993459) + (qb_and (qb_ushr (x0 - (qb_and (qb_ushr x0 1) 1431655765)) 2) 858993459)) 4)) 252645135) + (qb_ushr (qb_and (((qb_and (x0 - (qb_and (qb_ushr x0 1) 1431655765)) 858993459) + (qb_and (qb_ushr (x0 - (qb_and (qb_ushr x0 1) 1431655765)) 2) 858993459)) + (qb_ushr ((qb_and (x0 - (qb_and (qb_ushr x0 1) 1431655765)) 858993459) + (qb_and (qb_ushr (x0 - (qb_and (qb_ushr x0 1) 1431655765)) 2) 858993459)) 4)) 252645135) 8))) ∧ (qb_in (((qb_and (((qb_and (x0 - (qb_and (qb_ushr x0 1) 1431655765)) 858993459) + (qb_and (qb_ushr (x0 - (qb_and (qb_ushr x0 1) 1431655765)) 2) 858993459)) + (qb_ushr ((qb_and (x0 - (qb_and (qb_ushr x0 1) 1431655765)) 858993459) + (qb_and (qb_ushr (x0 - (qb_and (qb_ushr x0 1) 1431655765)) 2) 858993459)) 4)) 252645135) + (qb_ushr (qb_and (((qb_and (x0 - (qb_and (qb_ushr x0 1) 1431655765)) 858993459) + (qb_and (qb_ushr (x0 - (qb_and (qb_ushr x0 1) 1431655765)) 2) 858993459)) + (qb_ushr ((qb_and (x0 - (qb_and (qb_ushr x0 1) 1431655765)) 858993459) + (qb_and (qb_ushr (x0 - (qb_and (qb_ushr x0 1) 1431655765)) 2) 858993459)) 4)) 252645135) 8)) + (qb_ushr ((qb_and (((qb_and (x0 - (qb_and (qb_ushr x0 1) 1431655765)) 858993459) + (qb_and (qb_ushr (x0 - (qb_and (qb_ushr x0 1) 1431655765)) 2) 858993459)) + (qb_ushr ((qb_and (x0 - (qb_and (qb_ushr x0 1) 1431655765)) 858993459) + (qb_and (qb_ushr (x0 - (qb_and (qb_ushr x0 1) 1431655765)) 2) 858993459)) 4)) 252645135) + (qb_ushr (qb_and (((qb_and (x0 - (qb_and (qb_ushr x0 1) 1431655765)) 858993459) + (qb_and (qb_ushr (x0 - (qb_and (qb_ushr x0 1) 1431655765)) 2) 858993459)) + (qb_ushr ((qb_and (x0 - (qb_and (qb_ushr x0 1) 1431655765)) 858993459) + (qb_and (qb_ushr (x0 - (qb_and (qb_ushr x0 1) 1431655765)) 2) 858993459)) 4)) 252645135) 8)) 16))) ∧ K (qb_and (((qb_and (((qb_and (x0 - (qb_and (qb_ushr x0 1) 1431655765)) 858993459) + (qb_and (qb_ushr (x0 - (qb_and (qb_ushr x0 1) 1431655765)) 2) 858993459)) + (qb_ushr ((qb_and (x0 - (qb_and (qb_ushr x0 1) 1431655765)) 858993459) + (qb_and (qb_ushr (x0 - (qb_and (qb_ushr x0 1) 1431655765)) 2) 858993459)) 4)) 252645135) + (qb_ushr (qb_and (((qb_and (x0 - (qb_and (qb_ushr x0 1) 1431655765)) 858993459) + (qb_and (qb_ushr (x0 - (qb_and (qb_ushr x0 1) 1431655765)) 2) 858993459)) + (qb_ushr ((qb_and (x0 - (qb_and (qb_ushr x0 1) 1431655765)) 858993459) + (qb_and (qb_ushr (x0 - (qb_and (qb_ushr x0 1) 1431655765)) 2) 858993459)) 4)) 252645135) 8)) + (qb_ushr ((qb_and (((qb_and (x0 - (qb_and (qb_ushr x0 1) 1431655765)) 858993459) + (qb_and (qb_ushr (x0 - (qb_and (qb_ushr x0 1) 1431655765)) 2) 858993459)) + (qb_ushr ((qb_and (x0 - (qb_and (qb_ushr x0 1) 1431655765)) 858993459) + (qb_and (qb_ushr (x0 - (qb_and (qb_ushr x0 1) 1431655765)) 2) 858993459)) 4)) 252645135) + (qb_ushr (qb_and (((qb_and (x0 - (qb_and (qb_ushr x0 1) 1431655765)) 858993459) + (qb_and (qb_ushr (x0 - (qb_and (qb_ushr x0 1) 1431655765)) 2) 858993459)) + (qb_ushr ((qb_and (x0 - (qb_and (qb_ushr x0 1) 1431655765)) 858993459) + (qb_and (qb_ushr (x0 - (qb_and (qb_ushr x0 1) 1431655765)) 2) 858993459)) 4)) 252645135) 8)) 16)) 63) hp) : c_int_bitCount x0 hp K := by
  unfold c_int_bitCount
  refine qb_iloadn (pc' := 1) (i := 0) dJ6_bitCount_0f7a4_0 rfl rfl rfl ?_
  refine qb_iloadn (pc' := 2) (i := 0) dJ6_bitCount_0f7a4_1 rfl rfl rfl ?_
  refine qb_iconst (pc' := 3) dJ6_bitCount_0f7a4_2 rfl rfl ?_
  refine qb_iushr (pc' := 4) dJ6_bitCount_0f7a4_3 rfl ?_
  refine qb_ldcw (pc' := 7) (n := 1431655765) dJ6_bitCount_0f7a4_4 rfl rfl (qb_wg_in 708 (by decide +kernel) (by decide +kernel)) ?_
  refine qb_iand (pc' := 8) dJ6_bitCount_0f7a4_7 rfl ?_
  obtain ⟨g929, h⟩ := h
  refine qb_isub (pc' := 9) dJ6_bitCount_0f7a4_8 rfl g929 ?_
  refine qb_istoren (pc' := 10) (i := 0) (L' := [qb_i (x0 - (qb_and (qb_ushr x0 1) 1431655765))]) dJ6_bitCount_0f7a4_9 rfl rfl (Nat.le_of_ble_eq_true rfl) rfl rfl ?_
  refine qb_iloadn (pc' := 11) (i := 0) dJ6_bitCount_0f7a4_10 rfl rfl rfl ?_
  refine qb_ldcw (pc' := 14) (n := 858993459) dJ6_bitCount_0f7a4_11 rfl rfl (qb_wg_in 709 (by decide +kernel) (by decide +kernel)) ?_
  refine qb_iand (pc' := 15) dJ6_bitCount_0f7a4_14 rfl ?_
  refine qb_iloadn (pc' := 16) (i := 0) dJ6_bitCount_0f7a4_15 rfl rfl rfl ?_
  refine qb_iconst (pc' := 17) dJ6_bitCount_0f7a4_16 rfl rfl ?_
  refine qb_iushr (pc' := 18) dJ6_bitCount_0f7a4_17 rfl ?_
  refine qb_ldcw (pc' := 21) (n := 858993459) dJ6_bitCount_0f7a4_18 rfl rfl (qb_wg_in 709 (by decide +kernel) (by decide +kernel)) ?_
  refine qb_iand (pc' := 22) dJ6_bitCount_0f7a4_21 rfl ?_
  obtain ⟨g930, h⟩ := h
  refine qb_iadd (pc' := 23) dJ6_bitCount_0f7a4_22 rfl g930 ?_
  refine qb_istoren (pc' := 24) (i := 0) (L' := [qb_i ((qb_and (x0 - (qb_and (qb_ushr x0 1) 1431655765)) 858993459) + (qb_and (qb_ushr (x0 - (qb_and (qb_ushr x0 1) 1431655765)) 2) 858993459))]) dJ6_bitCount_0f7a4_23 rfl rfl (Nat.le_of_ble_eq_true rfl) rfl rfl ?_
  refine qb_iloadn (pc' := 25) (i := 0) dJ6_bitCount_0f7a4_24 rfl rfl rfl ?_
  refine qb_iloadn (pc' := 26) (i := 0) dJ6_bitCount_0f7a4_25 rfl rfl rfl ?_
  refine qb_iconst (pc' := 27) dJ6_bitCount_0f7a4_26 rfl rfl ?_
  refine qb_iushr (pc' := 28) dJ6_bitCount_0f7a4_27 rfl ?_
  obtain ⟨g931, h⟩ := h
  refine qb_iadd (pc' := 29) dJ6_bitCount_0f7a4_28 rfl g931 ?_
  refine qb_ldcw (pc' := 32) (n := 252645135) dJ6_bitCount_0f7a4_29 rfl rfl (qb_wg_in 710 (by decide +kernel) (by decide +kernel)) ?_
  refine qb_iand (pc' := 33) dJ6_bitCount_0f7a4_32 rfl ?_
  refine qb_istoren (pc' := 34) (i := 0) (L' := [qb_i (qb_and (((qb_and (x0 - (qb_and (qb_ushr x0 1) 1431655765)) 858993459) + (qb_and (qb_ushr (x0 - (qb_and (qb_ushr x0 1) 1431655765)) 2) 858993459)) + (qb_ushr ((qb_and (x0 - (qb_and (qb_ushr x0 1) 1431655765)) 858993459) + (qb_and (qb_ushr (x0 - (qb_and (qb_ushr x0 1) 1431655765)) 2) 858993459)) 4)) 252645135)]) dJ6_bitCount_0f7a4_33 rfl rfl (Nat.le_of_ble_eq_true rfl) rfl rfl ?_
  refine qb_iloadn (pc' := 35) (i := 0) dJ6_bitCount_0f7a4_34 rfl rfl rfl ?_
  refine qb_iloadn (pc' := 36) (i := 0) dJ6_bitCount_0f7a4_35 rfl rfl rfl ?_
  refine qb_bipush (pc' := 38) dJ6_bitCount_0f7a4_36 rfl rfl rfl ?_
  refine qb_iushr (pc' := 39) dJ6_bitCount_0f7a4_38 rfl ?_
  obtain ⟨g932, h⟩ := h
  refine qb_iadd (pc' := 40) dJ6_bitCount_0f7a4_39 rfl g932 ?_
  refine qb_istoren (pc' := 41) (i := 0) (L' := [qb_i ((qb_and (((qb_and (x0 - (qb_and (qb_ushr x0 1) 1431655765)) 858993459) + (qb_and (qb_ushr (x0 - (qb_and (qb_ushr x0 1) 1431655765)) 2) 858993459)) + (qb_ushr ((qb_and (x0 - (qb_and (qb_ushr x0 1) 1431655765)) 858993459) + (qb_and (qb_ushr (x0 - (qb_and (qb_ushr x0 1) 1431655765)) 2) 858993459)) 4)) 252645135) + (qb_ushr (qb_and (((qb_and (x0 - (qb_and (qb_ushr x0 1) 1431655765)) 858993459) + (qb_and (qb_ushr (x0 - (qb_and (qb_ushr x0 1) 1431655765)) 2) 858993459)) + (qb_ushr ((qb_and (x0 - (qb_and (qb_ushr x0 1) 1431655765)) 858993459) + (qb_and (qb_ushr (x0 - (qb_and (qb_ushr x0 1) 1431655765)) 2) 858993459)) 4)) 252645135) 8))]) dJ6_bitCount_0f7a4_40 rfl rfl (Nat.le_of_ble_eq_true rfl) rfl rfl ?_
  refine qb_iloadn (pc' := 42) (i := 0) dJ6_bitCount_0f7a4_41 rfl rfl rfl ?_
  refine qb_iloadn (pc' := 43) (i := 0) dJ6_bitCount_0f7a4_42 rfl rfl rfl ?_
  refine qb_bipush (pc' := 45) dJ6_bitCount_0f7a4_43 rfl rfl rfl ?_
  refine qb_iushr (pc' := 46) dJ6_bitCount_0f7a4_45 rfl ?_
  obtain ⟨g933, h⟩ := h
  refine qb_iadd (pc' := 47) dJ6_bitCount_0f7a4_46 rfl g933 ?_
  refine qb_istoren (pc' := 48) (i := 0) (L' := [qb_i (((qb_and (((qb_and (x0 - (qb_and (qb_ushr x0 1) 1431655765)) 858993459) + (qb_and (qb_ushr (x0 - (qb_and (qb_ushr x0 1) 1431655765)) 2) 858993459)) + (qb_ushr ((qb_and (x0 - (qb_and (qb_ushr x0 1) 1431655765)) 858993459) + (qb_and (qb_ushr (x0 - (qb_and (qb_ushr x0 1) 1431655765)) 2) 858993459)) 4)) 252645135) + (qb_ushr (qb_and (((qb_and (x0 - (qb_and (qb_ushr x0 1) 1431655765)) 858993459) + (qb_and (qb_ushr (x0 - (qb_and (qb_ushr x0 1) 1431655765)) 2) 858993459)) + (qb_ushr ((qb_and (x0 - (qb_and (qb_ushr x0 1) 1431655765)) 858993459) + (qb_and (qb_ushr (x0 - (qb_and (qb_ushr x0 1) 1431655765)) 2) 858993459)) 4)) 252645135) 8)) + (qb_ushr ((qb_and (((qb_and (x0 - (qb_and (qb_ushr x0 1) 1431655765)) 858993459) + (qb_and (qb_ushr (x0 - (qb_and (qb_ushr x0 1) 1431655765)) 2) 858993459)) + (qb_ushr ((qb_and (x0 - (qb_and (qb_ushr x0 1) 1431655765)) 858993459) + (qb_and (qb_ushr (x0 - (qb_and (qb_ushr x0 1) 1431655765)) 2) 858993459)) 4)) 252645135) + (qb_ushr (qb_and (((qb_and (x0 - (qb_and (qb_ushr x0 1) 1431655765)) 858993459) + (qb_and (qb_ushr (x0 - (qb_and (qb_ushr x0 1) 1431655765)) 2) 858993459)) + (qb_ushr ((qb_and (x0 - (qb_and (qb_ushr x0 1) 1431655765)) 858993459) + (qb_and (qb_ushr (x0 - (qb_and (qb_ushr x0 1) 1431655765)) 2) 858993459)) 4)) 252645135) 8)) 16))]) dJ6_bitCount_0f7a4_47 rfl rfl (Nat.le_of_ble_eq_true rfl) rfl rfl ?_
  refine qb_iloadn (pc' := 49) (i := 0) dJ6_bitCount_0f7a4_48 rfl rfl rfl ?_
  refine qb_bipush (pc' := 51) dJ6_bitCount_0f7a4_49 rfl rfl rfl ?_
  refine qb_iand (pc' := 52) dJ6_bitCount_0f7a4_51 rfl ?_
  exact qb_reti dJ6_bitCount_0f7a4_52 rfl h
def v_int_bitCount (x0 : Int) : Int := (qb_and (((qb_and (((qb_and (x0 - (qb_and (qb_ushr x0 1) 1431655765)) 858993459) + (qb_and (qb_ushr (x0 - (qb_and (qb_ushr x0 1) 1431655765)) 2) 858993459)) + (qb_ushr ((qb_and (x0 - (qb_and (qb_ushr x0 1) 1431655765)) 858993459) + (qb_and (qb_ushr (x0 - (qb_and (qb_ushr x0 1) 1431655765)) 2) 858993459)) 4)) 252645135) + (qb_ushr (qb_and (((qb_and (x0 - (qb_and (qb_ushr x0 1) 1431655765)) 858993459) + (qb_and (qb_ushr (x0 - (qb_and (qb_ushr x0 1) 1431655765)) 2) 858993459)) + (qb_ushr ((qb_and (x0 - (qb_and (qb_ushr x0 1) 1431655765)) 858993459) + (qb_and (qb_ushr (x0 - (qb_and (qb_ushr x0 1) 1431655765)) 2) 858993459)) 4)) 252645135) 8)) + (qb_ushr ((qb_and (((qb_and (x0 - (qb_and (qb_ushr x0 1) 1431655765)) 858993459) + (qb_and (qb_ushr (x0 - (qb_and (qb_ushr x0 1) 1431655765)) 2) 858993459)) + (qb_ushr ((qb_and (x0 - (qb_and (qb_ushr x0 1) 1431655765)) 858993459) + (qb_and (qb_ushr (x0 - (qb_and (qb_ushr x0 1) 1431655765)) 2) 858993459)) 4)) 252645135) + (qb_ushr (qb_and (((qb_and (x0 - (qb_and (qb_ushr x0 1) 1431655765)) 858993459) + (qb_and (qb_ushr (x0 - (qb_and (qb_ushr x0 1) 1431655765)) 2) 858993459)) + (qb_ushr ((qb_and (x0 - (qb_and (qb_ushr x0 1) 1431655765)) 858993459) + (qb_and (qb_ushr (x0 - (qb_and (qb_ushr x0 1) 1431655765)) 2) 858993459)) 4)) 252645135) 8)) 16)) 63)
def g_int_bitCount (x0 : Int) : Prop := (qb_in (x0 - (qb_and (qb_ushr x0 1) 1431655765))) ∧ (qb_in ((qb_and (x0 - (qb_and (qb_ushr x0 1) 1431655765)) 858993459) + (qb_and (qb_ushr (x0 - (qb_and (qb_ushr x0 1) 1431655765)) 2) 858993459))) ∧ (qb_in (((qb_and (x0 - (qb_and (qb_ushr x0 1) 1431655765)) 858993459) + (qb_and (qb_ushr (x0 - (qb_and (qb_ushr x0 1) 1431655765)) 2) 858993459)) + (qb_ushr ((qb_and (x0 - (qb_and (qb_ushr x0 1) 1431655765)) 858993459) + (qb_and (qb_ushr (x0 - (qb_and (qb_ushr x0 1) 1431655765)) 2) 858993459)) 4))) ∧ (qb_in ((qb_and (((qb_and (x0 - (qb_and (qb_ushr x0 1) 1431655765)) 858993459) + (qb_and (qb_ushr (x0 - (qb_and (qb_ushr x0 1) 1431655765)) 2) 858993459)) + (qb_ushr ((qb_and (x0 - (qb_and (qb_ushr x0 1) 1431655765)) 858993459) + (qb_and (qb_ushr (x0 - (qb_and (qb_ushr x0 1) 1431655765)) 2) 858993459)) 4)) 252645135) + (qb_ushr (qb_and (((qb_and (x0 - (qb_and (qb_ushr x0 1) 1431655765)) 858993459) + (qb_and (qb_ushr (x0 - (qb_and (qb_ushr x0 1) 1431655765)) 2) 858993459)) + (qb_ushr ((qb_and (x0 - (qb_and (qb_ushr x0 1) 1431655765)) 858993459) + (qb_and (qb_ushr (x0 - (qb_and (qb_ushr x0 1) 1431655765)) 2) 858993459)) 4)) 252645135) 8))) ∧ qb_in (((qb_and (((qb_and (x0 - (qb_and (qb_ushr x0 1) 1431655765)) 858993459) + (qb_and (qb_ushr (x0 - (qb_and (qb_ushr x0 1) 1431655765)) 2) 858993459)) + (qb_ushr ((qb_and (x0 - (qb_and (qb_ushr x0 1) 1431655765)) 858993459) + (qb_and (qb_ushr (x0 - (qb_and (qb_ushr x0 1) 1431655765)) 2) 858993459)) 4)) 252645135) + (qb_ushr (qb_and (((qb_and (x0 - (qb_and (qb_ushr x0 1) 1431655765)) 858993459) + (qb_and (qb_ushr (x0 - (qb_and (qb_ushr x0 1) 1431655765)) 2) 858993459)) + (qb_ushr ((qb_and (x0 - (qb_and (qb_ushr x0 1) 1431655765)) 858993459) + (qb_and (qb_ushr (x0 - (qb_and (qb_ushr x0 1) 1431655765)) 2) 858993459)) 4)) 252645135) 8)) + (qb_ushr ((qb_and (((qb_and (x0 - (qb_and (qb_ushr x0 1) 1431655765)) 858993459) + (qb_and (qb_ushr (x0 - (qb_and (qb_ushr x0 1) 1431655765)) 2) 858993459)) + (qb_ushr ((qb_and (x0 - (qb_and (qb_ushr x0 1) 1431655765)) 858993459) + (qb_and (qb_ushr (x0 - (qb_and (qb_ushr x0 1) 1431655765)) 2) 858993459)) 4)) 252645135) + (qb_ushr (qb_and (((qb_and (x0 - (qb_and (qb_ushr x0 1) 1431655765)) 858993459) + (qb_and (qb_ushr (x0 - (qb_and (qb_ushr x0 1) 1431655765)) 2) 858993459)) + (qb_ushr ((qb_and (x0 - (qb_and (qb_ushr x0 1) 1431655765)) 858993459) + (qb_and (qb_ushr (x0 - (qb_and (qb_ushr x0 1) 1431655765)) 2) 858993459)) 4)) 252645135) 8)) 16))
theorem s_int_bitCount (x0 : Int) (hp : qb_H) (K : Int → qb_H → Prop) (hg : g_int_bitCount x0) (hK : K (v_int_bitCount x0) hp) : c_int_bitCount x0 hp K := by
  refine b_int_bitCount ?_
  unfold g_int_bitCount at hg
  unfold v_int_bitCount at hK
  refine ⟨hg.1, ?_⟩
  have hg := hg.2
  refine ⟨hg.1, ?_⟩
  have hg := hg.2
  refine ⟨hg.1, ?_⟩
  have hg := hg.2
  refine ⟨hg.1, ?_⟩
  have hg := hg.2
  refine ⟨hg, ?_⟩
  exact hK
def c_ju_mayBe (x1 : Int) (hp : qb_H) (K : Int → qb_H → Prop) : Prop := qb_R mX6_mayBe 0 0 qb_sh 0 [qb_a 32, qb_i x1] [] hp (qb_I qb_sh K)
theorem b_ju_mayBe {x1 : Int} {hp : qb_H} {K : Int → qb_H → Prop} (h : (0 ≤ x1 ∧ x1 < 30) ∧ ((qb_and (hp 33 x1) (qb_xor (hp 32 3) (-1))) = 0 → g_int_bitCount (hp 33 x1)) ∧ K (if (qb_and (hp 33 x1) (qb_xor (hp 32 3) (-1))) = 0 then (if (v_int_bitCount (hp 33 x1)) < 2 then (0 : Int) else 1) else 0) hp) : c_ju_mayBe x1 hp K := by
  unfold c_ju_mayBe
  refine qb_aloadn (pc' := 1) (i := 0) dX6_mayBe_0 rfl rfl rfl ?_
  refine qb_geta (pc' := 4) dX6_mayBe_1 rfl qf_X6_9 qb_s32 rfl ?_
  refine qb_iloadn (pc' := 5) (i := 1) dX6_mayBe_4 rfl rfl rfl ?_
  obtain ⟨g936, h⟩ := h
  refine qb_iald (pc' := 6) (v := (hp 33 x1)) dX6_mayBe_5 rfl qb_s33 g936.1 g936.2 rfl ?_
  refine qb_aloadn (pc' := 7) (i := 0) dX6_mayBe_6 rfl rfl rfl ?_
  refine qb_geti (pc' := 10) (v := (hp 32 3)) dX6_mayBe_7 rfl qf_X6_25 qb_s32 rfl rfl ?_
  refine qb_iconst (pc' := 11) dX6_mayBe_10 rfl rfl ?_
  refine qb_ixor (pc' := 12) dX6_mayBe_11 rfl ?_
  refine qb_iand (pc' := 13) dX6_mayBe_12 rfl ?_
  obtain ⟨ga, h⟩ := h
  have k221 : qb_R mX6_mayBe 0 0 qb_sh 34 [none, none] [.inl (if (qb_and (hp 33 x1) (qb_xor (hp 32 3) (-1))) = 0 then (if (v_int_bitCount (hp 33 x1)) < 2 then (0 : Int) else 1) else 0)] hp (qb_I qb_sh K) := by
    exact qb_retz dX6_mayBe_34 rfl (by (repeat' split) <;> first | exact Or.inl rfl | exact Or.inr rfl) h
  refine qb_fne (tgt := 33) (pc' := 16) dX6_mayBe_13 rfl rfl (fun c337 => ?_) (fun c337 => ?_)
  · refine qb_iconst (pc' := 34) dX6_mayBe_33 rfl rfl ?_
    refine qb_cut (L' := [none, none]) [false, false] rfl ?_
    simpa only [if_neg c337] using k221
  · have h := ga c337
    refine qb_aloadn (pc' := 17) (i := 0) dX6_mayBe_16 rfl rfl rfl ?_
    refine qb_geta (pc' := 20) dX6_mayBe_17 rfl qf_X6_9 qb_s32 rfl ?_
    refine qb_iloadn (pc' := 21) (i := 1) dX6_mayBe_20 rfl rfl rfl ?_
    refine qb_iald (pc' := 22) (v := (hp 33 x1)) dX6_mayBe_21 rfl qb_s33 g936.1 g936.2 rfl ?_
    have g938 := h
    refine qb_callSi (pc' := 25) (as := [.inl (hp 33 x1)]) (rest := []) dX6_mayBe_22 rfl qe_mX6_mayBe_mJ6_bitCount_0f7a4 rfl rfl rfl (Nat.le_of_ble_eq_true rfl) (Nat.le_of_ble_eq_true rfl) ⟨rfl, rfl⟩ (K := fun vz hpz => (v_int_bitCount (hp 33 x1)) = vz ∧ hp = hpz) (s_int_bitCount (hp 33 x1) hp _ g938 ⟨rfl, rfl⟩) (fun vz hpz ez => ?_)
    obtain ⟨ez1, ez2⟩ := ez
    subst ez1
    subst ez2
    refine qb_iconst (pc' := 26) dX6_mayBe_25 rfl rfl ?_
    have k222 : qb_R mX6_mayBe 0 0 qb_sh 34 [none, none] [.inl (if (v_int_bitCount (hp 33 x1)) < 2 then (0 : Int) else 1)] hp (qb_I qb_sh K) := by
      refine qb_cut (L' := [none, none]) [false, false] rfl ?_
      simpa only [if_pos c337] using k221
    refine qb_clt (tgt := 33) (pc' := 29) dX6_mayBe_26 rfl rfl (fun c339 => ?_) (fun c339 => ?_)
    · refine qb_iconst (pc' := 34) dX6_mayBe_33 rfl rfl ?_
      refine qb_cut (L' := [none, none]) [false, false] rfl ?_
      simpa only [if_pos c339] using k222
    · refine qb_iconst (pc' := 30) dX6_mayBe_29 rfl rfl ?_
      refine qb_goto (tgt := 34) dX6_mayBe_30 rfl ?_
      refine qb_cut (L' := [none, none]) [false, false] rfl ?_
      simpa only [if_neg c339] using k222
def v_ju_mayBe (x1 : Int) (hp : qb_H) : Int := (if (qb_and (hp 33 x1) (qb_xor (hp 32 3) (-1))) = 0 then (if (v_int_bitCount (hp 33 x1)) < 2 then (0 : Int) else 1) else 0)
theorem vb_ju_mayBe (x1 : Int) (hp : qb_H) : v_ju_mayBe x1 hp = 0 ∨ v_ju_mayBe x1 hp = 1 := by
  unfold v_ju_mayBe
  (repeat' split) <;> first | exact Or.inl rfl | exact Or.inr rfl
def g_ju_mayBe (x1 : Int) (hp : qb_H) : Prop := (0 ≤ x1 ∧ x1 < 30) ∧ ((qb_and (hp 33 x1) (qb_xor (hp 32 3) (-1))) = 0 → g_int_bitCount (hp 33 x1))
theorem s_ju_mayBe (x1 : Int) (hp : qb_H) (K : Int → qb_H → Prop) (hg : g_ju_mayBe x1 hp) (hK : K (v_ju_mayBe x1 hp) hp) : c_ju_mayBe x1 hp K := by
  refine b_ju_mayBe ?_
  unfold g_ju_mayBe at hg
  unfold v_ju_mayBe at hK
  refine ⟨hg.1, ?_⟩
  have hg := hg.2
  refine ⟨hg, ?_⟩
  exact hK
def c_q_cause (x1 : Int) (hp : qb_H) (K : Int → qb_H → Prop) : Prop := qb_R mX10_cause 0 0 qb_sh 0 [qb_a 0, qb_i x1] [] hp (qb_I qb_sh K)
theorem b_q_cause {x1 : Int} {hp : qb_H} {K : Int → qb_H → Prop} (h : ((v_q_within x1 0 29) = 0 → K (-2) hp) ∧ (¬ (v_q_within x1 0 29) = 0 → (g_ju_mayBe x1 hp) ∧ K (if (v_ju_mayBe x1 hp) = 0 then (0 : Int) else 1) hp)) : c_q_cause x1 hp K := by
  unfold c_q_cause
  refine qb_iloadn (pc' := 1) (i := 1) dX10_cause_0 rfl rfl rfl ?_
  refine qb_iconst (pc' := 2) dX10_cause_1 rfl rfl ?_
  refine qb_bipush (pc' := 4) dX10_cause_2 rfl rfl rfl ?_
  refine qb_callSi (pc' := 7) (as := [.inl x1, .inl 0, .inl 29]) (rest := []) dX10_cause_4 rfl qe_mX10_cause_mX10_within rfl rfl rfl (Nat.le_of_ble_eq_true rfl) (Nat.le_of_ble_eq_true rfl) ⟨rfl, rfl⟩ (K := fun vz hpz => (v_q_within x1 0 29) = vz ∧ hp = hpz) (s_q_within x1 0 29 hp _ trivial ⟨rfl, rfl⟩) (fun vz hpz ez => ?_)
  obtain ⟨ez1, ez2⟩ := ez
  subst ez1
  subst ez2
  refine qb_fne (tgt := 13) (pc' := 10) dX10_cause_7 rfl rfl (fun c341 => ?_) (fun c341 => ?_)
  · have h := h.2 c341
    refine qb_aloadn (pc' := 14) (i := 0) dX10_cause_13 rfl rfl rfl ?_
    refine qb_geta (pc' := 17) dX10_cause_14 rfl qf_X10_54 qb_s0 rfl ?_
    refine qb_iloadn (pc' := 18) (i := 1) dX10_cause_17 rfl rfl rfl ?_
    obtain ⟨g940, h⟩ := h
    refine qb_callVi (pc' := 21) (b := 32) (as := [.inl x1]) (rest := []) dX10_cause_18 rfl qe_mX10_cause_mX6_mayBe rfl rfl qb_s32 rfl rfl (Nat.le_of_ble_eq_true rfl) (Nat.le_of_ble_eq_true rfl) ⟨rfl, rfl⟩ (K := fun vz hpz => (v_ju_mayBe x1 hp) = vz ∧ hp = hpz) (s_ju_mayBe x1 hp _ g940 ⟨rfl, rfl⟩) (fun vz hpz ez => ?_)
    obtain ⟨ez1, ez2⟩ := ez
    subst ez1
    subst ez2
    have k224 : qb_R mX10_cause 0 0 qb_sh 29 [none, none] [.inl (if (v_ju_mayBe x1 hp) = 0 then (0 : Int) else 1)] hp (qb_I qb_sh K) := by
      exact qb_reti dX10_cause_29 rfl h
    refine qb_feq (tgt := 28) (pc' := 24) dX10_cause_21 rfl rfl (fun c342 => ?_) (fun c342 => ?_)
    · refine qb_iconst (pc' := 29) dX10_cause_28 rfl rfl ?_
      refine qb_cut (L' := [none, none]) [false, false] rfl ?_
      simpa only [if_pos c342] using k224
    · refine qb_iconst (pc' := 25) dX10_cause_24 rfl rfl ?_
      refine qb_goto (tgt := 29) dX10_cause_25 rfl ?_
      refine qb_cut (L' := [none, none]) [false, false] rfl ?_
      simpa only [if_neg c342] using k224
  · have h := h.1 c341
    refine qb_bipush (pc' := 12) dX10_cause_10 rfl rfl rfl ?_
    exact qb_reti dX10_cause_12 rfl h
def v_q_cause (x1 : Int) (hp : qb_H) : Int := (if (v_q_within x1 0 29) = 0 then ((-2) : Int) else (if (v_ju_mayBe x1 hp) = 0 then (0 : Int) else 1))
def g_q_cause (x1 : Int) (hp : qb_H) : Prop := (¬ (v_q_within x1 0 29) = 0 → g_ju_mayBe x1 hp)
theorem s_q_cause (x1 : Int) (hp : qb_H) (K : Int → qb_H → Prop) (hg : g_q_cause x1 hp) (hK : K (v_q_cause x1 hp) hp) : c_q_cause x1 hp K := by
  refine b_q_cause ?_
  unfold g_q_cause at hg
  unfold v_q_cause at hK
  refine ⟨fun c343 => ?_, fun c343 => ?_⟩
  · simpa only [if_pos c343] using hK
  · have hg := hg c343
    refine ⟨hg, ?_⟩
    simpa only [if_neg c343] using hK
def c_q_isBoat (x0 : Int) (hp : qb_H) (K : Int → qb_H → Prop) : Prop := qb_R mX10_isBoat 0 0 qb_sh 0 [qb_i x0] [] hp (qb_I qb_sh K)
theorem b_q_isBoat {x0 : Int} {hp : qb_H} {K : Int → qb_H → Prop} (h : K (v_q_within x0 0 9) hp) : c_q_isBoat x0 hp K := by
  unfold c_q_isBoat
  refine qb_iloadn (pc' := 1) (i := 0) dX10_isBoat_0 rfl rfl rfl ?_
  refine qb_iconst (pc' := 2) dX10_isBoat_1 rfl rfl ?_
  refine qb_bipush (pc' := 4) dX10_isBoat_2 rfl rfl rfl ?_
  refine qb_callSi (pc' := 7) (as := [.inl x0, .inl 0, .inl 9]) (rest := []) dX10_isBoat_4 rfl qe_mX10_isBoat_mX10_within rfl rfl rfl (Nat.le_of_ble_eq_true rfl) (Nat.le_of_ble_eq_true rfl) ⟨rfl, rfl⟩ (K := fun vz hpz => (v_q_within x0 0 9) = vz ∧ hp = hpz) (s_q_within x0 0 9 hp _ trivial ⟨rfl, rfl⟩) (fun vz hpz ez => ?_)
  obtain ⟨ez1, ez2⟩ := ez
  subst ez1
  subst ez2
  exact qb_retz dX10_isBoat_7 rfl (by (repeat' split) <;> first | exact Or.inl rfl | exact Or.inr rfl | apply vb_q_within) h
def v_q_isBoat (x0 : Int) : Int := (v_q_within x0 0 9)
theorem vb_q_isBoat (x0 : Int) : v_q_isBoat x0 = 0 ∨ v_q_isBoat x0 = 1 := by
  unfold v_q_isBoat
  (repeat' split) <;> first | exact Or.inl rfl | exact Or.inr rfl | apply vb_q_within
theorem s_q_isBoat (x0 : Int) (hp : qb_H) (K : Int → qb_H → Prop) (hg : True) (hK : K (v_q_isBoat x0) hp) : c_q_isBoat x0 hp K := by
  refine b_q_isBoat ?_
  unfold v_q_isBoat at hK
  exact hK
def c_q_savedBy (x1 : Int) (x2 : Int) (x3 : Int) (hp : qb_H) (K : Int → qb_H → Prop) : Prop := qb_R mX10_savedBy 0 0 qb_sh 0 [qb_a 0, qb_i x1, qb_i x2, qb_i x3] [] hp (qb_I qb_sh K)
theorem b_q_savedBy {x1 x2 x3 : Int} {hp : qb_H} {K : Int → qb_H → Prop} (h : c_q_costOf x1 x2 x3 0 hp (fun v86 hp86 => (g_bo_agreedAt x1 x2 (hp86 10 4) hp86) ∧ c_q_costOf x1 x2 x3 (v_bo_agreedAt x1 x2 (hp86 10 4) hp86) hp86 (fun v87 hp87 => (qb_in (v86 - v87)) ∧ K (v86 - v87) hp87))) : c_q_savedBy x1 x2 x3 hp K := by
  unfold c_q_savedBy
  refine qb_aloadn (pc' := 1) (i := 0) dX10_savedBy_0 rfl rfl rfl ?_
  refine qb_iloadn (pc' := 2) (i := 1) dX10_savedBy_1 rfl rfl rfl ?_
  refine qb_iloadn (pc' := 3) (i := 2) dX10_savedBy_2 rfl rfl rfl ?_
  refine qb_iloadn (pc' := 4) (i := 3) dX10_savedBy_3 rfl rfl rfl ?_
  refine qb_iconst (pc' := 5) dX10_savedBy_4 rfl rfl ?_
  refine qb_callVi (pc' := 8) (b := 0) (as := [.inl x1, .inl x2, .inl x3, .inl 0]) (rest := []) dX10_savedBy_5 rfl qe_mX10_savedBy_mX10_costOf rfl rfl qb_s0 rfl rfl (Nat.le_of_ble_eq_true rfl) (Nat.le_of_ble_eq_true rfl) ⟨rfl, rfl⟩ h (fun v86 hp86 h => ?_)
  refine qb_aloadn (pc' := 9) (i := 0) dX10_savedBy_8 rfl rfl rfl ?_
  refine qb_iloadn (pc' := 10) (i := 1) dX10_savedBy_9 rfl rfl rfl ?_
  refine qb_iloadn (pc' := 11) (i := 2) dX10_savedBy_10 rfl rfl rfl ?_
  refine qb_iloadn (pc' := 12) (i := 3) dX10_savedBy_11 rfl rfl rfl ?_
  refine qb_aloadn (pc' := 13) (i := 0) dX10_savedBy_12 rfl rfl rfl ?_
  refine qb_geta (pc' := 16) dX10_savedBy_13 rfl qf_X10_61 qb_s0 rfl ?_
  refine qb_iloadn (pc' := 17) (i := 1) dX10_savedBy_16 rfl rfl rfl ?_
  refine qb_iloadn (pc' := 18) (i := 2) dX10_savedBy_17 rfl rfl rfl ?_
  refine qb_aloadn (pc' := 19) (i := 0) dX10_savedBy_18 rfl rfl rfl ?_
  refine qb_geta (pc' := 22) dX10_savedBy_19 rfl qf_X10_23 qb_s0 rfl ?_
  refine qb_iconst (pc' := 23) dX10_savedBy_22 rfl rfl ?_
  refine qb_iald (pc' := 24) (v := (hp86 10 4)) dX10_savedBy_23 rfl qb_s10 (by decide) (by decide) rfl ?_
  obtain ⟨g944, h⟩ := h
  refine qb_callVi (pc' := 27) (b := 36) (as := [.inl x1, .inl x2, .inl (hp86 10 4)]) (rest := [.inl x3, .inl x2, .inl x1, .inr (.inl 0), .inl v86]) dX10_savedBy_24 rfl qe_mX10_savedBy_mX1_agreedAt rfl rfl qb_s36 rfl rfl (Nat.le_of_ble_eq_true rfl) (Nat.le_of_ble_eq_true rfl) ⟨rfl, rfl⟩ (K := fun vz hpz => (v_bo_agreedAt x1 x2 (hp86 10 4) hp86) = vz ∧ hp86 = hpz) (s_bo_agreedAt x1 x2 (hp86 10 4) hp86 _ g944 ⟨rfl, rfl⟩) (fun vz hpz ez => ?_)
  obtain ⟨ez1, ez2⟩ := ez
  subst ez1
  subst ez2
  refine qb_callVi (pc' := 30) (b := 0) (as := [.inl x1, .inl x2, .inl x3, .inl (v_bo_agreedAt x1 x2 (hp86 10 4) hp86)]) (rest := [.inl v86]) dX10_savedBy_27 rfl qe_mX10_savedBy_mX10_costOf rfl rfl qb_s0 rfl rfl (Nat.le_of_ble_eq_true rfl) (Nat.le_of_ble_eq_true rfl) ⟨rfl, rfl⟩ h (fun v87 hp87 h => ?_)
  obtain ⟨g945, h⟩ := h
  refine qb_isub (pc' := 31) dX10_savedBy_30 rfl g945 ?_
  exact qb_reti dX10_savedBy_31 rfl h
def c_la_fishOf (x1 : Int) (x2 : Int) (hp : qb_H) (K : Int → qb_H → Prop) : Prop := qb_R mX7_fishOf 0 0 qb_sh 0 [qb_a 11, qb_i x1, qb_i x2, none, none] [] hp (qb_I qb_sh K)
def r_la_fishOf_5 (x1 : Int) (x2 : Int) (x3 : Int) (x4 : Int) (hp : qb_H) (K : Int → qb_H → Prop) : Prop := qb_R mX7_fishOf 0 0 qb_sh 5 [qb_a 11, qb_i x1, qb_i x2, qb_i x3, qb_i x4] [] hp (qb_I qb_sh K)
theorem b_la_fishOf {x1 x2 : Int} {hp : qb_H} {K : Int → qb_H → Prop} (h : r_la_fishOf_5 x1 x2 0 0 hp K) : c_la_fishOf x1 x2 hp K := by
  unfold c_la_fishOf
  refine qb_iconst (pc' := 1) dX7_fishOf_0 rfl rfl ?_
  refine qb_istoren (pc' := 2) (i := 3) (L' := [qb_a 11, qb_i x1, qb_i x2, qb_i 0, none]) dX7_fishOf_1 rfl rfl (Nat.le_of_ble_eq_true rfl) rfl rfl ?_
  refine qb_iconst (pc' := 3) dX7_fishOf_2 rfl rfl ?_
  refine qb_istore (pc' := 5) (L' := [qb_a 11, qb_i x1, qb_i x2, qb_i 0, qb_i 0]) dX7_fishOf_3 rfl (Nat.le_of_ble_eq_true rfl) rfl rfl ?_
  refine qb_cut (L' := [qb_a 11, qb_i x1, qb_i x2, qb_i 0, qb_i 0]) [true, true, true, true, true] rfl ?_
  exact h
theorem b_la_fishOf_5 {x1 x2 x3 x4 : Int} {hp : qb_H} {K : Int → qb_H → Prop} (h : ((hp 11 13) ≤ x4 → K x3 hp) ∧ (¬ (hp 11 13) ≤ x4 → (0 ≤ x4 ∧ x4 < 30) ∧ ((hp 12 x4) = x1 → ((hp 13 x4) = x2 → qb_in (x3 + (hp 15 x4)))) ∧ (∀ (y89 : Int), y89 = (if (hp 12 x4) = x1 then (if (hp 13 x4) = x2 then (x3 + (hp 15 x4)) else x3) else x3) → r_la_fishOf_5 x1 x2 y89 (x4 + 1) hp K))) : r_la_fishOf_5 x1 x2 x3 x4 hp K := by
  unfold r_la_fishOf_5
  refine qb_iload (pc' := 7) dX7_fishOf_5 rfl rfl ?_
  refine qb_aloadn (pc' := 8) (i := 0) dX7_fishOf_7 rfl rfl rfl ?_
  refine qb_geti (pc' := 11) (v := (hp 11 13)) dX7_fishOf_8 rfl qf_X7_51 qb_s11 rfl rfl ?_
  refine qb_cge (tgt := 52) (pc' := 14) dX7_fishOf_11 rfl rfl (fun c350 => ?_) (fun c350 => ?_)
  · have h := h.1 c350
    refine qb_iloadn (pc' := 53) (i := 3) dX7_fishOf_52 rfl rfl rfl ?_
    exact qb_reti dX7_fishOf_53 rfl h
  · have h := h.2 c350
    refine qb_aloadn (pc' := 15) (i := 0) dX7_fishOf_14 rfl rfl rfl ?_
    refine qb_geta (pc' := 18) dX7_fishOf_15 rfl qf_X7_9 qb_s11 rfl ?_
    refine qb_iload (pc' := 20) dX7_fishOf_18 rfl rfl ?_
    obtain ⟨g946, h⟩ := h
    refine qb_iald (pc' := 21) (v := (hp 12 x4)) dX7_fishOf_20 rfl qb_s12 g946.1 g946.2 rfl ?_
    refine qb_iloadn (pc' := 22) (i := 1) dX7_fishOf_21 rfl rfl rfl ?_
    obtain ⟨ga, h⟩ := h
    have k226 : ∀ (y89 : Int), y89 = (if (hp 12 x4) = x1 then (if (hp 13 x4) = x2 then (x3 + (hp 15 x4)) else x3) else x3) → qb_R mX7_fishOf 0 0 qb_sh 46 [qb_a 11, qb_i x1, qb_i x2, qb_i y89, qb_i x4] [] hp (qb_I qb_sh K) := by
      intro y89 ey89
      have h := h y89 ey89
      refine qb_iinc (pc' := 49) (L' := [qb_a 11, qb_i x1, qb_i x2, qb_i y89, qb_i (x4 + 1)]) dX7_fishOf_46 rfl rfl (qb_ina g946 (by decide)) (Nat.le_of_ble_eq_true rfl) rfl rfl ?_
      refine qb_goto (tgt := 5) dX7_fishOf_49 rfl ?_
      refine qb_cut (L' := [qb_a 11, qb_i x1, qb_i x2, qb_i y89, qb_i (x4 + 1)]) [true, true, true, true, true] rfl ?_
      exact h
    refine qb_cne (tgt := 46) (pc' := 25) dX7_fishOf_22 rfl rfl (fun c351 => ?_) (fun c351 => ?_)
    · refine qb_cut (L' := [qb_a 11, qb_i x1, qb_i x2, qb_i x3, qb_i x4]) [true, true, true, true, true] rfl ?_
      exact k226 _ (if_neg c351).symm
    · have h := ga c351
      refine qb_aloadn (pc' := 26) (i := 0) dX7_fishOf_25 rfl rfl rfl ?_
      refine qb_geta (pc' := 29) dX7_fishOf_26 rfl qf_X7_15 qb_s11 rfl ?_
      refine qb_iload (pc' := 31) dX7_fishOf_29 rfl rfl ?_
      refine qb_iald (pc' := 32) (v := (hp 13 x4)) dX7_fishOf_31 rfl qb_s13 g946.1 g946.2 rfl ?_
      refine qb_iloadn (pc' := 33) (i := 2) dX7_fishOf_32 rfl rfl rfl ?_
      have ga := h
      have k227 : qb_R mX7_fishOf 0 0 qb_sh 46 [qb_a 11, qb_i x1, qb_i x2, qb_i (if (hp 13 x4) = x2 then (x3 + (hp 15 x4)) else x3), qb_i x4] [] hp (qb_I qb_sh K) := by
        refine qb_cut (L' := [qb_a 11, qb_i x1, qb_i x2, qb_i (if (hp 13 x4) = x2 then (x3 + (hp 15 x4)) else x3), qb_i x4]) [true, true, true, true, true] rfl ?_
        exact k226 _ (if_pos c351).symm
      refine qb_cne (tgt := 46) (pc' := 36) dX7_fishOf_33 rfl rfl (fun c353 => ?_) (fun c353 => ?_)
      · refine qb_cut (L' := [qb_a 11, qb_i x1, qb_i x2, qb_i x3, qb_i x4]) [true, true, true, true, true] rfl ?_
        simpa only [if_neg c353] using k227
      · have h := ga c353
        refine qb_iloadn (pc' := 37) (i := 3) dX7_fishOf_36 rfl rfl rfl ?_
        refine qb_aloadn (pc' := 38) (i := 0) dX7_fishOf_37 rfl rfl rfl ?_
        refine qb_geta (pc' := 41) dX7_fishOf_38 rfl qf_X7_21 qb_s11 rfl ?_
        refine qb_iload (pc' := 43) dX7_fishOf_41 rfl rfl ?_
        refine qb_iald (pc' := 44) (v := (hp 15 x4)) dX7_fishOf_43 rfl qb_s15 g946.1 g946.2 rfl ?_
        have g950 := h
        refine qb_iadd (pc' := 45) dX7_fishOf_44 rfl g950 ?_
        refine qb_istoren (pc' := 46) (i := 3) (L' := [qb_a 11, qb_i x1, qb_i x2, qb_i (x3 + (hp 15 x4)), qb_i x4]) dX7_fishOf_45 rfl rfl (Nat.le_of_ble_eq_true rfl) rfl rfl ?_
        refine qb_cut (L' := [qb_a 11, qb_i x1, qb_i x2, qb_i (x3 + (hp 15 x4)), qb_i x4]) [true, true, true, true, true] rfl ?_
        simpa only [if_pos c353] using k227
def c_q_cost (x1 : Int) (x2 : Int) (x3 : Int) (x4 : Int) (hp : qb_H) (K : Int → qb_H → Prop) : Prop := qb_R mX10_cost 0 0 qb_sh 0 [qb_a 0, qb_i x1, qb_i x2, qb_i x3, qb_i x4] [] hp (qb_I qb_sh K)
theorem b_q_cost {x1 x2 x3 x4 : Int} {hp : qb_H} {K : Int → qb_H → Prop} (h : ((v_q_isBoat x1) = 0 → K (-1) hp) ∧ (¬ (v_q_isBoat x1) = 0 → ((v_q_isQuay x2) = 0 → K (-1) hp) ∧ (¬ (v_q_isQuay x2) = 0 → ((v_q_isDay x3) = 0 → K (-2) hp) ∧ (¬ (v_q_isDay x3) = 0 → ((v_q_within x4 0 2) = 0 → K (-2) hp) ∧ (¬ (v_q_within x4 0 2) = 0 → (x4 = 0 → (g_bo_agreedAt x1 x2 (hp 10 4) hp) ∧ c_q_costOf x1 x2 x3 (v_bo_agreedAt x1 x2 (hp 10 4) hp) hp (fun v91 hp91 => K v91 hp91)) ∧ (¬ x4 = 0 → (x4 = 1 → c_q_savedBy x1 x2 x3 hp (fun v92 hp92 => K v92 hp92)) ∧ (¬ x4 = 1 → c_la_fishOf x1 x2 hp (fun v93 hp93 => K v93 hp93)))))))) : c_q_cost x1 x2 x3 x4 hp K := by
  unfold c_q_cost
  refine qb_iloadn (pc' := 1) (i := 1) dX10_cost_0 rfl rfl rfl ?_
  refine qb_callSi (pc' := 4) (as := [.inl x1]) (rest := []) dX10_cost_1 rfl qe_mX10_cost_mX10_isBoat rfl rfl rfl (Nat.le_of_ble_eq_true rfl) (Nat.le_of_ble_eq_true rfl) ⟨rfl, rfl⟩ (K := fun vz hpz => (v_q_isBoat x1) = vz ∧ hp = hpz) (s_q_isBoat x1 hp _ trivial ⟨rfl, rfl⟩) (fun vz hpz ez => ?_)
  obtain ⟨ez1, ez2⟩ := ez
  subst ez1
  subst ez2
  refine qb_feq (tgt := 14) (pc' := 7) dX10_cost_4 rfl rfl (fun c354 => ?_) (fun c354 => ?_)
  · have h := h.1 c354
    refine qb_iconst (pc' := 15) dX10_cost_14 rfl rfl ?_
    exact qb_reti dX10_cost_15 rfl h
  · have h := h.2 c354
    refine qb_iloadn (pc' := 8) (i := 2) dX10_cost_7 rfl rfl rfl ?_
    refine qb_callSi (pc' := 11) (as := [.inl x2]) (rest := []) dX10_cost_8 rfl qe_mX10_cost_mX10_isQuay rfl rfl rfl (Nat.le_of_ble_eq_true rfl) (Nat.le_of_ble_eq_true rfl) ⟨rfl, rfl⟩ (K := fun vz hpz => (v_q_isQuay x2) = vz ∧ hp = hpz) (s_q_isQuay x2 hp _ trivial ⟨rfl, rfl⟩) (fun vz hpz ez => ?_)
    obtain ⟨ez1, ez2⟩ := ez
    subst ez1
    subst ez2
    refine qb_fne (tgt := 16) (pc' := 14) dX10_cost_11 rfl rfl (fun c355 => ?_) (fun c355 => ?_)
    · have h := h.2 c355
      refine qb_iloadn (pc' := 17) (i := 3) dX10_cost_16 rfl rfl rfl ?_
      refine qb_callSi (pc' := 20) (as := [.inl x3]) (rest := []) dX10_cost_17 rfl qe_mX10_cost_mX10_isDay rfl rfl rfl (Nat.le_of_ble_eq_true rfl) (Nat.le_of_ble_eq_true rfl) ⟨rfl, rfl⟩ (K := fun vz hpz => (v_q_isDay x3) = vz ∧ hp = hpz) (s_q_isDay x3 hp _ trivial ⟨rfl, rfl⟩) (fun vz hpz ez => ?_)
      obtain ⟨ez1, ez2⟩ := ez
      subst ez1
      subst ez2
      refine qb_feq (tgt := 33) (pc' := 23) dX10_cost_20 rfl rfl (fun c356 => ?_) (fun c356 => ?_)
      · have h := h.1 c356
        refine qb_bipush (pc' := 35) dX10_cost_33 rfl rfl rfl ?_
        exact qb_reti dX10_cost_35 rfl h
      · have h := h.2 c356
        refine qb_iload (pc' := 25) dX10_cost_23 rfl rfl ?_
        refine qb_iconst (pc' := 26) dX10_cost_25 rfl rfl ?_
        refine qb_iconst (pc' := 27) dX10_cost_26 rfl rfl ?_
        refine qb_callSi (pc' := 30) (as := [.inl x4, .inl 0, .inl 2]) (rest := []) dX10_cost_27 rfl qe_mX10_cost_mX10_within rfl rfl rfl (Nat.le_of_ble_eq_true rfl) (Nat.le_of_ble_eq_true rfl) ⟨rfl, rfl⟩ (K := fun vz hpz => (v_q_within x4 0 2) = vz ∧ hp = hpz) (s_q_within x4 0 2 hp _ trivial ⟨rfl, rfl⟩) (fun vz hpz ez => ?_)
        obtain ⟨ez1, ez2⟩ := ez
        subst ez1
        subst ez2
        refine qb_fne (tgt := 36) (pc' := 33) dX10_cost_30 rfl rfl (fun c357 => ?_) (fun c357 => ?_)
        · have h := h.2 c357
          refine qb_iload (pc' := 38) dX10_cost_36 rfl rfl ?_
          by_cases c358 : x4 = 0
          · have h := h.1 c358
            refine qb_lookup (tgt := 64) dX10_cost_38 rfl (qb_lk1 c358) rfl ?_
            refine qb_aloadn (pc' := 65) (i := 0) dX10_cost_64 rfl rfl rfl ?_
            refine qb_iloadn (pc' := 66) (i := 1) dX10_cost_65 rfl rfl rfl ?_
            refine qb_iloadn (pc' := 67) (i := 2) dX10_cost_66 rfl rfl rfl ?_
            refine qb_iloadn (pc' := 68) (i := 3) dX10_cost_67 rfl rfl rfl ?_
            refine qb_aloadn (pc' := 69) (i := 0) dX10_cost_68 rfl rfl rfl ?_
            refine qb_geta (pc' := 72) dX10_cost_69 rfl qf_X10_61 qb_s0 rfl ?_
            refine qb_iloadn (pc' := 73) (i := 1) dX10_cost_72 rfl rfl rfl ?_
            refine qb_iloadn (pc' := 74) (i := 2) dX10_cost_73 rfl rfl rfl ?_
            refine qb_aloadn (pc' := 75) (i := 0) dX10_cost_74 rfl rfl rfl ?_
            refine qb_geta (pc' := 78) dX10_cost_75 rfl qf_X10_23 qb_s0 rfl ?_
            refine qb_iconst (pc' := 79) dX10_cost_78 rfl rfl ?_
            refine qb_iald (pc' := 80) (v := (hp 10 4)) dX10_cost_79 rfl qb_s10 (by decide) (by decide) rfl ?_
            obtain ⟨g951, h⟩ := h
            refine qb_callVi (pc' := 83) (b := 36) (as := [.inl x1, .inl x2, .inl (hp 10 4)]) (rest := [.inl x3, .inl x2, .inl x1, .inr (.inl 0)]) dX10_cost_80 rfl qe_mX10_cost_mX1_agreedAt rfl rfl qb_s36 rfl rfl (Nat.le_of_ble_eq_true rfl) (Nat.le_of_ble_eq_true rfl) ⟨rfl, rfl⟩ (K := fun vz hpz => (v_bo_agreedAt x1 x2 (hp 10 4) hp) = vz ∧ hp = hpz) (s_bo_agreedAt x1 x2 (hp 10 4) hp _ g951 ⟨rfl, rfl⟩) (fun vz hpz ez => ?_)
            obtain ⟨ez1, ez2⟩ := ez
            subst ez1
            subst ez2
            refine qb_callVi (pc' := 86) (b := 0) (as := [.inl x1, .inl x2, .inl x3, .inl (v_bo_agreedAt x1 x2 (hp 10 4) hp)]) (rest := []) dX10_cost_83 rfl qe_mX10_cost_mX10_costOf rfl rfl qb_s0 rfl rfl (Nat.le_of_ble_eq_true rfl) (Nat.le_of_ble_eq_true rfl) ⟨rfl, rfl⟩ h (fun v91 hp91 h => ?_)
            exact qb_reti dX10_cost_86 rfl h
          · have h := h.2 c358
            by_cases c359 : x4 = 1
            · have h := h.1 c359
              refine qb_lookup (tgt := 87) dX10_cost_38 rfl (qb_lk2 c358 (qb_lk1 c359)) rfl ?_
              refine qb_aloadn (pc' := 88) (i := 0) dX10_cost_87 rfl rfl rfl ?_
              refine qb_iloadn (pc' := 89) (i := 1) dX10_cost_88 rfl rfl rfl ?_
              refine qb_iloadn (pc' := 90) (i := 2) dX10_cost_89 rfl rfl rfl ?_
              refine qb_iloadn (pc' := 91) (i := 3) dX10_cost_90 rfl rfl rfl ?_
              refine qb_callVi (pc' := 94) (b := 0) (as := [.inl x1, .inl x2, .inl x3]) (rest := []) dX10_cost_91 rfl qe_mX10_cost_mX10_savedBy rfl rfl qb_s0 rfl rfl (Nat.le_of_ble_eq_true rfl) (Nat.le_of_ble_eq_true rfl) ⟨rfl, rfl⟩ h (fun v92 hp92 h => ?_)
              exact qb_reti dX10_cost_94 rfl h
            · have h := h.2 c359
              refine qb_lookup (tgt := 95) dX10_cost_38 rfl (qb_lk2 c358 (qb_lk2 c359 rfl)) rfl ?_
              refine qb_aloadn (pc' := 96) (i := 0) dX10_cost_95 rfl rfl rfl ?_
              refine qb_geta (pc' := 99) dX10_cost_96 rfl qf_X10_30 qb_s0 rfl ?_
              refine qb_iloadn (pc' := 100) (i := 1) dX10_cost_99 rfl rfl rfl ?_
              refine qb_iloadn (pc' := 101) (i := 2) dX10_cost_100 rfl rfl rfl ?_
              refine qb_callVi (pc' := 104) (b := 11) (as := [.inl x1, .inl x2]) (rest := []) dX10_cost_101 rfl qe_mX10_cost_mX7_fishOf rfl rfl qb_s11 rfl rfl (Nat.le_of_ble_eq_true rfl) (Nat.le_of_ble_eq_true rfl) ⟨rfl, rfl⟩ h (fun v93 hp93 h => ?_)
              exact qb_reti dX10_cost_104 rfl h
        · have h := h.1 c357
          refine qb_bipush (pc' := 35) dX10_cost_33 rfl rfl rfl ?_
          exact qb_reti dX10_cost_35 rfl h
    · have h := h.1 c355
      refine qb_iconst (pc' := 15) dX10_cost_14 rfl rfl ?_
      exact qb_reti dX10_cost_15 rfl h
def c_q_isQuayOrNone (x0 : Int) (hp : qb_H) (K : Int → qb_H → Prop) : Prop := qb_R mX10_isQuayOrNone 0 0 qb_sh 0 [qb_i x0] [] hp (qb_I qb_sh K)
theorem b_q_isQuayOrNone {x0 : Int} {hp : qb_H} {K : Int → qb_H → Prop} (h : K (if x0 = (-1) then (1 : Int) else (if (v_q_isQuay x0) = 0 then (0 : Int) else 1)) hp) : c_q_isQuayOrNone x0 hp K := by
  unfold c_q_isQuayOrNone
  refine qb_iloadn (pc' := 1) (i := 0) dX10_isQuayOrNone_0 rfl rfl rfl ?_
  refine qb_iconst (pc' := 2) dX10_isQuayOrNone_1 rfl rfl ?_
  have k232 : qb_R mX10_isQuayOrNone 0 0 qb_sh 17 [none] [.inl (if x0 = (-1) then (1 : Int) else (if (v_q_isQuay x0) = 0 then (0 : Int) else 1))] hp (qb_I qb_sh K) := by
    exact qb_retz dX10_isQuayOrNone_17 rfl (by (repeat' split) <;> first | exact Or.inl rfl | exact Or.inr rfl) h
  refine qb_ceq (tgt := 12) (pc' := 5) dX10_isQuayOrNone_2 rfl rfl (fun c364 => ?_) (fun c364 => ?_)
  · refine qb_iconst (pc' := 13) dX10_isQuayOrNone_12 rfl rfl ?_
    refine qb_goto (tgt := 17) dX10_isQuayOrNone_13 rfl ?_
    refine qb_cut (L' := [none]) [false] rfl ?_
    simpa only [if_pos c364] using k232
  · refine qb_iloadn (pc' := 6) (i := 0) dX10_isQuayOrNone_5 rfl rfl rfl ?_
    refine qb_callSi (pc' := 9) (as := [.inl x0]) (rest := []) dX10_isQuayOrNone_6 rfl qe_mX10_isQuayOrNone_mX10_isQuay rfl rfl rfl (Nat.le_of_ble_eq_true rfl) (Nat.le_of_ble_eq_true rfl) ⟨rfl, rfl⟩ (K := fun vz hpz => (v_q_isQuay x0) = vz ∧ hp = hpz) (s_q_isQuay x0 hp _ trivial ⟨rfl, rfl⟩) (fun vz hpz ez => ?_)
    obtain ⟨ez1, ez2⟩ := ez
    subst ez1
    subst ez2
    have k233 : qb_R mX10_isQuayOrNone 0 0 qb_sh 17 [none] [.inl (if (v_q_isQuay x0) = 0 then (0 : Int) else 1)] hp (qb_I qb_sh K) := by
      refine qb_cut (L' := [none]) [false] rfl ?_
      simpa only [if_neg c364] using k232
    refine qb_feq (tgt := 16) (pc' := 12) dX10_isQuayOrNone_9 rfl rfl (fun c366 => ?_) (fun c366 => ?_)
    · refine qb_iconst (pc' := 17) dX10_isQuayOrNone_16 rfl rfl ?_
      refine qb_cut (L' := [none]) [false] rfl ?_
      simpa only [if_pos c366] using k233
    · refine qb_iconst (pc' := 13) dX10_isQuayOrNone_12 rfl rfl ?_
      refine qb_goto (tgt := 17) dX10_isQuayOrNone_13 rfl ?_
      refine qb_cut (L' := [none]) [false] rfl ?_
      simpa only [if_neg c366] using k233
def v_q_isQuayOrNone (x0 : Int) : Int := (if x0 = (-1) then (1 : Int) else (if (v_q_isQuay x0) = 0 then (0 : Int) else 1))
theorem vb_q_isQuayOrNone (x0 : Int) : v_q_isQuayOrNone x0 = 0 ∨ v_q_isQuayOrNone x0 = 1 := by
  unfold v_q_isQuayOrNone
  (repeat' split) <;> first | exact Or.inl rfl | exact Or.inr rfl
theorem s_q_isQuayOrNone (x0 : Int) (hp : qb_H) (K : Int → qb_H → Prop) (hg : True) (hK : K (v_q_isQuayOrNone x0) hp) : c_q_isQuayOrNone x0 hp K := by
  refine b_q_isQuayOrNone ?_
  unfold v_q_isQuayOrNone at hK
  exact hK
def c_bo_bind (x1 : Int) (x2 : Int) (x3 : Int) (x4 : Int) (hp : qb_H) (K : qb_H → Prop) : Prop := qb_R mX1_bind 0 0 qb_sh 0 [qb_a 36, qb_i x1, qb_i x2, qb_i x3, qb_i x4] [] hp (qb_U qb_sh K)
theorem b_bo_bind {x1 x2 x3 x4 : Int} {hp : qb_H} {K : qb_H → Prop} (h : (0 ≤ x1 ∧ x1 < 10) ∧ K (qb_st (qb_st (qb_st hp 37 x1 x2) 38 x1 x3) 39 x1 x4)) : c_bo_bind x1 x2 x3 x4 hp K := by
  unfold c_bo_bind
  refine qb_aloadn (pc' := 1) (i := 0) dX1_bind_0 rfl rfl rfl ?_
  refine qb_geta (pc' := 4) dX1_bind_1 rfl qf_X1_9 qb_s36 rfl ?_
  refine qb_iloadn (pc' := 5) (i := 1) dX1_bind_4 rfl rfl rfl ?_
  refine qb_iloadn (pc' := 6) (i := 2) dX1_bind_5 rfl rfl rfl ?_
  obtain ⟨g953, h⟩ := h
  refine qb_iast (pc' := 7) dX1_bind_6 rfl qb_s37 g953.1 g953.2 ?_
  refine qb_aloadn (pc' := 8) (i := 0) dX1_bind_7 rfl rfl rfl ?_
  refine qb_geta (pc' := 11) dX1_bind_8 rfl qf_X1_15 qb_s36 rfl ?_
  refine qb_iloadn (pc' := 12) (i := 1) dX1_bind_11 rfl rfl rfl ?_
  refine qb_iloadn (pc' := 13) (i := 3) dX1_bind_12 rfl rfl rfl ?_
  refine qb_iast (pc' := 14) dX1_bind_13 rfl qb_s38 g953.1 g953.2 ?_
  refine qb_aloadn (pc' := 15) (i := 0) dX1_bind_14 rfl rfl rfl ?_
  refine qb_geta (pc' := 18) dX1_bind_15 rfl qf_X1_18 qb_s36 rfl ?_
  refine qb_iloadn (pc' := 19) (i := 1) dX1_bind_18 rfl rfl rfl ?_
  refine qb_iload (pc' := 21) dX1_bind_19 rfl rfl ?_
  refine qb_iast (pc' := 22) dX1_bind_21 rfl qb_s39 g953.1 g953.2 ?_
  exact qb_retv dX1_bind_22 rfl h
def h_bo_bind (x1 : Int) (x2 : Int) (x3 : Int) (x4 : Int) (hp : qb_H) : qb_H := (qb_st (qb_st (qb_st hp 37 x1 x2) 38 x1 x3) 39 x1 x4)
theorem hn_bo_bind (x1 : Int) (x2 : Int) (x3 : Int) (x4 : Int) (hp : qb_H) (c : Nat) (h37 : c ≠ 37) (h38 : c ≠ 38) (h39 : c ≠ 39) : h_bo_bind x1 x2 x3 x4 hp c = hp c := by
  unfold h_bo_bind
  (repeat' split) <;> simp only [qb_st_ne, qb_cpy_ne, ne_eq, not_false_eq_true, h37, h38, h39, ]
def g_bo_bind (x1 : Int) (x2 : Int) (x3 : Int) (x4 : Int) : Prop := 0 ≤ x1 ∧ x1 < 10
theorem s_bo_bind (x1 : Int) (x2 : Int) (x3 : Int) (x4 : Int) (hp : qb_H) (K : qb_H → Prop) (hg : g_bo_bind x1 x2 x3 x4) (hK : K (h_bo_bind x1 x2 x3 x4 hp)) : c_bo_bind x1 x2 x3 x4 hp K := by
  refine b_bo_bind ?_
  unfold g_bo_bind at hg
  unfold h_bo_bind at hK
  refine ⟨hg, ?_⟩
  exact hK
def c_q_engage (x1 : Int) (x2 : Int) (x3 : Int) (x4 : Int) (hp : qb_H) (K : Int → qb_H → Prop) : Prop := qb_R mX10_engage 0 0 qb_sh 0 [qb_a 0, qb_i x1, qb_i x2, qb_i x3, qb_i x4] [] hp (qb_I qb_sh K)
theorem b_q_engage {x1 x2 x3 x4 : Int} {hp : qb_H} {K : Int → qb_H → Prop} (h : ((v_q_isBoat x1) = 0 → K (-1) hp) ∧ (¬ (v_q_isBoat x1) = 0 → ((v_q_isQuayOrNone x2) = 0 → K (-1) hp) ∧ (¬ (v_q_isQuayOrNone x2) = 0 → ((v_q_within x3 0 50) = 0 → K (-2) hp) ∧ (¬ (v_q_within x3 0 50) = 0 → ((v_q_within x4 1 1000) = 0 → K (-2) hp) ∧ (¬ (v_q_within x4 1 1000) = 0 → (g_bo_bind x1 x2 x3 x4) ∧ K 1 (h_bo_bind x1 x2 x3 x4 hp)))))) : c_q_engage x1 x2 x3 x4 hp K := by
  unfold c_q_engage
  refine qb_iloadn (pc' := 1) (i := 1) dX10_engage_0 rfl rfl rfl ?_
  refine qb_callSi (pc' := 4) (as := [.inl x1]) (rest := []) dX10_engage_1 rfl qe_mX10_engage_mX10_isBoat rfl rfl rfl (Nat.le_of_ble_eq_true rfl) (Nat.le_of_ble_eq_true rfl) ⟨rfl, rfl⟩ (K := fun vz hpz => (v_q_isBoat x1) = vz ∧ hp = hpz) (s_q_isBoat x1 hp _ trivial ⟨rfl, rfl⟩) (fun vz hpz ez => ?_)
  obtain ⟨ez1, ez2⟩ := ez
  subst ez1
  subst ez2
  refine qb_feq (tgt := 14) (pc' := 7) dX10_engage_4 rfl rfl (fun c370 => ?_) (fun c370 => ?_)
  · have h := h.1 c370
    refine qb_iconst (pc' := 15) dX10_engage_14 rfl rfl ?_
    exact qb_reti dX10_engage_15 rfl h
  · have h := h.2 c370
    refine qb_iloadn (pc' := 8) (i := 2) dX10_engage_7 rfl rfl rfl ?_
    refine qb_callSi (pc' := 11) (as := [.inl x2]) (rest := []) dX10_engage_8 rfl qe_mX10_engage_mX10_isQuayOrNone rfl rfl rfl (Nat.le_of_ble_eq_true rfl) (Nat.le_of_ble_eq_true rfl) ⟨rfl, rfl⟩ (K := fun vz hpz => (v_q_isQuayOrNone x2) = vz ∧ hp = hpz) (s_q_isQuayOrNone x2 hp _ trivial ⟨rfl, rfl⟩) (fun vz hpz ez => ?_)
    obtain ⟨ez1, ez2⟩ := ez
    subst ez1
    subst ez2
    refine qb_fne (tgt := 16) (pc' := 14) dX10_engage_11 rfl rfl (fun c371 => ?_) (fun c371 => ?_)
    · have h := h.2 c371
      refine qb_iloadn (pc' := 17) (i := 3) dX10_engage_16 rfl rfl rfl ?_
      refine qb_iconst (pc' := 18) dX10_engage_17 rfl rfl ?_
      refine qb_bipush (pc' := 20) dX10_engage_18 rfl rfl rfl ?_
      refine qb_callSi (pc' := 23) (as := [.inl x3, .inl 0, .inl 50]) (rest := []) dX10_engage_20 rfl qe_mX10_engage_mX10_within rfl rfl rfl (Nat.le_of_ble_eq_true rfl) (Nat.le_of_ble_eq_true rfl) ⟨rfl, rfl⟩ (K := fun vz hpz => (v_q_within x3 0 50) = vz ∧ hp = hpz) (s_q_within x3 0 50 hp _ trivial ⟨rfl, rfl⟩) (fun vz hpz ez => ?_)
      obtain ⟨ez1, ez2⟩ := ez
      subst ez1
      subst ez2
      refine qb_feq (tgt := 38) (pc' := 26) dX10_engage_23 rfl rfl (fun c372 => ?_) (fun c372 => ?_)
      · have h := h.1 c372
        refine qb_bipush (pc' := 40) dX10_engage_38 rfl rfl rfl ?_
        exact qb_reti dX10_engage_40 rfl h
      · have h := h.2 c372
        refine qb_iload (pc' := 28) dX10_engage_26 rfl rfl ?_
        refine qb_iconst (pc' := 29) dX10_engage_28 rfl rfl ?_
        refine qb_sipush (pc' := 32) dX10_engage_29 rfl rfl rfl ?_
        refine qb_callSi (pc' := 35) (as := [.inl x4, .inl 1, .inl 1000]) (rest := []) dX10_engage_32 rfl qe_mX10_engage_mX10_within rfl rfl rfl (Nat.le_of_ble_eq_true rfl) (Nat.le_of_ble_eq_true rfl) ⟨rfl, rfl⟩ (K := fun vz hpz => (v_q_within x4 1 1000) = vz ∧ hp = hpz) (s_q_within x4 1 1000 hp _ trivial ⟨rfl, rfl⟩) (fun vz hpz ez => ?_)
        obtain ⟨ez1, ez2⟩ := ez
        subst ez1
        subst ez2
        refine qb_fne (tgt := 41) (pc' := 38) dX10_engage_35 rfl rfl (fun c373 => ?_) (fun c373 => ?_)
        · have h := h.2 c373
          refine qb_aloadn (pc' := 42) (i := 0) dX10_engage_41 rfl rfl rfl ?_
          refine qb_geta (pc' := 45) dX10_engage_42 rfl qf_X10_61 qb_s0 rfl ?_
          refine qb_iloadn (pc' := 46) (i := 1) dX10_engage_45 rfl rfl rfl ?_
          refine qb_iloadn (pc' := 47) (i := 2) dX10_engage_46 rfl rfl rfl ?_
          refine qb_iloadn (pc' := 48) (i := 3) dX10_engage_47 rfl rfl rfl ?_
          refine qb_iload (pc' := 50) dX10_engage_48 rfl rfl ?_
          obtain ⟨g955, h⟩ := h
          refine qb_callVu (pc' := 53) (b := 36) (as := [.inl x1, .inl x2, .inl x3, .inl x4]) (rest := []) dX10_engage_50 rfl qe_mX10_engage_mX1_bind rfl rfl qb_s36 rfl rfl (Nat.le_of_ble_eq_true rfl) (Nat.le_of_ble_eq_true rfl) ⟨rfl, rfl⟩ (K := fun hpz => (h_bo_bind x1 x2 x3 x4 hp) = hpz) (s_bo_bind x1 x2 x3 x4 hp _ g955 rfl) (fun hpz ez => ?_)
          subst ez
          refine qb_iconst (pc' := 54) dX10_engage_53 rfl rfl ?_
          exact qb_reti dX10_engage_54 rfl h
        · have h := h.1 c373
          refine qb_bipush (pc' := 40) dX10_engage_38 rfl rfl rfl ?_
          exact qb_reti dX10_engage_40 rfl h
    · have h := h.1 c371
      refine qb_iconst (pc' := 15) dX10_engage_14 rfl rfl ?_
      exact qb_reti dX10_engage_15 rfl h
def v_q_engage (x1 : Int) (x2 : Int) (x3 : Int) (x4 : Int) : Int := (if (v_q_isBoat x1) = 0 then ((-1) : Int) else (if (v_q_isQuayOrNone x2) = 0 then ((-1) : Int) else (if (v_q_within x3 0 50) = 0 then ((-2) : Int) else (if (v_q_within x4 1 1000) = 0 then ((-2) : Int) else 1))))
def h_q_engage (x1 : Int) (x2 : Int) (x3 : Int) (x4 : Int) (hp : qb_H) : qb_H := (if (v_q_isBoat x1) = 0 then hp else (if (v_q_isQuayOrNone x2) = 0 then hp else (if (v_q_within x3 0 50) = 0 then hp else (if (v_q_within x4 1 1000) = 0 then hp else (h_bo_bind x1 x2 x3 x4 hp)))))
theorem hn_q_engage (x1 : Int) (x2 : Int) (x3 : Int) (x4 : Int) (hp : qb_H) (c : Nat) (h37 : c ≠ 37) (h38 : c ≠ 38) (h39 : c ≠ 39) : h_q_engage x1 x2 x3 x4 hp c = hp c := by
  unfold h_q_engage
  (repeat' split) <;> simp only [qb_st_ne, qb_cpy_ne, ne_eq, not_false_eq_true, h37, h38, h39, hn_bo_bind,]
def g_q_engage (x1 : Int) (x2 : Int) (x3 : Int) (x4 : Int) : Prop := (¬ (v_q_isBoat x1) = 0 → (¬ (v_q_isQuayOrNone x2) = 0 → (¬ (v_q_within x3 0 50) = 0 → (¬ (v_q_within x4 1 1000) = 0 → g_bo_bind x1 x2 x3 x4))))
theorem s_q_engage (x1 : Int) (x2 : Int) (x3 : Int) (x4 : Int) (hp : qb_H) (K : Int → qb_H → Prop) (hg : g_q_engage x1 x2 x3 x4) (hK : K (v_q_engage x1 x2 x3 x4) (h_q_engage x1 x2 x3 x4 hp)) : c_q_engage x1 x2 x3 x4 hp K := by
  refine b_q_engage ?_
  unfold g_q_engage at hg
  unfold v_q_engage h_q_engage at hK
  refine ⟨fun c374 => ?_, fun c374 => ?_⟩
  · simpa only [if_pos c374] using hK
  · have hg := hg c374
    refine ⟨fun c375 => ?_, fun c375 => ?_⟩
    · simpa only [if_neg c374, if_pos c375] using hK
    · have hg := hg c375
      refine ⟨fun c376 => ?_, fun c376 => ?_⟩
      · simpa only [if_neg c374, if_neg c375, if_pos c376] using hK
      · have hg := hg c376
        refine ⟨fun c377 => ?_, fun c377 => ?_⟩
        · simpa only [if_neg c374, if_neg c375, if_neg c376, if_pos c377] using hK
        · have hg := hg c377
          refine ⟨hg, ?_⟩
          simpa only [if_neg c374, if_neg c375, if_neg c376, if_neg c377] using hK
def c_ju_listAble (hp : qb_H) (K : qb_H → Prop) : Prop := qb_R mX6_listAble 0 0 qb_sh 0 [qb_a 32, none] [] hp (qb_U qb_sh K)
def r_ju_listAble_7 (x1 : Int) (hp : qb_H) (K : qb_H → Prop) : Prop := qb_R mX6_listAble 0 0 qb_sh 7 [qb_a 32, qb_i x1] [] hp (qb_U qb_sh K)
theorem b_ju_listAble {hp : qb_H} {K : qb_H → Prop} (h : r_ju_listAble_7 0 (qb_st hp 32 5 0) K) : c_ju_listAble hp K := by
  unfold c_ju_listAble
  refine qb_aloadn (pc' := 1) (i := 0) dX6_listAble_0 rfl rfl rfl ?_
  refine qb_iconst (pc' := 2) dX6_listAble_1 rfl rfl ?_
  refine qb_puti (pc' := 5) (hp' := (qb_st hp 32 5 0)) dX6_listAble_2 rfl qf_X6_41 (Or.inl rfl) qb_s32 rfl rfl ?_
  refine qb_iconst (pc' := 6) dX6_listAble_5 rfl rfl ?_
  refine qb_istoren (pc' := 7) (i := 1) (L' := [qb_a 32, qb_i 0]) dX6_listAble_6 rfl rfl (Nat.le_of_ble_eq_true rfl) rfl rfl ?_
  refine qb_cut (L' := [qb_a 32, qb_i 0]) [true, true] rfl ?_
  exact h
theorem b_ju_listAble_7 {x1 : Int} {hp : qb_H} {K : qb_H → Prop} (h : (30 ≤ x1 → K hp) ∧ (¬ 30 ≤ x1 → (g_ju_mayBe x1 hp) ∧ (¬ (v_ju_mayBe x1 hp) = 0 → 0 ≤ (hp 32 5) ∧ (hp 32 5) < 30) ∧ (∀ (hq94 : qb_H), hq94 = (if (v_ju_mayBe x1 hp) = 0 then hp else (qb_st (qb_st hp 34 (hp 32 5) x1) 32 5 ((hp 32 5) + 1))) → (qb_in (x1 + 1)) ∧ r_ju_listAble_7 (x1 + 1) hq94 K))) : r_ju_listAble_7 x1 hp K := by
  unfold r_ju_listAble_7
  refine qb_iloadn (pc' := 8) (i := 1) dX6_listAble_7 rfl rfl rfl ?_
  refine qb_bipush (pc' := 10) dX6_listAble_8 rfl rfl rfl ?_
  refine qb_cge (tgt := 47) (pc' := 13) dX6_listAble_10 rfl rfl (fun c379 => ?_) (fun c379 => ?_)
  · have h := h.1 c379
    exact qb_retv dX6_listAble_47 rfl h
  · have h := h.2 c379
    refine qb_aloadn (pc' := 14) (i := 0) dX6_listAble_13 rfl rfl rfl ?_
    refine qb_iloadn (pc' := 15) (i := 1) dX6_listAble_14 rfl rfl rfl ?_
    obtain ⟨g956, h⟩ := h
    refine qb_callVi (pc' := 18) (b := 32) (as := [.inl x1]) (rest := []) dX6_listAble_15 rfl qe_mX6_listAble_mX6_mayBe rfl rfl qb_s32 rfl rfl (Nat.le_of_ble_eq_true rfl) (Nat.le_of_ble_eq_true rfl) ⟨rfl, rfl⟩ (K := fun vz hpz => (v_ju_mayBe x1 hp) = vz ∧ hp = hpz) (s_ju_mayBe x1 hp _ g956 ⟨rfl, rfl⟩) (fun vz hpz ez => ?_)
    obtain ⟨ez1, ez2⟩ := ez
    subst ez1
    subst ez2
    obtain ⟨gb, h⟩ := h
    have k234 : ∀ (hq94 : qb_H), hq94 = (if (v_ju_mayBe x1 hp) = 0 then hp else (qb_st (qb_st hp 34 (hp 32 5) x1) 32 5 ((hp 32 5) + 1))) → qb_R mX6_listAble 0 0 qb_sh 41 [qb_a 32, qb_i x1] [] hq94 (qb_U qb_sh K) := by
      intro hq94 ehq94
      have h := h hq94 ehq94
      obtain ⟨g959, h⟩ := h
      refine qb_iinc (pc' := 44) (L' := [qb_a 32, qb_i (x1 + 1)]) dX6_listAble_41 rfl rfl g959 (Nat.le_of_ble_eq_true rfl) rfl rfl ?_
      refine qb_goto (tgt := 7) dX6_listAble_44 rfl ?_
      refine qb_cut (L' := [qb_a 32, qb_i (x1 + 1)]) [true, true] rfl ?_
      exact h
    refine qb_feq (tgt := 41) (pc' := 21) dX6_listAble_18 rfl rfl (fun c380 => ?_) (fun c380 => ?_)
    · refine qb_cut (L' := [qb_a 32, qb_i x1]) [true, true] rfl ?_
      exact k234 _ (if_pos c380).symm
    · have h := gb c380
      refine qb_aloadn (pc' := 22) (i := 0) dX6_listAble_21 rfl rfl rfl ?_
      refine qb_geta (pc' := 25) dX6_listAble_22 rfl qf_X6_15 qb_s32 rfl ?_
      refine qb_aloadn (pc' := 26) (i := 0) dX6_listAble_25 rfl rfl rfl ?_
      refine qb_geti (pc' := 29) (v := (hp 32 5)) dX6_listAble_26 rfl qf_X6_41 qb_s32 rfl rfl ?_
      refine qb_iloadn (pc' := 30) (i := 1) dX6_listAble_29 rfl rfl rfl ?_
      have g958 := h
      refine qb_iast (pc' := 31) dX6_listAble_30 rfl qb_s34 g958.1 g958.2 ?_
      refine qb_aloadn (pc' := 32) (i := 0) dX6_listAble_31 rfl rfl rfl ?_
      refine qb_dup (pc' := 33) dX6_listAble_32 rfl rfl ?_
      refine qb_geti (pc' := 36) (v := (hp 32 5)) dX6_listAble_33 rfl qf_X6_41 qb_s32 rfl (qb_rdn rfl rfl) ?_
      refine qb_iconst (pc' := 37) dX6_listAble_36 rfl rfl ?_
      refine qb_iadd (pc' := 38) dX6_listAble_37 rfl (qb_ina g958 (by decide)) ?_
      refine qb_puti (pc' := 41) (hp' := (qb_st (qb_st hp 34 (hp 32 5) x1) 32 5 ((hp 32 5) + 1))) dX6_listAble_38 rfl qf_X6_41 (Or.inl rfl) qb_s32 rfl rfl ?_
      refine qb_cut (L' := [qb_a 32, qb_i x1]) [true, true] rfl ?_
      exact k234 _ (if_neg c380).symm
def c_ju_explainsAll (x1 : Int) (hp : qb_H) (K : Int → qb_H → Prop) : Prop := qb_R mX6_explainsAll 0 0 qb_sh 0 [qb_a 32, qb_i x1, none, none] [] hp (qb_I qb_sh K)
def r_ju_explainsAll_7 (x1 : Int) (x2 : Int) (x3 : Int) (hp : qb_H) (K : Int → qb_H → Prop) : Prop := qb_R mX6_explainsAll 0 0 qb_sh 7 [qb_a 32, qb_i x1, qb_i x2, qb_i x3] [] hp (qb_I qb_sh K)
theorem b_ju_explainsAll {x1 : Int} {hp : qb_H} {K : Int → qb_H → Prop} (h : r_ju_explainsAll_7 x1 (hp 32 3) 0 hp K) : c_ju_explainsAll x1 hp K := by
  unfold c_ju_explainsAll
  refine qb_aloadn (pc' := 1) (i := 0) dX6_explainsAll_0 rfl rfl rfl ?_
  refine qb_geti (pc' := 4) (v := (hp 32 3)) dX6_explainsAll_1 rfl qf_X6_25 qb_s32 rfl rfl ?_
  refine qb_istoren (pc' := 5) (i := 2) (L' := [qb_a 32, qb_i x1, qb_i (hp 32 3), none]) dX6_explainsAll_4 rfl rfl (Nat.le_of_ble_eq_true rfl) rfl rfl ?_
  refine qb_iconst (pc' := 6) dX6_explainsAll_5 rfl rfl ?_
  refine qb_istoren (pc' := 7) (i := 3) (L' := [qb_a 32, qb_i x1, qb_i (hp 32 3), qb_i 0]) dX6_explainsAll_6 rfl rfl (Nat.le_of_ble_eq_true rfl) rfl rfl ?_
  refine qb_cut (L' := [qb_a 32, qb_i x1, qb_i (hp 32 3), qb_i 0]) [true, true, true, true] rfl ?_
  exact h
theorem b_ju_explainsAll_7 {x1 x2 x3 : Int} {hp : qb_H} {K : Int → qb_H → Prop} (h : (x1 ≤ x3 → (∀ (y98 : Int), y98 = (if x2 = 0 then (1 : Int) else 0) → K y98 hp)) ∧ (¬ x1 ≤ x3 → (0 ≤ x3 ∧ x3 < 3) ∧ (0 ≤ (hp 35 x3) ∧ (hp 35 x3) < 30) ∧ (0 ≤ (hp 34 (hp 35 x3)) ∧ (hp 34 (hp 35 x3)) < 30) ∧ (∀ (y99 : Int), y99 = (qb_and x2 (qb_xor (hp 33 (hp 34 (hp 35 x3))) (-1))) → r_ju_explainsAll_7 x1 y99 (x3 + 1) hp K))) : r_ju_explainsAll_7 x1 x2 x3 hp K := by
  unfold r_ju_explainsAll_7
  refine qb_iloadn (pc' := 8) (i := 3) dX6_explainsAll_7 rfl rfl rfl ?_
  refine qb_iloadn (pc' := 9) (i := 1) dX6_explainsAll_8 rfl rfl rfl ?_
  refine qb_cge (tgt := 39) (pc' := 12) dX6_explainsAll_9 rfl rfl (fun c386 => ?_) (fun c386 => ?_)
  · have h := h.1 c386
    refine qb_iloadn (pc' := 40) (i := 2) dX6_explainsAll_39 rfl rfl rfl ?_
    have k237 : ∀ (y98 : Int), y98 = (if x2 = 0 then (1 : Int) else 0) → qb_R mX6_explainsAll 0 0 qb_sh 48 [none, none, none, none] [.inl y98] hp (qb_I qb_sh K) := by
      intro y98 ey98
      have h := h y98 ey98
      exact qb_retz dX6_explainsAll_48 rfl (by rw [ey98]; (repeat' split) <;> first | exact Or.inl rfl | exact Or.inr rfl) h
    refine qb_fne (tgt := 47) (pc' := 43) dX6_explainsAll_40 rfl rfl (fun c387 => ?_) (fun c387 => ?_)
    · refine qb_iconst (pc' := 48) dX6_explainsAll_47 rfl rfl ?_
      refine qb_cut (L' := [none, none, none, none]) [false, false, false, false] rfl ?_
      exact k237 _ (if_neg c387).symm
    · refine qb_iconst (pc' := 44) dX6_explainsAll_43 rfl rfl ?_
      refine qb_goto (tgt := 48) dX6_explainsAll_44 rfl ?_
      refine qb_cut (L' := [none, none, none, none]) [false, false, false, false] rfl ?_
      exact k237 _ (if_pos c387).symm
  · have h := h.2 c386
    refine qb_iloadn (pc' := 13) (i := 2) dX6_explainsAll_12 rfl rfl rfl ?_
    refine qb_aloadn (pc' := 14) (i := 0) dX6_explainsAll_13 rfl rfl rfl ?_
    refine qb_geta (pc' := 17) dX6_explainsAll_14 rfl qf_X6_9 qb_s32 rfl ?_
    refine qb_aloadn (pc' := 18) (i := 0) dX6_explainsAll_17 rfl rfl rfl ?_
    refine qb_geta (pc' := 21) dX6_explainsAll_18 rfl qf_X6_15 qb_s32 rfl ?_
    refine qb_aloadn (pc' := 22) (i := 0) dX6_explainsAll_21 rfl rfl rfl ?_
    refine qb_geta (pc' := 25) dX6_explainsAll_22 rfl qf_X6_18 qb_s32 rfl ?_
    refine qb_iloadn (pc' := 26) (i := 3) dX6_explainsAll_25 rfl rfl rfl ?_
    obtain ⟨g961, h⟩ := h
    refine qb_iald (pc' := 27) (v := (hp 35 x3)) dX6_explainsAll_26 rfl qb_s35 g961.1 g961.2 rfl ?_
    obtain ⟨g962, h⟩ := h
    refine qb_iald (pc' := 28) (v := (hp 34 (hp 35 x3))) dX6_explainsAll_27 rfl qb_s34 g962.1 g962.2 rfl ?_
    obtain ⟨g963, h⟩ := h
    refine qb_iald (pc' := 29) (v := (hp 33 (hp 34 (hp 35 x3)))) dX6_explainsAll_28 rfl qb_s33 g963.1 g963.2 rfl ?_
    refine qb_iconst (pc' := 30) dX6_explainsAll_29 rfl rfl ?_
    refine qb_ixor (pc' := 31) dX6_explainsAll_30 rfl ?_
    refine qb_iand (pc' := 32) dX6_explainsAll_31 rfl ?_
    refine qb_istoreny (pc' := 33) (Lf := fun y99 => [qb_a 32, qb_i x1, qb_i y99, qb_i x3]) dX6_explainsAll_32 rfl rfl (Nat.le_of_ble_eq_true rfl) rfl (fun _ => rfl) (fun y99 ey99 => ?_)
    have h := h y99 ey99
    refine qb_iinc (pc' := 36) (L' := [qb_a 32, qb_i x1, qb_i y99, qb_i (x3 + 1)]) dX6_explainsAll_33 rfl rfl (qb_ina g961 (by decide)) (Nat.le_of_ble_eq_true rfl) rfl rfl ?_
    refine qb_goto (tgt := 7) dX6_explainsAll_36 rfl ?_
    refine qb_cut (L' := [qb_a 32, qb_i x1, qb_i y99, qb_i (x3 + 1)]) [true, true, true, true] rfl ?_
    exact h
def c_ju_advance (x1 : Int) (hp : qb_H) (K : Int → qb_H → Prop) : Prop := qb_R mX6_advance 0 0 qb_sh 0 [qb_a 32, qb_i x1, none, none] [] hp (qb_I qb_sh K)
def r_ju_advance_4 (x1 : Int) (x2 : Int) (hp : qb_H) (K : Int → qb_H → Prop) : Prop := qb_R mX6_advance 0 0 qb_sh 4 [qb_a 32, qb_i x1, qb_i x2, none] [] hp (qb_I qb_sh K)
def r_ju_advance_39 (x1 : Int) (x3 : Int) (hp : qb_H) (K : Int → qb_H → Prop) : Prop := qb_R mX6_advance 0 0 qb_sh 39 [qb_a 32, qb_i x1, none, qb_i x3] [] hp (qb_I qb_sh K)
theorem b_ju_advance {x1 : Int} {hp : qb_H} {K : Int → qb_H → Prop} (h : (qb_in (x1 - 1)) ∧ r_ju_advance_4 x1 (x1 - 1) hp K) : c_ju_advance x1 hp K := by
  unfold c_ju_advance
  refine qb_iloadn (pc' := 1) (i := 1) dX6_advance_0 rfl rfl rfl ?_
  refine qb_iconst (pc' := 2) dX6_advance_1 rfl rfl ?_
  obtain ⟨g965, h⟩ := h
  refine qb_isub (pc' := 3) dX6_advance_2 rfl g965 ?_
  refine qb_istoren (pc' := 4) (i := 2) (L' := [qb_a 32, qb_i x1, qb_i (x1 - 1), none]) dX6_advance_3 rfl rfl (Nat.le_of_ble_eq_true rfl) rfl rfl ?_
  refine qb_cut (L' := [qb_a 32, qb_i x1, qb_i (x1 - 1), none]) [true, true, true, false] rfl ?_
  exact h
theorem b_ju_advance_4 {x1 x2 : Int} {hp : qb_H} {K : Int → qb_H → Prop} (h : (x2 < 0 → K 0 hp) ∧ (¬ x2 < 0 → (0 ≤ x2 ∧ x2 < 3) ∧ (qb_in ((hp 32 5) - x1)) ∧ (qb_in (((hp 32 5) - x1) + x2)) ∧ (((((hp 32 5) - x1) + x2) ≤ (hp 35 x2) → r_ju_advance_4 x1 (x2 + (-1)) hp K) ∧ (¬ (((hp 32 5) - x1) + x2) ≤ (hp 35 x2) → (qb_in ((hp 35 x2) + 1)) ∧ r_ju_advance_39 x1 (x2 + 1) (qb_st hp 35 x2 ((hp 35 x2) + 1)) K)))) : r_ju_advance_4 x1 x2 hp K := by
  unfold r_ju_advance_4
  refine qb_iloadn (pc' := 5) (i := 2) dX6_advance_4 rfl rfl rfl ?_
  refine qb_flt (tgt := 74) (pc' := 8) dX6_advance_5 rfl rfl (fun c389 => ?_) (fun c389 => ?_)
  · have h := h.1 c389
    refine qb_iconst (pc' := 75) dX6_advance_74 rfl rfl ?_
    exact qb_retz dX6_advance_75 rfl (Or.inl rfl) h
  · have h := h.2 c389
    refine qb_aloadn (pc' := 9) (i := 0) dX6_advance_8 rfl rfl rfl ?_
    refine qb_geta (pc' := 12) dX6_advance_9 rfl qf_X6_18 qb_s32 rfl ?_
    refine qb_iloadn (pc' := 13) (i := 2) dX6_advance_12 rfl rfl rfl ?_
    obtain ⟨g966, h⟩ := h
    refine qb_iald (pc' := 14) (v := (hp 35 x2)) dX6_advance_13 rfl qb_s35 g966.1 g966.2 rfl ?_
    refine qb_aloadn (pc' := 15) (i := 0) dX6_advance_14 rfl rfl rfl ?_
    refine qb_geti (pc' := 18) (v := (hp 32 5)) dX6_advance_15 rfl qf_X6_41 qb_s32 rfl rfl ?_
    refine qb_iloadn (pc' := 19) (i := 1) dX6_advance_18 rfl rfl rfl ?_
    obtain ⟨g967, h⟩ := h
    refine qb_isub (pc' := 20) dX6_advance_19 rfl g967 ?_
    refine qb_iloadn (pc' := 21) (i := 2) dX6_advance_20 rfl rfl rfl ?_
    obtain ⟨g968, h⟩ := h
    refine qb_iadd (pc' := 22) dX6_advance_21 rfl g968 ?_
    refine qb_cge (tgt := 68) (pc' := 25) dX6_advance_22 rfl rfl (fun c390 => ?_) (fun c390 => ?_)
    · have h := h.1 c390
      refine qb_iinc (pc' := 71) (L' := [qb_a 32, qb_i x1, qb_i (x2 + (-1)), none]) dX6_advance_68 rfl rfl (qb_ina g966 (by decide)) (Nat.le_of_ble_eq_true rfl) rfl rfl ?_
      refine qb_goto (tgt := 4) dX6_advance_71 rfl ?_
      refine qb_cut (L' := [qb_a 32, qb_i x1, qb_i (x2 + (-1)), none]) [true, true, true, false] rfl ?_
      exact h
    · have h := h.2 c390
      refine qb_aloadn (pc' := 26) (i := 0) dX6_advance_25 rfl rfl rfl ?_
      refine qb_geta (pc' := 29) dX6_advance_26 rfl qf_X6_18 qb_s32 rfl ?_
      refine qb_iloadn (pc' := 30) (i := 2) dX6_advance_29 rfl rfl rfl ?_
      refine qb_dup2 (pc' := 31) dX6_advance_30 rfl rfl rfl ?_
      refine qb_iald (pc' := 32) (v := (hp 35 x2)) dX6_advance_31 rfl qb_s35 g966.1 g966.2 rfl ?_
      refine qb_iconst (pc' := 33) dX6_advance_32 rfl rfl ?_
      obtain ⟨g969, h⟩ := h
      refine qb_iadd (pc' := 34) dX6_advance_33 rfl g969 ?_
      refine qb_iast (pc' := 35) dX6_advance_34 rfl qb_s35 g966.1 g966.2 ?_
      refine qb_iloadn (pc' := 36) (i := 2) dX6_advance_35 rfl rfl rfl ?_
      refine qb_iconst (pc' := 37) dX6_advance_36 rfl rfl ?_
      refine qb_iadd (pc' := 38) dX6_advance_37 rfl (qb_ina g966 (by decide)) ?_
      refine qb_istoren (pc' := 39) (i := 3) (L' := [qb_a 32, qb_i x1, qb_i x2, qb_i (x2 + 1)]) dX6_advance_38 rfl rfl (Nat.le_of_ble_eq_true rfl) rfl rfl ?_
      refine qb_cut (L' := [qb_a 32, qb_i x1, none, qb_i (x2 + 1)]) [true, true, false, true] rfl ?_
      exact h
theorem b_ju_advance_39 {x1 x3 : Int} {hp : qb_H} {K : Int → qb_H → Prop} (h : (x1 ≤ x3 → K 1 hp) ∧ (¬ x1 ≤ x3 → (qb_in (x3 - 1)) ∧ (0 ≤ (x3 - 1) ∧ (x3 - 1) < 3) ∧ (qb_in ((hp 35 (x3 - 1)) + 1)) ∧ (0 ≤ x3 ∧ x3 < 3) ∧ r_ju_advance_39 x1 (x3 + 1) (qb_st hp 35 x3 ((hp 35 (x3 - 1)) + 1)) K)) : r_ju_advance_39 x1 x3 hp K := by
  unfold r_ju_advance_39
  refine qb_iloadn (pc' := 40) (i := 3) dX6_advance_39 rfl rfl rfl ?_
  refine qb_iloadn (pc' := 41) (i := 1) dX6_advance_40 rfl rfl rfl ?_
  refine qb_cge (tgt := 66) (pc' := 44) dX6_advance_41 rfl rfl (fun c391 => ?_) (fun c391 => ?_)
  · have h := h.1 c391
    refine qb_iconst (pc' := 67) dX6_advance_66 rfl rfl ?_
    exact qb_retz dX6_advance_67 rfl (Or.inr rfl) h
  · have h := h.2 c391
    refine qb_aloadn (pc' := 45) (i := 0) dX6_advance_44 rfl rfl rfl ?_
    refine qb_geta (pc' := 48) dX6_advance_45 rfl qf_X6_18 qb_s32 rfl ?_
    refine qb_iloadn (pc' := 49) (i := 3) dX6_advance_48 rfl rfl rfl ?_
    refine qb_aloadn (pc' := 50) (i := 0) dX6_advance_49 rfl rfl rfl ?_
    refine qb_geta (pc' := 53) dX6_advance_50 rfl qf_X6_18 qb_s32 rfl ?_
    refine qb_iloadn (pc' := 54) (i := 3) dX6_advance_53 rfl rfl rfl ?_
    refine qb_iconst (pc' := 55) dX6_advance_54 rfl rfl ?_
    obtain ⟨g970, h⟩ := h
    refine qb_isub (pc' := 56) dX6_advance_55 rfl g970 ?_
    obtain ⟨g971, h⟩ := h
    refine qb_iald (pc' := 57) (v := (hp 35 (x3 - 1))) dX6_advance_56 rfl qb_s35 g971.1 g971.2 rfl ?_
    refine qb_iconst (pc' := 58) dX6_advance_57 rfl rfl ?_
    obtain ⟨g972, h⟩ := h
    refine qb_iadd (pc' := 59) dX6_advance_58 rfl g972 ?_
    obtain ⟨g973, h⟩ := h
    refine qb_iast (pc' := 60) dX6_advance_59 rfl qb_s35 g973.1 g973.2 ?_
    refine qb_iinc (pc' := 63) (L' := [qb_a 32, qb_i x1, none, qb_i (x3 + 1)]) dX6_advance_60 rfl rfl (qb_ina g973 (by decide)) (Nat.le_of_ble_eq_true rfl) rfl rfl ?_
    refine qb_goto (tgt := 39) dX6_advance_63 rfl ?_
    refine qb_cut (L' := [qb_a 32, qb_i x1, none, qb_i (x3 + 1)]) [true, true, false, true] rfl ?_
    exact h
def c_ju_explaining (x1 : Int) (x2 : Int) (hp : qb_H) (K : Int → qb_H → Prop) : Prop := qb_R mX6_explaining 0 0 qb_sh 0 [qb_a 32, qb_i x1, qb_i x2, none, none, none] [] hp (qb_I qb_sh K)
def r_ju_explaining_21 (x1 : Int) (x2 : Int) (x3 : Int) (x4 : Int) (hp : qb_H) (K : Int → qb_H → Prop) : Prop := qb_R mX6_explaining 0 0 qb_sh 21 [qb_a 32, qb_i x1, qb_i x2, qb_i x3, qb_i x4, none] [] hp (qb_I qb_sh K)
def r_ju_explaining_48 (x1 : Int) (x2 : Int) (x3 : Int) (x4 : Int) (x5 : Int) (hp : qb_H) (K : Int → qb_H → Prop) : Prop := qb_R mX6_explaining 0 0 qb_sh 48 [qb_a 32, qb_i x1, qb_i x2, qb_i x3, qb_i x4, qb_i x5] [] hp (qb_I qb_sh K)
theorem b_ju_explaining {x1 x2 : Int} {hp : qb_H} {K : Int → qb_H → Prop} (h : c_ju_listAble hp (fun hp96 => (∀ (y97 : Int), y97 = (if (hp96 32 5) < x1 then (0 : Int) else 1) → r_ju_explaining_21 x1 x2 y97 0 hp96 K))) : c_ju_explaining x1 x2 hp K := by
  unfold c_ju_explaining
  refine qb_aloadn (pc' := 1) (i := 0) dX6_explaining_0 rfl rfl rfl ?_
  refine qb_callVu (pc' := 4) (b := 32) (as := []) (rest := []) dX6_explaining_1 rfl qe_mX6_explaining_mX6_listAble rfl rfl qb_s32 rfl rfl (Nat.le_of_ble_eq_true rfl) (Nat.le_of_ble_eq_true rfl) ⟨rfl, rfl⟩ h (fun hp96 h => ?_)
  refine qb_iloadn (pc' := 5) (i := 1) dX6_explaining_4 rfl rfl rfl ?_
  refine qb_aloadn (pc' := 6) (i := 0) dX6_explaining_5 rfl rfl rfl ?_
  refine qb_geti (pc' := 9) (v := (hp96 32 5)) dX6_explaining_6 rfl qf_X6_41 qb_s32 rfl rfl ?_
  have k236 : ∀ (y97 : Int), y97 = (if (hp96 32 5) < x1 then (0 : Int) else 1) → qb_R mX6_explaining 0 0 qb_sh 17 [qb_a 32, qb_i x1, qb_i x2, none, none, none] [.inl y97] hp96 (qb_I qb_sh K) := by
    intro y97 ey97
    have h := h y97 ey97
    refine qb_istoren (pc' := 18) (i := 3) (L' := [qb_a 32, qb_i x1, qb_i x2, qb_i y97, none, none]) dX6_explaining_17 rfl rfl (Nat.le_of_ble_eq_true rfl) rfl rfl ?_
    refine qb_iconst (pc' := 19) dX6_explaining_18 rfl rfl ?_
    refine qb_istore (pc' := 21) (L' := [qb_a 32, qb_i x1, qb_i x2, qb_i y97, qb_i 0, none]) dX6_explaining_19 rfl (Nat.le_of_ble_eq_true rfl) rfl rfl ?_
    refine qb_cut (L' := [qb_a 32, qb_i x1, qb_i x2, qb_i y97, qb_i 0, none]) [true, true, true, true, true, false] rfl ?_
    exact h
  refine qb_cgt (tgt := 16) (pc' := 12) dX6_explaining_9 rfl rfl (fun c382 => ?_) (fun c382 => ?_)
  · refine qb_iconst (pc' := 17) dX6_explaining_16 rfl rfl ?_
    refine qb_cut (L' := [qb_a 32, qb_i x1, qb_i x2, none, none, none]) [true, true, true, false, false, false] rfl ?_
    exact k236 _ (if_pos c382).symm
  · refine qb_iconst (pc' := 13) dX6_explaining_12 rfl rfl ?_
    refine qb_goto (tgt := 17) dX6_explaining_13 rfl ?_
    refine qb_cut (L' := [qb_a 32, qb_i x1, qb_i x2, none, none, none]) [true, true, true, false, false, false] rfl ?_
    exact k236 _ (if_neg c382).symm
theorem b_ju_explaining_21 {x1 x2 x3 x4 : Int} {hp : qb_H} {K : Int → qb_H → Prop} (h : (x1 ≤ x4 → r_ju_explaining_48 x1 x2 x3 0 0 hp K) ∧ (¬ x1 ≤ x4 → (0 ≤ x4 ∧ x4 < 3) ∧ r_ju_explaining_21 x1 x2 x3 (x4 + 1) (qb_st hp 35 x4 x4) K)) : r_ju_explaining_21 x1 x2 x3 x4 hp K := by
  unfold r_ju_explaining_21
  refine qb_iload (pc' := 23) dX6_explaining_21 rfl rfl ?_
  refine qb_iloadn (pc' := 24) (i := 1) dX6_explaining_23 rfl rfl rfl ?_
  refine qb_cge (tgt := 42) (pc' := 27) dX6_explaining_24 rfl rfl (fun c383 => ?_) (fun c383 => ?_)
  · have h := h.1 c383
    refine qb_iconst (pc' := 43) dX6_explaining_42 rfl rfl ?_
    refine qb_istore (pc' := 45) (L' := [qb_a 32, qb_i x1, qb_i x2, qb_i x3, qb_i 0, none]) dX6_explaining_43 rfl (Nat.le_of_ble_eq_true rfl) rfl rfl ?_
    refine qb_iconst (pc' := 46) dX6_explaining_45 rfl rfl ?_
    refine qb_istore (pc' := 48) (L' := [qb_a 32, qb_i x1, qb_i x2, qb_i x3, qb_i 0, qb_i 0]) dX6_explaining_46 rfl (Nat.le_of_ble_eq_true rfl) rfl rfl ?_
    refine qb_cut (L' := [qb_a 32, qb_i x1, qb_i x2, qb_i x3, qb_i 0, qb_i 0]) [true, true, true, true, true, true] rfl ?_
    exact h
  · have h := h.2 c383
    refine qb_aloadn (pc' := 28) (i := 0) dX6_explaining_27 rfl rfl rfl ?_
    refine qb_geta (pc' := 31) dX6_explaining_28 rfl qf_X6_18 qb_s32 rfl ?_
    refine qb_iload (pc' := 33) dX6_explaining_31 rfl rfl ?_
    refine qb_iload (pc' := 35) dX6_explaining_33 rfl rfl ?_
    obtain ⟨g960, h⟩ := h
    refine qb_iast (pc' := 36) dX6_explaining_35 rfl qb_s35 g960.1 g960.2 ?_
    refine qb_iinc (pc' := 39) (L' := [qb_a 32, qb_i x1, qb_i x2, qb_i x3, qb_i (x4 + 1), none]) dX6_explaining_36 rfl rfl (qb_ina g960 (by decide)) (Nat.le_of_ble_eq_true rfl) rfl rfl ?_
    refine qb_goto (tgt := 21) dX6_explaining_39 rfl ?_
    refine qb_cut (L' := [qb_a 32, qb_i x1, qb_i x2, qb_i x3, qb_i (x4 + 1), none]) [true, true, true, true, true, false] rfl ?_
    exact h
theorem b_ju_explaining_48 {x1 x2 x3 x4 x5 : Int} {hp : qb_H} {K : Int → qb_H → Prop} (h : (x3 = 0 → K x4 hp) ∧ (¬ x3 = 0 → (5000 ≤ x5 → K x4 hp) ∧ (¬ 5000 ≤ x5 → c_ju_explainsAll x1 hp (fun v100 hp100 => (v100 = 0 → c_ju_advance x1 hp100 (fun v101 hp101 => (qb_in (x5 + 1)) ∧ r_ju_explaining_48 x1 x2 v101 x4 (x5 + 1) hp101 K)) ∧ (¬ v100 = 0 → (qb_in (x4 + 1)) ∧ (qb_in ((x4 + 1) - 1)) ∧ ((((x4 + 1) - 1) = x2 → K (x4 + 1) hp100) ∧ (¬ ((x4 + 1) - 1) = x2 → c_ju_advance x1 hp100 (fun v102 hp102 => (qb_in (x5 + 1)) ∧ r_ju_explaining_48 x1 x2 v102 (x4 + 1) (x5 + 1) hp102 K)))))))) : r_ju_explaining_48 x1 x2 x3 x4 x5 hp K := by
  unfold r_ju_explaining_48
  refine qb_iloadn (pc' := 49) (i := 3) dX6_explaining_48 rfl rfl rfl ?_
  refine qb_feq (tgt := 94) (pc' := 52) dX6_explaining_49 rfl rfl (fun c384 => ?_) (fun c384 => ?_)
  · have h := h.1 c384
    refine qb_iload (pc' := 96) dX6_explaining_94 rfl rfl ?_
    exact qb_reti dX6_explaining_96 rfl h
  · have h := h.2 c384
    refine qb_iload (pc' := 54) dX6_explaining_52 rfl rfl ?_
    refine qb_sipush (pc' := 57) dX6_explaining_54 rfl rfl rfl ?_
    refine qb_cge (tgt := 94) (pc' := 60) dX6_explaining_57 rfl rfl (fun c385 => ?_) (fun c385 => ?_)
    · have h := h.1 c385
      refine qb_iload (pc' := 96) dX6_explaining_94 rfl rfl ?_
      exact qb_reti dX6_explaining_96 rfl h
    · have h := h.2 c385
      refine qb_aloadn (pc' := 61) (i := 0) dX6_explaining_60 rfl rfl rfl ?_
      refine qb_iloadn (pc' := 62) (i := 1) dX6_explaining_61 rfl rfl rfl ?_
      refine qb_callVi (pc' := 65) (b := 32) (as := [.inl x1]) (rest := []) dX6_explaining_62 rfl qe_mX6_explaining_mX6_explainsAll rfl rfl qb_s32 rfl rfl (Nat.le_of_ble_eq_true rfl) (Nat.le_of_ble_eq_true rfl) ⟨rfl, rfl⟩ h (fun v100 hp100 h => ?_)
      refine qb_feq (tgt := 82) (pc' := 68) dX6_explaining_65 rfl rfl (fun c388 => ?_) (fun c388 => ?_)
      · have h := h.1 c388
        refine qb_aloadn (pc' := 83) (i := 0) dX6_explaining_82 rfl rfl rfl ?_
        refine qb_iloadn (pc' := 84) (i := 1) dX6_explaining_83 rfl rfl rfl ?_
        refine qb_callVi (pc' := 87) (b := 32) (as := [.inl x1]) (rest := []) dX6_explaining_84 rfl qe_mX6_explaining_mX6_advance rfl rfl qb_s32 rfl rfl (Nat.le_of_ble_eq_true rfl) (Nat.le_of_ble_eq_true rfl) ⟨rfl, rfl⟩ h (fun v101 hp101 h => ?_)
        refine qb_istoren (pc' := 88) (i := 3) (L' := [qb_a 32, qb_i x1, qb_i x2, qb_i v101, qb_i x4, qb_i x5]) dX6_explaining_87 rfl rfl (Nat.le_of_ble_eq_true rfl) rfl rfl ?_
        obtain ⟨g974, h⟩ := h
        refine qb_iinc (pc' := 91) (L' := [qb_a 32, qb_i x1, qb_i x2, qb_i v101, qb_i x4, qb_i (x5 + 1)]) dX6_explaining_88 rfl rfl g974 (Nat.le_of_ble_eq_true rfl) rfl rfl ?_
        refine qb_goto (tgt := 48) dX6_explaining_91 rfl ?_
        refine qb_cut (L' := [qb_a 32, qb_i x1, qb_i x2, qb_i v101, qb_i x4, qb_i (x5 + 1)]) [true, true, true, true, true, true] rfl ?_
        exact h
      · have h := h.2 c388
        obtain ⟨g975, h⟩ := h
        refine qb_iinc (pc' := 71) (L' := [qb_a 32, qb_i x1, qb_i x2, qb_i x3, qb_i (x4 + 1), qb_i x5]) dX6_explaining_68 rfl rfl g975 (Nat.le_of_ble_eq_true rfl) rfl rfl ?_
        refine qb_iload (pc' := 73) dX6_explaining_71 rfl rfl ?_
        refine qb_iconst (pc' := 74) dX6_explaining_73 rfl rfl ?_
        obtain ⟨g976, h⟩ := h
        refine qb_isub (pc' := 75) dX6_explaining_74 rfl g976 ?_
        refine qb_iloadn (pc' := 76) (i := 2) dX6_explaining_75 rfl rfl rfl ?_
        refine qb_cne (tgt := 82) (pc' := 79) dX6_explaining_76 rfl rfl (fun c392 => ?_) (fun c392 => ?_)
        · have h := h.2 c392
          refine qb_aloadn (pc' := 83) (i := 0) dX6_explaining_82 rfl rfl rfl ?_
          refine qb_iloadn (pc' := 84) (i := 1) dX6_explaining_83 rfl rfl rfl ?_
          refine qb_callVi (pc' := 87) (b := 32) (as := [.inl x1]) (rest := []) dX6_explaining_84 rfl qe_mX6_explaining_mX6_advance rfl rfl qb_s32 rfl rfl (Nat.le_of_ble_eq_true rfl) (Nat.le_of_ble_eq_true rfl) ⟨rfl, rfl⟩ h (fun v102 hp102 h => ?_)
          refine qb_istoren (pc' := 88) (i := 3) (L' := [qb_a 32, qb_i x1, qb_i x2, qb_i v102, qb_i (x4 + 1), qb_i x5]) dX6_explaining_87 rfl rfl (Nat.le_of_ble_eq_true rfl) rfl rfl ?_
          obtain ⟨g977, h⟩ := h
          refine qb_iinc (pc' := 91) (L' := [qb_a 32, qb_i x1, qb_i x2, qb_i v102, qb_i (x4 + 1), qb_i (x5 + 1)]) dX6_explaining_88 rfl rfl g977 (Nat.le_of_ble_eq_true rfl) rfl rfl ?_
          refine qb_goto (tgt := 48) dX6_explaining_91 rfl ?_
          refine qb_cut (L' := [qb_a 32, qb_i x1, qb_i x2, qb_i v102, qb_i (x4 + 1), qb_i (x5 + 1)]) [true, true, true, true, true, true] rfl ?_
          exact h
        · have h := h.1 c392
          refine qb_iload (pc' := 81) dX6_explaining_79 rfl rfl ?_
          exact qb_reti dX6_explaining_81 rfl h
def c_ju_fewest (hp : qb_H) (K : Int → qb_H → Prop) : Prop := qb_R mX6_fewest 0 0 qb_sh 0 [qb_a 32, none] [] hp (qb_I qb_sh K)
def r_ju_fewest_2 (x1 : Int) (hp : qb_H) (K : Int → qb_H → Prop) : Prop := qb_R mX6_fewest 0 0 qb_sh 2 [qb_a 32, qb_i x1] [] hp (qb_I qb_sh K)
theorem b_ju_fewest {hp : qb_H} {K : Int → qb_H → Prop} (h : r_ju_fewest_2 0 hp K) : c_ju_fewest hp K := by
  unfold c_ju_fewest
  refine qb_iconst (pc' := 1) dX6_fewest_0 rfl rfl ?_
  refine qb_istoren (pc' := 2) (i := 1) (L' := [qb_a 32, qb_i 0]) dX6_fewest_1 rfl rfl (Nat.le_of_ble_eq_true rfl) rfl rfl ?_
  refine qb_cut (L' := [qb_a 32, qb_i 0]) [true, true] rfl ?_
  exact h
theorem b_ju_fewest_2 {x1 : Int} {hp : qb_H} {K : Int → qb_H → Prop} (h : (3 < x1 → K (-6) hp) ∧ (¬ 3 < x1 → c_ju_explaining x1 0 hp (fun v103 hp103 => (v103 ≤ 0 → (qb_in (x1 + 1)) ∧ r_ju_fewest_2 (x1 + 1) hp103 K) ∧ (¬ v103 ≤ 0 → K x1 hp103)))) : r_ju_fewest_2 x1 hp K := by
  unfold r_ju_fewest_2
  refine qb_iloadn (pc' := 3) (i := 1) dX6_fewest_2 rfl rfl rfl ?_
  refine qb_iconst (pc' := 4) dX6_fewest_3 rfl rfl ?_
  refine qb_cgt (tgt := 24) (pc' := 7) dX6_fewest_4 rfl rfl (fun c378 => ?_) (fun c378 => ?_)
  · have h := h.1 c378
    refine qb_bipush (pc' := 26) dX6_fewest_24 rfl rfl rfl ?_
    exact qb_reti dX6_fewest_26 rfl h
  · have h := h.2 c378
    refine qb_aloadn (pc' := 8) (i := 0) dX6_fewest_7 rfl rfl rfl ?_
    refine qb_iloadn (pc' := 9) (i := 1) dX6_fewest_8 rfl rfl rfl ?_
    refine qb_iconst (pc' := 10) dX6_fewest_9 rfl rfl ?_
    refine qb_callVi (pc' := 13) (b := 32) (as := [.inl x1, .inl 0]) (rest := []) dX6_fewest_10 rfl qe_mX6_fewest_mX6_explaining rfl rfl qb_s32 rfl rfl (Nat.le_of_ble_eq_true rfl) (Nat.le_of_ble_eq_true rfl) ⟨rfl, rfl⟩ h (fun v103 hp103 h => ?_)
    refine qb_fle (tgt := 18) (pc' := 16) dX6_fewest_13 rfl rfl (fun c393 => ?_) (fun c393 => ?_)
    · have h := h.1 c393
      obtain ⟨g978, h⟩ := h
      refine qb_iinc (pc' := 21) (L' := [qb_a 32, qb_i (x1 + 1)]) dX6_fewest_18 rfl rfl g978 (Nat.le_of_ble_eq_true rfl) rfl rfl ?_
      refine qb_goto (tgt := 2) dX6_fewest_21 rfl ?_
      refine qb_cut (L' := [qb_a 32, qb_i (x1 + 1)]) [true, true] rfl ?_
      exact h
    · have h := h.2 c393
      refine qb_iloadn (pc' := 17) (i := 1) dX6_fewest_16 rfl rfl rfl ?_
      exact qb_reti dX6_fewest_17 rfl h
def c_q_explained (hp : qb_H) (K : Int → qb_H → Prop) : Prop := qb_R mX10_explained 0 0 qb_sh 0 [qb_a 0] [] hp (qb_I qb_sh K)
theorem b_q_explained {hp : qb_H} {K : Int → qb_H → Prop} (h : c_ju_fewest hp (fun v105 hp105 => K v105 hp105)) : c_q_explained hp K := by
  unfold c_q_explained
  refine qb_aloadn (pc' := 1) (i := 0) dX10_explained_0 rfl rfl rfl ?_
  refine qb_geta (pc' := 4) dX10_explained_1 rfl qf_X10_54 qb_s0 rfl ?_
  refine qb_callVi (pc' := 7) (b := 32) (as := []) (rest := []) dX10_explained_4 rfl qe_mX10_explained_mX6_fewest rfl rfl qb_s32 rfl rfl (Nat.le_of_ble_eq_true rfl) (Nat.le_of_ble_eq_true rfl) ⟨rfl, rfl⟩ h (fun v105 hp105 h => ?_)
  exact qb_reti dX10_explained_7 rfl h
def c_q_fault (hp : qb_H) (K : Int → qb_H → Prop) : Prop := qb_R mX10_fault 0 0 qb_sh 0 [qb_a 0] [] hp (qb_I qb_sh K)
theorem b_q_fault {hp : qb_H} {K : Int → qb_H → Prop} (h : c_dr_firstFault hp (fun v107 hp107 => K v107 hp107)) : c_q_fault hp K := by
  unfold c_q_fault
  refine qb_aloadn (pc' := 1) (i := 0) dX10_fault_0 rfl rfl rfl ?_
  refine qb_geta (pc' := 4) dX10_fault_1 rfl qf_X10_10 qb_s0 rfl ?_
  refine qb_callVi (pc' := 7) (b := 1) (as := []) (rest := []) dX10_fault_4 rfl qe_mX10_fault_mX3_firstFault rfl rfl qb_s1 rfl rfl (Nat.le_of_ble_eq_true rfl) (Nat.le_of_ble_eq_true rfl) ⟨rfl, rfl⟩ h (fun v107 hp107 h => ?_)
  exact qb_reti dX10_fault_7 rfl h
def c_q_isHour (x0 : Int) (hp : qb_H) (K : Int → qb_H → Prop) : Prop := qb_R mX10_isHour 0 0 qb_sh 0 [qb_i x0] [] hp (qb_I qb_sh K)
theorem b_q_isHour {x0 : Int} {hp : qb_H} {K : Int → qb_H → Prop} (h : K (v_q_within x0 0 2000) hp) : c_q_isHour x0 hp K := by
  unfold c_q_isHour
  refine qb_iloadn (pc' := 1) (i := 0) dX10_isHour_0 rfl rfl rfl ?_
  refine qb_iconst (pc' := 2) dX10_isHour_1 rfl rfl ?_
  refine qb_sipush (pc' := 5) dX10_isHour_2 rfl rfl rfl ?_
  refine qb_callSi (pc' := 8) (as := [.inl x0, .inl 0, .inl 2000]) (rest := []) dX10_isHour_5 rfl qe_mX10_isHour_mX10_within rfl rfl rfl (Nat.le_of_ble_eq_true rfl) (Nat.le_of_ble_eq_true rfl) ⟨rfl, rfl⟩ (K := fun vz hpz => (v_q_within x0 0 2000) = vz ∧ hp = hpz) (s_q_within x0 0 2000 hp _ trivial ⟨rfl, rfl⟩) (fun vz hpz ez => ?_)
  obtain ⟨ez1, ez2⟩ := ez
  subst ez1
  subst ez2
  exact qb_retz dX10_isHour_8 rfl (by (repeat' split) <;> first | exact Or.inl rfl | exact Or.inr rfl | apply vb_q_within) h
def v_q_isHour (x0 : Int) : Int := (v_q_within x0 0 2000)
theorem vb_q_isHour (x0 : Int) : v_q_isHour x0 = 0 ∨ v_q_isHour x0 = 1 := by
  unfold v_q_isHour
  (repeat' split) <;> first | exact Or.inl rfl | exact Or.inr rfl | apply vb_q_within
theorem s_q_isHour (x0 : Int) (hp : qb_H) (K : Int → qb_H → Prop) (hg : True) (hK : K (v_q_isHour x0) hp) : c_q_isHour x0 hp K := by
  refine b_q_isHour ?_
  unfold v_q_isHour at hK
  exact hK
def c_q_filled (x1 : Int) (x2 : Int) (x3 : Int) (x4 : Int) (hp : qb_H) (K : Int → qb_H → Prop) : Prop := qb_R mX10_filled 0 0 qb_sh 0 [qb_a 0, qb_i x1, qb_i x2, qb_i x3, qb_i x4, none, none] [] hp (qb_I qb_sh K)
theorem b_q_filled {x1 x2 x3 x4 : Int} {hp : qb_H} {K : Int → qb_H → Prop} (h : ((v_q_isQuay x1) = 0 → K (-1) hp) ∧ (¬ (v_q_isQuay x1) = 0 → ((v_q_within x2 0 5) = 0 → K (-1) hp) ∧ (¬ (v_q_within x2 0 5) = 0 → ((v_q_isHour x3) = 0 → K (-2) hp) ∧ (¬ (v_q_isHour x3) = 0 → ((v_q_within x4 0 1) = 0 → K (-2) hp) ∧ (¬ (v_q_within x4 0 1) = 0 → c_q_work hp (fun hp110 => (qb_in ((hp110 10 1) * (hp110 10 3))) ∧ (0 ≤ ((hp110 10 1) * (hp110 10 3))) ∧ (qb_in ((hp110 10 1) - (((hp110 10 1) * (hp110 10 3)) / 100))) ∧ (qb_in (x3 - 240)) ∧ c_q_countBranded x1 x2 (x3 - 240) hp110 (fun v111 hp111 => (qb_in (((hp110 10 1) - (((hp110 10 1) * (hp110 10 3)) / 100)) * v111)) ∧ (∀ (y112 : Int), y112 = (((hp110 10 1) - (((hp110 10 1) * (hp110 10 3)) / 100)) * v111) → (x4 = 0 → (0 ≤ y112) ∧ 0 < (hp110 10 1)) ∧ (¬ x4 = 0 → (0 ≤ y112) ∧ 0 < (hp110 10 1)) ∧ (∀ (y113 : Int), y113 = (if x4 = 0 then (y112 / (hp110 10 1)) else (y112 % (hp110 10 1))) → K y113 hp111))))))))) : c_q_filled x1 x2 x3 x4 hp K := by
  unfold c_q_filled
  refine qb_iloadn (pc' := 1) (i := 1) dX10_filled_0 rfl rfl rfl ?_
  refine qb_callSi (pc' := 4) (as := [.inl x1]) (rest := []) dX10_filled_1 rfl qe_mX10_filled_mX10_isQuay rfl rfl rfl (Nat.le_of_ble_eq_true rfl) (Nat.le_of_ble_eq_true rfl) ⟨rfl, rfl⟩ (K := fun vz hpz => (v_q_isQuay x1) = vz ∧ hp = hpz) (s_q_isQuay x1 hp _ trivial ⟨rfl, rfl⟩) (fun vz hpz ez => ?_)
  obtain ⟨ez1, ez2⟩ := ez
  subst ez1
  subst ez2
  refine qb_feq (tgt := 16) (pc' := 7) dX10_filled_4 rfl rfl (fun c399 => ?_) (fun c399 => ?_)
  · have h := h.1 c399
    refine qb_iconst (pc' := 17) dX10_filled_16 rfl rfl ?_
    exact qb_reti dX10_filled_17 rfl h
  · have h := h.2 c399
    refine qb_iloadn (pc' := 8) (i := 2) dX10_filled_7 rfl rfl rfl ?_
    refine qb_iconst (pc' := 9) dX10_filled_8 rfl rfl ?_
    refine qb_iconst (pc' := 10) dX10_filled_9 rfl rfl ?_
    refine qb_callSi (pc' := 13) (as := [.inl x2, .inl 0, .inl 5]) (rest := []) dX10_filled_10 rfl qe_mX10_filled_mX10_within rfl rfl rfl (Nat.le_of_ble_eq_true rfl) (Nat.le_of_ble_eq_true rfl) ⟨rfl, rfl⟩ (K := fun vz hpz => (v_q_within x2 0 5) = vz ∧ hp = hpz) (s_q_within x2 0 5 hp _ trivial ⟨rfl, rfl⟩) (fun vz hpz ez => ?_)
    obtain ⟨ez1, ez2⟩ := ez
    subst ez1
    subst ez2
    refine qb_fne (tgt := 18) (pc' := 16) dX10_filled_13 rfl rfl (fun c400 => ?_) (fun c400 => ?_)
    · have h := h.2 c400
      refine qb_iloadn (pc' := 19) (i := 3) dX10_filled_18 rfl rfl rfl ?_
      refine qb_callSi (pc' := 22) (as := [.inl x3]) (rest := []) dX10_filled_19 rfl qe_mX10_filled_mX10_isHour rfl rfl rfl (Nat.le_of_ble_eq_true rfl) (Nat.le_of_ble_eq_true rfl) ⟨rfl, rfl⟩ (K := fun vz hpz => (v_q_isHour x3) = vz ∧ hp = hpz) (s_q_isHour x3 hp _ trivial ⟨rfl, rfl⟩) (fun vz hpz ez => ?_)
      obtain ⟨ez1, ez2⟩ := ez
      subst ez1
      subst ez2
      refine qb_feq (tgt := 35) (pc' := 25) dX10_filled_22 rfl rfl (fun c401 => ?_) (fun c401 => ?_)
      · have h := h.1 c401
        refine qb_bipush (pc' := 37) dX10_filled_35 rfl rfl rfl ?_
        exact qb_reti dX10_filled_37 rfl h
      · have h := h.2 c401
        refine qb_iload (pc' := 27) dX10_filled_25 rfl rfl ?_
        refine qb_iconst (pc' := 28) dX10_filled_27 rfl rfl ?_
        refine qb_iconst (pc' := 29) dX10_filled_28 rfl rfl ?_
        refine qb_callSi (pc' := 32) (as := [.inl x4, .inl 0, .inl 1]) (rest := []) dX10_filled_29 rfl qe_mX10_filled_mX10_within rfl rfl rfl (Nat.le_of_ble_eq_true rfl) (Nat.le_of_ble_eq_true rfl) ⟨rfl, rfl⟩ (K := fun vz hpz => (v_q_within x4 0 1) = vz ∧ hp = hpz) (s_q_within x4 0 1 hp _ trivial ⟨rfl, rfl⟩) (fun vz hpz ez => ?_)
        obtain ⟨ez1, ez2⟩ := ez
        subst ez1
        subst ez2
        refine qb_fne (tgt := 38) (pc' := 35) dX10_filled_32 rfl rfl (fun c402 => ?_) (fun c402 => ?_)
        · have h := h.2 c402
          refine qb_aloadn (pc' := 39) (i := 0) dX10_filled_38 rfl rfl rfl ?_
          refine qb_callVu (pc' := 42) (b := 0) (as := []) (rest := []) dX10_filled_39 rfl qe_mX10_filled_mX10_work rfl rfl qb_s0 rfl rfl (Nat.le_of_ble_eq_true rfl) (Nat.le_of_ble_eq_true rfl) ⟨rfl, rfl⟩ h (fun hp110 h => ?_)
          refine qb_aloadn (pc' := 43) (i := 0) dX10_filled_42 rfl rfl rfl ?_
          refine qb_geta (pc' := 46) dX10_filled_43 rfl qf_X10_23 qb_s0 rfl ?_
          refine qb_iconst (pc' := 47) dX10_filled_46 rfl rfl ?_
          refine qb_iald (pc' := 48) (v := (hp110 10 1)) dX10_filled_47 rfl qb_s10 (by decide) (by decide) rfl ?_
          refine qb_istore (pc' := 50) (L' := [qb_a 0, qb_i x1, qb_i x2, qb_i x3, qb_i x4, qb_i (hp110 10 1), none]) dX10_filled_48 rfl (Nat.le_of_ble_eq_true rfl) rfl rfl ?_
          refine qb_iload (pc' := 52) dX10_filled_50 rfl rfl ?_
          refine qb_iload (pc' := 54) dX10_filled_52 rfl rfl ?_
          refine qb_aloadn (pc' := 55) (i := 0) dX10_filled_54 rfl rfl rfl ?_
          refine qb_geta (pc' := 58) dX10_filled_55 rfl qf_X10_23 qb_s0 rfl ?_
          refine qb_iconst (pc' := 59) dX10_filled_58 rfl rfl ?_
          refine qb_iald (pc' := 60) (v := (hp110 10 3)) dX10_filled_59 rfl qb_s10 (by decide) (by decide) rfl ?_
          obtain ⟨g992, h⟩ := h
          refine qb_imul (pc' := 61) dX10_filled_60 rfl g992 ?_
          refine qb_bipush (pc' := 63) dX10_filled_61 rfl rfl rfl ?_
          obtain ⟨g993, h⟩ := h
          refine qb_idiv (pc' := 64) dX10_filled_63 rfl g993 (by decide) ?_
          obtain ⟨g994, h⟩ := h
          refine qb_isub (pc' := 65) dX10_filled_64 rfl g994 ?_
          refine qb_aloadn (pc' := 66) (i := 0) dX10_filled_65 rfl rfl rfl ?_
          refine qb_iloadn (pc' := 67) (i := 1) dX10_filled_66 rfl rfl rfl ?_
          refine qb_iloadn (pc' := 68) (i := 2) dX10_filled_67 rfl rfl rfl ?_
          refine qb_iloadn (pc' := 69) (i := 3) dX10_filled_68 rfl rfl rfl ?_
          refine qb_sipush (pc' := 72) dX10_filled_69 rfl rfl rfl ?_
          obtain ⟨g995, h⟩ := h
          refine qb_isub (pc' := 73) dX10_filled_72 rfl g995 ?_
          refine qb_callVi (pc' := 76) (b := 0) (as := [.inl x1, .inl x2, .inl (x3 - 240)]) (rest := [.inl ((hp110 10 1) - (((hp110 10 1) * (hp110 10 3)) / 100))]) dX10_filled_73 rfl qe_mX10_filled_mX10_countBranded rfl rfl qb_s0 rfl rfl (Nat.le_of_ble_eq_true rfl) (Nat.le_of_ble_eq_true rfl) ⟨rfl, rfl⟩ h (fun v111 hp111 h => ?_)
          obtain ⟨g996, h⟩ := h
          refine qb_imul (pc' := 77) dX10_filled_76 rfl g996 ?_
          refine qb_istorey (pc' := 79) (Lf := fun y112 => [qb_a 0, qb_i x1, qb_i x2, qb_i x3, qb_i x4, qb_i (hp110 10 1), qb_i y112]) dX10_filled_77 rfl (Nat.le_of_ble_eq_true rfl) rfl (fun _ => rfl) (fun y112 ey112 => ?_)
          have h := h y112 ey112
          refine qb_iload (pc' := 81) dX10_filled_79 rfl rfl ?_
          obtain ⟨ga, gb, h⟩ := h
          have k239 : ∀ (y113 : Int), y113 = (if x4 = 0 then (y112 / (hp110 10 1)) else (y112 % (hp110 10 1))) → qb_R mX10_filled 0 0 qb_sh 97 [none, none, none, none, none, none, none] [.inl y113] hp111 (qb_I qb_sh K) := by
            intro y113 ey113
            have h := h y113 ey113
            exact qb_reti dX10_filled_97 rfl h
          refine qb_fne (tgt := 92) (pc' := 84) dX10_filled_81 rfl rfl (fun c403 => ?_) (fun c403 => ?_)
          · have h := gb c403
            refine qb_iload (pc' := 94) dX10_filled_92 rfl rfl ?_
            refine qb_iload (pc' := 96) dX10_filled_94 rfl rfl ?_
            obtain ⟨g1003, h⟩ := h
            have g1004 := h
            refine qb_irem (pc' := 97) dX10_filled_96 rfl g1003 g1004 ?_
            refine qb_cut (L' := [none, none, none, none, none, none, none]) [false, false, false, false, false, false, false] rfl ?_
            exact k239 _ (if_neg c403).symm
          · have h := ga c403
            refine qb_iload (pc' := 86) dX10_filled_84 rfl rfl ?_
            refine qb_iload (pc' := 88) dX10_filled_86 rfl rfl ?_
            obtain ⟨g1001, h⟩ := h
            have g1002 := h
            refine qb_idiv (pc' := 89) dX10_filled_88 rfl g1001 g1002 ?_
            refine qb_goto (tgt := 97) dX10_filled_89 rfl ?_
            refine qb_cut (L' := [none, none, none, none, none, none, none]) [false, false, false, false, false, false, false] rfl ?_
            exact k239 _ (if_pos c403).symm
        · have h := h.1 c402
          refine qb_bipush (pc' := 37) dX10_filled_35 rfl rfl rfl ?_
          exact qb_reti dX10_filled_37 rfl h
    · have h := h.1 c400
      refine qb_iconst (pc' := 17) dX10_filled_16 rfl rfl ?_
      exact qb_reti dX10_filled_17 rfl h
def c_fc_add_f (x1 : Int) (x2 : Int) (x3 : Int) (x4 : Int) (hp : qb_H) (K : Int → qb_H → Prop) : Prop := qb_R mX5_add 0 0 qb_sh 0 [qb_a 40, qb_i x1, qb_i x2, qb_i x3, qb_i x4] [] hp (qb_I qb_sh K)
theorem b_fc_add_f {x1 x2 x3 x4 : Int} {hp : qb_H} {K : Int → qb_H → Prop} (h : (0 ≤ (hp 40 4) ∧ (hp 40 4) < 60) ∧ K ((hp 40 4) + 1) (qb_st (qb_st (qb_st (qb_st (qb_st hp 41 (hp 40 4) x1) 42 (hp 40 4) x2) 43 (hp 40 4) x3) 44 (hp 40 4) x4) 40 4 ((hp 40 4) + 1))) : c_fc_add_f x1 x2 x3 x4 hp K := by
  unfold c_fc_add_f
  refine qb_aloadn (pc' := 1) (i := 0) dX5_add_0 rfl rfl rfl ?_
  refine qb_geta (pc' := 4) dX5_add_1 rfl qf_X5_9 qb_s40 rfl ?_
  refine qb_aloadn (pc' := 5) (i := 0) dX5_add_4 rfl rfl rfl ?_
  refine qb_geti (pc' := 8) (v := (hp 40 4)) dX5_add_5 rfl qf_X5_24 qb_s40 rfl rfl ?_
  refine qb_iloadn (pc' := 9) (i := 1) dX5_add_8 rfl rfl rfl ?_
  obtain ⟨g1006, h⟩ := h
  refine qb_iast (pc' := 10) dX5_add_9 rfl qb_s41 g1006.1 g1006.2 ?_
  refine qb_aloadn (pc' := 11) (i := 0) dX5_add_10 rfl rfl rfl ?_
  refine qb_geta (pc' := 14) dX5_add_11 rfl qf_X5_15 qb_s40 rfl ?_
  refine qb_aloadn (pc' := 15) (i := 0) dX5_add_14 rfl rfl rfl ?_
  refine qb_geti (pc' := 18) (v := (hp 40 4)) dX5_add_15 rfl qf_X5_24 qb_s40 rfl (qb_rdn rfl rfl) ?_
  refine qb_iloadn (pc' := 19) (i := 2) dX5_add_18 rfl rfl rfl ?_
  refine qb_iast (pc' := 20) dX5_add_19 rfl qb_s42 g1006.1 g1006.2 ?_
  refine qb_aloadn (pc' := 21) (i := 0) dX5_add_20 rfl rfl rfl ?_
  refine qb_geta (pc' := 24) dX5_add_21 rfl qf_X5_18 qb_s40 rfl ?_
  refine qb_aloadn (pc' := 25) (i := 0) dX5_add_24 rfl rfl rfl ?_
  refine qb_geti (pc' := 28) (v := (hp 40 4)) dX5_add_25 rfl qf_X5_24 qb_s40 rfl (qb_rdn rfl (qb_rdn rfl rfl)) ?_
  refine qb_iloadn (pc' := 29) (i := 3) dX5_add_28 rfl rfl rfl ?_
  refine qb_iast (pc' := 30) dX5_add_29 rfl qb_s43 g1006.1 g1006.2 ?_
  refine qb_aloadn (pc' := 31) (i := 0) dX5_add_30 rfl rfl rfl ?_
  refine qb_geta (pc' := 34) dX5_add_31 rfl qf_X5_21 qb_s40 rfl ?_
  refine qb_aloadn (pc' := 35) (i := 0) dX5_add_34 rfl rfl rfl ?_
  refine qb_geti (pc' := 38) (v := (hp 40 4)) dX5_add_35 rfl qf_X5_24 qb_s40 rfl (qb_rdn rfl (qb_rdn rfl (qb_rdn rfl rfl))) ?_
  refine qb_iload (pc' := 40) dX5_add_38 rfl rfl ?_
  refine qb_iast (pc' := 41) dX5_add_40 rfl qb_s44 g1006.1 g1006.2 ?_
  refine qb_aloadn (pc' := 42) (i := 0) dX5_add_41 rfl rfl rfl ?_
  refine qb_dup (pc' := 43) dX5_add_42 rfl rfl ?_
  refine qb_geti (pc' := 46) (v := (hp 40 4)) dX5_add_43 rfl qf_X5_24 qb_s40 rfl (qb_rdn rfl (qb_rdn rfl (qb_rdn rfl (qb_rdn rfl rfl)))) ?_
  refine qb_iconst (pc' := 47) dX5_add_46 rfl rfl ?_
  refine qb_iadd (pc' := 48) dX5_add_47 rfl (qb_ina g1006 (by decide)) ?_
  refine qb_puti (pc' := 51) (hp' := (qb_st (qb_st (qb_st (qb_st (qb_st hp 41 (hp 40 4) x1) 42 (hp 40 4) x2) 43 (hp 40 4) x3) 44 (hp 40 4) x4) 40 4 ((hp 40 4) + 1))) dX5_add_48 rfl qf_X5_24 (Or.inl rfl) qb_s40 rfl rfl ?_
  refine qb_aloadn (pc' := 52) (i := 0) dX5_add_51 rfl rfl rfl ?_
  refine qb_geti (pc' := 55) (v := ((hp 40 4) + 1)) dX5_add_52 rfl qf_X5_24 qb_s40 rfl qb_rds ?_
  exact qb_reti dX5_add_55 rfl h
def v_fc_add_f (x1 : Int) (x2 : Int) (x3 : Int) (x4 : Int) (hp : qb_H) : Int := ((hp 40 4) + 1)
def h_fc_add_f (x1 : Int) (x2 : Int) (x3 : Int) (x4 : Int) (hp : qb_H) : qb_H := (qb_st (qb_st (qb_st (qb_st (qb_st hp 41 (hp 40 4) x1) 42 (hp 40 4) x2) 43 (hp 40 4) x3) 44 (hp 40 4) x4) 40 4 ((hp 40 4) + 1))
theorem hn_fc_add_f (x1 : Int) (x2 : Int) (x3 : Int) (x4 : Int) (hp : qb_H) (c : Nat) (h40 : c ≠ 40) (h41 : c ≠ 41) (h42 : c ≠ 42) (h43 : c ≠ 43) (h44 : c ≠ 44) : h_fc_add_f x1 x2 x3 x4 hp c = hp c := by
  unfold h_fc_add_f
  (repeat' split) <;> simp only [qb_st_ne, qb_cpy_ne, ne_eq, not_false_eq_true, h40, h41, h42, h43, h44, ]
def g_fc_add_f (x1 : Int) (x2 : Int) (x3 : Int) (x4 : Int) (hp : qb_H) : Prop := 0 ≤ (hp 40 4) ∧ (hp 40 4) < 60
theorem s_fc_add_f (x1 : Int) (x2 : Int) (x3 : Int) (x4 : Int) (hp : qb_H) (K : Int → qb_H → Prop) (hg : g_fc_add_f x1 x2 x3 x4 hp) (hK : K (v_fc_add_f x1 x2 x3 x4 hp) (h_fc_add_f x1 x2 x3 x4 hp)) : c_fc_add_f x1 x2 x3 x4 hp K := by
  refine b_fc_add_f ?_
  unfold g_fc_add_f at hg
  unfold v_fc_add_f h_fc_add_f at hK
  refine ⟨hg, ?_⟩
  exact hK
def c_q_free (x1 : Int) (x2 : Int) (x3 : Int) (hp : qb_H) (K : Int → qb_H → Prop) : Prop := qb_R mX10_free 0 0 qb_sh 0 [qb_a 0, qb_i x1, qb_i x2, qb_i x3] [] hp (qb_I qb_sh K)
theorem b_q_free {x1 x2 x3 : Int} {hp : qb_H} {K : Int → qb_H → Prop} (h : ((v_q_isDay x1) = 0 → K (-2) hp) ∧ (¬ (v_q_isDay x1) = 0 → ((v_q_within x2 1 1000) = 0 → K (-2) hp) ∧ (¬ (v_q_within x2 1 1000) = 0 → ((v_q_isDay x3) = 0 → K (-2) hp) ∧ (¬ (v_q_isDay x3) = 0 → ((hp 40 4) < 60 → (g_fc_add_f 0 x1 x2 x3 hp) ∧ K (v_fc_add_f 0 x1 x2 x3 hp) (h_fc_add_f 0 x1 x2 x3 hp)) ∧ (¬ (hp 40 4) < 60 → K (-4) hp))))) : c_q_free x1 x2 x3 hp K := by
  unfold c_q_free
  refine qb_iloadn (pc' := 1) (i := 1) dX10_free_0 rfl rfl rfl ?_
  refine qb_callSi (pc' := 4) (as := [.inl x1]) (rest := []) dX10_free_1 rfl qe_mX10_free_mX10_isDay rfl rfl rfl (Nat.le_of_ble_eq_true rfl) (Nat.le_of_ble_eq_true rfl) ⟨rfl, rfl⟩ (K := fun vz hpz => (v_q_isDay x1) = vz ∧ hp = hpz) (s_q_isDay x1 hp _ trivial ⟨rfl, rfl⟩) (fun vz hpz ez => ?_)
  obtain ⟨ez1, ez2⟩ := ez
  subst ez1
  subst ez2
  refine qb_feq (tgt := 25) (pc' := 7) dX10_free_4 rfl rfl (fun c408 => ?_) (fun c408 => ?_)
  · have h := h.1 c408
    refine qb_bipush (pc' := 27) dX10_free_25 rfl rfl rfl ?_
    exact qb_reti dX10_free_27 rfl h
  · have h := h.2 c408
    refine qb_iloadn (pc' := 8) (i := 2) dX10_free_7 rfl rfl rfl ?_
    refine qb_iconst (pc' := 9) dX10_free_8 rfl rfl ?_
    refine qb_sipush (pc' := 12) dX10_free_9 rfl rfl rfl ?_
    refine qb_callSi (pc' := 15) (as := [.inl x2, .inl 1, .inl 1000]) (rest := []) dX10_free_12 rfl qe_mX10_free_mX10_within rfl rfl rfl (Nat.le_of_ble_eq_true rfl) (Nat.le_of_ble_eq_true rfl) ⟨rfl, rfl⟩ (K := fun vz hpz => (v_q_within x2 1 1000) = vz ∧ hp = hpz) (s_q_within x2 1 1000 hp _ trivial ⟨rfl, rfl⟩) (fun vz hpz ez => ?_)
    obtain ⟨ez1, ez2⟩ := ez
    subst ez1
    subst ez2
    refine qb_feq (tgt := 25) (pc' := 18) dX10_free_15 rfl rfl (fun c409 => ?_) (fun c409 => ?_)
    · have h := h.1 c409
      refine qb_bipush (pc' := 27) dX10_free_25 rfl rfl rfl ?_
      exact qb_reti dX10_free_27 rfl h
    · have h := h.2 c409
      refine qb_iloadn (pc' := 19) (i := 3) dX10_free_18 rfl rfl rfl ?_
      refine qb_callSi (pc' := 22) (as := [.inl x3]) (rest := []) dX10_free_19 rfl qe_mX10_free_mX10_isDay rfl rfl rfl (Nat.le_of_ble_eq_true rfl) (Nat.le_of_ble_eq_true rfl) ⟨rfl, rfl⟩ (K := fun vz hpz => (v_q_isDay x3) = vz ∧ hp = hpz) (s_q_isDay x3 hp _ trivial ⟨rfl, rfl⟩) (fun vz hpz ez => ?_)
      obtain ⟨ez1, ez2⟩ := ez
      subst ez1
      subst ez2
      refine qb_fne (tgt := 28) (pc' := 25) dX10_free_22 rfl rfl (fun c410 => ?_) (fun c410 => ?_)
      · have h := h.2 c410
        refine qb_aloadn (pc' := 29) (i := 0) dX10_free_28 rfl rfl rfl ?_
        refine qb_geta (pc' := 32) dX10_free_29 rfl qf_X10_68 qb_s0 rfl ?_
        refine qb_geti (pc' := 35) (v := (hp 40 4)) dX10_free_32 rfl qf_X10_228 qb_s40 rfl rfl ?_
        refine qb_bipush (pc' := 37) dX10_free_35 rfl rfl rfl ?_
        refine qb_clt (tgt := 43) (pc' := 40) dX10_free_37 rfl rfl (fun c411 => ?_) (fun c411 => ?_)
        · have h := h.1 c411
          refine qb_aloadn (pc' := 44) (i := 0) dX10_free_43 rfl rfl rfl ?_
          refine qb_geta (pc' := 47) dX10_free_44 rfl qf_X10_68 qb_s0 rfl ?_
          refine qb_iconst (pc' := 48) dX10_free_47 rfl rfl ?_
          refine qb_iloadn (pc' := 49) (i := 1) dX10_free_48 rfl rfl rfl ?_
          refine qb_iloadn (pc' := 50) (i := 2) dX10_free_49 rfl rfl rfl ?_
          refine qb_iloadn (pc' := 51) (i := 3) dX10_free_50 rfl rfl rfl ?_
          obtain ⟨g1008, h⟩ := h
          refine qb_callVi (pc' := 54) (b := 40) (as := [.inl 0, .inl x1, .inl x2, .inl x3]) (rest := []) dX10_free_51 rfl qe_mX10_free_mX5_add rfl rfl qb_s40 rfl rfl (Nat.le_of_ble_eq_true rfl) (Nat.le_of_ble_eq_true rfl) ⟨rfl, rfl⟩ (K := fun vz hpz => (v_fc_add_f 0 x1 x2 x3 hp) = vz ∧ (h_fc_add_f 0 x1 x2 x3 hp) = hpz) (s_fc_add_f 0 x1 x2 x3 hp _ g1008 ⟨rfl, rfl⟩) (fun vz hpz ez => ?_)
          obtain ⟨ez1, ez2⟩ := ez
          subst ez1
          subst ez2
          exact qb_reti dX10_free_54 rfl h
        · have h := h.2 c411
          refine qb_bipush (pc' := 42) dX10_free_40 rfl rfl rfl ?_
          exact qb_reti dX10_free_42 rfl h
      · have h := h.1 c410
        refine qb_bipush (pc' := 27) dX10_free_25 rfl rfl rfl ?_
        exact qb_reti dX10_free_27 rfl h
def v_q_free (x1 : Int) (x2 : Int) (x3 : Int) (hp : qb_H) : Int := (if (v_q_isDay x1) = 0 then ((-2) : Int) else (if (v_q_within x2 1 1000) = 0 then ((-2) : Int) else (if (v_q_isDay x3) = 0 then ((-2) : Int) else (if (hp 40 4) < 60 then (v_fc_add_f 0 x1 x2 x3 hp) else (-4)))))
def h_q_free (x1 : Int) (x2 : Int) (x3 : Int) (hp : qb_H) : qb_H := (if (v_q_isDay x1) = 0 then hp else (if (v_q_within x2 1 1000) = 0 then hp else (if (v_q_isDay x3) = 0 then hp else (if (hp 40 4) < 60 then (h_fc_add_f 0 x1 x2 x3 hp) else hp))))
theorem hn_q_free (x1 : Int) (x2 : Int) (x3 : Int) (hp : qb_H) (c : Nat) (h40 : c ≠ 40) (h41 : c ≠ 41) (h42 : c ≠ 42) (h43 : c ≠ 43) (h44 : c ≠ 44) : h_q_free x1 x2 x3 hp c = hp c := by
  unfold h_q_free
  (repeat' split) <;> simp only [qb_st_ne, qb_cpy_ne, ne_eq, not_false_eq_true, h40, h41, h42, h43, h44, hn_fc_add_f,]
def g_q_free (x1 : Int) (x2 : Int) (x3 : Int) (hp : qb_H) : Prop := (¬ (v_q_isDay x1) = 0 → (¬ (v_q_within x2 1 1000) = 0 → (¬ (v_q_isDay x3) = 0 → ((hp 40 4) < 60 → g_fc_add_f 0 x1 x2 x3 hp))))
theorem s_q_free (x1 : Int) (x2 : Int) (x3 : Int) (hp : qb_H) (K : Int → qb_H → Prop) (hg : g_q_free x1 x2 x3 hp) (hK : K (v_q_free x1 x2 x3 hp) (h_q_free x1 x2 x3 hp)) : c_q_free x1 x2 x3 hp K := by
  refine b_q_free ?_
  unfold g_q_free at hg
  unfold v_q_free h_q_free at hK
  refine ⟨fun c412 => ?_, fun c412 => ?_⟩
  · simpa only [if_pos c412] using hK
  · have hg := hg c412
    refine ⟨fun c413 => ?_, fun c413 => ?_⟩
    · simpa only [if_neg c412, if_pos c413] using hK
    · have hg := hg c413
      refine ⟨fun c414 => ?_, fun c414 => ?_⟩
      · simpa only [if_neg c412, if_neg c413, if_pos c414] using hK
      · have hg := hg c414
        refine ⟨fun c415 => ?_, fun c415 => ?_⟩
        · have hg := hg c415
          refine ⟨hg, ?_⟩
          simpa only [if_neg c412, if_neg c413, if_neg c414, if_pos c415] using hK
        · simpa only [if_neg c412, if_neg c413, if_neg c414, if_neg c415] using hK
def c_q_freeOn (x1 : Int) (x2 : Int) (hp : qb_H) (K : Int → qb_H → Prop) : Prop := qb_R mX10_freeOn 0 0 qb_sh 0 [qb_a 0, qb_i x1, qb_i x2] [] hp (qb_I qb_sh K)
theorem b_q_freeOn {x1 x2 : Int} {hp : qb_H} {K : Int → qb_H → Prop} (h : ((v_q_isDay x1) = 0 → K (-2) hp) ∧ (¬ (v_q_isDay x1) = 0 → ((v_q_isDay x2) = 0 → K (-2) hp) ∧ (¬ (v_q_isDay x2) = 0 → c_q_freePrice x1 x2 hp (fun v115 hp115 => K v115 hp115)))) : c_q_freeOn x1 x2 hp K := by
  unfold c_q_freeOn
  refine qb_iloadn (pc' := 1) (i := 1) dX10_freeOn_0 rfl rfl rfl ?_
  refine qb_callSi (pc' := 4) (as := [.inl x1]) (rest := []) dX10_freeOn_1 rfl qe_mX10_freeOn_mX10_isDay rfl rfl rfl (Nat.le_of_ble_eq_true rfl) (Nat.le_of_ble_eq_true rfl) ⟨rfl, rfl⟩ (K := fun vz hpz => (v_q_isDay x1) = vz ∧ hp = hpz) (s_q_isDay x1 hp _ trivial ⟨rfl, rfl⟩) (fun vz hpz ez => ?_)
  obtain ⟨ez1, ez2⟩ := ez
  subst ez1
  subst ez2
  refine qb_feq (tgt := 14) (pc' := 7) dX10_freeOn_4 rfl rfl (fun c418 => ?_) (fun c418 => ?_)
  · have h := h.1 c418
    refine qb_bipush (pc' := 16) dX10_freeOn_14 rfl rfl rfl ?_
    exact qb_reti dX10_freeOn_16 rfl h
  · have h := h.2 c418
    refine qb_iloadn (pc' := 8) (i := 2) dX10_freeOn_7 rfl rfl rfl ?_
    refine qb_callSi (pc' := 11) (as := [.inl x2]) (rest := []) dX10_freeOn_8 rfl qe_mX10_freeOn_mX10_isDay rfl rfl rfl (Nat.le_of_ble_eq_true rfl) (Nat.le_of_ble_eq_true rfl) ⟨rfl, rfl⟩ (K := fun vz hpz => (v_q_isDay x2) = vz ∧ hp = hpz) (s_q_isDay x2 hp _ trivial ⟨rfl, rfl⟩) (fun vz hpz ez => ?_)
    obtain ⟨ez1, ez2⟩ := ez
    subst ez1
    subst ez2
    refine qb_fne (tgt := 17) (pc' := 14) dX10_freeOn_11 rfl rfl (fun c419 => ?_) (fun c419 => ?_)
    · have h := h.2 c419
      refine qb_aloadn (pc' := 18) (i := 0) dX10_freeOn_17 rfl rfl rfl ?_
      refine qb_iloadn (pc' := 19) (i := 1) dX10_freeOn_18 rfl rfl rfl ?_
      refine qb_iloadn (pc' := 20) (i := 2) dX10_freeOn_19 rfl rfl rfl ?_
      refine qb_callVi (pc' := 23) (b := 0) (as := [.inl x1, .inl x2]) (rest := []) dX10_freeOn_20 rfl qe_mX10_freeOn_mX10_freePrice rfl rfl qb_s0 rfl rfl (Nat.le_of_ble_eq_true rfl) (Nat.le_of_ble_eq_true rfl) ⟨rfl, rfl⟩ h (fun v115 hp115 h => ?_)
      exact qb_reti dX10_freeOn_23 rfl h
    · have h := h.1 c419
      refine qb_bipush (pc' := 16) dX10_freeOn_14 rfl rfl rfl ?_
      exact qb_reti dX10_freeOn_16 rfl h
def c_ac_gradesOn (x1 : Int) (hp : qb_H) (K : Int → qb_H → Prop) : Prop := qb_R mX0_gradesOn 0 0 qb_sh 0 [qb_a 3, qb_i x1, none, none, none] [] hp (qb_I qb_sh K)
def r_ac_gradesOn_11 (x2 : Int) (x3 : Int) (x4 : Int) (hp : qb_H) (K : Int → qb_H → Prop) : Prop := qb_R mX0_gradesOn 0 0 qb_sh 11 [qb_a 3, none, qb_i x2, qb_i x3, qb_i x4] [] hp (qb_I qb_sh K)
theorem b_ac_gradesOn {x1 : Int} {hp : qb_H} {K : Int → qb_H → Prop} (h : c_ac_actOn x1 hp (fun v117 hp117 => r_ac_gradesOn_11 v117 0 0 hp117 K)) : c_ac_gradesOn x1 hp K := by
  unfold c_ac_gradesOn
  refine qb_aloadn (pc' := 1) (i := 0) dX0_gradesOn_0 rfl rfl rfl ?_
  refine qb_iloadn (pc' := 2) (i := 1) dX0_gradesOn_1 rfl rfl rfl ?_
  refine qb_callVi (pc' := 5) (b := 3) (as := [.inl x1]) (rest := []) dX0_gradesOn_2 rfl qe_mX0_gradesOn_mX0_actOn rfl rfl qb_s3 rfl rfl (Nat.le_of_ble_eq_true rfl) (Nat.le_of_ble_eq_true rfl) ⟨rfl, rfl⟩ h (fun v117 hp117 h => ?_)
  refine qb_istoren (pc' := 6) (i := 2) (L' := [qb_a 3, qb_i x1, qb_i v117, none, none]) dX0_gradesOn_5 rfl rfl (Nat.le_of_ble_eq_true rfl) rfl rfl ?_
  refine qb_iconst (pc' := 7) dX0_gradesOn_6 rfl rfl ?_
  refine qb_istoren (pc' := 8) (i := 3) (L' := [qb_a 3, qb_i x1, qb_i v117, qb_i 0, none]) dX0_gradesOn_7 rfl rfl (Nat.le_of_ble_eq_true rfl) rfl rfl ?_
  refine qb_iconst (pc' := 9) dX0_gradesOn_8 rfl rfl ?_
  refine qb_istore (pc' := 11) (L' := [qb_a 3, qb_i x1, qb_i v117, qb_i 0, qb_i 0]) dX0_gradesOn_9 rfl (Nat.le_of_ble_eq_true rfl) rfl rfl ?_
  refine qb_cut (L' := [qb_a 3, none, qb_i v117, qb_i 0, qb_i 0]) [true, false, true, true, true] rfl ?_
  exact h
theorem b_ac_gradesOn_11 {x2 x3 x4 : Int} {hp : qb_H} {K : Int → qb_H → Prop} (h : (x2 = (-6) → K x3 hp) ∧ (¬ x2 = (-6) → (0 ≤ x2 ∧ x2 < 8) ∧ (((hp 5 x2) ≤ x4 → K x3 hp) ∧ (¬ (hp 5 x2) ≤ x4 → (g_ac_beginsGrade x2 x4) ∧ (¬ (v_ac_beginsGrade x2 x4 hp) = 0 → qb_in (x3 + 1)) ∧ (∀ (y118 : Int), y118 = (if (v_ac_beginsGrade x2 x4 hp) = 0 then x3 else (x3 + 1)) → (qb_in (x4 + 1)) ∧ r_ac_gradesOn_11 x2 y118 (x4 + 1) hp K))))) : r_ac_gradesOn_11 x2 x3 x4 hp K := by
  unfold r_ac_gradesOn_11
  refine qb_iloadn (pc' := 12) (i := 2) dX0_gradesOn_11 rfl rfl rfl ?_
  refine qb_bipush (pc' := 14) dX0_gradesOn_12 rfl rfl rfl ?_
  refine qb_ceq (tgt := 47) (pc' := 17) dX0_gradesOn_14 rfl rfl (fun c422 => ?_) (fun c422 => ?_)
  · have h := h.1 c422
    refine qb_iloadn (pc' := 48) (i := 3) dX0_gradesOn_47 rfl rfl rfl ?_
    exact qb_reti dX0_gradesOn_48 rfl h
  · have h := h.2 c422
    refine qb_iload (pc' := 19) dX0_gradesOn_17 rfl rfl ?_
    refine qb_aloadn (pc' := 20) (i := 0) dX0_gradesOn_19 rfl rfl rfl ?_
    refine qb_geta (pc' := 23) dX0_gradesOn_20 rfl qf_X0_15 qb_s3 rfl ?_
    refine qb_iloadn (pc' := 24) (i := 2) dX0_gradesOn_23 rfl rfl rfl ?_
    obtain ⟨g1009, h⟩ := h
    refine qb_iald (pc' := 25) (v := (hp 5 x2)) dX0_gradesOn_24 rfl qb_s5 g1009.1 g1009.2 rfl ?_
    refine qb_cge (tgt := 47) (pc' := 28) dX0_gradesOn_25 rfl rfl (fun c423 => ?_) (fun c423 => ?_)
    · have h := h.1 c423
      refine qb_iloadn (pc' := 48) (i := 3) dX0_gradesOn_47 rfl rfl rfl ?_
      exact qb_reti dX0_gradesOn_48 rfl h
    · have h := h.2 c423
      refine qb_aloadn (pc' := 29) (i := 0) dX0_gradesOn_28 rfl rfl rfl ?_
      refine qb_iloadn (pc' := 30) (i := 2) dX0_gradesOn_29 rfl rfl rfl ?_
      refine qb_iload (pc' := 32) dX0_gradesOn_30 rfl rfl ?_
      obtain ⟨g1010, h⟩ := h
      refine qb_callVi (pc' := 35) (b := 3) (as := [.inl x2, .inl x4]) (rest := []) dX0_gradesOn_32 rfl qe_mX0_gradesOn_mX0_beginsGrade rfl rfl qb_s3 rfl rfl (Nat.le_of_ble_eq_true rfl) (Nat.le_of_ble_eq_true rfl) ⟨rfl, rfl⟩ (K := fun vz hpz => (v_ac_beginsGrade x2 x4 hp) = vz ∧ hp = hpz) (s_ac_beginsGrade x2 x4 hp _ g1010 ⟨rfl, rfl⟩) (fun vz hpz ez => ?_)
      obtain ⟨ez1, ez2⟩ := ez
      subst ez1
      subst ez2
      obtain ⟨gb, h⟩ := h
      have k240 : ∀ (y118 : Int), y118 = (if (v_ac_beginsGrade x2 x4 hp) = 0 then x3 else (x3 + 1)) → qb_R mX0_gradesOn 0 0 qb_sh 41 [qb_a 3, none, qb_i x2, qb_i y118, qb_i x4] [] hp (qb_I qb_sh K) := by
        intro y118 ey118
        have h := h y118 ey118
        obtain ⟨g1013, h⟩ := h
        refine qb_iinc (pc' := 44) (L' := [qb_a 3, none, qb_i x2, qb_i y118, qb_i (x4 + 1)]) dX0_gradesOn_41 rfl rfl g1013 (Nat.le_of_ble_eq_true rfl) rfl rfl ?_
        refine qb_goto (tgt := 11) dX0_gradesOn_44 rfl ?_
        refine qb_cut (L' := [qb_a 3, none, qb_i x2, qb_i y118, qb_i (x4 + 1)]) [true, false, true, true, true] rfl ?_
        exact h
      refine qb_feq (tgt := 41) (pc' := 38) dX0_gradesOn_35 rfl rfl (fun c424 => ?_) (fun c424 => ?_)
      · refine qb_cut (L' := [qb_a 3, none, qb_i x2, qb_i x3, qb_i x4]) [true, false, true, true, true] rfl ?_
        exact k240 _ (if_pos c424).symm
      · have h := gb c424
        have g1012 := h
        refine qb_iinc (pc' := 41) (L' := [qb_a 3, none, qb_i x2, qb_i (x3 + 1), qb_i x4]) dX0_gradesOn_38 rfl rfl g1012 (Nat.le_of_ble_eq_true rfl) rfl rfl ?_
        refine qb_cut (L' := [qb_a 3, none, qb_i x2, qb_i (x3 + 1), qb_i x4]) [true, false, true, true, true] rfl ?_
        exact k240 _ (if_neg c424).symm
def c_ac_gradeAt (x1 : Int) (x2 : Int) (hp : qb_H) (K : Int → qb_H → Prop) : Prop := qb_R mX0_gradeAt 0 0 qb_sh 0 [qb_a 3, qb_i x1, qb_i x2, none, none, none] [] hp (qb_I qb_sh K)
def r_ac_gradeAt_12 (x2 : Int) (x3 : Int) (x4 : Int) (x5 : Int) (hp : qb_H) (K : Int → qb_H → Prop) : Prop := qb_R mX0_gradeAt 0 0 qb_sh 12 [qb_a 3, none, qb_i x2, qb_i x3, qb_i x4, qb_i x5] [] hp (qb_I qb_sh K)
theorem b_ac_gradeAt {x1 x2 : Int} {hp : qb_H} {K : Int → qb_H → Prop} (h : c_ac_actOn x1 hp (fun v121 hp121 => r_ac_gradeAt_12 x2 v121 0 0 hp121 K)) : c_ac_gradeAt x1 x2 hp K := by
  unfold c_ac_gradeAt
  refine qb_aloadn (pc' := 1) (i := 0) dX0_gradeAt_0 rfl rfl rfl ?_
  refine qb_iloadn (pc' := 2) (i := 1) dX0_gradeAt_1 rfl rfl rfl ?_
  refine qb_callVi (pc' := 5) (b := 3) (as := [.inl x1]) (rest := []) dX0_gradeAt_2 rfl qe_mX0_gradeAt_mX0_actOn rfl rfl qb_s3 rfl rfl (Nat.le_of_ble_eq_true rfl) (Nat.le_of_ble_eq_true rfl) ⟨rfl, rfl⟩ h (fun v121 hp121 h => ?_)
  refine qb_istoren (pc' := 6) (i := 3) (L' := [qb_a 3, qb_i x1, qb_i x2, qb_i v121, none, none]) dX0_gradeAt_5 rfl rfl (Nat.le_of_ble_eq_true rfl) rfl rfl ?_
  refine qb_iconst (pc' := 7) dX0_gradeAt_6 rfl rfl ?_
  refine qb_istore (pc' := 9) (L' := [qb_a 3, qb_i x1, qb_i x2, qb_i v121, qb_i 0, none]) dX0_gradeAt_7 rfl (Nat.le_of_ble_eq_true rfl) rfl rfl ?_
  refine qb_iconst (pc' := 10) dX0_gradeAt_9 rfl rfl ?_
  refine qb_istore (pc' := 12) (L' := [qb_a 3, qb_i x1, qb_i x2, qb_i v121, qb_i 0, qb_i 0]) dX0_gradeAt_10 rfl (Nat.le_of_ble_eq_true rfl) rfl rfl ?_
  refine qb_cut (L' := [qb_a 3, none, qb_i x2, qb_i v121, qb_i 0, qb_i 0]) [true, false, true, true, true, true] rfl ?_
  exact h
theorem b_ac_gradeAt_12 {x2 x3 x4 x5 : Int} {hp : qb_H} {K : Int → qb_H → Prop} (h : (x3 = (-6) → K (-6) hp) ∧ (¬ x3 = (-6) → (0 ≤ x3 ∧ x3 < 8) ∧ (((hp 5 x3) ≤ x5 → K (-6) hp) ∧ (¬ (hp 5 x3) ≤ x5 → (g_ac_beginsGrade x3 x5) ∧ (((v_ac_beginsGrade x3 x5 hp) = 0 → (qb_in (x5 + 1)) ∧ r_ac_gradeAt_12 x2 x3 x4 (x5 + 1) hp K) ∧ (¬ (v_ac_beginsGrade x3 x5 hp) = 0 → (x4 = x2 → (qb_in (x3 * 15)) ∧ (qb_in ((x3 * 15) + x5)) ∧ (0 ≤ ((x3 * 15) + x5) ∧ ((x3 * 15) + x5) < 120) ∧ K (hp 6 ((x3 * 15) + x5)) hp) ∧ (¬ x4 = x2 → (qb_in (x4 + 1)) ∧ (qb_in (x5 + 1)) ∧ r_ac_gradeAt_12 x2 x3 (x4 + 1) (x5 + 1) hp K))))))) : r_ac_gradeAt_12 x2 x3 x4 x5 hp K := by
  unfold r_ac_gradeAt_12
  refine qb_iloadn (pc' := 13) (i := 3) dX0_gradeAt_12 rfl rfl rfl ?_
  refine qb_bipush (pc' := 15) dX0_gradeAt_13 rfl rfl rfl ?_
  refine qb_ceq (tgt := 67) (pc' := 18) dX0_gradeAt_15 rfl rfl (fun c425 => ?_) (fun c425 => ?_)
  · have h := h.1 c425
    refine qb_bipush (pc' := 69) dX0_gradeAt_67 rfl rfl rfl ?_
    exact qb_reti dX0_gradeAt_69 rfl h
  · have h := h.2 c425
    refine qb_iload (pc' := 20) dX0_gradeAt_18 rfl rfl ?_
    refine qb_aloadn (pc' := 21) (i := 0) dX0_gradeAt_20 rfl rfl rfl ?_
    refine qb_geta (pc' := 24) dX0_gradeAt_21 rfl qf_X0_15 qb_s3 rfl ?_
    refine qb_iloadn (pc' := 25) (i := 3) dX0_gradeAt_24 rfl rfl rfl ?_
    obtain ⟨g1014, h⟩ := h
    refine qb_iald (pc' := 26) (v := (hp 5 x3)) dX0_gradeAt_25 rfl qb_s5 g1014.1 g1014.2 rfl ?_
    refine qb_cge (tgt := 67) (pc' := 29) dX0_gradeAt_26 rfl rfl (fun c426 => ?_) (fun c426 => ?_)
    · have h := h.1 c426
      refine qb_bipush (pc' := 69) dX0_gradeAt_67 rfl rfl rfl ?_
      exact qb_reti dX0_gradeAt_69 rfl h
    · have h := h.2 c426
      refine qb_aloadn (pc' := 30) (i := 0) dX0_gradeAt_29 rfl rfl rfl ?_
      refine qb_iloadn (pc' := 31) (i := 3) dX0_gradeAt_30 rfl rfl rfl ?_
      refine qb_iload (pc' := 33) dX0_gradeAt_31 rfl rfl ?_
      obtain ⟨g1015, h⟩ := h
      refine qb_callVi (pc' := 36) (b := 3) (as := [.inl x3, .inl x5]) (rest := []) dX0_gradeAt_33 rfl qe_mX0_gradeAt_mX0_beginsGrade rfl rfl qb_s3 rfl rfl (Nat.le_of_ble_eq_true rfl) (Nat.le_of_ble_eq_true rfl) ⟨rfl, rfl⟩ (K := fun vz hpz => (v_ac_beginsGrade x3 x5 hp) = vz ∧ hp = hpz) (s_ac_beginsGrade x3 x5 hp _ g1015 ⟨rfl, rfl⟩) (fun vz hpz ez => ?_)
      obtain ⟨ez1, ez2⟩ := ez
      subst ez1
      subst ez2
      refine qb_feq (tgt := 61) (pc' := 39) dX0_gradeAt_36 rfl rfl (fun c427 => ?_) (fun c427 => ?_)
      · have h := h.1 c427
        obtain ⟨g1016, h⟩ := h
        refine qb_iinc (pc' := 64) (L' := [qb_a 3, none, qb_i x2, qb_i x3, qb_i x4, qb_i (x5 + 1)]) dX0_gradeAt_61 rfl rfl g1016 (Nat.le_of_ble_eq_true rfl) rfl rfl ?_
        refine qb_goto (tgt := 12) dX0_gradeAt_64 rfl ?_
        refine qb_cut (L' := [qb_a 3, none, qb_i x2, qb_i x3, qb_i x4, qb_i (x5 + 1)]) [true, false, true, true, true, true] rfl ?_
        exact h
      · have h := h.2 c427
        refine qb_iload (pc' := 41) dX0_gradeAt_39 rfl rfl ?_
        refine qb_iloadn (pc' := 42) (i := 2) dX0_gradeAt_41 rfl rfl rfl ?_
        refine qb_cne (tgt := 58) (pc' := 45) dX0_gradeAt_42 rfl rfl (fun c428 => ?_) (fun c428 => ?_)
        · have h := h.2 c428
          obtain ⟨g1020, h⟩ := h
          refine qb_iinc (pc' := 61) (L' := [qb_a 3, none, qb_i x2, qb_i x3, qb_i (x4 + 1), qb_i x5]) dX0_gradeAt_58 rfl rfl g1020 (Nat.le_of_ble_eq_true rfl) rfl rfl ?_
          obtain ⟨g1021, h⟩ := h
          refine qb_iinc (pc' := 64) (L' := [qb_a 3, none, qb_i x2, qb_i x3, qb_i (x4 + 1), qb_i (x5 + 1)]) dX0_gradeAt_61 rfl rfl g1021 (Nat.le_of_ble_eq_true rfl) rfl rfl ?_
          refine qb_goto (tgt := 12) dX0_gradeAt_64 rfl ?_
          refine qb_cut (L' := [qb_a 3, none, qb_i x2, qb_i x3, qb_i (x4 + 1), qb_i (x5 + 1)]) [true, false, true, true, true, true] rfl ?_
          exact h
        · have h := h.1 c428
          refine qb_aloadn (pc' := 46) (i := 0) dX0_gradeAt_45 rfl rfl rfl ?_
          refine qb_geta (pc' := 49) dX0_gradeAt_46 rfl qf_X0_18 qb_s3 rfl ?_
          refine qb_iloadn (pc' := 50) (i := 3) dX0_gradeAt_49 rfl rfl rfl ?_
          refine qb_bipush (pc' := 52) dX0_gradeAt_50 rfl rfl rfl ?_
          obtain ⟨g1017, h⟩ := h
          refine qb_imul (pc' := 53) dX0_gradeAt_52 rfl g1017 ?_
          refine qb_iload (pc' := 55) dX0_gradeAt_53 rfl rfl ?_
          obtain ⟨g1018, h⟩ := h
          refine qb_iadd (pc' := 56) dX0_gradeAt_55 rfl g1018 ?_
          obtain ⟨g1019, h⟩ := h
          refine qb_iald (pc' := 57) (v := (hp 6 ((x3 * 15) + x5))) dX0_gradeAt_56 rfl qb_s6 g1019.1 g1019.2 rfl ?_
          exact qb_reti dX0_gradeAt_57 rfl h
def c_q_grade (x1 : Int) (x2 : Int) (hp : qb_H) (K : Int → qb_H → Prop) : Prop := qb_R mX10_grade 0 0 qb_sh 0 [qb_a 0, qb_i x1, qb_i x2] [] hp (qb_I qb_sh K)
theorem b_q_grade {x1 x2 : Int} {hp : qb_H} {K : Int → qb_H → Prop} (h : ((v_q_isDay x1) = 0 → K (-2) hp) ∧ (¬ (v_q_isDay x1) = 0 → (x2 = (-1) → c_ac_gradesOn x1 hp (fun v123 hp123 => K v123 hp123)) ∧ (¬ x2 = (-1) → c_ac_gradeAt x1 x2 hp (fun v124 hp124 => K v124 hp124)))) : c_q_grade x1 x2 hp K := by
  unfold c_q_grade
  refine qb_iloadn (pc' := 1) (i := 1) dX10_grade_0 rfl rfl rfl ?_
  refine qb_callSi (pc' := 4) (as := [.inl x1]) (rest := []) dX10_grade_1 rfl qe_mX10_grade_mX10_isDay rfl rfl rfl (Nat.le_of_ble_eq_true rfl) (Nat.le_of_ble_eq_true rfl) ⟨rfl, rfl⟩ (K := fun vz hpz => (v_q_isDay x1) = vz ∧ hp = hpz) (s_q_isDay x1 hp _ trivial ⟨rfl, rfl⟩) (fun vz hpz ez => ?_)
  obtain ⟨ez1, ez2⟩ := ez
  subst ez1
  subst ez2
  refine qb_fne (tgt := 10) (pc' := 7) dX10_grade_4 rfl rfl (fun c429 => ?_) (fun c429 => ?_)
  · have h := h.2 c429
    refine qb_iloadn (pc' := 11) (i := 2) dX10_grade_10 rfl rfl rfl ?_
    refine qb_iconst (pc' := 12) dX10_grade_11 rfl rfl ?_
    refine qb_cne (tgt := 26) (pc' := 15) dX10_grade_12 rfl rfl (fun c430 => ?_) (fun c430 => ?_)
    · have h := h.2 c430
      refine qb_aloadn (pc' := 27) (i := 0) dX10_grade_26 rfl rfl rfl ?_
      refine qb_geta (pc' := 30) dX10_grade_27 rfl qf_X10_19 qb_s0 rfl ?_
      refine qb_iloadn (pc' := 31) (i := 1) dX10_grade_30 rfl rfl rfl ?_
      refine qb_iloadn (pc' := 32) (i := 2) dX10_grade_31 rfl rfl rfl ?_
      refine qb_callVi (pc' := 35) (b := 3) (as := [.inl x1, .inl x2]) (rest := []) dX10_grade_32 rfl qe_mX10_grade_mX0_gradeAt rfl rfl qb_s3 rfl rfl (Nat.le_of_ble_eq_true rfl) (Nat.le_of_ble_eq_true rfl) ⟨rfl, rfl⟩ h (fun v124 hp124 h => ?_)
      exact qb_reti dX10_grade_35 rfl h
    · have h := h.1 c430
      refine qb_aloadn (pc' := 16) (i := 0) dX10_grade_15 rfl rfl rfl ?_
      refine qb_geta (pc' := 19) dX10_grade_16 rfl qf_X10_19 qb_s0 rfl ?_
      refine qb_iloadn (pc' := 20) (i := 1) dX10_grade_19 rfl rfl rfl ?_
      refine qb_callVi (pc' := 23) (b := 3) (as := [.inl x1]) (rest := []) dX10_grade_20 rfl qe_mX10_grade_mX0_gradesOn rfl rfl qb_s3 rfl rfl (Nat.le_of_ble_eq_true rfl) (Nat.le_of_ble_eq_true rfl) ⟨rfl, rfl⟩ h (fun v123 hp123 h => ?_)
      refine qb_goto (tgt := 35) dX10_grade_23 rfl ?_
      exact qb_reti dX10_grade_35 rfl h
  · have h := h.1 c429
    refine qb_bipush (pc' := 9) dX10_grade_7 rfl rfl rfl ?_
    exact qb_reti dX10_grade_9 rfl h
def c_ju_add (x1 : Int) (x2 : Int) (x3 : Int) (x4 : Int) (hp : qb_H) (K : Int → qb_H → Prop) : Prop := qb_R mX6_add 0 0 qb_sh 0 [qb_a 32, qb_i x1, qb_i x2, qb_i x3, qb_i x4, none] [] hp (qb_I qb_sh K)
theorem b_ju_add {x1 x2 x3 x4 : Int} {hp : qb_H} {K : Int → qb_H → Prop} (h : (0 ≤ x1 ∧ x1 < 30) ∧ (qb_in (10 + x2)) ∧ (0 ≤ (10 + x2) ∧ (10 + x2) < 30) ∧ (qb_in (20 + x3)) ∧ (0 ≤ (20 + x3) ∧ (20 + x3) < 30) ∧ (qb_in (((if x4 = 0 then (qb_st (qb_st (qb_st hp 33 x1 (qb_or (hp 33 x1) (qb_shl 1 (hp 32 4)))) 33 (10 + x2) (qb_or (if (10 + x2) = x1 then (qb_or (hp 33 x1) (qb_shl 1 (hp 32 4))) else (hp 33 (10 + x2))) (qb_shl 1 (hp 32 4)))) 33 (20 + x3) (qb_or (if (20 + x3) = (10 + x2) then (qb_or (if (10 + x2) = x1 then (qb_or (hp 33 x1) (qb_shl 1 (hp 32 4))) else (hp 33 (10 + x2))) (qb_shl 1 (hp 32 4))) else (if (20 + x3) = x1 then (qb_or (hp 33 x1) (qb_shl 1 (hp 32 4))) else (hp 33 (20 + x3)))) (qb_shl 1 (hp 32 4)))) else (qb_st (qb_st (qb_st (qb_st hp 33 x1 (qb_or (hp 33 x1) (qb_shl 1 (hp 32 4)))) 33 (10 + x2) (qb_or (if (10 + x2) = x1 then (qb_or (hp 33 x1) (qb_shl 1 (hp 32 4))) else (hp 33 (10 + x2))) (qb_shl 1 (hp 32 4)))) 33 (20 + x3) (qb_or (if (20 + x3) = (10 + x2) then (qb_or (if (10 + x2) = x1 then (qb_or (hp 33 x1) (qb_shl 1 (hp 32 4))) else (hp 33 (10 + x2))) (qb_shl 1 (hp 32 4))) else (if (20 + x3) = x1 then (qb_or (hp 33 x1) (qb_shl 1 (hp 32 4))) else (hp 33 (20 + x3)))) (qb_shl 1 (hp 32 4)))) 32 3 (qb_or (hp 32 3) (qb_shl 1 (hp 32 4))))) 32 4) + 1)) ∧ K (((if x4 = 0 then (qb_st (qb_st (qb_st hp 33 x1 (qb_or (hp 33 x1) (qb_shl 1 (hp 32 4)))) 33 (10 + x2) (qb_or (if (10 + x2) = x1 then (qb_or (hp 33 x1) (qb_shl 1 (hp 32 4))) else (hp 33 (10 + x2))) (qb_shl 1 (hp 32 4)))) 33 (20 + x3) (qb_or (if (20 + x3) = (10 + x2) then (qb_or (if (10 + x2) = x1 then (qb_or (hp 33 x1) (qb_shl 1 (hp 32 4))) else (hp 33 (10 + x2))) (qb_shl 1 (hp 32 4))) else (if (20 + x3) = x1 then (qb_or (hp 33 x1) (qb_shl 1 (hp 32 4))) else (hp 33 (20 + x3)))) (qb_shl 1 (hp 32 4)))) else (qb_st (qb_st (qb_st (qb_st hp 33 x1 (qb_or (hp 33 x1) (qb_shl 1 (hp 32 4)))) 33 (10 + x2) (qb_or (if (10 + x2) = x1 then (qb_or (hp 33 x1) (qb_shl 1 (hp 32 4))) else (hp 33 (10 + x2))) (qb_shl 1 (hp 32 4)))) 33 (20 + x3) (qb_or (if (20 + x3) = (10 + x2) then (qb_or (if (10 + x2) = x1 then (qb_or (hp 33 x1) (qb_shl 1 (hp 32 4))) else (hp 33 (10 + x2))) (qb_shl 1 (hp 32 4))) else (if (20 + x3) = x1 then (qb_or (hp 33 x1) (qb_shl 1 (hp 32 4))) else (hp 33 (20 + x3)))) (qb_shl 1 (hp 32 4)))) 32 3 (qb_or (hp 32 3) (qb_shl 1 (hp 32 4))))) 32 4) + 1) (qb_st (if x4 = 0 then (qb_st (qb_st (qb_st hp 33 x1 (qb_or (hp 33 x1) (qb_shl 1 (hp 32 4)))) 33 (10 + x2) (qb_or (if (10 + x2) = x1 then (qb_or (hp 33 x1) (qb_shl 1 (hp 32 4))) else (hp 33 (10 + x2))) (qb_shl 1 (hp 32 4)))) 33 (20 + x3) (qb_or (if (20 + x3) = (10 + x2) then (qb_or (if (10 + x2) = x1 then (qb_or (hp 33 x1) (qb_shl 1 (hp 32 4))) else (hp 33 (10 + x2))) (qb_shl 1 (hp 32 4))) else (if (20 + x3) = x1 then (qb_or (hp 33 x1) (qb_shl 1 (hp 32 4))) else (hp 33 (20 + x3)))) (qb_shl 1 (hp 32 4)))) else (qb_st (qb_st (qb_st (qb_st hp 33 x1 (qb_or (hp 33 x1) (qb_shl 1 (hp 32 4)))) 33 (10 + x2) (qb_or (if (10 + x2) = x1 then (qb_or (hp 33 x1) (qb_shl 1 (hp 32 4))) else (hp 33 (10 + x2))) (qb_shl 1 (hp 32 4)))) 33 (20 + x3) (qb_or (if (20 + x3) = (10 + x2) then (qb_or (if (10 + x2) = x1 then (qb_or (hp 33 x1) (qb_shl 1 (hp 32 4))) else (hp 33 (10 + x2))) (qb_shl 1 (hp 32 4))) else (if (20 + x3) = x1 then (qb_or (hp 33 x1) (qb_shl 1 (hp 32 4))) else (hp 33 (20 + x3)))) (qb_shl 1 (hp 32 4)))) 32 3 (qb_or (hp 32 3) (qb_shl 1 (hp 32 4))))) 32 4 (((if x4 = 0 then (qb_st (qb_st (qb_st hp 33 x1 (qb_or (hp 33 x1) (qb_shl 1 (hp 32 4)))) 33 (10 + x2) (qb_or (if (10 + x2) = x1 then (qb_or (hp 33 x1) (qb_shl 1 (hp 32 4))) else (hp 33 (10 + x2))) (qb_shl 1 (hp 32 4)))) 33 (20 + x3) (qb_or (if (20 + x3) = (10 + x2) then (qb_or (if (10 + x2) = x1 then (qb_or (hp 33 x1) (qb_shl 1 (hp 32 4))) else (hp 33 (10 + x2))) (qb_shl 1 (hp 32 4))) else (if (20 + x3) = x1 then (qb_or (hp 33 x1) (qb_shl 1 (hp 32 4))) else (hp 33 (20 + x3)))) (qb_shl 1 (hp 32 4)))) else (qb_st (qb_st (qb_st (qb_st hp 33 x1 (qb_or (hp 33 x1) (qb_shl 1 (hp 32 4)))) 33 (10 + x2) (qb_or (if (10 + x2) = x1 then (qb_or (hp 33 x1) (qb_shl 1 (hp 32 4))) else (hp 33 (10 + x2))) (qb_shl 1 (hp 32 4)))) 33 (20 + x3) (qb_or (if (20 + x3) = (10 + x2) then (qb_or (if (10 + x2) = x1 then (qb_or (hp 33 x1) (qb_shl 1 (hp 32 4))) else (hp 33 (10 + x2))) (qb_shl 1 (hp 32 4))) else (if (20 + x3) = x1 then (qb_or (hp 33 x1) (qb_shl 1 (hp 32 4))) else (hp 33 (20 + x3)))) (qb_shl 1 (hp 32 4)))) 32 3 (qb_or (hp 32 3) (qb_shl 1 (hp 32 4))))) 32 4) + 1))) : c_ju_add x1 x2 x3 x4 hp K := by
  unfold c_ju_add
  refine qb_iconst (pc' := 1) dX6_add_0 rfl rfl ?_
  refine qb_aloadn (pc' := 2) (i := 0) dX6_add_1 rfl rfl rfl ?_
  refine qb_geti (pc' := 5) (v := (hp 32 4)) dX6_add_2 rfl qf_X6_21 qb_s32 rfl rfl ?_
  refine qb_ishl (pc' := 6) dX6_add_5 rfl ?_
  refine qb_istore (pc' := 8) (L' := [qb_a 32, qb_i x1, qb_i x2, qb_i x3, qb_i x4, qb_i (qb_shl 1 (hp 32 4))]) dX6_add_6 rfl (Nat.le_of_ble_eq_true rfl) rfl rfl ?_
  refine qb_aloadn (pc' := 9) (i := 0) dX6_add_8 rfl rfl rfl ?_
  refine qb_geta (pc' := 12) dX6_add_9 rfl qf_X6_9 qb_s32 rfl ?_
  refine qb_iloadn (pc' := 13) (i := 1) dX6_add_12 rfl rfl rfl ?_
  refine qb_dup2 (pc' := 14) dX6_add_13 rfl rfl rfl ?_
  obtain ⟨g1028, h⟩ := h
  refine qb_iald (pc' := 15) (v := (hp 33 x1)) dX6_add_14 rfl qb_s33 g1028.1 g1028.2 rfl ?_
  refine qb_iload (pc' := 17) dX6_add_15 rfl rfl ?_
  refine qb_ior (pc' := 18) dX6_add_17 rfl ?_
  refine qb_iast (pc' := 19) dX6_add_18 rfl qb_s33 g1028.1 g1028.2 ?_
  refine qb_aloadn (pc' := 20) (i := 0) dX6_add_19 rfl rfl rfl ?_
  refine qb_geta (pc' := 23) dX6_add_20 rfl qf_X6_9 qb_s32 rfl ?_
  refine qb_bipush (pc' := 25) dX6_add_23 rfl rfl rfl ?_
  refine qb_iloadn (pc' := 26) (i := 2) dX6_add_25 rfl rfl rfl ?_
  obtain ⟨g1029, h⟩ := h
  refine qb_iadd (pc' := 27) dX6_add_26 rfl g1029 ?_
  refine qb_dup2 (pc' := 28) dX6_add_27 rfl rfl rfl ?_
  obtain ⟨g1030, h⟩ := h
  refine qb_iald (pc' := 29) (v := (if (10 + x2) = x1 then (qb_or (hp 33 x1) (qb_shl 1 (hp 32 4))) else (hp 33 (10 + x2)))) dX6_add_28 rfl qb_s33 g1030.1 g1030.2 (qb_rdi rfl) ?_
  refine qb_iload (pc' := 31) dX6_add_29 rfl rfl ?_
  refine qb_ior (pc' := 32) dX6_add_31 rfl ?_
  refine qb_iast (pc' := 33) dX6_add_32 rfl qb_s33 g1030.1 g1030.2 ?_
  refine qb_aloadn (pc' := 34) (i := 0) dX6_add_33 rfl rfl rfl ?_
  refine qb_geta (pc' := 37) dX6_add_34 rfl qf_X6_9 qb_s32 rfl ?_
  refine qb_bipush (pc' := 39) dX6_add_37 rfl rfl rfl ?_
  refine qb_iloadn (pc' := 40) (i := 3) dX6_add_39 rfl rfl rfl ?_
  obtain ⟨g1031, h⟩ := h
  refine qb_iadd (pc' := 41) dX6_add_40 rfl g1031 ?_
  refine qb_dup2 (pc' := 42) dX6_add_41 rfl rfl rfl ?_
  obtain ⟨g1032, h⟩ := h
  refine qb_iald (pc' := 43) (v := (if (20 + x3) = (10 + x2) then (qb_or (if (10 + x2) = x1 then (qb_or (hp 33 x1) (qb_shl 1 (hp 32 4))) else (hp 33 (10 + x2))) (qb_shl 1 (hp 32 4))) else (if (20 + x3) = x1 then (qb_or (hp 33 x1) (qb_shl 1 (hp 32 4))) else (hp 33 (20 + x3))))) dX6_add_42 rfl qb_s33 g1032.1 g1032.2 (qb_rdi (qb_rdi rfl)) ?_
  refine qb_iload (pc' := 45) dX6_add_43 rfl rfl ?_
  refine qb_ior (pc' := 46) dX6_add_45 rfl ?_
  refine qb_iast (pc' := 47) dX6_add_46 rfl qb_s33 g1032.1 g1032.2 ?_
  refine qb_iload (pc' := 49) dX6_add_47 rfl rfl ?_
  have k242 : qb_R mX6_add 0 0 qb_sh 63 [qb_a 32, none, none, none, none, none] [] (if x4 = 0 then (qb_st (qb_st (qb_st hp 33 x1 (qb_or (hp 33 x1) (qb_shl 1 (hp 32 4)))) 33 (10 + x2) (qb_or (if (10 + x2) = x1 then (qb_or (hp 33 x1) (qb_shl 1 (hp 32 4))) else (hp 33 (10 + x2))) (qb_shl 1 (hp 32 4)))) 33 (20 + x3) (qb_or (if (20 + x3) = (10 + x2) then (qb_or (if (10 + x2) = x1 then (qb_or (hp 33 x1) (qb_shl 1 (hp 32 4))) else (hp 33 (10 + x2))) (qb_shl 1 (hp 32 4))) else (if (20 + x3) = x1 then (qb_or (hp 33 x1) (qb_shl 1 (hp 32 4))) else (hp 33 (20 + x3)))) (qb_shl 1 (hp 32 4)))) else (qb_st (qb_st (qb_st (qb_st hp 33 x1 (qb_or (hp 33 x1) (qb_shl 1 (hp 32 4)))) 33 (10 + x2) (qb_or (if (10 + x2) = x1 then (qb_or (hp 33 x1) (qb_shl 1 (hp 32 4))) else (hp 33 (10 + x2))) (qb_shl 1 (hp 32 4)))) 33 (20 + x3) (qb_or (if (20 + x3) = (10 + x2) then (qb_or (if (10 + x2) = x1 then (qb_or (hp 33 x1) (qb_shl 1 (hp 32 4))) else (hp 33 (10 + x2))) (qb_shl 1 (hp 32 4))) else (if (20 + x3) = x1 then (qb_or (hp 33 x1) (qb_shl 1 (hp 32 4))) else (hp 33 (20 + x3)))) (qb_shl 1 (hp 32 4)))) 32 3 (qb_or (hp 32 3) (qb_shl 1 (hp 32 4))))) (qb_I qb_sh K) := by
    refine qb_aloadn (pc' := 64) (i := 0) dX6_add_63 rfl rfl rfl ?_
    refine qb_dup (pc' := 65) dX6_add_64 rfl rfl ?_
    refine qb_geti (pc' := 68) (v := ((if x4 = 0 then (qb_st (qb_st (qb_st hp 33 x1 (qb_or (hp 33 x1) (qb_shl 1 (hp 32 4)))) 33 (10 + x2) (qb_or (if (10 + x2) = x1 then (qb_or (hp 33 x1) (qb_shl 1 (hp 32 4))) else (hp 33 (10 + x2))) (qb_shl 1 (hp 32 4)))) 33 (20 + x3) (qb_or (if (20 + x3) = (10 + x2) then (qb_or (if (10 + x2) = x1 then (qb_or (hp 33 x1) (qb_shl 1 (hp 32 4))) else (hp 33 (10 + x2))) (qb_shl 1 (hp 32 4))) else (if (20 + x3) = x1 then (qb_or (hp 33 x1) (qb_shl 1 (hp 32 4))) else (hp 33 (20 + x3)))) (qb_shl 1 (hp 32 4)))) else (qb_st (qb_st (qb_st (qb_st hp 33 x1 (qb_or (hp 33 x1) (qb_shl 1 (hp 32 4)))) 33 (10 + x2) (qb_or (if (10 + x2) = x1 then (qb_or (hp 33 x1) (qb_shl 1 (hp 32 4))) else (hp 33 (10 + x2))) (qb_shl 1 (hp 32 4)))) 33 (20 + x3) (qb_or (if (20 + x3) = (10 + x2) then (qb_or (if (10 + x2) = x1 then (qb_or (hp 33 x1) (qb_shl 1 (hp 32 4))) else (hp 33 (10 + x2))) (qb_shl 1 (hp 32 4))) else (if (20 + x3) = x1 then (qb_or (hp 33 x1) (qb_shl 1 (hp 32 4))) else (hp 33 (20 + x3)))) (qb_shl 1 (hp 32 4)))) 32 3 (qb_or (hp 32 3) (qb_shl 1 (hp 32 4))))) 32 4)) dX6_add_65 rfl qf_X6_21 qb_s32 rfl rfl ?_
    refine qb_iconst (pc' := 69) dX6_add_68 rfl rfl ?_
    obtain ⟨g1033, h⟩ := h
    refine qb_iadd (pc' := 70) dX6_add_69 rfl g1033 ?_
    refine qb_puti (pc' := 73) (hp' := (qb_st (if x4 = 0 then (qb_st (qb_st (qb_st hp 33 x1 (qb_or (hp 33 x1) (qb_shl 1 (hp 32 4)))) 33 (10 + x2) (qb_or (if (10 + x2) = x1 then (qb_or (hp 33 x1) (qb_shl 1 (hp 32 4))) else (hp 33 (10 + x2))) (qb_shl 1 (hp 32 4)))) 33 (20 + x3) (qb_or (if (20 + x3) = (10 + x2) then (qb_or (if (10 + x2) = x1 then (qb_or (hp 33 x1) (qb_shl 1 (hp 32 4))) else (hp 33 (10 + x2))) (qb_shl 1 (hp 32 4))) else (if (20 + x3) = x1 then (qb_or (hp 33 x1) (qb_shl 1 (hp 32 4))) else (hp 33 (20 + x3)))) (qb_shl 1 (hp 32 4)))) else (qb_st (qb_st (qb_st (qb_st hp 33 x1 (qb_or (hp 33 x1) (qb_shl 1 (hp 32 4)))) 33 (10 + x2) (qb_or (if (10 + x2) = x1 then (qb_or (hp 33 x1) (qb_shl 1 (hp 32 4))) else (hp 33 (10 + x2))) (qb_shl 1 (hp 32 4)))) 33 (20 + x3) (qb_or (if (20 + x3) = (10 + x2) then (qb_or (if (10 + x2) = x1 then (qb_or (hp 33 x1) (qb_shl 1 (hp 32 4))) else (hp 33 (10 + x2))) (qb_shl 1 (hp 32 4))) else (if (20 + x3) = x1 then (qb_or (hp 33 x1) (qb_shl 1 (hp 32 4))) else (hp 33 (20 + x3)))) (qb_shl 1 (hp 32 4)))) 32 3 (qb_or (hp 32 3) (qb_shl 1 (hp 32 4))))) 32 4 (((if x4 = 0 then (qb_st (qb_st (qb_st hp 33 x1 (qb_or (hp 33 x1) (qb_shl 1 (hp 32 4)))) 33 (10 + x2) (qb_or (if (10 + x2) = x1 then (qb_or (hp 33 x1) (qb_shl 1 (hp 32 4))) else (hp 33 (10 + x2))) (qb_shl 1 (hp 32 4)))) 33 (20 + x3) (qb_or (if (20 + x3) = (10 + x2) then (qb_or (if (10 + x2) = x1 then (qb_or (hp 33 x1) (qb_shl 1 (hp 32 4))) else (hp 33 (10 + x2))) (qb_shl 1 (hp 32 4))) else (if (20 + x3) = x1 then (qb_or (hp 33 x1) (qb_shl 1 (hp 32 4))) else (hp 33 (20 + x3)))) (qb_shl 1 (hp 32 4)))) else (qb_st (qb_st (qb_st (qb_st hp 33 x1 (qb_or (hp 33 x1) (qb_shl 1 (hp 32 4)))) 33 (10 + x2) (qb_or (if (10 + x2) = x1 then (qb_or (hp 33 x1) (qb_shl 1 (hp 32 4))) else (hp 33 (10 + x2))) (qb_shl 1 (hp 32 4)))) 33 (20 + x3) (qb_or (if (20 + x3) = (10 + x2) then (qb_or (if (10 + x2) = x1 then (qb_or (hp 33 x1) (qb_shl 1 (hp 32 4))) else (hp 33 (10 + x2))) (qb_shl 1 (hp 32 4))) else (if (20 + x3) = x1 then (qb_or (hp 33 x1) (qb_shl 1 (hp 32 4))) else (hp 33 (20 + x3)))) (qb_shl 1 (hp 32 4)))) 32 3 (qb_or (hp 32 3) (qb_shl 1 (hp 32 4))))) 32 4) + 1))) dX6_add_70 rfl qf_X6_21 (Or.inl rfl) qb_s32 rfl rfl ?_
    refine qb_aloadn (pc' := 74) (i := 0) dX6_add_73 rfl rfl rfl ?_
    refine qb_geti (pc' := 77) (v := (((if x4 = 0 then (qb_st (qb_st (qb_st hp 33 x1 (qb_or (hp 33 x1) (qb_shl 1 (hp 32 4)))) 33 (10 + x2) (qb_or (if (10 + x2) = x1 then (qb_or (hp 33 x1) (qb_shl 1 (hp 32 4))) else (hp 33 (10 + x2))) (qb_shl 1 (hp 32 4)))) 33 (20 + x3) (qb_or (if (20 + x3) = (10 + x2) then (qb_or (if (10 + x2) = x1 then (qb_or (hp 33 x1) (qb_shl 1 (hp 32 4))) else (hp 33 (10 + x2))) (qb_shl 1 (hp 32 4))) else (if (20 + x3) = x1 then (qb_or (hp 33 x1) (qb_shl 1 (hp 32 4))) else (hp 33 (20 + x3)))) (qb_shl 1 (hp 32 4)))) else (qb_st (qb_st (qb_st (qb_st hp 33 x1 (qb_or (hp 33 x1) (qb_shl 1 (hp 32 4)))) 33 (10 + x2) (qb_or (if (10 + x2) = x1 then (qb_or (hp 33 x1) (qb_shl 1 (hp 32 4))) else (hp 33 (10 + x2))) (qb_shl 1 (hp 32 4)))) 33 (20 + x3) (qb_or (if (20 + x3) = (10 + x2) then (qb_or (if (10 + x2) = x1 then (qb_or (hp 33 x1) (qb_shl 1 (hp 32 4))) else (hp 33 (10 + x2))) (qb_shl 1 (hp 32 4))) else (if (20 + x3) = x1 then (qb_or (hp 33 x1) (qb_shl 1 (hp 32 4))) else (hp 33 (20 + x3)))) (qb_shl 1 (hp 32 4)))) 32 3 (qb_or (hp 32 3) (qb_shl 1 (hp 32 4))))) 32 4) + 1)) dX6_add_74 rfl qf_X6_21 qb_s32 rfl qb_rds ?_
    exact qb_reti dX6_add_77 rfl h
  refine qb_feq (tgt := 63) (pc' := 52) dX6_add_49 rfl rfl (fun c436 => ?_) (fun c436 => ?_)
  · refine qb_cut (L' := [qb_a 32, none, none, none, none, none]) [true, false, false, false, false, false] rfl ?_
    simpa only [if_pos c436] using k242
  · refine qb_aloadn (pc' := 53) (i := 0) dX6_add_52 rfl rfl rfl ?_
    refine qb_dup (pc' := 54) dX6_add_53 rfl rfl ?_
    refine qb_geti (pc' := 57) (v := (hp 32 3)) dX6_add_54 rfl qf_X6_25 qb_s32 rfl (qb_rdn rfl (qb_rdn rfl (qb_rdn rfl rfl))) ?_
    refine qb_iload (pc' := 59) dX6_add_57 rfl rfl ?_
    refine qb_ior (pc' := 60) dX6_add_59 rfl ?_
    refine qb_puti (pc' := 63) (hp' := (qb_st (qb_st (qb_st (qb_st hp 33 x1 (qb_or (hp 33 x1) (qb_shl 1 (hp 32 4)))) 33 (10 + x2) (qb_or (if (10 + x2) = x1 then (qb_or (hp 33 x1) (qb_shl 1 (hp 32 4))) else (hp 33 (10 + x2))) (qb_shl 1 (hp 32 4)))) 33 (20 + x3) (qb_or (if (20 + x3) = (10 + x2) then (qb_or (if (10 + x2) = x1 then (qb_or (hp 33 x1) (qb_shl 1 (hp 32 4))) else (hp 33 (10 + x2))) (qb_shl 1 (hp 32 4))) else (if (20 + x3) = x1 then (qb_or (hp 33 x1) (qb_shl 1 (hp 32 4))) else (hp 33 (20 + x3)))) (qb_shl 1 (hp 32 4)))) 32 3 (qb_or (hp 32 3) (qb_shl 1 (hp 32 4))))) dX6_add_60 rfl qf_X6_25 (Or.inl rfl) qb_s32 rfl rfl ?_
    refine qb_cut (L' := [qb_a 32, none, none, none, none, none]) [true, false, false, false, false, false] rfl ?_
    simpa only [if_neg c436] using k242
def v_ju_add (x1 : Int) (x2 : Int) (x3 : Int) (x4 : Int) (hp : qb_H) : Int := (((if x4 = 0 then (qb_st (qb_st (qb_st hp 33 x1 (qb_or (hp 33 x1) (qb_shl 1 (hp 32 4)))) 33 (10 + x2) (qb_or (if (10 + x2) = x1 then (qb_or (hp 33 x1) (qb_shl 1 (hp 32 4))) else (hp 33 (10 + x2))) (qb_shl 1 (hp 32 4)))) 33 (20 + x3) (qb_or (if (20 + x3) = (10 + x2) then (qb_or (if (10 + x2) = x1 then (qb_or (hp 33 x1) (qb_shl 1 (hp 32 4))) else (hp 33 (10 + x2))) (qb_shl 1 (hp 32 4))) else (if (20 + x3) = x1 then (qb_or (hp 33 x1) (qb_shl 1 (hp 32 4))) else (hp 33 (20 + x3)))) (qb_shl 1 (hp 32 4)))) else (qb_st (qb_st (qb_st (qb_st hp 33 x1 (qb_or (hp 33 x1) (qb_shl 1 (hp 32 4)))) 33 (10 + x2) (qb_or (if (10 + x2) = x1 then (qb_or (hp 33 x1) (qb_shl 1 (hp 32 4))) else (hp 33 (10 + x2))) (qb_shl 1 (hp 32 4)))) 33 (20 + x3) (qb_or (if (20 + x3) = (10 + x2) then (qb_or (if (10 + x2) = x1 then (qb_or (hp 33 x1) (qb_shl 1 (hp 32 4))) else (hp 33 (10 + x2))) (qb_shl 1 (hp 32 4))) else (if (20 + x3) = x1 then (qb_or (hp 33 x1) (qb_shl 1 (hp 32 4))) else (hp 33 (20 + x3)))) (qb_shl 1 (hp 32 4)))) 32 3 (qb_or (hp 32 3) (qb_shl 1 (hp 32 4))))) 32 4) + 1)
def h_ju_add (x1 : Int) (x2 : Int) (x3 : Int) (x4 : Int) (hp : qb_H) : qb_H := (qb_st (if x4 = 0 then (qb_st (qb_st (qb_st hp 33 x1 (qb_or (hp 33 x1) (qb_shl 1 (hp 32 4)))) 33 (10 + x2) (qb_or (if (10 + x2) = x1 then (qb_or (hp 33 x1) (qb_shl 1 (hp 32 4))) else (hp 33 (10 + x2))) (qb_shl 1 (hp 32 4)))) 33 (20 + x3) (qb_or (if (20 + x3) = (10 + x2) then (qb_or (if (10 + x2) = x1 then (qb_or (hp 33 x1) (qb_shl 1 (hp 32 4))) else (hp 33 (10 + x2))) (qb_shl 1 (hp 32 4))) else (if (20 + x3) = x1 then (qb_or (hp 33 x1) (qb_shl 1 (hp 32 4))) else (hp 33 (20 + x3)))) (qb_shl 1 (hp 32 4)))) else (qb_st (qb_st (qb_st (qb_st hp 33 x1 (qb_or (hp 33 x1) (qb_shl 1 (hp 32 4)))) 33 (10 + x2) (qb_or (if (10 + x2) = x1 then (qb_or (hp 33 x1) (qb_shl 1 (hp 32 4))) else (hp 33 (10 + x2))) (qb_shl 1 (hp 32 4)))) 33 (20 + x3) (qb_or (if (20 + x3) = (10 + x2) then (qb_or (if (10 + x2) = x1 then (qb_or (hp 33 x1) (qb_shl 1 (hp 32 4))) else (hp 33 (10 + x2))) (qb_shl 1 (hp 32 4))) else (if (20 + x3) = x1 then (qb_or (hp 33 x1) (qb_shl 1 (hp 32 4))) else (hp 33 (20 + x3)))) (qb_shl 1 (hp 32 4)))) 32 3 (qb_or (hp 32 3) (qb_shl 1 (hp 32 4))))) 32 4 (((if x4 = 0 then (qb_st (qb_st (qb_st hp 33 x1 (qb_or (hp 33 x1) (qb_shl 1 (hp 32 4)))) 33 (10 + x2) (qb_or (if (10 + x2) = x1 then (qb_or (hp 33 x1) (qb_shl 1 (hp 32 4))) else (hp 33 (10 + x2))) (qb_shl 1 (hp 32 4)))) 33 (20 + x3) (qb_or (if (20 + x3) = (10 + x2) then (qb_or (if (10 + x2) = x1 then (qb_or (hp 33 x1) (qb_shl 1 (hp 32 4))) else (hp 33 (10 + x2))) (qb_shl 1 (hp 32 4))) else (if (20 + x3) = x1 then (qb_or (hp 33 x1) (qb_shl 1 (hp 32 4))) else (hp 33 (20 + x3)))) (qb_shl 1 (hp 32 4)))) else (qb_st (qb_st (qb_st (qb_st hp 33 x1 (qb_or (hp 33 x1) (qb_shl 1 (hp 32 4)))) 33 (10 + x2) (qb_or (if (10 + x2) = x1 then (qb_or (hp 33 x1) (qb_shl 1 (hp 32 4))) else (hp 33 (10 + x2))) (qb_shl 1 (hp 32 4)))) 33 (20 + x3) (qb_or (if (20 + x3) = (10 + x2) then (qb_or (if (10 + x2) = x1 then (qb_or (hp 33 x1) (qb_shl 1 (hp 32 4))) else (hp 33 (10 + x2))) (qb_shl 1 (hp 32 4))) else (if (20 + x3) = x1 then (qb_or (hp 33 x1) (qb_shl 1 (hp 32 4))) else (hp 33 (20 + x3)))) (qb_shl 1 (hp 32 4)))) 32 3 (qb_or (hp 32 3) (qb_shl 1 (hp 32 4))))) 32 4) + 1))
theorem hn_ju_add (x1 : Int) (x2 : Int) (x3 : Int) (x4 : Int) (hp : qb_H) (c : Nat) (h32 : c ≠ 32) (h33 : c ≠ 33) : h_ju_add x1 x2 x3 x4 hp c = hp c := by
  unfold h_ju_add
  (repeat' split) <;> simp only [qb_st_ne, qb_cpy_ne, ne_eq, not_false_eq_true, h32, h33, ]
def g_ju_add (x1 : Int) (x2 : Int) (x3 : Int) (x4 : Int) (hp : qb_H) : Prop := (0 ≤ x1 ∧ x1 < 30) ∧ (qb_in (10 + x2)) ∧ (0 ≤ (10 + x2) ∧ (10 + x2) < 30) ∧ (qb_in (20 + x3)) ∧ (0 ≤ (20 + x3) ∧ (20 + x3) < 30) ∧ qb_in (((if x4 = 0 then (qb_st (qb_st (qb_st hp 33 x1 (qb_or (hp 33 x1) (qb_shl 1 (hp 32 4)))) 33 (10 + x2) (qb_or (if (10 + x2) = x1 then (qb_or (hp 33 x1) (qb_shl 1 (hp 32 4))) else (hp 33 (10 + x2))) (qb_shl 1 (hp 32 4)))) 33 (20 + x3) (qb_or (if (20 + x3) = (10 + x2) then (qb_or (if (10 + x2) = x1 then (qb_or (hp 33 x1) (qb_shl 1 (hp 32 4))) else (hp 33 (10 + x2))) (qb_shl 1 (hp 32 4))) else (if (20 + x3) = x1 then (qb_or (hp 33 x1) (qb_shl 1 (hp 32 4))) else (hp 33 (20 + x3)))) (qb_shl 1 (hp 32 4)))) else (qb_st (qb_st (qb_st (qb_st hp 33 x1 (qb_or (hp 33 x1) (qb_shl 1 (hp 32 4)))) 33 (10 + x2) (qb_or (if (10 + x2) = x1 then (qb_or (hp 33 x1) (qb_shl 1 (hp 32 4))) else (hp 33 (10 + x2))) (qb_shl 1 (hp 32 4)))) 33 (20 + x3) (qb_or (if (20 + x3) = (10 + x2) then (qb_or (if (10 + x2) = x1 then (qb_or (hp 33 x1) (qb_shl 1 (hp 32 4))) else (hp 33 (10 + x2))) (qb_shl 1 (hp 32 4))) else (if (20 + x3) = x1 then (qb_or (hp 33 x1) (qb_shl 1 (hp 32 4))) else (hp 33 (20 + x3)))) (qb_shl 1 (hp 32 4)))) 32 3 (qb_or (hp 32 3) (qb_shl 1 (hp 32 4))))) 32 4) + 1)
theorem s_ju_add (x1 : Int) (x2 : Int) (x3 : Int) (x4 : Int) (hp : qb_H) (K : Int → qb_H → Prop) (hg : g_ju_add x1 x2 x3 x4 hp) (hK : K (v_ju_add x1 x2 x3 x4 hp) (h_ju_add x1 x2 x3 x4 hp)) : c_ju_add x1 x2 x3 x4 hp K := by
  refine b_ju_add ?_
  unfold g_ju_add at hg
  unfold v_ju_add h_ju_add at hK
  refine ⟨hg.1, ?_⟩
  have hg := hg.2
  refine ⟨hg.1, ?_⟩
  have hg := hg.2
  refine ⟨hg.1, ?_⟩
  have hg := hg.2
  refine ⟨hg.1, ?_⟩
  have hg := hg.2
  refine ⟨hg.1, ?_⟩
  have hg := hg.2
  refine ⟨hg, ?_⟩
  exact hK
def c_q_judge (x1 : Int) (x2 : Int) (x3 : Int) (x4 : Int) (hp : qb_H) (K : Int → qb_H → Prop) : Prop := qb_R mX10_judge 0 0 qb_sh 0 [qb_a 0, qb_i x1, qb_i x2, qb_i x3, qb_i x4] [] hp (qb_I qb_sh K)
theorem b_q_judge {x1 x2 x3 x4 : Int} {hp : qb_H} {K : Int → qb_H → Prop} (h : ((v_q_within x1 0 9) = 0 → K (-2) hp) ∧ (¬ (v_q_within x1 0 9) = 0 → ((v_q_within x2 0 9) = 0 → K (-2) hp) ∧ (¬ (v_q_within x2 0 9) = 0 → ((v_q_within x3 0 9) = 0 → K (-2) hp) ∧ (¬ (v_q_within x3 0 9) = 0 → ((hp 32 4) < 24 → (g_ju_add x1 x2 x3 x4 hp) ∧ K (v_ju_add x1 x2 x3 x4 hp) (h_ju_add x1 x2 x3 x4 hp)) ∧ (¬ (hp 32 4) < 24 → K (-4) hp))))) : c_q_judge x1 x2 x3 x4 hp K := by
  unfold c_q_judge
  refine qb_iloadn (pc' := 1) (i := 1) dX10_judge_0 rfl rfl rfl ?_
  refine qb_iconst (pc' := 2) dX10_judge_1 rfl rfl ?_
  refine qb_bipush (pc' := 4) dX10_judge_2 rfl rfl rfl ?_
  refine qb_callSi (pc' := 7) (as := [.inl x1, .inl 0, .inl 9]) (rest := []) dX10_judge_4 rfl qe_mX10_judge_mX10_within rfl rfl rfl (Nat.le_of_ble_eq_true rfl) (Nat.le_of_ble_eq_true rfl) ⟨rfl, rfl⟩ (K := fun vz hpz => (v_q_within x1 0 9) = vz ∧ hp = hpz) (s_q_within x1 0 9 hp _ trivial ⟨rfl, rfl⟩) (fun vz hpz ez => ?_)
  obtain ⟨ez1, ez2⟩ := ez
  subst ez1
  subst ez2
  refine qb_feq (tgt := 30) (pc' := 10) dX10_judge_7 rfl rfl (fun c437 => ?_) (fun c437 => ?_)
  · have h := h.1 c437
    refine qb_bipush (pc' := 32) dX10_judge_30 rfl rfl rfl ?_
    exact qb_reti dX10_judge_32 rfl h
  · have h := h.2 c437
    refine qb_iloadn (pc' := 11) (i := 2) dX10_judge_10 rfl rfl rfl ?_
    refine qb_iconst (pc' := 12) dX10_judge_11 rfl rfl ?_
    refine qb_bipush (pc' := 14) dX10_judge_12 rfl rfl rfl ?_
    refine qb_callSi (pc' := 17) (as := [.inl x2, .inl 0, .inl 9]) (rest := []) dX10_judge_14 rfl qe_mX10_judge_mX10_within rfl rfl rfl (Nat.le_of_ble_eq_true rfl) (Nat.le_of_ble_eq_true rfl) ⟨rfl, rfl⟩ (K := fun vz hpz => (v_q_within x2 0 9) = vz ∧ hp = hpz) (s_q_within x2 0 9 hp _ trivial ⟨rfl, rfl⟩) (fun vz hpz ez => ?_)
    obtain ⟨ez1, ez2⟩ := ez
    subst ez1
    subst ez2
    refine qb_feq (tgt := 30) (pc' := 20) dX10_judge_17 rfl rfl (fun c438 => ?_) (fun c438 => ?_)
    · have h := h.1 c438
      refine qb_bipush (pc' := 32) dX10_judge_30 rfl rfl rfl ?_
      exact qb_reti dX10_judge_32 rfl h
    · have h := h.2 c438
      refine qb_iloadn (pc' := 21) (i := 3) dX10_judge_20 rfl rfl rfl ?_
      refine qb_iconst (pc' := 22) dX10_judge_21 rfl rfl ?_
      refine qb_bipush (pc' := 24) dX10_judge_22 rfl rfl rfl ?_
      refine qb_callSi (pc' := 27) (as := [.inl x3, .inl 0, .inl 9]) (rest := []) dX10_judge_24 rfl qe_mX10_judge_mX10_within rfl rfl rfl (Nat.le_of_ble_eq_true rfl) (Nat.le_of_ble_eq_true rfl) ⟨rfl, rfl⟩ (K := fun vz hpz => (v_q_within x3 0 9) = vz ∧ hp = hpz) (s_q_within x3 0 9 hp _ trivial ⟨rfl, rfl⟩) (fun vz hpz ez => ?_)
      obtain ⟨ez1, ez2⟩ := ez
      subst ez1
      subst ez2
      refine qb_fne (tgt := 33) (pc' := 30) dX10_judge_27 rfl rfl (fun c439 => ?_) (fun c439 => ?_)
      · have h := h.2 c439
        refine qb_aloadn (pc' := 34) (i := 0) dX10_judge_33 rfl rfl rfl ?_
        refine qb_geta (pc' := 37) dX10_judge_34 rfl qf_X10_54 qb_s0 rfl ?_
        refine qb_geti (pc' := 40) (v := (hp 32 4)) dX10_judge_37 rfl qf_X10_207 qb_s32 rfl rfl ?_
        refine qb_bipush (pc' := 42) dX10_judge_40 rfl rfl rfl ?_
        refine qb_clt (tgt := 48) (pc' := 45) dX10_judge_42 rfl rfl (fun c440 => ?_) (fun c440 => ?_)
        · have h := h.1 c440
          refine qb_aloadn (pc' := 49) (i := 0) dX10_judge_48 rfl rfl rfl ?_
          refine qb_geta (pc' := 52) dX10_judge_49 rfl qf_X10_54 qb_s0 rfl ?_
          refine qb_iloadn (pc' := 53) (i := 1) dX10_judge_52 rfl rfl rfl ?_
          refine qb_iloadn (pc' := 54) (i := 2) dX10_judge_53 rfl rfl rfl ?_
          refine qb_iloadn (pc' := 55) (i := 3) dX10_judge_54 rfl rfl rfl ?_
          refine qb_iload (pc' := 57) dX10_judge_55 rfl rfl ?_
          obtain ⟨g1035, h⟩ := h
          refine qb_callVi (pc' := 60) (b := 32) (as := [.inl x1, .inl x2, .inl x3, .inl x4]) (rest := []) dX10_judge_57 rfl qe_mX10_judge_mX6_add rfl rfl qb_s32 rfl rfl (Nat.le_of_ble_eq_true rfl) (Nat.le_of_ble_eq_true rfl) ⟨rfl, rfl⟩ (K := fun vz hpz => (v_ju_add x1 x2 x3 x4 hp) = vz ∧ (h_ju_add x1 x2 x3 x4 hp) = hpz) (s_ju_add x1 x2 x3 x4 hp _ g1035 ⟨rfl, rfl⟩) (fun vz hpz ez => ?_)
          obtain ⟨ez1, ez2⟩ := ez
          subst ez1
          subst ez2
          exact qb_reti dX10_judge_60 rfl h
        · have h := h.2 c440
          refine qb_bipush (pc' := 47) dX10_judge_45 rfl rfl rfl ?_
          exact qb_reti dX10_judge_47 rfl h
      · have h := h.1 c439
        refine qb_bipush (pc' := 32) dX10_judge_30 rfl rfl rfl ?_
        exact qb_reti dX10_judge_32 rfl h
def v_q_judge (x1 : Int) (x2 : Int) (x3 : Int) (x4 : Int) (hp : qb_H) : Int := (if (v_q_within x1 0 9) = 0 then ((-2) : Int) else (if (v_q_within x2 0 9) = 0 then ((-2) : Int) else (if (v_q_within x3 0 9) = 0 then ((-2) : Int) else (if (hp 32 4) < 24 then (v_ju_add x1 x2 x3 x4 hp) else (-4)))))
def h_q_judge (x1 : Int) (x2 : Int) (x3 : Int) (x4 : Int) (hp : qb_H) : qb_H := (if (v_q_within x1 0 9) = 0 then hp else (if (v_q_within x2 0 9) = 0 then hp else (if (v_q_within x3 0 9) = 0 then hp else (if (hp 32 4) < 24 then (h_ju_add x1 x2 x3 x4 hp) else hp))))
theorem hn_q_judge (x1 : Int) (x2 : Int) (x3 : Int) (x4 : Int) (hp : qb_H) (c : Nat) (h32 : c ≠ 32) (h33 : c ≠ 33) : h_q_judge x1 x2 x3 x4 hp c = hp c := by
  unfold h_q_judge
  (repeat' split) <;> simp only [qb_st_ne, qb_cpy_ne, ne_eq, not_false_eq_true, h32, h33, hn_ju_add,]
def g_q_judge (x1 : Int) (x2 : Int) (x3 : Int) (x4 : Int) (hp : qb_H) : Prop := (¬ (v_q_within x1 0 9) = 0 → (¬ (v_q_within x2 0 9) = 0 → (¬ (v_q_within x3 0 9) = 0 → ((hp 32 4) < 24 → g_ju_add x1 x2 x3 x4 hp))))
theorem s_q_judge (x1 : Int) (x2 : Int) (x3 : Int) (x4 : Int) (hp : qb_H) (K : Int → qb_H → Prop) (hg : g_q_judge x1 x2 x3 x4 hp) (hK : K (v_q_judge x1 x2 x3 x4 hp) (h_q_judge x1 x2 x3 x4 hp)) : c_q_judge x1 x2 x3 x4 hp K := by
  refine b_q_judge ?_
  unfold g_q_judge at hg
  unfold v_q_judge h_q_judge at hK
  refine ⟨fun c441 => ?_, fun c441 => ?_⟩
  · simpa only [if_pos c441] using hK
  · have hg := hg c441
    refine ⟨fun c442 => ?_, fun c442 => ?_⟩
    · simpa only [if_neg c441, if_pos c442] using hK
    · have hg := hg c442
      refine ⟨fun c443 => ?_, fun c443 => ?_⟩
      · simpa only [if_neg c441, if_neg c442, if_pos c443] using hK
      · have hg := hg c443
        refine ⟨fun c444 => ?_, fun c444 => ?_⟩
        · have hg := hg c444
          refine ⟨hg, ?_⟩
          simpa only [if_neg c441, if_neg c442, if_neg c443, if_pos c444] using hK
        · simpa only [if_neg c441, if_neg c442, if_neg c443, if_neg c444] using hK
