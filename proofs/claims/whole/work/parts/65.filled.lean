/-! FILLED AGAIN -/
theorem pine_in {F P v : Int} (hF : 100 ≤ F ∧ F ≤ 1500) (hP : 0 ≤ P ∧ P ≤ 50) (hv : 0 ≤ v ∧ v ≤ 6000) : qb_in (F * P) ∧ 0 ≤ F * P ∧ qb_in (F - F * P / 100) ∧ qb_in ((F - F * P / 100) * v) ∧ 0 ≤ (F - F * P / 100) * v := by
  have h1 : 0 ≤ F * P := Int.mul_nonneg (by omega) hP.1
  have h2 : F * P ≤ F * 50 := Int.mul_le_mul_of_nonneg_left hP.2 (by omega)
  have h3 : 0 ≤ F - F * P / 100 ∧ F - F * P / 100 ≤ 1500 := by omega
  have h4 : 0 ≤ (F - F * P / 100) * v := Int.mul_nonneg h3.1 hv.1
  have h5 : (F - F * P / 100) * v ≤ 1500 * v := Int.mul_le_mul_of_nonneg_right h3.2 hv.1
  refine ⟨by unfold qb_in; omega, h1, by unfold qb_in; omega, by unfold qb_in; omega, h4⟩
theorem bN_kS {hp hq : qb_H} (hk : kS hp hq) (n : Nat) (Q : Int) : bN hq n Q = bN hp n Q := by
  unfold bN
  rw [kS_gq hk, kS_c hk 10 (by decide) (by decide) (by decide) (by decide) (by decide)]
theorem bc_kS2 {hp hq : qb_H} (hk : kS hp hq) (n : Nat) (Q G L : Int) : bc hq n Q G L = bc hp n Q G L := funext (bc_kS hk n Q G L)
theorem filled_ok (Q G hour what : Int) {hp : qb_H} {n : Nat} (hB : qb_iB hp n) (hA : qb_iA hp) (hS : qb_iS hp) {K : Int → Int → qb_H → Prop} (hK : ∀ (v : Int) (hq : qb_H), kS hp hq → K v v hq) :
    c_q_filled Q G hour what hp (fun v hp1 => c_m_filled Q G hour what hp1 (fun w hp2 => K v w hp2)) := by
  refine b_q_filled ⟨fun c => b_m_filled ⟨fun _ => hK _ hp kS.rf, fun c2 => absurd c c2⟩, fun c => ?_⟩
  refine ⟨fun cg => b_m_filled ⟨fun c2 => absurd c2 c, fun _ => ⟨fun _ => hK _ hp kS.rf, fun c2 => absurd cg c2⟩⟩, fun cg => ?_⟩
  refine ⟨fun ch => b_m_filled ⟨fun c2 => absurd c2 c, fun _ => ⟨fun c2 => absurd c2 cg, fun _ => ⟨fun _ => hK _ hp kS.rf, fun c2 => absurd ch c2⟩⟩⟩, fun ch => ?_⟩
  refine ⟨fun cw => b_m_filled ⟨fun c2 => absurd c2 c, fun _ => ⟨fun c2 => absurd c2 cg, fun _ => ⟨fun c2 => absurd c2 ch, fun _ => ⟨fun _ => hK _ hp kS.rf, fun c2 => absurd cw c2⟩⟩⟩⟩, fun cw => ?_⟩
  obtain ⟨h0, h1⟩ := q_isQ.1 c
  have hG : 0 ≤ G ∧ G ≤ 5 := by
    rcases v_in_c (x := G) (a := 0) (b := 5) with z | z
    · exact absurd z.1 cg
    · exact z.2
  have hh : 0 ≤ hour ∧ hour ≤ 2000 := by
    rcases v_in_c (x := hour) (a := 0) (b := 2000) with z | z
    · exact absurd z.1 ch
    · exact z.2
  refine wk_ok hB (fun hw w1 w2 w3 => ?_)
  have hBw := iB_kS hB w1
  have hN := bN_in hBw h0 h1
  have hr := hBw.1.2.2.2.2.2.2.2.2
  obtain ⟨i1, i2, i3, -⟩ := pine_in (F := hw 10 1) (P := hw 10 3) (v := 0) hr.1 hr.2.2.1 (by omega)
  have hsum := bc_in (hp := hw) (n := n) (Q := Q) (G := G) (L := hour - 240) (bN hw n Q).toNat
  obtain ⟨-, -, -, i4, i5⟩ := pine_in (F := hw 10 1) (P := hw 10 3) (v := qb_sum (bc hw n Q G (hour - 240)) (bN hw n Q).toNat) hr.1 hr.2.2.1 (by omega)
  refine ⟨i1, i2, i3, by unfold qb_in; omega, s_q_countBranded hBw (iA_kS hA w1) (iS_kS hS w1) h0 h1 (w2 Q h0 h1) G (hour - 240) (fun hq q1 => ?_)⟩
  have hkq := kS_two q1
  have hBq := iB_kS hBw hkq
  have hr0 : 0 < hw 10 1 := by omega
  refine ⟨i4, fun y ey => ⟨fun _ => ⟨by rw [ey]; exact i5, hr0⟩, fun _ => ⟨by rw [ey]; exact i5, hr0⟩, fun z ez => ?_⟩⟩
  refine b_m_filled ⟨fun c2 => absurd c2 c, fun _ => ⟨fun c2 => absurd c2 cg, fun _ => ⟨fun c2 => absurd c2 ch, fun _ => ⟨fun c2 => absurd c2 cw, fun _ => ?_⟩⟩⟩⟩
  refine s_m_begin hBq h0 h1 (fun hr hst => ?_)
  obtain ⟨g1, g2⟩ := m_now hBq hst
  refine ⟨g1, fun y2 ey2 => ?_⟩
  rw [g2] at ey2
  subst ey2
  refine m_filled_loop hBq (iA_kS (iA_kS hA w1) hkq) (iS_kS (iS_kS hS w1) hkq) h0 h1 hG hh (fun hu u1 => ?_) (bN hq n Q).toNat 0 hr (by have := (bN_in hBq h0 h1).1; omega) hst
  have hBu := iB_kS hBq u1
  rw [bc_kS2 hkq, bN_kS hkq]
  have e1 : hu 67 1 = hw 10 1 := by
    rw [hBu.2.2.2.2 1 (by decide) (by decide), kS_c (hkq.tr u1) 10 (by decide) (by decide) (by decide) (by decide) (by decide)]
  have e3 : hu 67 3 = hw 10 3 := by
    rw [hBu.2.2.2.2 3 (by decide) (by decide), kS_c (hkq.tr u1) 10 (by decide) (by decide) (by decide) (by decide) (by decide)]
  refine b_m_filled_55 ⟨fun _ => ?_, fun c2 => absurd (Int.le_refl _) c2⟩
  rw [e1, e3]
  refine ⟨i1, i2, i3, by rw [Int.mul_comm]; exact i4, fun y3 ey3 => ?_⟩
  rw [Int.mul_comm] at ey3
  refine ⟨fun _ => ⟨by rw [ey3]; exact i5, hr0⟩, fun _ => ⟨by rw [ey3]; exact i5, hr0⟩, fun y4 ey4 => ?_⟩
  have : y4 = z := by rw [ey4, ez, ey, ey3]
  rw [this]
  exact hK _ hu ((w1.tr hkq).tr u1)
