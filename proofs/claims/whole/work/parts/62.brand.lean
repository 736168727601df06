/-! BRAND, BARREL -/
theorem m_now {hp hq : qb_H} {n : Nat} (hB : qb_iB hp n) {Q i : Int} (hst : tb_st hp n Q hq i) : g_m_barrelsNow hq ∧ v_m_barrelsNow hq = bN hp n Q := by
  have hBr := iB_kS hB hst.1
  have e67 : hq 67 1 = hp 10 1 := by
    rw [hBr.2.2.2.2 1 (by decide) (by decide)]
    exact congrFun (kS_c hst.1 10 (by decide) (by decide) (by decide) (by decide) (by decide)) 1
  have hr1 := hB.1.2.2.2.2.2.2.2.2.1
  have hT0 := (sc_R0 (qb_gq hp Q) n).2
  unfold g_m_barrelsNow v_m_barrelsNow bN
  rw [e67, hst.2.1]
  exact ⟨⟨hT0, by omega⟩, rfl⟩
theorem s_m_takes {hp : qb_H} {n : Nat} (hB : qb_iB hp n) {Q i : Int} (h0 : 0 ≤ Q) (h1 : Q < 4) {K : Int → qb_H → Prop}
    (hK0 : ¬ (0 ≤ i ∧ i < bN hp n Q) → ∀ hq : qb_H, tb_st hp n Q hq 0 → K 0 hq)
    (hK1 : (0 ≤ i ∧ i < bN hp n Q) → ∀ hq : qb_H, tb_st hp n Q hq (i + 1) → (hq 60 29, hq 60 30, hq 60 31, hq 60 32) = bq hp n Q i → K 1 hq) : c_m_takes Q i hp K := by
  have hN := bN_in hB h0 h1
  refine b_m_takes (s_m_begin hB h0 h1 (fun hr hst => ?_))
  obtain ⟨g1, g2⟩ := m_now hB hst
  rw [g2]
  refine ⟨g1, by unfold qb_in; omega, fun c => ?_, fun c => ?_⟩
  · refine hK0 (fun z => ?_) hr hst
    rw [v_m_in_1 (show 0 ≤ i ∧ i ≤ bN hp n Q - 1 by omega)] at c
    exact absurd c (by decide)
  · have hin : 0 ≤ i ∧ i < bN hp n Q := by
      apply Classical.byContradiction
      intro z
      exact c (v_m_in_0 (by omega))
    have key : ∀ (j : Nat) (x : Int) (hs : qb_H), 0 ≤ x → x + j = i + 1 → tb_st hp n Q hs x → (1 ≤ x → (hs 60 29, hs 60 30, hs 60 31, hs 60 32) = bq hp n Q (x - 1)) → r_m_takes_23 i x hs K := by
      intro j
      induction j with
      | zero =>
        intro x hs x0 x1 x2 x3
        refine b_m_takes_23 ⟨fun _ => ?_, fun c => absurd (by omega) c⟩
        have e : x = i + 1 := by omega
        rw [e] at x2 x3
        refine hK1 hin hs x2 ?_
        have := x3 (by omega)
        rw [show i + 1 - 1 = i by omega] at this
        exact this
      | succ j ih =>
        intro x hs x0 x1 x2 x3
        refine b_m_takes_23 ⟨fun c => absurd c (by omega), fun _ => s_m_takeBarrel hB h0 h1 x0 (by omega) x2 (fun hu u1 u2 => ⟨by unfold qb_in; omega, ih (x + 1) hu (by omega) (by omega) u1 (fun _ => ?_)⟩)⟩
        rw [show x + 1 - 1 = x by omega]
        exact u2
    exact key (i + 1).toNat 0 hr (Int.le_refl _) (by omega) hst (fun z => by omega)
theorem q_isQ {Q : Int} : (¬ v_q_isQuay Q = 0) ↔ (0 ≤ Q ∧ Q < 4) := by
  constructor
  · intro h
    apply Classical.byContradiction
    intro z
    exact h (v_m_in_0 (x := Q) (a := 0) (b := 3) (by omega))
  · intro h
    have : v_q_isQuay Q = 1 := v_m_in_1 (x := Q) (a := 0) (b := 3) (by omega)
    rw [this]; decide
theorem brand_ok (Q i day : Int) {hp : qb_H} {n : Nat} (hB : qb_iB hp n) (hA : qb_iA hp) (hS : qb_iS hp) {K : Int → Int → qb_H → Prop} (hK : ∀ (v : Int) (hq : qb_H), kS hp hq → K v v hq) :
    c_q_brand Q i day hp (fun v hp1 => c_m_brand Q i day hp1 (fun w hp2 => K v w hp2)) := by
  refine b_q_brand ⟨fun c => b_m_brand ⟨fun _ => hK _ hp kS.rf, fun c2 => absurd c c2⟩, fun c => ?_⟩
  obtain ⟨h0, h1⟩ := q_isQ.1 c
  refine wk_ok hB (fun hw w1 w2 w3 => ?_)
  have hBw := iB_kS hB w1
  have hN := bN_in hBw h0 h1
  have hTw := (w2 Q h0 h1).1
  have eN : v_q_barrelsAt Q hw = bN hw n Q := by
    unfold v_q_barrelsAt bN; rw [hTw]
  have hr1 := hBw.1.2.2.2.2.2.2.2.2.1
  rw [eN]
  refine ⟨⟨⟨h0, h1⟩, by rw [hTw]; exact (sc_R0 (qb_gq hw Q) n).2, by omega⟩, by unfold qb_in; omega, fun ci => ?_, fun ci => ?_⟩
  · have hout : ¬ (0 ≤ i ∧ i < bN hw n Q) := fun z => by
      have : v_q_within i 0 (bN hw n Q - 1) = 1 := v_m_in_1 (by omega)
      rw [this] at ci; exact absurd ci (by decide)
    exact b_m_brand ⟨fun c2 => absurd c2 c, fun _ => s_m_takes hBw h0 h1 (fun _ hq st => ⟨fun _ => hK _ hq (w1.tr st.1), fun z => absurd rfl z⟩) (fun z => absurd z hout)⟩
  · have hin : 0 ≤ i ∧ i < bN hw n Q := by
      apply Classical.byContradiction
      intro z
      exact ci (v_m_in_0 (x := i) (a := 0) (b := bN hw n Q - 1) (by omega))
    refine ⟨fun cd => ?_, fun cd => ?_⟩
    · exact b_m_brand ⟨fun c2 => absurd c2 c, fun _ => s_m_takes hBw h0 h1 (fun z => absurd hin z) (fun _ hq st _ => ⟨fun z => absurd z (by decide), fun _ => ⟨fun _ => hK _ hq (w1.tr st.1), fun z => absurd cd z⟩⟩)⟩
    · refine s_q_measureOne hBw h0 h1 (w2 Q h0 h1) hin.1 hin.2 (fun hx x1 x2 x3 => ?_)
      have hkx : kS hw hx := kS_one (b := 25) (by decide) x1
      have hBx := iB_kS hBw hkx
      refine s_q_brandOfCask day hx hBx (iA_kS (iA_kS hA w1) hkx) (iS_kS (iS_kS hS w1) hkx) _ (fun hy y1 => ?_)
      have hky : kS hx hy := kS_one (b := 31) (by decide) y1
      have hBy := iB_kS hBx hky
      have eby : bN hy n Q = bN hw n Q := by
        unfold bN
        rw [kS_gq (hkx.tr hky), kS_c (hkx.tr hky) 10 (by decide) (by decide) (by decide) (by decide) (by decide)]
      refine b_m_brand ⟨fun c2 => absurd c2 c, fun _ => s_m_takes hBy h0 h1 (fun z => absurd (by rw [eby]; exact hin) z) (fun _ hq st e => ⟨fun z => absurd z (by decide), fun _ => ⟨fun z => absurd z cd, fun _ => ?_⟩⟩)⟩
      have hkall := ((w1.tr hkx).tr hky).tr st.1
      refine s_m_brandOf Q day hq _ ⟨iA_kS hA hkall, ?_, ?_, ?_⟩ ?_
      · have := (iS_kS hS hkall).2.1
        exact ⟨this, by decide⟩
      · have hBq := iB_kS hB hkall
        rw [hBq.2.2.2.2 1 (by decide) (by decide)]
        have := hBq.1.2.2.2.2.2.2.2.2.1
        omega
      · have hBq := iB_kS hB hkall
        rw [hBq.2.2.2.2 2 (by decide) (by decide)]
        have := hBq.1.2.2.2.2.2.2.2.2.2.1
        omega
      · have ebq : bq hy n Q i = bq hw n Q i := bq_kS (hkx.tr hky) n Q i
        rw [ebq, ← x3] at e
        have e29 : hq 60 29 = hx 25 2 := congrArg (·.1) e
        have e30 : hq 60 30 = hx 25 3 := congrArg (·.2.1) e
        have e31 : hq 60 31 = hx 25 4 := congrArg (·.2.2.1) e
        rw [m_brand_is, e29, e30, e31, bb_kS (hky.tr st.1), x2]
        exact hK _ hq hkall
