/-! LANDING; what is spoilt and how many barrels there are in all -/
theorem landing_ok (i what : Int) {hp : qb_H} {n : Nat} (hB : qb_iB hp n) {K : Int → Int → qb_H → Prop} (hK : ∀ (v : Int) (hq : qb_H), kS hp hq → K v v hq) :
    c_q_landing i what hp (fun v hp1 => c_m_landing i what hp1 (fun w hp2 => K v w hp2)) := by
  have hn := hB.1.1
  have hn9 := hB.2.1
  have hn30 := hB.1.2.1
  have hv : v_q_isLanding i hp = v_m_in i 0 ((hp 60 9) - 1) := by
    rw [hn9, ← hn]; rfl
  refine b_q_landing ⟨by unfold g_q_isLanding; unfold qb_in; omega, fun c => ?_, fun c => ?_⟩
  · rw [hv] at c
    exact b_m_landing ⟨by unfold qb_in; omega, fun _ => hK _ hp kS.rf, fun c2 => absurd c c2⟩
  rw [hv] at c
  have hi : 0 ≤ i ∧ i < n := by
    rcases v_in_c (x := i) (a := 0) (b := (hp 60 9) - 1) with z | z
    · exact absurd z.1 c
    · omega
  have hwn : ∀ hq : qb_H, ¬ (v_m_in what 0 6) = 0 ∨ ¬ (0 ≤ what ∧ what ≤ 6) := fun _ => by
    rcases v_in_c (x := what) (a := 0) (b := 6) with z | z
    · exact Or.inr z.2
    · exact Or.inl (by rw [z.1]; decide)
  obtain ⟨f0, f1, f2, f3, f4⟩ := hB.2.2.1 i hi.1 hi.2
  have hli := hB.1.2.2.2.1 i hi.1 hi.2
  have hm : ∀ (V : Int) (hq : qb_H), kS hp hq → (0 ≤ what ∧ what ≤ 6) →
      (what ≤ 4 → V = hp 68 (7 * i + what)) → (¬ what ≤ 4 → ¬ 0 ≤ hp 13 i → V = (if what = 5 then 0 else -6)) →
      (¬ what ≤ 4 → 0 ≤ hp 13 i → ∀ hr : qb_H, mw_post (qb_gq hp (hp 13 i)) n hq hr → V = hr 68 (7 * i + what)) → c_m_landing i what hq (fun w hp2 => K V w hp2) := by
    intro V hq hk hw m1 m2 m3
    have hBq := iB_kS hB hk
    have e9 : hq 60 9 = hp 60 9 := hk.2.1 9 (by decide)
    have ew : ¬ v_m_in what 0 6 = 0 := by rw [v_m_in_1 hw]; decide
    refine b_m_landing ⟨by rw [e9]; unfold qb_in; omega, fun c2 => absurd c2 (by rw [e9]; exact c), fun _ => ⟨fun c2 => absurd c2 ew, fun _ => ⟨by unfold qb_in; omega, by unfold qb_in; omega, by omega, fun y ey => ?_⟩⟩⟩
    have e13 : hq 13 = hp 13 := kS_c hk 13 (by decide) (by decide) (by decide) (by decide) (by decide)
    have ey2 : y = hp 13 i := by rw [ey, (hBq.2.2.1 i hi.1 hi.2).2.1, e13]
    have hwork : ¬ what ≤ 4 → 0 ≤ y → c_m_workQuay y hq (fun hp330 => (qb_in ((7 * i) + what)) ∧ (0 ≤ ((7 * i) + what) ∧ ((7 * i) + what) < 210) ∧ K V (hp330 68 ((7 * i) + what)) hp330) := by
      intro d1 d2
      rw [ey2] at d2 ⊢
      refine m_workQ hBq d2 (by omega) (fun hr k1 k2 => ⟨by unfold qb_in; omega, by omega, ?_⟩)
      rw [kS_gq hk] at k2
      rw [← m3 d1 d2 hr k2]
      exact hK V hr (hk.tr k1)
    refine ⟨fun d => ⟨fun d1 => ⟨by unfold qb_in; omega, by omega, ?_⟩, fun d1 => absurd d d1⟩, fun d => ⟨fun d2 => ⟨fun d1 => absurd d1 d, fun d1 => hwork d1 d2⟩, fun d2 z ez => ?_⟩⟩
    · rw [hk.2.2.1 i what hw.1 (by omega), ← m1 d]
      exact hK V hq hk
    · have : z = V := by rw [ez, m2 d (by rw [← ey2]; exact d2)]
      rw [this]; exact hK V hq hk
  have hm0 : ∀ (V : Int), (0 ≤ what ∧ what ≤ 4) → V = hp 68 (7 * i + what) → c_m_landing i what hp (fun w hp2 => K V w hp2) := fun V h1 h2 => hm V hp kS.rf (by omega) (fun _ => h2) (fun h => absurd h1.2 h) (fun h => absurd h1.2 h)
  refine ⟨fun d0 => ⟨by omega, hm0 _ (by omega) (by rw [d0, Int.add_zero, f0])⟩, fun d0 => ⟨fun d1 => ⟨by omega, hm0 _ (by omega) (by rw [d1, f1])⟩, fun d1 => ⟨fun d2 => ⟨by omega, hm0 _ (by omega) (by rw [d2, f2])⟩, fun d2 => ⟨fun d3 => ⟨by omega, hm0 _ (by omega) (by rw [d3, f3])⟩, fun d3 => ⟨fun d4 => ⟨by omega, hm0 _ (by omega) (by rw [d4, f4])⟩, fun d4 => ⟨fun d5 => ?_, fun d5 => ⟨fun d6 => ?_, fun d6 => ?_⟩⟩⟩⟩⟩⟩⟩
  · refine wk_ok hB (fun hw w1 w2 w3 => ?_)
    have hBw := iB_kS hB w1
    have e13 : hw 13 = hp 13 := kS_c w1 13 (by decide) (by decide) (by decide) (by decide) (by decide)
    have e15 : hw 15 = hp 15 := kS_c w1 15 (by decide) (by decide) (by decide) (by decide) (by decide)
    have e17 : hw 17 = hp 17 := kS_c w1 17 (by decide) (by decide) (by decide) (by decide) (by decide)
    have e14 : hw 14 = hp 14 := kS_c w1 14 (by decide) (by decide) (by decide) (by decide) (by decide)
    obtain ⟨p, p1, p2⟩ := qb_onto hB.1.2.2.2.2.2.1 i hi.1 hi.2
    have hat : 0 ≤ hp 13 i → hw 19 i = sc_W (qb_gq hp (hp 13 i)) p ∧ 0 ≤ sc_W (qb_gq hp (hp 13 i)) p ∧ sc_W (qb_gq hp (hp 13 i)) p ≤ hp 15 i := by
      intro z
      have hk := qb_sok hB.1 z (by omega)
      have a := ((w2 (hp 13 i) z (by omega)).2 p p1 (by rw [e17, p2, e13])).2.1
      rw [e17, p2, kS_gq w1] at a
      have b : sc_W (qb_gq hp (hp 13 i)) p ≤ hp 15 (hp 17 p) := sc_Wf hk p1
      rw [p2] at b
      exact ⟨a, sc_W0 _ _, b⟩
    unfold g_la_spoiltOf v_la_spoiltOf
    rw [e13, e15]
    refine ⟨⟨by omega, fun z => by have := hat (by omega); unfold qb_in; omega⟩, hm _ hw w1 (by omega) (fun z => absurd z (by omega)) (fun _ z => ?_) (fun _ z hr hpost => ?_)⟩
    · rw [if_pos d5, if_pos (by omega)]
    · rw [if_neg (by omega), d5]
      have := (hpost.2.2.1 p p1 (by show decide (hp 13 (hp 17 p) = hp 13 i) = true; rw [p2]; exact decide_eq_true rfl)).1
      have e : sc_o (qb_gq hp (hp 13 i)) p = i := p2
      rw [e] at this
      rw [this, (hat z).1]
      rfl
  · refine wk_ok hB (fun hw w1 w2 w3 => ?_)
    have hBw := iB_kS hB w1
    have e13 : hw 13 = hp 13 := kS_c w1 13 (by decide) (by decide) (by decide) (by decide) (by decide)
    have e17 : hw 17 = hp 17 := kS_c w1 17 (by decide) (by decide) (by decide) (by decide) (by decide)
    have e21 : hw 21 = hp 21 := kS_c w1 21 (by decide) (by decide) (by decide) (by decide) (by decide)
    have e22 : hw 22 = hp 22 := kS_c w1 22 (by decide) (by decide) (by decide) (by decide) (by decide)
    obtain ⟨p, p1, p2⟩ := qb_onto hB.1.2.2.2.2.2.1 i hi.1 hi.2
    have hat : 0 ≤ hp 13 i → hw 19 i = sc_W (qb_gq hp (hp 13 i)) p ∧ hw 18 i = sc_S (qb_gq hp (hp 13 i)) p ∧ 0 ≤ sc_W (qb_gq hp (hp 13 i)) p ∧ sc_W (qb_gq hp (hp 13 i)) p ≤ 20000 ∧ 0 ≤ sc_S (qb_gq hp (hp 13 i)) p ∧ sc_S (qb_gq hp (hp 13 i)) p ≤ 2072 * (hp 21 (hp 13 i) * hp 22 (hp 13 i)) := by
      intro z
      have hk := qb_sok hB.1 z (by omega)
      have a := ((w2 (hp 13 i) z (by omega)).2 p p1 (by rw [e17, p2, e13]))
      rw [e17, p2, kS_gq w1] at a
      have b : sc_W (qb_gq hp (hp 13 i)) p ≤ hp 15 (hp 17 p) := sc_Wf hk p1
      rw [p2] at b
      have cS := sc_Sb hk p1
      exact ⟨a.2.1, a.1, sc_W0 _ _, by omega, cS.1, cS.2⟩
    have hpa : 0 ≤ hp 13 i → 1 ≤ hp 21 (hp 13 i) * hp 22 (hp 13 i) ∧ hp 21 (hp 13 i) * hp 22 (hp 13 i) ≤ 18000 := fun z => qb_pace hB.1 z (by omega)
    unfold g_la_lastHourOf v_la_lastHourOf g_la_paceAt v_la_paceAt
    rw [e13, e21, e22]
    refine ⟨⟨by omega, fun z z2 => ?_⟩, hm _ hw w1 (by omega) (fun z => absurd z (by omega)) (fun _ z => ?_) (fun _ z hr hpost => ?_)⟩
    · have a := hat (by omega)
      have b := hpa (by omega)
      rw [a.1, a.2.1] at *
      exact ⟨by unfold qb_in; omega, by unfold qb_in; omega, ⟨⟨by omega, by omega⟩, by unfold qb_in; omega⟩, by omega, by omega⟩
    · rw [if_neg d5, if_pos (by omega)]
    · rw [if_neg (by omega), d6]
      have := (hpost.2.2.1 p p1 (by show decide (hp 13 (hp 17 p) = hp 13 i) = true; rw [p2]; exact decide_eq_true rfl)).2
      have e : sc_o (qb_gq hp (hp 13 i)) p = i := p2
      rw [e] at this
      rw [this, (hat z).1, (hat z).2.1]
      rfl
  · have hno : ¬ (0 ≤ what ∧ what ≤ 6) := by omega
    exact b_m_landing ⟨by unfold qb_in; omega, fun c2 => absurd c2 c, fun _ => ⟨fun _ => hK _ hp kS.rf, fun c2 => absurd (v_m_in_0 (by omega)) c2⟩⟩
def sp4 (hp : qb_H) (n m : Nat) : Int := qb_sum (fun Q => sc_sp (qb_gq hp Q) n) m
def bn4 (hp : qb_H) (n m : Nat) : Int := qb_sum (bN hp n) m
theorem sp4_in {hp : qb_H} {n : Nat} (hB : qb_iB hp n) (m : Nat) (hm : m ≤ 4) : 0 ≤ sp4 hp n m ∧ sp4 hp n m ≤ 600000 * m := by
  have hn30 := hB.1.2.1
  have := qb_sum_in (f := fun Q => sc_sp (qb_gq hp Q) n) (lo := 0) (hi := 600000) m (fun k hk => by
    have := sc_sp_in hB.1 (Q := (k : Int)) (by omega) (by omega)
    omega)
  unfold sp4; omega
theorem bn4_in {hp : qb_H} {n : Nat} (hB : qb_iB hp n) (m : Nat) (hm : m ≤ 4) : 0 ≤ bn4 hp n m ∧ bn4 hp n m ≤ 6000 * m := by
  have := qb_sum_in (f := bN hp n) (lo := 0) (hi := 6000) m (fun k hk => by
    have := bN_in hB (Q := (k : Int)) (by omega) (by omega)
    omega)
  unfold bn4; omega
theorem s_q_spoiltOfAll {hp : qb_H} {n : Nat} (hB : qb_iB hp n) {K : Int → qb_H → Prop} (hK : ∀ hq : qb_H, kS hp hq → K (sp4 hp n 4) hq) : c_q_spoiltOfAll hp K := by
  refine b_q_spoiltOfAll (wk_ok hB (fun hw w1 w2 w3 => ?_))
  have hBw := iB_kS hB w1
  have e4 : ∀ m : Nat, sp4 hw n m = sp4 hp n m := fun m => by unfold sp4; rw [gq_kS2 w1]
  refine qb_up 4 (fun q x => r_q_spoiltOfAll_8 (sp4 hw n q) x hw K) ?_ ?_
  · exact b_q_spoiltOfAll_8 ⟨fun _ => by rw [e4]; exact hK hw w1, fun c => absurd (by decide) c⟩
  · intro q hq ih
    have i1 := sp4_in hBw q (by omega)
    have i2 := sp4_in hBw (q + 1) (by omega)
    have e : sp4 hw n (q + 1) = sp4 hw n q + sc_sp (qb_gq hw q) n := rfl
    refine b_q_spoiltOfAll_8 ⟨fun c => absurd c (by omega), fun _ => s_la_spoilt hBw (Q := (q : Int)) (by omega) (by omega) (w2 q (by omega) (by omega)) ?_⟩
    rw [← e]
    exact ⟨by unfold qb_in; omega, by unfold qb_in; omega, ih⟩
theorem s_q_barrelsOfAll {hp : qb_H} {n : Nat} (hB : qb_iB hp n) {K : Int → qb_H → Prop} (hK : ∀ hq : qb_H, kS hp hq → K (bn4 hp n 4) hq) : c_q_barrelsOfAll hp K := by
  refine b_q_barrelsOfAll (wk_ok hB (fun hw w1 w2 w3 => ?_))
  have hBw := iB_kS hB w1
  have hr := hBw.1.2.2.2.2.2.2.2.2
  have e4 : ∀ m : Nat, bn4 hw n m = bn4 hp n m := fun m => by
    unfold bn4
    rw [show bN hw n = bN hp n from funext (bN_kS w1 n)]
  refine qb_up 4 (fun q x => r_q_barrelsOfAll_8 (bn4 hw n q) x hw K) ?_ ?_
  · exact b_q_barrelsOfAll_8 ⟨fun _ => by rw [e4]; exact hK hw w1, fun c => absurd (by decide) c⟩
  · intro q hq ih
    have i1 := bn4_in hBw q (by omega)
    have i2 := bn4_in hBw (q + 1) (by omega)
    have e : bn4 hw n (q + 1) = bn4 hw n q + bN hw n q := rfl
    have hTw := (w2 q (by omega) (by omega)).1
    have eN : v_q_barrelsAt q hw = bN hw n q := by
      unfold v_q_barrelsAt bN; rw [hTw]
    refine b_q_barrelsOfAll_8 ⟨fun c => absurd c (by omega), fun _ => ⟨⟨by omega, by rw [hTw]; exact (sc_R0 (qb_gq hw q) n).2, by omega⟩, ?_⟩⟩
    rw [eN, ← e]
    refine ⟨by unfold qb_in; omega, fun y ey => ⟨by unfold qb_in; omega, ?_⟩⟩
    rw [ey]; exact ih
theorem s_m_allSpoilt {hp : qb_H} {n : Nat} (hB : qb_iB hp n) {K : Int → qb_H → Prop} (hK : ∀ hq : qb_H, mi_fr hp hq → K (sp4 hp n 4) hq) : c_m_allSpoilt hp K := by
  have key : ∀ hq : qb_H, mi_fr hp hq → r_m_allSpoilt_4 (sp4 hp n 0) 0 hq K := by
    refine qb_up 4 (fun q x => ∀ hq : qb_H, mi_fr hp hq → r_m_allSpoilt_4 (sp4 hp n q) x hq K) ?_ ?_
    · exact fun hq h => b_m_allSpoilt_4 ⟨fun _ => hK hq h, fun c => absurd (by decide) c⟩
    · intro q hq4 ih hq h
      have hk := mi_kS h
      have hBq := iB_kS hB hk
      have i1 := sp4_in hB q (by omega)
      have i2 := sp4_in hB (q + 1) (by omega)
      have e : sp4 hp n (q + 1) = sp4 hp n q + sc_sp (qb_gq hp q) n := rfl
      refine b_m_allSpoilt_4 ⟨fun c => absurd c (by omega), fun _ => m_workQ hBq (Q := (q : Int)) (by omega) (by omega) (fun hr k1 k2 => ?_)⟩
      have := mw_sp (g := qb_gq hq q) hBq.1.2.2.2.2.2.1 k2
      rw [this, kS_gq hk, ← e]
      refine ⟨by unfold qb_in; omega, fun y ey => ⟨by unfold qb_in; omega, ?_⟩⟩
      rw [ey]; exact ih hr (h.tr k2.1)
  exact b_m_allSpoilt (key hp mi_fr.rf)
theorem s_m_told9 {hp : qb_H} {n : Nat} (hB : qb_iB hp n) {K : Int → qb_H → Prop} (hK : ∀ hq : qb_H, kS hp hq → K (bn4 hp n 4) hq) : r_m_told_103 0 0 hp K := by
  have key : ∀ hq : qb_H, kS hp hq → r_m_told_103 (bn4 hp n 0) 0 hq K := by
    refine qb_up 4 (fun q x => ∀ hq : qb_H, kS hp hq → r_m_told_103 (bn4 hp n q) x hq K) ?_ ?_
    · exact fun hq h => b_m_told_103 ⟨fun _ => hK hq h, fun c => absurd (by decide) c⟩
    · intro q hq4 ih hq hk
      have hBq := iB_kS hB hk
      have i1 := bn4_in hB q (by omega)
      have i2 := bn4_in hB (q + 1) (by omega)
      have e : bn4 hp n (q + 1) = bn4 hp n q + bN hp n q := rfl
      refine b_m_told_103 ⟨fun c => absurd c (by omega), fun _ => m_workQ hBq (Q := (q : Int)) (by omega) (by omega) (fun hr k1 k2 => ?_)⟩
      obtain ⟨g1, g2⟩ := m_workN hBq k1 k2
      rw [g2, bN_kS hk, ← e]
      refine ⟨g1, by unfold qb_in; omega, fun y ey => ⟨by unfold qb_in; omega, ?_⟩⟩
      rw [ey]; exact ih hr (hk.tr k1)
  exact key hp kS.rf
theorem wait_eq {hp : qb_H} {n : Nat} (hB : qb_iB hp n) : v_la_waiting hp = v_m_waiting hp := by
  unfold v_la_waiting v_m_waiting
  rw [hB.1.1, hB.2.1, Int.toNat_natCast]
  refine qb_sum_cg n (fun k hk => ?_)
  have h1 := (hB.2.2.1 k (by omega) (by omega)).2.1
  have h2 := (hB.1.2.2.2.1 k (by omega) (by omega)).2.1
  show (if hp 13 k = -1 then (1 : Int) else 0) = (if hp 68 (7 * (k : Int) + 1) < 0 then 1 else 0)
  rw [h1]
  by_cases c : hp 13 k = -1
  · rw [if_pos c, if_pos (by omega)]
  · rw [if_neg c, if_neg (by omega)]
theorem told_ok (what : Int) {hp : qb_H} {n : Nat} (hB : qb_iB hp n) (e0 : hp 1 1 = hp 60 0) (e1 : hp 3 6 = hp 60 2) (e4 : hp 26 4 = hp 60 11) (e5 : hp 32 4 = hp 60 13) (e6 : hp 40 4 = hp 60 18) (e7 : hp 45 4 = hp 60 24) {K : Int → Int → qb_H → Prop} (hK : ∀ (v : Int) (hq : qb_H), kS hp hq → K v v hq) :
    c_q_told what hp (fun v hp1 => c_m_told what hp1 (fun w hp2 => K v w hp2)) := by
  have hn := hB.1.1
  have hn9 := hB.2.1
  have hn30 := hB.1.2.1
  refine b_q_told ⟨fun d0 => b_m_told ⟨fun _ => ?_, fun z => absurd d0 z⟩, fun d0 => ⟨fun d1 => b_m_told ⟨fun z => absurd z d0, fun _ => ⟨fun _ => ?_, fun z => absurd d1 z⟩⟩, fun d1 => ⟨fun d2 => b_m_told ⟨fun z => absurd z d0, fun _ => ⟨fun z => absurd z d1, fun _ => ⟨fun _ => ?_, fun z => absurd d2 z⟩⟩⟩, fun d2 => ⟨fun d3 => s_la_waiting hp _ ⟨by omega, by omega⟩ (b_m_told ⟨fun z => absurd z d0, fun _ => ⟨fun z => absurd z d1, fun _ => ⟨fun z => absurd z d2, fun _ => ⟨fun _ => s_m_waiting hp _ ⟨by omega, by omega⟩ ?_, fun z => absurd d3 z⟩⟩⟩⟩), fun d3 => ⟨fun d4 => b_m_told ⟨fun z => absurd z d0, fun _ => ⟨fun z => absurd z d1, fun _ => ⟨fun z => absurd z d2, fun _ => ⟨fun z => absurd z d3, fun _ => ⟨fun _ => ?_, fun z => absurd d4 z⟩⟩⟩⟩⟩, fun d4 => ⟨fun d5 => b_m_told ⟨fun z => absurd z d0, fun _ => ⟨fun z => absurd z d1, fun _ => ⟨fun z => absurd z d2, fun _ => ⟨fun z => absurd z d3, fun _ => ⟨fun z => absurd z d4, fun _ => ⟨fun _ => ?_, fun z => absurd d5 z⟩⟩⟩⟩⟩⟩, fun d5 => ⟨fun d6 => b_m_told ⟨fun z => absurd z d0, fun _ => ⟨fun z => absurd z d1, fun _ => ⟨fun z => absurd z d2, fun _ => ⟨fun z => absurd z d3, fun _ => ⟨fun z => absurd z d4, fun _ => ⟨fun z => absurd z d5, fun _ => ⟨fun _ => ?_, fun z => absurd d6 z⟩⟩⟩⟩⟩⟩⟩, fun d6 => ⟨fun d7 => b_m_told ⟨fun z => absurd z d0, fun _ => ⟨fun z => absurd z d1, fun _ => ⟨fun z => absurd z d2, fun _ => ⟨fun z => absurd z d3, fun _ => ⟨fun z => absurd z d4, fun _ => ⟨fun z => absurd z d5, fun _ => ⟨fun z => absurd z d6, fun _ => ⟨fun _ => ?_, fun z => absurd d7 z⟩⟩⟩⟩⟩⟩⟩⟩, fun d7 => ⟨fun d8 => ?_, fun d8 => ⟨fun d9 => ?_, fun d9 => ?_⟩⟩⟩⟩⟩⟩⟩⟩⟩⟩
  · rw [e0]; exact hK _ hp kS.rf
  · rw [e1]; exact hK _ hp kS.rf
  · rw [hn, hn9]; exact hK _ hp kS.rf
  · rw [wait_eq hB]; exact hK _ hp kS.rf
  · rw [e4]; exact hK _ hp kS.rf
  · rw [e5]; exact hK _ hp kS.rf
  · rw [e6]; exact hK _ hp kS.rf
  · rw [e7]; exact hK _ hp kS.rf
  · refine s_q_spoiltOfAll hB (fun hq hk => ?_)
    have hBq := iB_kS hB hk
    have e : sp4 hp n 4 = sp4 hq n 4 := by unfold sp4; rw [gq_kS2 hk]
    rw [e]
    exact b_m_told ⟨fun z => absurd z d0, fun _ => ⟨fun z => absurd z d1, fun _ => ⟨fun z => absurd z d2, fun _ => ⟨fun z => absurd z d3, fun _ => ⟨fun z => absurd z d4, fun _ => ⟨fun z => absurd z d5, fun _ => ⟨fun z => absurd z d6, fun _ => ⟨fun z => absurd z d7, fun _ => ⟨fun _ => s_m_allSpoilt hBq (fun hr h => hK _ hr (hk.tr (mi_kS h))), fun z => absurd d8 z⟩⟩⟩⟩⟩⟩⟩⟩⟩
  · refine s_q_barrelsOfAll hB (fun hq hk => ?_)
    have hBq := iB_kS hB hk
    have e : bn4 hp n 4 = bn4 hq n 4 := by
      unfold bn4
      rw [show bN hq n = bN hp n from funext (bN_kS hk n)]
    rw [e]
    exact b_m_told ⟨fun z => absurd z d0, fun _ => ⟨fun z => absurd z d1, fun _ => ⟨fun z => absurd z d2, fun _ => ⟨fun z => absurd z d3, fun _ => ⟨fun z => absurd z d4, fun _ => ⟨fun z => absurd z d5, fun _ => ⟨fun z => absurd z d6, fun _ => ⟨fun z => absurd z d7, fun _ => ⟨fun z => absurd z d8, fun _ => ⟨fun _ => s_m_told9 hBq (fun hr h => hK _ hr (hk.tr h)), fun z => absurd d9 z⟩⟩⟩⟩⟩⟩⟩⟩⟩⟩
  · exact b_m_told ⟨fun z => absurd z d0, fun _ => ⟨fun z => absurd z d1, fun _ => ⟨fun z => absurd z d2, fun _ => ⟨fun z => absurd z d3, fun _ => ⟨fun z => absurd z d4, fun _ => ⟨fun z => absurd z d5, fun _ => ⟨fun z => absurd z d6, fun _ => ⟨fun z => absurd z d7, fun _ => ⟨fun z => absurd z d8, fun _ => ⟨fun z => absurd z d9, fun _ => hK _ hp kS.rf⟩⟩⟩⟩⟩⟩⟩⟩⟩⟩
