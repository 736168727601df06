/-! BARREL -/
theorem m_workQ {hp : qb_H} {n : Nat} (hB : qb_iB hp n) {Q : Int} (h0 : 0 ≤ Q) (h1 : Q < 4) {K : qb_H → Prop} (hK : ∀ hq : qb_H, kS hp hq → mw_post (qb_gq hp Q) n hp hq → K hq) : c_m_workQuay Q hp K :=
  mw_ok (iB_mg hB h0 h1) (fun hq hpost => hK hq (mi_kS hpost.1) hpost)
theorem m_workN {hp hq : qb_H} {n : Nat} (hB : qb_iB hp n) {Q : Int} (hk : kS hp hq) (hpost : mw_post (qb_gq hp Q) n hp hq) : g_m_barrelsNow hq ∧ v_m_barrelsNow hq = bN hp n Q := by
  have hBq := iB_kS hB hk
  have e67 : hq 67 1 = hp 10 1 := by
    rw [hBq.2.2.2.2 1 (by decide) (by decide)]
    exact congrFun (kS_c hk 10 (by decide) (by decide) (by decide) (by decide) (by decide)) 1
  have hr1 := hB.1.2.2.2.2.2.2.2.2.1
  have hT0 := (sc_R0 (qb_gq hp Q) n).2
  unfold g_m_barrelsNow v_m_barrelsNow bN
  rw [e67, hpost.2.1]
  exact ⟨⟨hT0, by omega⟩, rfl⟩
def bo (hp : qb_H) (Q d m l p what : Int) : Int := if what = 0 then d else if what = 1 then m else if what = 2 then hp 67 1 / hp 67 2 else if what = 3 then v_salt Q 3 d hp else if what = 4 then v_salt Q 2 d hp else if what = 5 then l else p
theorem bo_kS {hp hq : qb_H} (hk : kS hp hq) (Q d m l p what : Int) : bo hq Q d m l p what = bo hp Q d m l p what := by
  unfold bo v_salt v_sfind
  rw [hk.1 67 (by decide) (by decide) (by decide) (by decide), hk.1 69 (by decide) (by decide) (by decide) (by decide), hk.2.1 11 (by decide)]
theorem q_ofCask_ok {hx : qb_H} {n : Nat} (hB : qb_iB hx n) (hS : qb_iS hx) {Q d m l p what : Int} (e0 : hx 25 0 = Q) (e1 : hx 25 2 = d) (e2 : hx 25 3 = m) (e3 : hx 25 4 = l) (e4 : hx 25 5 = p) {K : Int → qb_H → Prop} (hK : K (bo hx Q d m l p what) hx) : c_q_ofCask what hx K := by
  unfold bo at hK
  refine b_q_ofCask ⟨fun c => ?_, fun c0 => ⟨fun c => ?_, fun c1 => ⟨fun c => ?_, fun c2 => ⟨fun c => ?_, fun c3 => ⟨fun c => ?_, fun c4 => ⟨fun c => ?_, fun c5 => ?_⟩⟩⟩⟩⟩⟩
  · rw [if_pos c] at hK; rw [e1]; exact hK
  · rw [if_neg c0, if_pos c] at hK; rw [e2]; exact hK
  · rw [if_neg c0, if_neg c1, if_pos c] at hK
    have hr := hB.1.2.2.2.2.2.2.2
    unfold g_q_tiers v_q_tiers
    rw [hB.2.2.2.2 1 (by decide) (by decide), hB.2.2.2.2 2 (by decide) (by decide)] at hK
    exact ⟨⟨by omega, by omega⟩, hK⟩
  · rw [if_neg c0, if_neg c1, if_neg c2, if_pos c] at hK
    rw [e0, e1]; exact s_sa_muchAt _ _ _ _ hS hK
  · rw [if_neg c0, if_neg c1, if_neg c2, if_neg c3, if_pos c] at hK
    rw [e0, e1]; exact s_sa_lotAt _ _ _ _ hS hK
  · rw [if_neg c0, if_neg c1, if_neg c2, if_neg c3, if_neg c4, if_pos c] at hK; rw [e3]; exact hK
  · rw [if_neg c0, if_neg c1, if_neg c2, if_neg c3, if_neg c4, if_neg c5] at hK; rw [e4]; exact hK
theorem m_ofb {hq : qb_H} {n : Nat} (hB : qb_iB hq n) (hS : qb_iS hq) {Q what : Int} (hw : 0 ≤ what ∧ what ≤ 6) {K : Int → qb_H → Prop} (hK : K (bo hq Q (hq 60 29) (hq 60 30) (hq 60 31) (hq 60 32) what) hq) :
    (what = 0 → K (hq 60 29) hq) ∧ (¬ what = 0 → (what = 1 → K (hq 60 30) hq) ∧ (¬ what = 1 → (what = 2 → (0 ≤ (hq 67 1)) ∧ (0 < (hq 67 2)) ∧ K ((hq 67 1) / (hq 67 2)) hq) ∧ (¬ what = 2 → (what = 3 → c_m_saltOf Q 3 hq (fun v hr => K v hr)) ∧ (¬ what = 3 → (what = 4 → c_m_saltOf Q 2 hq (fun v hr => K v hr)) ∧ (¬ what = 4 → (what = 5 → K (hq 60 31) hq) ∧ (¬ what = 5 → (what = 6 → K (hq 60 32) hq) ∧ (¬ what = 6 → K (-2) hq))))))) := by
  unfold bo at hK
  have hs := hS.2.1
  refine ⟨fun c => ?_, fun c0 => ⟨fun c => ?_, fun c1 => ⟨fun c => ?_, fun c2 => ⟨fun c => ?_, fun c3 => ⟨fun c => ?_, fun c4 => ⟨fun c => ?_, fun c5 => ⟨fun c => ?_, fun c6 => absurd hw (by omega)⟩⟩⟩⟩⟩⟩⟩
  · rw [if_pos c] at hK; exact hK
  · rw [if_neg c0, if_pos c] at hK; exact hK
  · rw [if_neg c0, if_neg c1, if_pos c] at hK
    have hr := hB.1.2.2.2.2.2.2.2
    have h1 := hB.2.2.2.2 1 (by decide) (by decide)
    have h2 := hB.2.2.2.2 2 (by decide) (by decide)
    exact ⟨by omega, by omega, hK⟩
  · rw [if_neg c0, if_neg c1, if_neg c2, if_pos c] at hK
    exact s_m_saltOf Q 3 hq _ ⟨hs, by decide⟩ hK
  · rw [if_neg c0, if_neg c1, if_neg c2, if_neg c3, if_pos c] at hK
    exact s_m_saltOf Q 2 hq _ ⟨hs, by decide⟩ hK
  · rw [if_neg c0, if_neg c1, if_neg c2, if_neg c3, if_neg c4, if_pos c] at hK; exact hK
  · rw [if_neg c0, if_neg c1, if_neg c2, if_neg c3, if_neg c4, if_neg c5] at hK; exact hK
theorem m_ofb2 {hq : qb_H} {Q what : Int} (hw : ¬ (0 ≤ what ∧ what ≤ 6)) {K : Int → qb_H → Prop} (hK : K (-2) hq) :
    (what = 0 → K (hq 60 29) hq) ∧ (¬ what = 0 → (what = 1 → K (hq 60 30) hq) ∧ (¬ what = 1 → (what = 2 → (0 ≤ (hq 67 1)) ∧ (0 < (hq 67 2)) ∧ K ((hq 67 1) / (hq 67 2)) hq) ∧ (¬ what = 2 → (what = 3 → c_m_saltOf Q 3 hq (fun v hr => K v hr)) ∧ (¬ what = 3 → (what = 4 → c_m_saltOf Q 2 hq (fun v hr => K v hr)) ∧ (¬ what = 4 → (what = 5 → K (hq 60 31) hq) ∧ (¬ what = 5 → (what = 6 → K (hq 60 32) hq) ∧ (¬ what = 6 → K (-2) hq))))))) :=
  ⟨fun c => absurd hw (by omega), fun c0 => ⟨fun c => absurd hw (by omega), fun c1 => ⟨fun c => absurd hw (by omega), fun c2 => ⟨fun c => absurd hw (by omega), fun c3 => ⟨fun c => absurd hw (by omega), fun c4 => ⟨fun c => absurd hw (by omega), fun c5 => ⟨fun c => absurd hw (by omega), fun c6 => hK⟩⟩⟩⟩⟩⟩⟩
theorem v_in_c {x a b : Int} : (v_m_in x a b = 0 ∧ ¬ (a ≤ x ∧ x ≤ b)) ∨ (v_m_in x a b = 1 ∧ (a ≤ x ∧ x ≤ b)) := by
  by_cases c : a ≤ x ∧ x ≤ b
  · exact Or.inr ⟨v_m_in_1 c, c⟩
  · exact Or.inl ⟨v_m_in_0 (by omega), c⟩
theorem barrel_ok (Q i what : Int) {hp : qb_H} {n : Nat} (hB : qb_iB hp n) (hS : qb_iS hp) {K : Int → Int → qb_H → Prop} (hK : ∀ (v : Int) (hq : qb_H), kS hp hq → K v v hq) :
    c_q_barrel Q i what hp (fun v hp1 => c_m_barrel Q i what hp1 (fun w hp2 => K v w hp2)) := by
  refine b_q_barrel ⟨fun c => b_m_barrel ⟨fun _ => hK _ hp kS.rf, fun c2 => absurd c c2⟩, fun c => ?_⟩
  obtain ⟨h0, h1⟩ := q_isQ.1 c
  refine wk_ok hB (fun hw w1 w2 w3 => ?_)
  have hBw := iB_kS hB w1
  have hN := bN_in hBw h0 h1
  have hTw := (w2 Q h0 h1).1
  have eN : v_q_barrelsAt Q hw = bN hw n Q := by
    unfold v_q_barrelsAt bN; rw [hTw]
  have hr1 := hBw.1.2.2.2.2.2.2.2.2.1
  refine ⟨⟨⟨h0, h1⟩, by rw [hTw]; exact (sc_R0 (qb_gq hw Q) n).2, by omega⟩, fun y ey => ?_⟩
  rw [eN] at ey
  subst ey
  refine ⟨by unfold qb_in; omega, fun ci => ?_, fun ci => ⟨fun cw => ?_, fun cw => ⟨fun e1 => ?_, fun e1 => ?_⟩⟩⟩
  · have hout : ¬ (-1 ≤ i ∧ i ≤ bN hw n Q - 1) := fun z => by
      have : v_q_within i (-1) (bN hw n Q - 1) = 1 := v_m_in_1 z
      rw [this] at ci; exact absurd ci (by decide)
    exact b_m_barrel ⟨fun c2 => absurd c2 c, fun _ => ⟨fun e => absurd e (by omega), fun _ => s_m_takes hBw h0 h1 (fun _ hq st => ⟨fun _ => hK _ hq (w1.tr st.1), fun z => absurd rfl z⟩) (fun z => absurd z (by omega))⟩⟩
  · have hin : -1 ≤ i ∧ i ≤ bN hw n Q - 1 := by
      rcases v_in_c (x := i) (a := -1) (b := bN hw n Q - 1) with z | z
      · exact absurd z.1 ci
      · exact z.2
    have hwo : ¬ (0 ≤ what ∧ what ≤ 6) := fun z => by
      have : v_q_within what 0 6 = 1 := v_m_in_1 z
      rw [this] at cw; exact absurd cw (by decide)
    have cw2 : v_m_in what 0 6 = 0 := cw
    refine b_m_barrel ⟨fun c2 => absurd c2 c, fun _ => ⟨fun e => ?_, fun e => ?_⟩⟩
    · refine m_workQ hBw h0 h1 (fun hq k1 k2 => ⟨fun z => absurd cw2 z, fun y ey => ?_⟩)
      rw [if_pos cw2] at ey
      subst ey
      exact hK _ hq (w1.tr k1)
    · refine s_m_takes hBw h0 h1 (fun z => absurd z (by omega)) (fun _ hq st _ => ⟨fun z => absurd z (by decide), fun _ => m_ofb2 hwo (hK _ hq (w1.tr st.1))⟩)
  · refine b_m_barrel ⟨fun c2 => absurd c2 c, fun _ => ⟨fun e => ?_, fun e => absurd e1 e⟩⟩
    refine m_workQ hBw h0 h1 (fun hq k1 k2 => ?_)
    obtain ⟨g1, g2⟩ := m_workN hBw k1 k2
    refine ⟨fun _ => g1, fun y ey => ?_⟩
    rw [if_neg (show ¬ v_m_in what 0 6 = 0 from cw), g2] at ey
    subst ey
    exact hK _ hq (w1.tr k1)
  · have hin : -1 ≤ i ∧ i ≤ bN hw n Q - 1 := by
      rcases v_in_c (x := i) (a := -1) (b := bN hw n Q - 1) with z | z
      · exact absurd z.1 ci
      · exact z.2
    have hwi : 0 ≤ what ∧ what ≤ 6 := by
      rcases v_in_c (x := what) (a := 0) (b := 6) with z | z
      · exact absurd z.1 cw
      · exact z.2
    refine s_q_measureOne hBw h0 h1 (w2 Q h0 h1) (by omega) (by omega) (fun hx x1 x2 x3 => ?_)
    have hkx : kS hw hx := kS_one (b := 25) (by decide) x1
    have hBx := iB_kS hBw hkx
    refine q_ofCask_ok hBx (iS_kS (iS_kS hS w1) hkx) x2 rfl rfl rfl rfl ?_
    have ebx : bN hx n Q = bN hw n Q := by
      unfold bN
      rw [kS_gq hkx, kS_c hkx 10 (by decide) (by decide) (by decide) (by decide) (by decide)]
    refine b_m_barrel ⟨fun c2 => absurd c2 c, fun _ => ⟨fun e => absurd e e1, fun e => ?_⟩⟩
    refine s_m_takes hBx h0 h1 (fun z => absurd z (by rw [ebx]; omega)) (fun _ hq st e => ⟨fun z => absurd z (by decide), fun _ => ?_⟩)
    have hkall := (w1.tr hkx).tr st.1
    refine m_ofb (iB_kS hBx st.1) (iS_kS hS hkall) hwi ?_
    have ebq : bq hx n Q i = bq hw n Q i := bq_kS hkx n Q i
    rw [ebq, ← x3] at e
    have e29 : hq 60 29 = hx 25 2 := congrArg (·.1) e
    have e30 : hq 60 30 = hx 25 3 := congrArg (·.2.1) e
    have e31 : hq 60 31 = hx 25 4 := congrArg (·.2.2.1) e
    have e32 : hq 60 32 = hx 25 5 := congrArg (·.2.2.2) e
    rw [bo_kS st.1, e29, e30, e31, e32]
    exact hK _ hq hkall
