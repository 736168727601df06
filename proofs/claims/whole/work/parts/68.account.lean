/-! ACCOUNT, LANDING: what is spoilt, costs of all -/
theorem cv_kS {hp hq : qb_H} (hk : kS hp hq) (b Q kn ag : Int) : ∀ p : Nat, cv hq b Q kn ag p = cv hp b Q kn ag p := by
  have hc := kS_c hk
  have e12 := hc 12 (by decide) (by decide) (by decide) (by decide) (by decide)
  have e13 := hc 13 (by decide) (by decide) (by decide) (by decide) (by decide)
  have e14 := hc 14 (by decide) (by decide) (by decide) (by decide) (by decide)
  have e15 := hc 15 (by decide) (by decide) (by decide) (by decide) (by decide)
  have e17 := hc 17 (by decide) (by decide) (by decide) (by decide) (by decide)
  have e10 := hc 10 (by decide) (by decide) (by decide) (by decide) (by decide)
  have e39 := hk.1 39 (by decide) (by decide) (by decide) (by decide)
  have ef : ∀ d : Int, v_m_freeAt d kn hq = v_m_freeAt d kn hp := by
    intro d
    unfold v_m_freeAt
    rw [hk.1 74 (by decide) (by decide) (by decide) (by decide), hk.1 75 (by decide) (by decide) (by decide) (by decide), hk.1 76 (by decide) (by decide) (by decide) (by decide), hk.2.1 18 (by decide)]
  intro p
  induction p with
  | zero => rfl
  | succ p ih => simp only [cv]; rw [ih, e12, e13, e14, e15, e17, e10, e39, ef]
/-- the costs of boat b -/
def co (hp : qb_H) (n : Nat) (Q kn b : Int) : Int := (cv hp b Q kn (v_bo_agreedAt b Q (hp 10 4) hp) n).2
def ca (hp : qb_H) (n : Nat) (Q kn : Int) (m : Nat) : Int := qb_sum (co hp n Q kn) m
theorem co_kS {hp hq : qb_H} (hk : kS hp hq) (n : Nat) (Q kn : Int) : co hq n Q kn = co hp n Q kn := by
  funext b
  unfold co
  rw [cv_kS hk]
  unfold v_bo_agreedAt
  rw [hk.1 37 (by decide) (by decide) (by decide) (by decide), hk.1 38 (by decide) (by decide) (by decide) (by decide), kS_c hk 10 (by decide) (by decide) (by decide) (by decide) (by decide)]
theorem co_in {hp : qb_H} {n : Nat} (hB : qb_iB hp n) (hE : qb_iE hp) (hF : qb_iF hp) {Q kn b : Int} (hb : 0 ≤ b ∧ b < 10) : 0 ≤ co hp n Q kn b ∧ co hp n Q kn b ≤ 2400000 := by
  obtain ⟨g1, g2⟩ := ag_in hB hE (Q := Q) hb
  have := (cv_in hB hE hF (Q := Q) (kn := kn) hb g2 n (Nat.le_refl n)).2
  have hn30 := hB.1.2.1
  unfold co
  omega
theorem ca_in {hp : qb_H} {n : Nat} (hB : qb_iB hp n) (hE : qb_iE hp) (hF : qb_iF hp) {Q kn : Int} (m : Nat) (hm : m ≤ 10) : 0 ≤ ca hp n Q kn m ∧ ca hp n Q kn m ≤ 2400000 * m := by
  have := qb_sum_in (f := co hp n Q kn) (lo := 0) (hi := 2400000) m (fun k hk => co_in hB hE hF (by omega))
  unfold ca
  omega
theorem s_q_costsAt {hp : qb_H} {n : Nat} (hB : qb_iB hp n) (hE : qb_iE hp) (hF : qb_iF hp) (Q kn : Int) {K : Int → qb_H → Prop} (hK : K (ca hp n Q kn 10) hp) : c_q_costsAt Q kn hp K := by
  refine b_q_costsAt (qb_up 10 (fun b x => r_q_costsAt_5 Q kn (ca hp n Q kn b) x hp K) ?_ ?_)
  · exact b_q_costsAt_5 ⟨fun _ => hK, fun c => absurd (by decide) c⟩
  · intro b hb ih
    have hbb : 0 ≤ (b : Int) ∧ (b : Int) < 10 := by omega
    obtain ⟨g1, g2⟩ := ag_in hB hE (Q := Q) hbb
    have i1 := ca_in hB hE hF (Q := Q) (kn := kn) b (by omega)
    have i2 := co_in hB hE hF (Q := Q) (kn := kn) hbb
    have e : (cv hp b Q kn (v_bo_agreedAt b Q (hp 10 4) hp) n).2 = co hp n Q kn b := rfl
    refine b_q_costsAt_5 ⟨fun c => absurd c (by omega), fun _ => ⟨g1, s_q_costOf hB hE hF hbb g2 ?_⟩⟩
    rw [e]
    exact ⟨by unfold qb_in; omega, by unfold qb_in; omega, ih⟩
theorem s_m_costsOf {hp : qb_H} {n : Nat} (hB : qb_iB hp n) (hE : qb_iE hp) (hF : qb_iF hp) (Q kn : Int) {K : Int → qb_H → Prop} (hK : ∀ hq : qb_H, kS hp hq → (∀ c : Nat, c ≠ 60 → hq c = hp c) → (∀ j : Int, j ≠ 42 → j ≠ 43 → j ≠ 44 → hq 60 j = hp 60 j) → K (ca hp n Q kn 10) hq) : c_m_costsOf Q kn hp K := by
  have key : ∀ hq : qb_H, kS hp hq → (∀ c : Nat, c ≠ 60 → hq c = hp c) → (∀ j : Int, j ≠ 42 → j ≠ 43 → j ≠ 44 → hq 60 j = hp 60 j) → r_m_costsOf_5 Q kn (ca hp n Q kn 0) 0 hq K := by
    refine qb_up 10 (fun b x => ∀ hq : qb_H, kS hp hq → (∀ c : Nat, c ≠ 60 → hq c = hp c) → (∀ j : Int, j ≠ 42 → j ≠ 43 → j ≠ 44 → hq 60 j = hp 60 j) → r_m_costsOf_5 Q kn (ca hp n Q kn b) x hq K) ?_ ?_
    · exact fun hq h1 h2 h3 => b_m_costsOf_5 ⟨fun _ => hK hq h1 h2 h3, fun c => absurd (by decide) c⟩
    · intro b hb ih hq h1 h2 h3
      have hbb : 0 ≤ (b : Int) ∧ (b : Int) < 10 := by omega
      have i1 := ca_in hB hE hF (Q := Q) (kn := kn) b (by omega)
      have i2 := co_in hB hE hF (Q := Q) (kn := kn) hbb
      refine b_m_costsOf_5 ⟨fun c => absurd c (by omega), fun _ => s_m_layCost (iB_kS hB h1) (iE_kS hE h1) (iF_kS hF h1) hbb (fun hr hl => ?_)⟩
      have hkr := ly_kS hl
      have e : hr 60 42 = co hp n Q kn b := by rw [hl.2.2.1, ← co_kS h1]; rfl
      rw [e]
      exact ⟨by unfold qb_in; omega, by unfold qb_in; omega, ih hr (h1.tr hkr) (fun c hc => (hl.1 c hc).trans (h2 c hc)) (fun j j1 j2 j3 => (hl.2.1 j j1 j2 j3).trans (h3 j j1 j2 j3))⟩
  exact b_m_costsOf (key hp kS.rf (fun _ _ => rfl) (fun _ _ _ _ => rfl))
theorem sc_sp_in {hp : qb_H} {n : Nat} (hL : qb_iL hp n) {Q : Int} (h0 : 0 ≤ Q) (h1 : Q < 4) : 0 ≤ sc_sp (qb_gq hp Q) n ∧ sc_sp (qb_gq hp Q) n ≤ 20000 * n := by
  have hk := qb_sok hL h0 h1
  have := qb_sum_in (f := fun p => if sc_a (qb_gq hp Q) (sc_o (qb_gq hp Q) p) = true then sc_f (qb_gq hp Q) (sc_o (qb_gq hp Q) p) - sc_W (qb_gq hp Q) p.toNat else 0) (lo := 0) (hi := 20000) n (fun p hpn => by
    have h1 := hk.1 p hpn
    have h2 := (hk.2.1 _ h1.1 h1.2).2
    have h3 := sc_Wf hk hpn
    have h4 := sc_W0 (qb_gq hp Q) p
    show 0 ≤ (if sc_a (qb_gq hp Q) (sc_o (qb_gq hp Q) p) = true then sc_f (qb_gq hp Q) (sc_o (qb_gq hp Q) p) - sc_W (qb_gq hp Q) (p : Int).toNat else 0) ∧ (if sc_a (qb_gq hp Q) (sc_o (qb_gq hp Q) p) = true then sc_f (qb_gq hp Q) (sc_o (qb_gq hp Q) p) - sc_W (qb_gq hp Q) (p : Int).toNat else 0) ≤ 20000
    rw [Int.toNat_natCast]
    split <;> omega)
  unfold sc_sp
  omega
theorem s_la_spoilt {hw : qb_H} {n : Nat} (hB : qb_iB hw n) {Q : Int} (h0 : 0 ≤ Q) (h1 : Q < 4) (hws : qb_wk hw n Q) {K : Int → qb_H → Prop} (hK : K (sc_sp (qb_gq hw Q) n) hw) : c_la_spoiltAt Q hw K := by
  have hk := qb_sok hB.1 h0 h1
  have hn := hB.1.1
  have hn30 := hB.1.2.1
  have hat : ∀ kz : Int, 0 ≤ kz → kz < n → hw 13 kz = Q → 0 ≤ hw 15 kz - hw 19 kz ∧ hw 15 kz - hw 19 kz ≤ 20000 := by
    intro kz c0 c1 c2
    obtain ⟨p, p1, p2⟩ := qb_onto hB.1.2.2.2.2.2.1 kz c0 c1
    have e := ((hws.2 p p1 (by rw [p2]; exact c2)).2.1)
    have a1 := sc_W0 (qb_gq hw Q) p
    have a2 : sc_W (qb_gq hw Q) p ≤ hw 15 (hw 17 p) := sc_Wf hk p1
    have a3 := (iL_at hB.1 p1).2.2
    rw [p2] at e a2 a3
    omega
  have e : qb_sum (fun k => if hw 13 k = Q then v_la_spoiltOf k hw else 0) n = sc_sp (qb_gq hw Q) n := by
    unfold sc_sp
    rw [← hB.1.2.2.2.2.2.1]
    refine qb_sum_cg n (fun p hpn => ?_)
    show (if hw 13 (hw 17 p) = Q then _ else _) = (if decide (hw 13 (hw 17 p) = Q) = true then _ else _)
    by_cases c : hw 13 (hw 17 p) = Q
    · rw [if_pos c, if_pos (decide_eq_true c), Int.toNat_natCast]
      unfold v_la_spoiltOf
      rw [if_neg (by omega), (hws.2 p hpn c).2.1]
      rfl
    · rw [if_neg c, if_neg (fun z => c (of_decide_eq_true z))]
  rw [← e] at hK
  refine b_la_spoiltAt (qb_up n (fun k i => r_la_spoiltAt_4 Q (qb_sum (fun k => if hw 13 k = Q then v_la_spoiltOf k hw else 0) k) i hw K) ?_ ?_)
  · exact b_la_spoiltAt_4 ⟨fun _ => hK, fun c => absurd hn (by omega)⟩
  · intro k hk ih
    have hr := qb_sum_in (f := fun k => if hw 13 k = Q then v_la_spoiltOf k hw else 0) (lo := 0) (hi := 20000) k (fun j hj => by
      have h1 := hat j (by omega) (by omega)
      unfold v_la_spoiltOf
      show 0 ≤ (if hw 13 j = Q then (if hw 13 j = -1 then (0 : Int) else hw 15 j - hw 19 j) else 0) ∧ (if hw 13 j = Q then (if hw 13 j = -1 then (0 : Int) else hw 15 j - hw 19 j) else 0) ≤ 20000
      by_cases c : hw 13 j = Q
      · rw [if_pos c, if_neg (by omega)]; exact h1 c
      · rw [if_neg c]; omega)
    have hk2 := hat k (by omega) (by omega)
    refine b_la_spoiltAt_4 ⟨fun c => absurd c (by omega), fun _ => ⟨by omega, fun c => ⟨⟨by omega, fun _ => by have := hk2 c; unfold qb_in; omega⟩, ?_⟩, ?_⟩⟩
    · have hv : 0 ≤ v_la_spoiltOf k hw ∧ v_la_spoiltOf k hw ≤ 20000 := by
        unfold v_la_spoiltOf
        rw [if_neg (by omega)]
        exact hk2 c
      unfold qb_in
      omega
    · simp only [qb_sum] at ih
      split
      · rename_i c; rw [if_pos c] at ih; exact ih
      · rename_i c; rw [if_neg c, Int.add_zero] at ih; exact ih
theorem gq_kS2 {hp hq : qb_H} (hk : kS hp hq) : qb_gq hq = qb_gq hp := funext (kS_gq hk)
/-- every barrel is done by hour 2072: a limit beyond that leaves none out -/
theorem bc_far {hp : qb_H} {n : Nat} (hB : qb_iB hp n) {Q : Int} (h0 : 0 ≤ Q) (h1 : Q < 4) (G : Int) {la lb : Int} (ha : 2072 ≤ la) (hb : 2072 ≤ lb) : qb_sum (bc hp n Q G la) (bN hp n Q).toNat = qb_sum (bc hp n Q G lb) (bN hp n Q).toNat := by
  refine qb_sum_cg _ (fun kz hkz => ?_)
  have hbd := bd_in hB h0 h1 (i := (kz : Int)) (by omega) (by omega)
  unfold bc
  by_cases hc : bg hp n Q kz ≠ -6 ∧ (G = -6 ∨ bg hp n Q kz = G)
  · rw [if_pos ⟨by omega, hc⟩, if_pos ⟨by omega, hc⟩]
  · rw [if_neg (fun hz => hc hz.2), if_neg (fun hz => hc hz.2)]
theorem account_ok (Q kn what : Int) {hp : qb_H} {n : Nat} (hB : qb_iB hp n) (hA : qb_iA hp) (hS : qb_iS hp) (hE : qb_iE hp) (hF : qb_iF hp) {K : Int → Int → qb_H → Prop} (hK : ∀ (v : Int) (hq : qb_H), kS hp hq → K v v hq) :
    c_q_account Q kn what hp (fun v hp1 => c_m_account Q kn what hp1 (fun w hp2 => K v w hp2)) := by
  refine b_q_account ⟨fun c => b_m_account ⟨fun _ => hK _ hp kS.rf, fun c2 => absurd c c2⟩, fun c => ?_⟩
  refine ⟨fun cg => b_m_account ⟨fun c2 => absurd c2 c, fun _ => ⟨fun _ => hK _ hp kS.rf, fun c2 => absurd cg c2⟩⟩, fun cg => ?_⟩
  refine ⟨fun ch => b_m_account ⟨fun c2 => absurd c2 c, fun _ => ⟨fun c2 => absurd c2 cg, fun _ => ⟨fun _ => hK _ hp kS.rf, fun c2 => absurd ch c2⟩⟩⟩, fun ch => ?_⟩
  obtain ⟨h0, h1⟩ := q_isQ.1 c
  have hwi : 0 ≤ what ∧ what ≤ 7 := by
    rcases v_in_c (x := what) (a := 0) (b := 7) with z | z
    · exact absurd z.1 ch
    · exact z.2
  refine wk_ok hB (fun hw w1 w2 w3 => ?_)
  have hBw := iB_kS hB w1
  have hAw := iA_kS hA w1
  have hSw := iS_kS hS w1
  have hEw := iE_kS hE w1
  have hFw := iF_kS hF w1
  have hN := bN_in hBw h0 h1
  have hr := hBw.1.2.2.2.2.2.2.2.2
  have hTw := (w2 Q h0 h1).1
  have hT0 := (sc_R0 (qb_gq hw Q) n).2
  have hn30 := hBw.1.2.1
  have eN : v_q_barrelsAt Q hw = bN hw n Q := by
    unfold v_q_barrelsAt bN; rw [hTw]
  have gN : g_q_barrelsAt Q hw := ⟨⟨h0, h1⟩, by rw [hTw]; exact hT0, by omega⟩
  obtain ⟨X, hX⟩ : ∃ X : Int, X = qb_sum (bc hw n Q (-6) 2147483647) (bN hw n Q).toNat := ⟨_, rfl⟩
  have hXb : 0 ≤ X ∧ X ≤ 6000 := by
    have := bc_in (hp := hw) (n := n) (Q := Q) (G := -6) (L := 2147483647) (bN hw n Q).toNat
    omega
  have hca := ca_in hBw hEw hFw (Q := Q) (kn := kn) 10 (by decide)
  have hwage : 0 ≤ hw 10 5 * bN hw n Q ∧ hw 10 5 * bN hw n Q ≤ 600000 := by
    have a1 : 0 ≤ hw 10 5 * bN hw n Q := Int.mul_nonneg (by omega) hN.1
    have a2 : hw 10 5 * bN hw n Q ≤ 100 * bN hw n Q := Int.mul_le_mul_of_nonneg_right (by omega) hN.1
    omega
  have hboun : 0 ≤ hw 10 6 * X ∧ hw 10 6 * X ≤ 600000 := by
    have a1 : 0 ≤ hw 10 6 * X := Int.mul_nonneg (by omega) hXb.1
    have a2 : hw 10 6 * X ≤ 100 * X := Int.mul_le_mul_of_nonneg_right (by omega) hXb.1
    omega
  have hbr : ∀ {K' : Int → qb_H → Prop}, (∀ hq : qb_H, (∀ c : Nat, c ≠ 25 → c ≠ 31 → hq c = hw c) → K' X hq) → c_q_brandedAt Q hw K' := by
    intro K' hK'
    exact b_q_brandedAt (s_q_countBranded hBw hAw hSw h0 h1 (w2 Q h0 h1) (-6) 3000 (fun hq q1 => by rw [bc_far hBw h0 h1 (-6) (la := 3000) (lb := 2147483647) (by decide) (by decide), ← hX]; exact hK' hq q1))
  have hm : ∀ (V : Int) (hq : qb_H), kS hw hq → V = (if what = 0 then ca hw n Q kn 10 else if what = 1 then hw 10 5 * bN hw n Q else if what = 2 then hw 10 6 * X else if what = 3 then bN hw n Q else if what = 4 then X else if what = 5 then sc_sp (qb_gq hw Q) n else if what = 6 then sc_T (qb_gq hw Q) n % hw 10 1 else ca hw n Q kn 10 + hw 10 5 * bN hw n Q - hw 10 6 * X) → c_m_account Q kn what hq (fun w hp2 => K V w hp2) := by
    intro V hq hk eV
    have hBq := iB_kS hBw hk
    refine b_m_account ⟨fun c2 => absurd c2 c, fun _ => ⟨fun c2 => absurd c2 cg, fun _ => ⟨fun c2 => absurd c2 ch, fun _ => ?_⟩⟩⟩
    refine s_m_brandedOf hBq (iA_kS hAw hk) (iS_kS hSw hk) h0 h1 (fun hr st => ?_)
    obtain ⟨g1, g2⟩ := m_now hBq st
    have hkr := hk.tr st.1
    have hBr := iB_kS hBq st.1
    rw [bc_kS2 hk, bN_kS hk, ← hX]
    refine ⟨g1, fun y ey => ?_⟩
    rw [g2, bN_kS hk] at ey
    subst ey
    have e67 : ∀ j : Int, 0 ≤ j → j < 7 → hr 67 j = hw 10 j := fun j j0 j1 => by
      rw [hBr.2.2.2.2 j j0 j1, kS_c hkr 10 (by decide) (by decide) (by decide) (by decide) (by decide)]
    have e38 : hr 60 38 = sc_T (qb_gq hw Q) n := by rw [st.2.1, kS_gq hk]
    have e39 : hr 60 39 = sc_sp (qb_gq hw Q) n := by rw [st.2.2.1, kS_gq hk]
    rw [e67 5 (by decide) (by decide), e67 6 (by decide) (by decide), e67 1 (by decide) (by decide), e38, e39]
    have hkall := w1.tr hkr
    have hco : ca hr n Q kn 10 = ca hw n Q kn 10 := by unfold ca; rw [co_kS hkr]
    refine ⟨fun d0 => ?_, fun d0 => ⟨fun d1 => ?_, fun d1 => ⟨fun d2 => ?_, fun d2 => ⟨fun d3 => ?_, fun d3 => ⟨fun d4 => ?_, fun d4 => ⟨fun d5 => ?_, fun d5 => ⟨fun d6 => ?_, fun d6 => ?_⟩⟩⟩⟩⟩⟩⟩
    · rw [if_pos d0] at eV
      refine s_m_costsOf hBr (iE_kS hEw hkr) (iF_kS hFw hkr) Q kn (fun hu u1 u2 u3 => ?_)
      rw [hco, eV]
      exact hK _ hu (hkall.tr u1)
    · rw [if_neg d0, if_pos d1] at eV
      rw [eV]; exact ⟨by unfold qb_in; omega, hK _ hr hkall⟩
    · rw [if_neg d0, if_neg d1, if_pos d2] at eV
      rw [eV]; exact ⟨by unfold qb_in; omega, hK _ hr hkall⟩
    · rw [if_neg d0, if_neg d1, if_neg d2, if_pos d3] at eV
      rw [eV]; exact hK _ hr hkall
    · rw [if_neg d0, if_neg d1, if_neg d2, if_neg d3, if_pos d4] at eV
      rw [eV]; exact hK _ hr hkall
    · rw [if_neg d0, if_neg d1, if_neg d2, if_neg d3, if_neg d4, if_pos d5] at eV
      rw [eV]; exact hK _ hr hkall
    · rw [if_neg d0, if_neg d1, if_neg d2, if_neg d3, if_neg d4, if_neg d5, if_pos d6] at eV
      rw [eV]; exact ⟨hT0, by omega, hK _ hr hkall⟩
    · rw [if_neg d0, if_neg d1, if_neg d2, if_neg d3, if_neg d4, if_neg d5, if_neg d6] at eV
      refine s_m_costsOf hBr (iE_kS hEw hkr) (iF_kS hFw hkr) Q kn (fun hu u1 u2 u3 => ?_)
      rw [hco, u2 67 (by decide), e67 5 (by decide) (by decide), e67 6 (by decide) (by decide), eV]
      exact ⟨by unfold qb_in; omega, by unfold qb_in; omega, by unfold qb_in; omega, by unfold qb_in; omega, hK _ hu (hkall.tr u1)⟩
  refine ⟨fun d0 => ?_, fun d0 => ⟨fun d1 => ?_, fun d1 => ⟨fun d2 => ?_, fun d2 => ⟨fun d3 => ?_, fun d3 => ⟨fun d4 => ?_, fun d4 => ⟨fun d5 => ?_, fun d5 => ⟨fun d6 => ?_, fun d6 => ?_⟩⟩⟩⟩⟩⟩⟩
  · exact s_q_costsAt hBw hEw hFw Q kn (hm _ hw kS.rf (by rw [if_pos d0]))
  · unfold g_q_wagesAt v_q_wagesAt
    rw [eN]
    exact ⟨⟨gN, by unfold qb_in; omega⟩, hm _ hw kS.rf (by rw [if_neg d0, if_pos d1])⟩
  · refine b_q_bountyAt (hbr (fun hq q1 => ⟨by unfold qb_in; omega, hm _ hq (kS_two q1) (by rw [if_neg d0, if_neg d1, if_pos d2])⟩))
  · rw [eN]
    exact ⟨gN, hm _ hw kS.rf (by rw [if_neg d0, if_neg d1, if_neg d2, if_pos d3])⟩
  · exact hbr (fun hq q1 => hm _ hq (kS_two q1) (by rw [if_neg d0, if_neg d1, if_neg d2, if_neg d3, if_pos d4]))
  · exact s_la_spoilt hBw h0 h1 (w2 Q h0 h1) (hm _ hw kS.rf (by rw [if_neg d0, if_neg d1, if_neg d2, if_neg d3, if_neg d4, if_pos d5]))
  · rw [hTw]
    exact ⟨⟨h0, h1⟩, hT0, by omega, hm _ hw kS.rf (by rw [if_neg d0, if_neg d1, if_neg d2, if_neg d3, if_neg d4, if_neg d5, if_pos d6])⟩
  · refine s_q_costsAt hBw hEw hFw Q kn ?_
    unfold g_q_wagesAt v_q_wagesAt
    rw [eN]
    refine ⟨⟨gN, by unfold qb_in; omega⟩, by unfold qb_in; omega, b_q_bountyAt (hbr (fun hq q1 => ⟨by unfold qb_in; omega, by unfold qb_in; omega, hm _ hq (kS_two q1) (by rw [if_neg d0, if_neg d1, if_neg d2, if_neg d3, if_neg d4, if_neg d5, if_neg d6])⟩))⟩
