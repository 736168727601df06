/-! the reference's loops over a quay's hours -/
def mw_post (g : sc_G) (n : Nat) (hp0 hp : qb_H) : Prop :=
  mi_fr hp0 hp ∧ hp 60 38 = sc_T g n ∧
  (∀ p : Nat, p < n → sc_a g (sc_o g p) = true → hp 68 (7 * sc_o g p + 5) = sc_f g (sc_o g p) - sc_W g p ∧ hp 68 (7 * sc_o g p + 6) = (if sc_W g p = 0 then -6 else (sc_S g p + sc_W g p - 1) / sc_p g)) ∧
  hp 60 39 = qb_sum (fun kz => if sc_a g kz = true then hp 68 (7 * kz + 5) else 0) n ∧
  (∃ mz : Nat, hp 60 33 = mz ∧ mz < 2400 ∧ qb_sum (hp 85) mz = sc_T g n ∧ ∀ j : Nat, j < mz → mi_pc g n hp j)
theorem qb_sum_c (c : Int) (n : Nat) : qb_sum (fun _ => c) n = c * n := by
  induction n with
  | zero => simp [qb_sum]
  | succ n ih => simp only [qb_sum]; rw [ih, Int.natCast_succ, Int.mul_add, Int.mul_one]
theorem mi_cntb {g : sc_G} {n : Nat} (hk : sc_ok g n) {hp : qb_H} {u : Int} (h : mi g n hp u) : qb_sum (mi_cnt g hp) n ≤ 72 * n := by
  rw [← qb_sum_c]
  refine qb_sum_le n (fun kz hkz => ?_)
  unfold mi_cnt
  by_cases c : sc_a g kz = true
  · rw [if_pos c]
    obtain ⟨p, hp1, hpk⟩ := hk.2.2.2.1 kz (by omega) (by omega)
    have ho := h.2.1 p hp1 (by rw [hpk]; exact c)
    unfold mi_one at ho
    rw [hpk] at ho
    rw [ho.2.1]
    have hs := hk.2.2.2.2.2
    have hpc := hk.2.2.2.2.1
    by_cases d : mi_D g p u = 0
    · rw [if_pos d, if_pos (by decide)]; omega
    · rw [if_neg d]
      have w := mi_D0 g p u
      have wd := (sc_dl hk hp1 (by omega)).1
      rw [hpk] at wd
      have : (sc_S g p + mi_D g p u - 1) / sc_p g < sc_h g kz + sc_s g := by
        rw [Int.ediv_lt_iff_lt_mul (by omega)]; omega
      split <;> omega
  · rw [if_neg c]; omega
/-- all are done -/
theorem mw_done {g : sc_G} {n : Nat} (hk : sc_ok g n) (hn : n ≤ 30) {hp0 hp : qb_H} {u : Int} (hf : mi_fr hp0 hp) (h : mi g n hp u) (hl : ∀ p : Nat, p < n → sc_a g (sc_o g p) = true → hp 86 (sc_o g p) ≤ 0) : mw_post g n hp0 hp := by
  have hcb := mi_cntb hk h
  obtain ⟨a1, a2, a3, a4, mz, b1, b2, b3, b4⟩ := h
  have hD : ∀ p : Nat, p < n → sc_a g (sc_o g p) = true → mi_D g p u = sc_W g p := by
    intro p hp1 hpa
    have ho := a2 p hp1 hpa
    have hl2 := hl p hp1 hpa
    have w0 := sc_W0 g p
    have wf := sc_Wf hk hp1
    have wd := fun hw => (sc_dl hk hp1 hw).1
    unfold mi_one at ho
    rcases ho.1 with ⟨c1, c2⟩ | ⟨c1, c2, c3⟩
    · unfold mi_D at c1 ⊢; omega
    · by_cases c : 0 < sc_W g p
      · have := wd c
        unfold mi_D; omega
      · unfold mi_D; omega
  have hT : hp 60 38 = sc_T g n := by
    rcases sc_last hk n (Nat.le_refl n) with ⟨-, c1, -⟩ | ⟨q, c1, c2, c3, c4, c5, -⟩
    · omega
    · have ho := a2 q c1 c2
      have := hD q c1 c2
      unfold mi_one at ho
      omega
  refine ⟨hf, hT, fun p hp1 hpa => ?_, a4, mz, b1, by omega, by rw [b2, hT], b4⟩
  have ho := a2 p hp1 hpa
  have hd := hD p hp1 hpa
  have hl2 := hl p hp1 hpa
  have w0 := sc_W0 g p
  have wf := sc_Wf hk hp1
  unfold mi_one at ho
  rw [hd] at ho
  refine ⟨?_, ho.2.1⟩
  rcases ho.1 with ⟨c1, c2⟩ | ⟨c1, c2, c3⟩
  · omega
  · exact c3
theorem mw_inner {g : sc_G} {n : Nat} {hp0 : qb_H} {Q : Int} (hm0 : qb_mg hp0 g n Q) {H : Int} (hH0 : 0 ≤ H) (hH1 : H ≤ 2072) {K : qb_H → Prop}
    (hafter : ∀ hp' : qb_H, mi_fr hp0 hp' → mi g n hp' (H * sc_p g + sc_p g) → (∀ kz : Int, 0 ≤ kz → kz < n → 0 < hp' 86 kz → H < sc_h g kz + sc_s g) → c_m_nextHour Q hp' (fun v hp1 => (0 ≤ v → (v ≤ H → qb_in (H + 1))) ∧ (∀ y : Int, y = (if 0 ≤ v then (if v ≤ H then (H + 1) else v) else (-6)) → r_m_workQuay_114 Q y hp1 K))) :
    ∀ (jm : Nat) (room : Int) (hp' : qb_H), room ≤ jm → 0 ≤ room → room ≤ sc_p g → mi_fr hp0 hp' → mi g n hp' (H * sc_p g + sc_p g - room) → (∀ kz : Int, 0 ≤ kz → kz < n → 0 < hp' 86 kz → H < sc_h g kz + sc_s g) →
      (0 < room → ∀ p : Nat, p < n → sc_a g (sc_o g p) = true → 0 < hp' 86 (sc_o g p) → 0 < mi_D g p (H * sc_p g + sc_p g - room) → H * sc_p g + sc_p g - room ≤ H * sc_p g) →
      r_m_workQuay_226 Q H room (v_m_firstOf Q H hp') hp' K := by
  intro jm
  induction jm with
  | zero =>
    intro room hp' h1 h2 h3 hf hmi hne hco
    have e : room = 0 := by omega
    subst e
    have hmi' : mi g n hp' (H * sc_p g + sc_p g) := by simpa using hmi
    refine b_m_workQuay_226 ⟨fun _ => hafter hp' hf hmi' hne, fun _ => ⟨fun _ => hafter hp' hf hmi' hne, fun c => absurd c (by omega)⟩⟩
  | succ jm ih =>
    intro room hp' h1 h2 h3 hf hmi hne hco
    have hm := hm0.go hf
    obtain ⟨m1, m2, hk, m4, m5, m6, m7⟩ := hm
    have hpc := hk.2.2.2.2.1
    have hv : v_m_firstOf Q H hp' = mf_first (fun kz => hp' 68 (7 * kz + 1)) (fun kz => hp' 68 (7 * kz + 2)) (hp' 86) Q H n := by
      unfold v_m_firstOf
      rw [m1, Int.toNat_natCast]
    have hfi := mf_first_is (fun kz => hp' 68 (7 * kz + 1)) (fun kz => hp' 68 (7 * kz + 2)) (hp' 86) Q H n
    rw [hv]
    generalize mf_first (fun kz => hp' 68 (7 * kz + 1)) (fun kz => hp' 68 (7 * kz + 2)) (hp' 86) Q H n = x at hfi ⊢
    clear hv
    have hatl : ∀ kz : Int, 0 ≤ kz → kz < n → 0 < hp' 86 kz → sc_a g kz = true := by
      intro kz c1 c2 c3
      cases hc : sc_a g kz
      · have := hmi.1 kz c1 c2 hc; omega
      · rfl
    rcases hfi with ⟨f1, f2⟩ | ⟨f1, f2, f3, f4, f5⟩
    · -- nothing to work any more in this hour
      have hadv : mi g n hp' (H * sc_p g + sc_p g) := by
        refine mi_adv hk hmi (by omega) (fun p hp1 hpa hl => ?_)
        have hko := hk.1 p hp1
        have hx := m5 (sc_o g p) hko.1 hko.2
        have : ¬ sc_h g (sc_o g p) ≤ H := fun hle => by
          have := f2 (sc_o g p) hko.1 hko.2 (hx.2.2.mpr hpa) (by show hp' 68 (7 * sc_o g p + 2) ≤ H; rw [hx.1]; exact hle)
          omega
        exact sc_mlt hk (by omega)
      exact b_m_workQuay_226 ⟨fun _ => hafter hp' hf hadv hne, fun c => absurd f1 (by omega)⟩
    · by_cases hr : room ≤ 0
      · have e : room = 0 := by omega
        subst e
        have hmi' : mi g n hp' (H * sc_p g + sc_p g) := by simpa using hmi
        exact b_m_workQuay_226 ⟨fun c => absurd c (by omega), fun _ => ⟨fun _ => hafter hp' hf hmi' hne, fun c => absurd c (by omega)⟩⟩
      · have hx := m5 x f1.1 f1.2
        have hxa : sc_a g x = true := hx.2.2.mp f2
        obtain ⟨p, hp1, hpk⟩ := hk.2.2.2.1 x f1.1 f1.2
        have hhx : sc_h g x ≤ H := by
          have : hp' 68 (7 * x + 2) ≤ H := f4
          rw [hx.1] at this; exact this
        have hfirst : ∀ q : Nat, q < p → sc_a g (sc_o g q) = true → hp' 86 (sc_o g q) ≤ 0 := by
          intro q hq hqa
          have hko := hk.1 q (by omega)
          have hs := hk.2.2.1 q p hq hp1
          rw [hpk] at hs
          have hy := m5 (sc_o g q) hko.1 hko.2
          apply Classical.byContradiction
          intro hc
          have h5 : hp' 68 (7 * x + 2) < hp' 68 (7 * sc_o g q + 2) ∨ (hp' 68 (7 * x + 2) = hp' 68 (7 * sc_o g q + 2) ∧ x ≤ sc_o g q) := f5 (sc_o g q) hko.1 hko.2 (hy.2.2.mpr hqa) (by show hp' 68 (7 * sc_o g q + 2) ≤ H; rw [hy.1]; omega) (by omega)
          rw [hx.1, hy.1] at h5
          omega
        have hw := mi_work (p := p) (H := H) (n1 := min (hp' 86 (sc_o g p)) (H * sc_p g + sc_p g - (H * sc_p g + sc_p g - room))) hk hmi hH0 hp1 (by rw [hpk]; exact hxa) (by rw [hpk]; exact f3) (by omega) (by omega) (by rw [hpk]; exact hhx) (by rw [hpk]; exact hne x f1.1 f1.2 f3) hfirst (fun hd => hco (by omega) p hp1 (by rw [hpk]; exact hxa) (by rw [hpk]; exact f3) hd) rfl
        obtain ⟨w1, w2, ⟨mz, w3, w4⟩, w5⟩ := hw
        rw [hpk] at w1 w2 w5
        have hcb := mi_cntb hk hmi
        have hbound := hmi.2.2.1
        have hTb := sc_Tb hk n (Nat.le_refl n)
        have hko := hk.2.1 x f1.1 f1.2
        have hleft : hp' 86 x ≤ 20000 := by
          have ho := hmi.2.1 p hp1 (by rw [hpk]; exact hxa)
          unfold mi_one at ho
          rw [hpk] at ho
          have := mi_D0 g p (H * sc_p g + sc_p g - room)
          omega
        refine b_m_workQuay_226 ⟨fun c => absurd c (by omega), fun _ => ⟨fun c => absurd c hr, fun _ => ⟨by omega, fun y e => ?_⟩⟩⟩
        have ey : y = min (hp' 86 x) (H * sc_p g + sc_p g - (H * sc_p g + sc_p g - room)) := by
          rw [e]; split <;> omega
        rw [← ey] at w1 w2 w5
        refine ⟨by omega, by unfold qb_in; omega, by unfold qb_in; omega, by unfold qb_in; omega, by unfold qb_in; omega, by unfold qb_in; omega, by omega, ?_⟩
        show c_m_firstOf Q H (mi_new hp' x H y) _
        have hf2 := hf.tr (mi_new_fr hp' x H y)
        have hm2 := hm0.go hf2
        refine s_m_firstOf Q H _ _ ⟨by rw [hm2.1]; omega, by rw [hm2.1]; omega⟩ ?_
        obtain ⟨i83, i84, i85, i33, i38, i39, i86, i68⟩ := mi_new_is hp' x H y
        refine ih (room - y) (mi_new hp' x H y) (by omega) (by omega) (by omega) hf2 ?_ (fun kz c1 c2 c3 => ?_) (fun hr2 q hq hqa hql hqd => ?_)
        · have e3 : H * sc_p g + sc_p g - (room - y) = H * sc_p g + sc_p g - room + y := by omega
          rw [e3]; exact w1
        · rw [i86] at c3
          by_cases e4 : kz = x
          · subst e4; exact hne kz c1 c2 f3
          · rw [if_neg e4] at c3; exact hne kz c1 c2 c3
        · have e3 : H * sc_p g + sc_p g - (room - y) = H * sc_p g + sc_p g - room + y := by omega
          rw [e3] at hqd
          rw [i86] at hql
          have hko2 := hk.1 q hq
          by_cases e4 : sc_o g q = x
          · rw [if_pos e4] at hql; omega
          · rw [if_neg e4] at hql
            have hqp : p < q := by
              rcases Nat.lt_trichotomy q p with c | c | c
              · have := hfirst q c hqa; omega
              · subst c; exact absurd hpk e4
              · exact c
            have := w5 q hq hqp hqa
            omega
theorem mw_at {g : sc_G} {n : Nat} {hp : qb_H} {u : Int} (hmi : mi g n hp u) {kz : Int} (c1 : 0 ≤ kz) (c2 : kz < n) (c3 : 0 < hp 86 kz) : sc_a g kz = true := by
  cases hc : sc_a g kz
  · have := hmi.1 kz c1 c2 hc; omega
  · rfl
theorem mw_outer {g : sc_G} {n : Nat} {hp0 : qb_H} {Q : Int} (hm0 : qb_mg hp0 g n Q) {K : qb_H → Prop} (hK : ∀ hp' : qb_H, mw_post g n hp0 hp' → K hp') :
    ∀ (jm : Nat) (H : Int) (hp' : qb_H), 2073 ≤ H + jm → 0 ≤ H → H ≤ 2072 → mi_fr hp0 hp' → mi g n hp' (H * sc_p g) → r_m_workQuay_114 Q H hp' K := by
  intro jm
  induction jm with
  | zero => intro H hp' h1 h2 h3; omega
  | succ jm ih =>
    intro H hp' h1 h2 h3 hf hmi
    refine b_m_workQuay_114 ⟨fun c => absurd c (by omega), fun _ => ?_⟩
    have hk := hm0.2.2.1
    have hpc := hk.2.2.2.2.1
    have hn30 := hm0.2.1
    have hpos := sc_mle hk (x := 0) (y := H) h2
    -- the spoilt ones go
    have key : ∀ hq : qb_H, mi_fr hp0 hq → mi g n hq (H * sc_p g) → (∀ kz : Int, 0 ≤ kz → kz < (0 : Nat) → 0 < hq 86 kz → H < sc_h g kz + sc_s g) → r_m_workQuay_120 Q H 0 hq K := by
      refine qb_up n (fun kz i => ∀ hq : qb_H, mi_fr hp0 hq → mi g n hq (H * sc_p g) → (∀ j : Int, 0 ≤ j → j < kz → 0 < hq 86 j → H < sc_h g j + sc_s g) → r_m_workQuay_120 Q H i hq K) ?_ ?_
      · intro hq hqf hqm hqe
        obtain ⟨m1, m2, m3, m4, m5, m6, m7⟩ := hm0.go hqf
        refine b_m_workQuay_120 ⟨fun _ => ⟨m4, by rw [m6]; unfold qb_in; omega, fun y e => ?_⟩, fun c => absurd c (by omega)⟩
        rw [m6] at e
        subst e
        refine s_m_firstOf Q H hq _ ⟨by rw [m1]; omega, by rw [m1]; omega⟩ ?_
        refine mw_inner hm0 h2 h3 (fun hz hzf hzm hze => ?_) (sc_p g).toNat (sc_p g) hq (by omega) (by omega) (Int.le_refl _) hqf (by rw [show H * sc_p g + sc_p g - sc_p g = H * sc_p g by omega]; exact hqm) hqe (fun _ p _ _ _ _ => by omega)
        obtain ⟨z1, z2, z3, z4, z5, z6, z7⟩ := hm0.go hzf
        refine s_m_nextHour Q hz _ ⟨by rw [z1]; omega, by rw [z1]; omega⟩ ?_
        have hv : v_m_nextHour Q hz = mf_next (fun kz => hz 68 (7 * kz + 1)) (fun kz => hz 68 (7 * kz + 2)) (hz 86) Q n := by
          unfold v_m_nextHour
          rw [z1, Int.toNat_natCast]
        have hni := mf_next_is (fun kz => hz 68 (7 * kz + 1)) (fun kz => hz 68 (7 * kz + 2)) (hz 86) Q n (fun kz c1 c2 => by
          show 0 ≤ hz 68 (7 * kz + 2)
          rw [(z5 kz c1 c2).1]
          exact (z3.2.1 kz c1 c2).1.1)
        rw [hv]
        generalize mf_next (fun kz => hz 68 (7 * kz + 1)) (fun kz => hz 68 (7 * kz + 2)) (hz 86) Q n = v at hni ⊢
        rcases hni with ⟨i1, i2⟩ | ⟨⟨j2, j3, j4, j5, j6, j7⟩, i2⟩
        · refine ⟨fun c => by omega, fun y e => ?_⟩
          rw [if_neg (by omega)] at e
          subst e
          refine b_m_workQuay_114 ⟨fun _ => hK hz (mw_done z3 z2 hzf hzm (fun p hp1 hpa => ?_)), fun c => absurd c (by decide)⟩
          have hko := z3.1 p hp1
          exact i2 (sc_o g p) hko.1 hko.2 ((z5 _ hko.1 hko.2).2.2.mpr hpa)
        · have e7 : v = sc_h g j2 := by rw [j7]; exact (z5 j2 j3 j4).1
          have hb := (z3.2.1 j2 j3 j4).1
          have hx := hze j2 j3 j4 j6
          have hs := z3.2.2.2.2.2
          refine ⟨fun _ _ => by unfold qb_in; omega, fun y e => ?_⟩
          rw [if_pos (by omega)] at e
          by_cases c : v ≤ H
          · rw [if_pos c] at e
            subst e
            refine ih (H + 1) hz (by omega) (by omega) (by omega) hzf ?_
            rw [sc_mul hk]; exact hzm
          · rw [if_neg c] at e
            subst e
            refine ih y hz (by omega) (by omega) (by omega) hzf (mi_adv z3 hzm (sc_mlt z3 (by omega)) (fun p hp1 hpa hl => ?_))
            have hko := z3.1 p hp1
            have := i2 (sc_o g p) hko.1 hko.2 ((z5 _ hko.1 hko.2).2.2.mpr hpa) hl
            have e8 : hz 68 (7 * sc_o g p + 2) = sc_h g (sc_o g p) := (z5 _ hko.1 hko.2).1
            rw [e8] at this
            exact sc_mle z3 this
      · intro kz hkz ihk hq hqf hqm hqe
        obtain ⟨m1, m2, m3, m4, m5, m6, m7⟩ := hm0.go hqf
        have hx := m5 kz (by omega) (by omega)
        have hkf := m3.2.1 kz (by omega) (by omega)
        have hs := m3.2.2.2.2.2
        have hTb := sc_Tb m3 n (Nat.le_refl n)
        have hlow : 0 < hq 86 kz → hq 86 kz ≤ 20000 ∧ hq 68 (7 * (kz : Int) + 5) = 0 := fun hl => by
          have ha := mw_at hqm (by omega) (by omega) hl
          obtain ⟨p, hp1, hpk⟩ := m3.2.2.2.1 kz (by omega) (by omega)
          have ho := hqm.2.1 p hp1 (by rw [hpk]; exact ha)
          unfold mi_one at ho
          rw [hpk] at ho
          have := mi_D0 g p (H * sc_p g)
          omega
        have hsp : 0 ≤ hq 60 39 ∧ hq 60 39 ≤ 20000 * n := by
          rw [hqm.2.2.2.1]
          have := qb_sum_in (f := fun kz => if sc_a g kz = true then hq 68 (7 * kz + 5) else 0) (lo := 0) (hi := 20000) n (fun j hj => by
            by_cases ca : sc_a g j = true
            · rw [if_pos ca]
              obtain ⟨p, hp1, hpk⟩ := m3.2.2.2.1 j (by omega) (by omega)
              have ho := hqm.2.1 p hp1 (by rw [hpk]; exact ca)
              unfold mi_one at ho
              rw [hpk] at ho
              have w1 := sc_Wf m3 hp1
              have w0 := sc_W0 g p
              rw [hpk] at w1
              have := (m3.2.1 j (by omega) (by omega)).2
              omega
            · rw [if_neg ca]; omega)
          omega
        refine b_m_workQuay_120 ⟨fun c => absurd c (by omega), fun _ => ⟨by omega, fun c => ⟨by unfold qb_in; omega, by unfold qb_in; omega, by omega, by rw [hx.1, m7]; unfold qb_in; omega, fun _ => ⟨by unfold qb_in; omega, by omega, by unfold qb_in; omega⟩⟩, ?_⟩⟩
        by_cases c : hq 86 kz ≤ 0
        · rw [if_pos c]
          exact ihk hq hqf hqm (fun j j0 j1 jl => by
            by_cases e : j = kz
            · subst e; omega
            · exact hqe j j0 (by omega) jl)
        · rw [if_neg c, hx.1, m7]
          by_cases d : H < sc_h g kz + sc_s g
          · rw [if_pos d]
            exact ihk hq hqf hqm (fun j j0 j1 jl => by
              by_cases e : j = kz
              · subst e; exact d
              · exact hqe j j0 (by omega) jl)
          · rw [if_neg d]
            have hsp2 := mi_spoil m3 hqm (kz := kz) (by omega) (by omega) (by omega) (sc_mle m3 (by omega))
            obtain ⟨i86, i68, i39, i60, i83, i84, i85⟩ := sp_new_is hq kz
            refine ihk (sp_new hq kz) (hqf.tr (sp_new_fr hq kz)) hsp2 (fun j j0 j1 jl => ?_)
            rw [i86] at jl
            by_cases e : j = kz
            · rw [if_pos e] at jl; omega
            · rw [if_neg e] at jl
              exact hqe j j0 (by omega) jl
    exact key hp' hf hmi (fun kz c1 c2 => by omega)
/-- THE REFERENCE WORKS A QUAY -/
theorem mw_ok {g : sc_G} {n : Nat} {hp0 : qb_H} {Q : Int} (hm0 : qb_mg hp0 g n Q) {K : qb_H → Prop} (hK : ∀ hp' : qb_H, mw_post g n hp0 hp' → K hp') : c_m_workQuay Q hp0 K := by
  have hk := hm0.2.2.1
  have hn30 := hm0.2.1
  have hpc := hk.2.2.2.2.1
  refine b_m_workQuay ?_
  have key : ∀ hq : qb_H, mi_fr hp0 hq → (hq 60 33 = 0 ∧ hq 60 38 = 0 ∧ hq 60 39 = 0) → (∀ j : Int, 0 ≤ j → j < (0 : Nat) → hq 86 j = (if sc_a g j = true then sc_f g j else 0) ∧ (sc_a g j = true → hq 68 (7 * j + 5) = 0 ∧ hq 68 (7 * j + 6) = -6)) → r_m_workQuay_17 Q 0 hq K := by
    refine qb_up n (fun kz i => ∀ hq : qb_H, mi_fr hp0 hq → (hq 60 33 = 0 ∧ hq 60 38 = 0 ∧ hq 60 39 = 0) → (∀ j : Int, 0 ≤ j → j < kz → hq 86 j = (if sc_a g j = true then sc_f g j else 0) ∧ (sc_a g j = true → hq 68 (7 * j + 5) = 0 ∧ hq 68 (7 * j + 6) = -6)) → r_m_workQuay_17 Q i hq K) ?_ ?_
    · intro hq hqf hq0 hqk
      obtain ⟨z1, z2, z3, z4, z5, z6, z7⟩ := hm0.go hqf
      have hmi : mi g n hq 0 := by
        refine ⟨fun j c1 c2 c3 => ?_, fun p hp1 hpa => ?_, ?_, ?_, 0, ?_, ?_, ?_, fun j hj => by omega⟩
        · rw [(hqk j c1 c2).1, if_neg (by rw [c3]; decide)]
        · have hko := z3.1 p hp1
          have hb := sc_Sb z3 hp1
          have hT := (sc_R0 g p).2
          have w0 := sc_W0 g p
          have hD : mi_D g p 0 = 0 := by unfold mi_D; omega
          have hx := hqk (sc_o g p) hko.1 hko.2
          rw [if_pos hpa] at hx
          unfold mi_one
          rw [hD, if_pos rfl, hq0.2.1]
          exact ⟨Or.inl ⟨by omega, (hx.2 hpa).1⟩, (hx.2 hpa).2, by omega⟩
        · rw [hq0.2.1]
          have := (sc_R0 g n).2
          omega
        · rw [hq0.2.2]
          have : qb_sum (fun kz => if sc_a g kz = true then hq 68 (7 * kz + 5) else 0) n = qb_sum (fun _ => 0) n := qb_sum_cg n (fun j hj => by
            by_cases c : sc_a g j = true
            · rw [if_pos c]; exact ((hqk j (by omega) (by omega)).2 c).1
            · rw [if_neg c])
          rw [this, qb_sum_0]
        · exact hq0.1
        · rw [hq0.2.1]; rfl
        · have : qb_sum (fun _ => 0) n ≤ qb_sum (mi_cnt g hq) n := qb_sum_le n (fun j hj => by
            unfold mi_cnt
            by_cases c : sc_a g j = true
            · rw [if_pos c, ((hqk j (by omega) (by omega)).2 c).2, if_pos (by decide)]; exact Int.le_refl _
            · rw [if_neg c]; exact Int.le_refl _)
          rw [qb_sum_0] at this
          exact this
      refine b_m_workQuay_17 ⟨fun _ => ?_, fun c => absurd c (by omega)⟩
      refine s_m_nextHour Q hq _ ⟨by rw [z1]; omega, by rw [z1]; omega⟩ ?_
      have hv : v_m_nextHour Q hq = mf_next (fun kz => hq 68 (7 * kz + 1)) (fun kz => hq 68 (7 * kz + 2)) (hq 86) Q n := by
        unfold v_m_nextHour
        rw [z1, Int.toNat_natCast]
      have hni := mf_next_is (fun kz => hq 68 (7 * kz + 1)) (fun kz => hq 68 (7 * kz + 2)) (hq 86) Q n (fun kz c1 c2 => by
        show 0 ≤ hq 68 (7 * kz + 2)
        rw [(z5 kz c1 c2).1]
        exact (z3.2.1 kz c1 c2).1.1)
      rw [hv]
      generalize mf_next (fun kz => hq 68 (7 * kz + 1)) (fun kz => hq 68 (7 * kz + 2)) (hq 86) Q n = v at hni ⊢
      rcases hni with ⟨i1, i2⟩ | ⟨⟨j2, j3, j4, j5, j6, j7⟩, i2⟩
      · subst i1
        refine b_m_workQuay_114 ⟨fun _ => hK hq (mw_done z3 z2 hqf hmi (fun p hp1 hpa => ?_)), fun c => absurd c (by decide)⟩
        have hko := z3.1 p hp1
        exact i2 (sc_o g p) hko.1 hko.2 ((z5 _ hko.1 hko.2).2.2.mpr hpa)
      · have e7 : v = sc_h g j2 := by rw [j7]; exact (z5 j2 j3 j4).1
        have hb := (z3.2.1 j2 j3 j4).1
        refine mw_outer hm0 hK 2073 v hq (by omega) (by omega) (by omega) hqf (mi_adv z3 hmi ?_ (fun p hp1 hpa hl => ?_))
        · have := sc_mle z3 (x := 0) (y := v) (by omega)
          omega
        · have hko := z3.1 p hp1
          have := i2 (sc_o g p) hko.1 hko.2 ((z5 _ hko.1 hko.2).2.2.mpr hpa) hl
          have e8 : hq 68 (7 * sc_o g p + 2) = sc_h g (sc_o g p) := (z5 _ hko.1 hko.2).1
          rw [e8] at this
          exact sc_mle z3 this
    · intro kz hkz ihk hq hqf hq0 hqk
      obtain ⟨z1, z2, z3, z4, z5, z6, z7⟩ := hm0.go hqf
      have hx := z5 kz (by omega) (by omega)
      refine b_m_workQuay_17 ⟨fun c => absurd c (by omega), fun _ => ⟨by unfold qb_in; omega, by unfold qb_in; omega, by omega, fun _ => ⟨by unfold qb_in; omega, by omega⟩, by omega, fun _ => ⟨by unfold qb_in; omega, by omega, by unfold qb_in; omega, by omega⟩, ?_⟩⟩
      by_cases c : hq 68 (7 * kz + 1) = Q
      · have ca := hx.2.2.mp c
        rw [if_pos c, if_pos c, hx.2.1]
        have r86 : ∀ j : Int, qb_st (qb_st (qb_st hq 86 kz (sc_f g kz)) 68 (7 * kz + 5) 0) 68 (7 * kz + 6) (-6) 86 j = if j = kz then sc_f g kz else hq 86 j := by
          intro j; simp [qb_st]
        have r68 : ∀ j : Int, qb_st (qb_st (qb_st hq 86 kz (sc_f g kz)) 68 (7 * kz + 5) 0) 68 (7 * kz + 6) (-6) 68 j = if j = 7 * kz + 6 then -6 else if j = 7 * kz + 5 then 0 else hq 68 j := by
          intro j; simp [qb_st]
        refine ihk _ (hqf.tr ?_) (by simpa [qb_st] using hq0) (fun j j0 j1 => ?_)
        · refine ⟨fun x h1 h2 h3 h4 h5 h6 => ?_, fun x h1 h2 h3 => ?_, fun x i h1 h2 => ?_⟩
          · rw [qb_st_ne h2, qb_st_ne h2, qb_st_ne h6]
          · simp [qb_st]
          · rw [r68, if_neg (by omega), if_neg (by omega)]
        · rw [r86, r68, r68]
          by_cases e : j = kz
          · rw [if_pos e, e]
            refine ⟨(if_pos ca).symm, fun _ => ⟨?_, ?_⟩⟩
            · rw [if_neg (show ¬ (7 * (kz : Int) + 5 = 7 * kz + 6) by omega), if_pos rfl]
            · rw [if_pos rfl]
          · rw [if_neg e, if_neg (show ¬ (7 * j + 5 = 7 * (kz : Int) + 6) by omega), if_neg (show ¬ (7 * j + 5 = 7 * (kz : Int) + 5) by omega), if_neg (show ¬ (7 * j + 6 = 7 * (kz : Int) + 6) by omega), if_neg (show ¬ (7 * j + 6 = 7 * (kz : Int) + 5) by omega)]
            exact hqk j j0 (by omega)
      · have ca : ¬ sc_a g kz = true := fun h => c (hx.2.2.mpr h)
        rw [if_neg c, if_neg c]
        refine ihk _ (hqf.tr ?_) (by simpa [qb_st] using hq0) (fun j j0 j1 => ?_)
        · refine ⟨fun x h1 h2 h3 h4 h5 h6 => ?_, fun x h1 h2 h3 => ?_, fun x i h1 h2 => ?_⟩
          · rw [qb_st_ne h6]
          · simp [qb_st]
          · simp [qb_st]
        · by_cases e : j = kz
          · rw [e]; simp [qb_st, ca]
          · have r86 : qb_st hq 86 kz 0 86 j = hq 86 j := by simp [qb_st, e]
            rw [r86, qb_st_ne (by decide)]
            exact hqk j j0 (by omega)
  refine key _ ?_ (by simp [qb_st]) (fun j c1 c2 => by omega)
  refine ⟨fun x h1 h2 h3 h4 h5 h6 => ?_, fun x h1 h2 h3 => ?_, fun x i h1 h2 => ?_⟩
  · rw [qb_st_ne h1, qb_st_ne h1, qb_st_ne h1]
  · simp [qb_st, h1, h2, h3]
  · simp [qb_st]
