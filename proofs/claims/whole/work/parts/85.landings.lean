/-! SET, RULE, LEAD, LAND -/
theorem st_at {hp : qb_H} {c : Nat} {i v k : Int} : qb_st hp c i v c k = if k = i then v else hp c k := by simp [qb_st]
theorem iL_set {hp hq : qb_H} {n : Nat} (h : qb_iL hp n) (hc : ∀ c : Nat, 10 ≤ c → c ≤ 17 → hq c = hp c) (h7 : ∀ q : Int, 0 ≤ q → q < 4 → (1 ≤ hq 21 q ∧ hq 21 q ≤ 9) ∧ (1 ≤ hq 22 q ∧ hq 22 q ≤ 2000)) : qb_iL hq n := by
  obtain ⟨l1, l2, l3, l4, l5, l6, l7, l8⟩ := h
  unfold qb_iL
  rw [hc 10 (by decide) (by decide), hc 11 (by decide) (by decide), hc 12 (by decide) (by decide), hc 13 (by decide) (by decide), hc 14 (by decide) (by decide), hc 15 (by decide) (by decide), hc 16 (by decide) (by decide), hc 17 (by decide) (by decide)]
  exact ⟨l1, l2, l3, l4, l5, l6, h7, l8⟩
theorem iB_65 {hp hq : qb_H} {n : Nat} (h : qb_iB hp n) (hL : qb_iL hq n) (h9 : hq 60 9 = hp 60 9) (h68 : hq 68 = hp 68) (hc : ∀ c : Nat, 12 ≤ c → c ≤ 16 → hq c = hp c) (h65 : ∀ q : Int, 0 ≤ q → q < 4 → hq 65 q = hq 21 q ∧ hq 66 q = hq 22 q) (h67 : ∀ j : Int, 0 ≤ j → j < 7 → hq 67 j = hq 10 j) : qb_iB hq n := by
  refine ⟨hL, by rw [h9]; exact h.2.1, fun k k0 k1 => ?_, h65, h67⟩
  rw [h68, hc 12 (by decide) (by decide), hc 13 (by decide) (by decide), hc 14 (by decide) (by decide), hc 15 (by decide) (by decide), hc 16 (by decide) (by decide)]
  exact h.2.2.1 k k0 k1
theorem set_ok2 (q what v : Int) (hp : qb_H) {n : Nat} (K : Int → Int → qb_H → Prop) (hB : qb_iB hp n) (hK : ∀ (v : Int) (hq : qb_H), qb_iB hq n → kp [21, 22, 65, 66] [] hp hq → K v v hq) : c_q_set q what v hp (fun v1 hp1 => c_m_set q what v hp1 (fun w hp2 => K v1 w hp2)) := by
  refine b_q_set ⟨fun c => b_m_set ⟨fun _ => hK _ hp hB kp.rf, fun z => absurd c z⟩, fun c => ⟨fun d => b_m_set ⟨fun z => absurd z c, fun _ => ⟨fun _ => hK _ hp hB kp.rf, fun z => absurd d z⟩⟩, fun d => ⟨fun e => b_m_set ⟨fun z => absurd z c, fun _ => ⟨fun z => absurd z d, fun _ => ⟨fun _ => hK _ hp hB kp.rf, fun z => absurd e z⟩⟩⟩, fun e => ?_⟩⟩⟩
  obtain ⟨h0, h1⟩ := q_isQ.1 c
  have hv : 1 ≤ v ∧ v ≤ (if what = 0 then (9 : Int) else 2000) := by
    rcases v_in_c (x := v) (a := 1) (b := (if what = 0 then (9 : Int) else 2000)) with z | z
    · exact absurd z.1 e
    · exact z.2
  have h7 := hB.1.2.2.2.2.2.2.1
  have hold := hB.2.2.2.1
  refine ⟨fun f => ⟨⟨h0, h1⟩, b_m_set ⟨fun z => absurd z c, fun _ => ⟨fun z => absurd z d, fun _ => ⟨fun z => absurd z e, fun _ => ⟨fun _ => ⟨h0, h1⟩, fun _ => ⟨h0, h1⟩, fun _ => ⟨h0, h1⟩, fun _ => ⟨h0, h1⟩, ?_⟩⟩⟩⟩⟩, fun f => ⟨⟨h0, h1⟩, b_m_set ⟨fun z => absurd z c, fun _ => ⟨fun z => absurd z d, fun _ => ⟨fun z => absurd z e, fun _ => ⟨fun _ => ⟨h0, h1⟩, fun _ => ⟨h0, h1⟩, fun _ => ⟨h0, h1⟩, fun _ => ⟨h0, h1⟩, ?_⟩⟩⟩⟩⟩⟩
  · rw [if_pos f] at hv
    rw [if_pos f, if_pos f]
    have ev : qb_st hp 21 q v 65 q = hp 21 q := by rw [qb_st_ne (by decide)]; exact (hold q h0 h1).1
    rw [ev]
    have e21 : ∀ i : Int, qb_st (qb_st hp 21 q v) 65 q v 21 i = if i = q then v else hp 21 i := fun i => by simp [qb_st]
    have e65 : ∀ i : Int, qb_st (qb_st hp 21 q v) 65 q v 65 i = if i = q then v else hp 65 i := fun i => by simp [qb_st]
    have ec : ∀ c : Nat, c ≠ 21 → c ≠ 65 → qb_st (qb_st hp 21 q v) 65 q v c = hp c := fun c c1 c2 => by rw [qb_st_ne c2, qb_st_ne c1]
    refine hK _ _ (iB_65 hB (iL_set hB.1 (fun c c1 c2 => ec c (by omega) (by omega)) (fun x x0 x1 => ?_)) (by rw [ec 60 (by decide) (by decide)]) (ec 68 (by decide) (by decide)) (fun c c1 c2 => ec c (by omega) (by omega)) (fun x x0 x1 => ?_) (fun j j0 j1 => by rw [ec 67 (by decide) (by decide), ec 10 (by decide) (by decide)]; exact hB.2.2.2.2 j j0 j1)) ⟨fun c hc c60 => ?_, fun j _ => by rw [ec 60 (by decide) (by decide)]⟩
    · rw [e21, ec 22 (by decide) (by decide)]
      have := h7 x x0 x1
      by_cases ex : x = q
      · rw [if_pos ex]; exact ⟨hv, this.2⟩
      · rw [if_neg ex]; exact this
    · rw [e21, e65, ec 66 (by decide) (by decide), ec 22 (by decide) (by decide)]
      have := hold x x0 x1
      by_cases ex : x = q
      · rw [if_pos ex, if_pos ex]; exact ⟨rfl, this.2⟩
      · rw [if_neg ex, if_neg ex]; exact this
    · have hn' : c ≠ 21 ∧ c ≠ 22 ∧ c ≠ 65 ∧ c ≠ 66 := by simpa using hc
      exact ec c hn'.1 hn'.2.2.1
  · rw [if_neg f] at hv
    rw [if_neg f, if_neg f]
    have ev : qb_st hp 22 q v 66 q = hp 22 q := by rw [qb_st_ne (by decide)]; exact (hold q h0 h1).2
    rw [ev]
    have e22 : ∀ i : Int, qb_st (qb_st hp 22 q v) 66 q v 22 i = if i = q then v else hp 22 i := fun i => by simp [qb_st]
    have e66 : ∀ i : Int, qb_st (qb_st hp 22 q v) 66 q v 66 i = if i = q then v else hp 66 i := fun i => by simp [qb_st]
    have ec : ∀ c : Nat, c ≠ 22 → c ≠ 66 → qb_st (qb_st hp 22 q v) 66 q v c = hp c := fun c c1 c2 => by rw [qb_st_ne c2, qb_st_ne c1]
    refine hK _ _ (iB_65 hB (iL_set hB.1 (fun c c1 c2 => ec c (by omega) (by omega)) (fun x x0 x1 => ?_)) (by rw [ec 60 (by decide) (by decide)]) (ec 68 (by decide) (by decide)) (fun c c1 c2 => ec c (by omega) (by omega)) (fun x x0 x1 => ?_) (fun j j0 j1 => by rw [ec 67 (by decide) (by decide), ec 10 (by decide) (by decide)]; exact hB.2.2.2.2 j j0 j1)) ⟨fun c hc c60 => ?_, fun j _ => by rw [ec 60 (by decide) (by decide)]⟩
    · rw [e22, ec 21 (by decide) (by decide)]
      have := h7 x x0 x1
      by_cases ex : x = q
      · rw [if_pos ex]; exact ⟨this.1, hv⟩
      · rw [if_neg ex]; exact this
    · rw [e22, e66, ec 65 (by decide) (by decide), ec 21 (by decide) (by decide)]
      have := hold x x0 x1
      by_cases ex : x = q
      · rw [if_pos ex, if_pos ex]; exact ⟨this.1, rfl⟩
      · rw [if_neg ex, if_neg ex]; exact this
    · have hn' : c ≠ 21 ∧ c ≠ 22 ∧ c ≠ 65 ∧ c ≠ 66 := by simpa using hc
      exact ec c hn'.2.1 hn'.2.2.2
theorem rule_ok (w v : Int) (hp : qb_H) {n : Nat} (K : Int → Int → qb_H → Prop) (hB : qb_iB hp n) (hK : ∀ (v : Int) (hq : qb_H), qb_iB hq n → kp [10, 67] [] hp hq → K v v hq) : c_q_rule w v hp (fun v1 hp1 => c_m_rule w v hp1 (fun w1 hp2 => K v1 w1 hp2)) := by
  refine b_q_rule ⟨fun c => b_m_rule ⟨fun _ => hK _ hp hB kp.rf, fun z => absurd c z⟩, fun c => ?_⟩
  have hw : 0 ≤ w ∧ w ≤ 6 := by
    rcases v_in_c (x := w) (a := 0) (b := 6) with z | z
    · exact absurd z.1 c
    · exact z.2
  have h7 : w = 0 ∨ w = 1 ∨ w = 2 ∨ w = 3 ∨ w = 4 ∨ w = 5 ∨ w = 6 := by omega
  have hlo : (if w = 0 then (1 : Int) else (if w = 2 then (1 : Int) else (if w = 1 then (100 : Int) else (if w = 4 then (500 : Int) else 0)))) = qb_low w.toNat := by
    rcases h7 with e | e | e | e | e | e | e <;> subst e <;> decide
  have hhi : (if w = 0 then (72 : Int) else (if w = 1 then (1500 : Int) else (if w = 4 then (1500 : Int) else (if w = 3 then (50 : Int) else 100)))) = qb_high w.toNat := by
    rcases h7 with e | e | e | e | e | e | e <;> subst e <;> decide
  refine ⟨by omega, fun d => b_m_rule ⟨fun z => absurd z c, fun _ => ?_⟩, fun d => b_m_rule ⟨fun z => absurd z c, fun _ => ?_⟩⟩
  · rw [hlo, hhi]
    exact ⟨fun _ => hK _ hp hB kp.rf, fun z => absurd d z⟩
  · rw [hlo, hhi]
    refine ⟨fun z => absurd z d, fun _ => ⟨by omega, ?_⟩⟩
    have hv : qb_low w.toNat ≤ v ∧ v ≤ qb_high w.toNat := by
      rcases v_in_c (x := v) (a := qb_low w.toNat) (b := qb_high w.toNat) with z | z
      · exact absurd z.1 d
      · exact z.2
    have ev : qb_st hp 10 w v 67 w = hp 10 w := by rw [qb_st_ne (by decide)]; exact hB.2.2.2.2 w hw.1 (by omega)
    rw [ev]
    have e10 : ∀ i : Int, qb_st (qb_st hp 10 w v) 67 w v 10 i = if i = w then v else hp 10 i := fun i => by simp [qb_st]
    have e67 : ∀ i : Int, qb_st (qb_st hp 10 w v) 67 w v 67 i = if i = w then v else hp 67 i := fun i => by simp [qb_st]
    have ec : ∀ c : Nat, c ≠ 10 → c ≠ 67 → qb_st (qb_st hp 10 w v) 67 w v c = hp c := fun c c1 c2 => by rw [qb_st_ne c2, qb_st_ne c1]
    generalize qb_st (qb_st hp 10 w v) 67 w v = hq at e10 e67 ec ⊢
    have hL : qb_iL hq n := by
      obtain ⟨l1, l2, l3, l4, l5, l6, l7, l8⟩ := hB.1
      unfold qb_iL
      rw [ec 11 (by decide) (by decide), ec 12 (by decide) (by decide), ec 13 (by decide) (by decide), ec 14 (by decide) (by decide), ec 15 (by decide) (by decide), ec 16 (by decide) (by decide), ec 17 (by decide) (by decide), ec 21 (by decide) (by decide), ec 22 (by decide) (by decide)]
      refine ⟨l1, l2, l3, l4, l5, l6, l7, ?_⟩
      rw [e10, e10, e10, e10, e10, e10, e10]
      rcases h7 with e | e | e | e | e | e | e <;> subst e <;> simp [qb_low, qb_high] at hv ⊢ <;> omega
    refine hK _ hq (iB_65 hB hL (by rw [ec 60 (by decide) (by decide)]) (ec 68 (by decide) (by decide)) (fun c c1 c2 => ec c (by omega) (by omega)) (fun x x0 x1 => by rw [ec 65 (by decide) (by decide), ec 66 (by decide) (by decide), ec 21 (by decide) (by decide), ec 22 (by decide) (by decide)]; exact hB.2.2.2.1 x x0 x1) (fun j j0 j1 => ?_)) ⟨fun c hc c60 => ?_, fun j _ => by rw [ec 60 (by decide) (by decide)]⟩
    · rw [e10, e67]
      by_cases ex : j = w
      · rw [if_pos ex, if_pos ex]
      · rw [if_neg ex, if_neg ex]; exact hB.2.2.2.2 j j0 j1
    · have hn' : c ≠ 10 ∧ c ≠ 67 := by simpa using hc
      exact ec c hn'.1 hn'.2
theorem m_wait {hp : qb_H} {n : Nat} (hB : qb_iB hp n) : v_m_waiting hp = wr hp n := by rw [← wait_eq hB, la_wait hB]
theorem wr_put {hp hq : qb_H} {i q : Int} (h13 : ∀ k : Int, hq 13 k = if k = i then q else hp 13 k) : ∀ n : Nat, wr hq n = wr hp n + (if 0 ≤ i ∧ i < n then (if q = -1 then 1 else 0) - (if hp 13 i = -1 then 1 else 0) else 0) := by
  intro n
  induction n with
  | zero =>
    rw [if_neg (by omega)]; rfl
  | succ n ih =>
    have e1 : wr hq (n + 1) = wr hq n + (if hq 13 n = -1 then 1 else 0) := rfl
    have e2 : wr hp (n + 1) = wr hp n + (if hp 13 n = -1 then 1 else 0) := rfl
    rw [e1, e2, ih, h13]
    by_cases c : (n : Int) = i
    · rw [if_pos c, if_neg (show ¬ (0 ≤ i ∧ i < (n : Int)) by omega), if_pos (show 0 ≤ i ∧ i < ((n + 1 : Nat) : Int) by omega), c]
      omega
    · rw [if_neg c]
      by_cases d : 0 ≤ i ∧ i < (n : Int)
      · rw [if_pos d, if_pos (show 0 ≤ i ∧ i < ((n + 1 : Nat) : Int) by omega)]; omega
      · rw [if_neg d, if_neg (show ¬ (0 ≤ i ∧ i < ((n + 1 : Nat) : Int)) by omega)]; omega
theorem lead_ok (i q : Int) (hp : qb_H) {n : Nat} (K : Int → Int → qb_H → Prop) (hB : qb_iB hp n) (hw5 : wr hp n ≤ 5) (hK : ∀ (v : Int) (hq : qb_H), qb_iB hq n → wr hq n ≤ 5 → kp [13, 68] [] hp hq → K v v hq) : c_q_lead i q hp (fun v1 hp1 => c_m_lead i q hp1 (fun w1 hp2 => K v1 w1 hp2)) := by
  have hn := hB.1.1
  have hn9 := hB.2.1
  have hn30 := hB.1.2.1
  have hv : v_q_isLanding i hp = v_m_in i 0 ((hp 60 9) - 1) := by rw [hn9, ← hn]; rfl
  have hqn := qn_is q
  have g9 : qb_in ((hp 60 9) - 1) := by unfold qb_in; omega
  refine b_q_lead ⟨by unfold g_q_isLanding; unfold qb_in; omega, fun c => ?_, fun c => ?_⟩
  · rw [hv] at c
    exact b_m_lead ⟨g9, fun _ => hK _ hp hB hw5 kp.rf, fun z => absurd c z⟩
  rw [hv] at c
  have hi : 0 ≤ i ∧ i < n := by
    rcases v_in_c (x := i) (a := 0) (b := (hp 60 9) - 1) with z | z
    · exact absurd z.1 c
    · omega
  refine ⟨fun d => ?_, fun d => ?_⟩
  · rcases hqn with ⟨-, h2, h3⟩ | ⟨h1, -, -⟩
    · exact b_m_lead ⟨g9, fun z => absurd z c, fun _ => ⟨fun z => absurd z h2, fun _ => ⟨fun _ => hK _ hp hB hw5 kp.rf, fun z => absurd h3 z⟩⟩⟩
    · exact absurd d h1
  · have hq3 : (-1 ≤ q ∧ q ≤ 3) ∧ (q = -1 ∨ ¬ v_m_isQuay q = 0) := by
      rcases hqn with ⟨h1, -, -⟩ | ⟨-, h2, h3⟩
      · exact absurd h1 d
      · exact ⟨h2, h3⟩
    obtain ⟨f0, f1, f2, f3, f4⟩ := hB.2.2.1 i hi.1 hi.2
    have hr13 := (hB.1.2.2.2.1 i hi.1 hi.2).2.1
    have tailm : ∀ (hr : qb_H) (V : Int), hr 60 9 = hp 60 9 → (∀ y : Int, y = hr 68 (7 * i + 1) → (0 ≤ q → K V y (qb_st hr 68 ((7 * i) + 1) q)) ∧ (¬ 0 ≤ q → (y < 0 → K V y (qb_st hr 68 ((7 * i) + 1) q)) ∧ (¬ y < 0 → c_m_waiting hr (fun v336 hp336 => (v336 = 5 → K V (-5) hp336) ∧ (¬ v336 = 5 → K V y (qb_st hp336 68 ((7 * i) + 1) q)))))) → c_m_lead i q hr (fun w1 hp2 => K V w1 hp2) := by
      intro hr V e9 h
      refine b_m_lead ⟨by rw [e9]; exact g9, fun z => absurd z (by rw [e9]; exact c), fun _ => ⟨fun _ => ⟨by unfold qb_in; omega, by unfold qb_in; omega, by omega, h⟩, fun z => ⟨fun z2 => ?_, fun _ => ⟨by unfold qb_in; omega, by unfold qb_in; omega, by omega, h⟩⟩⟩⟩
      rcases hq3.2 with e | e
      · exact absurd e z
      · exact absurd z2 e
    have hset : (q = -1 → ¬ hp 13 i = -1 → wr hp n < 5) → K (hp 13 i) (hp 13 i) (qb_st (qb_st hp 13 i q) 68 (7 * i + 1) q) := by
      intro hlt
      have e13 : ∀ k : Int, qb_st (qb_st hp 13 i q) 68 (7 * i + 1) q 13 k = if k = i then q else hp 13 k := fun k => by simp [qb_st]
      have e68 : ∀ k : Int, qb_st (qb_st hp 13 i q) 68 (7 * i + 1) q 68 k = if k = 7 * i + 1 then q else hp 68 k := fun k => by simp [qb_st]
      have ec : ∀ c : Nat, c ≠ 13 → c ≠ 68 → qb_st (qb_st hp 13 i q) 68 (7 * i + 1) q c = hp c := fun c c1 c2 => by rw [qb_st_ne c2, qb_st_ne c1]
      generalize qb_st (qb_st hp 13 i q) 68 (7 * i + 1) q = hq at e13 e68 ec ⊢
      have hL : qb_iL hq n := by
        obtain ⟨l1, l2, l3, l4, l5, l6, l7, l8⟩ := hB.1
        unfold qb_iL
        rw [ec 10 (by decide) (by decide), ec 11 (by decide) (by decide), ec 12 (by decide) (by decide), ec 14 (by decide) (by decide), ec 15 (by decide) (by decide), ec 16 (by decide) (by decide), ec 17 (by decide) (by decide), ec 21 (by decide) (by decide), ec 22 (by decide) (by decide)]
        refine ⟨l1, l2, l3, fun k k0 k1 => ?_, l5, l6, l7, l8⟩
        obtain ⟨r1, r2, r3⟩ := l4 k k0 k1
        refine ⟨r1, ?_, r3⟩
        rw [e13]
        by_cases ex : k = i
        · rw [if_pos ex]; exact hq3.1
        · rw [if_neg ex]; exact r2
      refine hK _ hq ⟨hL, by rw [ec 60 (by decide) (by decide)]; exact hn9, fun k k0 k1 => ?_, ?_, ?_⟩ ?_ ⟨fun c hc c60 => ?_, fun j _ => by rw [ec 60 (by decide) (by decide)]⟩
      · obtain ⟨c0, c1, c2, c3, c4⟩ := hB.2.2.1 k k0 k1
        rw [e68, e68, e68, e68, e68, e13, ec 12 (by decide) (by decide), ec 14 (by decide) (by decide), ec 15 (by decide) (by decide), ec 16 (by decide) (by decide), if_neg (show ¬ 7 * k = 7 * i + 1 by omega), if_neg (show ¬ 7 * k + 2 = 7 * i + 1 by omega), if_neg (show ¬ 7 * k + 3 = 7 * i + 1 by omega), if_neg (show ¬ 7 * k + 4 = 7 * i + 1 by omega)]
        refine ⟨c0, ?_, c2, c3, c4⟩
        by_cases ex : k = i
        · rw [if_pos ex, if_pos (show 7 * k + 1 = 7 * i + 1 by omega)]
        · rw [if_neg ex, if_neg (show ¬ 7 * k + 1 = 7 * i + 1 by omega)]; exact c1
      · rw [ec 65 (by decide) (by decide), ec 66 (by decide) (by decide), ec 21 (by decide) (by decide), ec 22 (by decide) (by decide)]; exact hB.2.2.2.1
      · rw [ec 67 (by decide) (by decide), ec 10 (by decide) (by decide)]; exact hB.2.2.2.2
      · rw [wr_put e13, if_pos hi]
        by_cases e1 : q = -1
        · rw [if_pos e1]
          by_cases e2 : hp 13 i = -1
          · rw [if_pos e2]; omega
          · rw [if_neg e2]
            have := hlt e1 e2
            omega
        · rw [if_neg e1]
          split <;> omega
      · have hn' : c ≠ 13 ∧ c ≠ 68 := by simpa using hc
        exact ec c hn'.1 hn'.2
    have hm : ∀ (V : Int), V = hp 13 i → (q = -1 → ¬ hp 13 i = -1 → wr hp n < 5) → c_m_lead i q (qb_st hp 13 i q) (fun w1 hp2 => K V w1 hp2) := by
      intro V eV hlt
      have e60 : qb_st hp 13 i q 60 = hp 60 := qb_st_ne (by decide)
      have e68 : qb_st hp 13 i q 68 = hp 68 := qb_st_ne (by decide)
      refine tailm _ V (by rw [e60]) (fun y ey => ?_)
      rw [e68, f1] at ey
      rw [eV, ey]
      refine ⟨fun _ => hset hlt, fun z => ⟨fun _ => hset hlt, fun z2 => s_m_waiting _ _ ⟨by rw [e60]; omega, by rw [e60]; omega⟩ ?_⟩⟩
      have ew : v_m_waiting (qb_st hp 13 i q) = wr hp n := by
        rw [← m_wait hB]
        unfold v_m_waiting
        rw [e60, e68]
      have := hlt (by omega) (by omega)
      rw [ew]
      exact ⟨fun z3 => absurd z3 (by omega), fun _ => hset hlt⟩
    refine ⟨by omega, fun e1 => ⟨fun e2 => hm _ rfl (fun _ z => absurd e2 z), fun e2 => s_la_waiting hp _ ⟨by omega, by omega⟩ ?_⟩, fun e1 => hm _ rfl (fun z => absurd z e1)⟩
    rw [la_wait hB]
    refine ⟨fun z => hm _ rfl (fun _ _ => z), fun z => ?_⟩
    refine tailm hp _ rfl (fun y ey => ?_)
    rw [f1] at ey
    refine ⟨fun w => absurd w (by omega), fun _ => ⟨fun w => absurd w (by omega), fun _ => s_m_waiting hp _ ⟨by omega, by omega⟩ ?_⟩⟩
    rw [m_wait hB]
    exact ⟨fun _ => hK _ hp hB hw5 kp.rf, fun w => absurd (by omega) w⟩
/-- a number put into an order -/
theorem ins_sum {f g : Int → Int} {c : Int} {p : Nat} : ∀ n : Nat, p ≤ n → (∀ i : Nat, i < p → g i = f i) → g p = c → (∀ i : Nat, p ≤ i → i < n → g ((i : Int) + 1) = f i) → qb_sum g (n + 1) = qb_sum f n + c := by
  intro n
  induction n with
  | zero =>
    intro hp h1 h2 h3
    have : p = 0 := by omega
    subst this
    show qb_sum g 0 + g (0 : Nat) = qb_sum f 0 + c
    rw [h2]; rfl
  | succ n ih =>
    intro hp h1 h2 h3
    by_cases e : p = n + 1
    · subst e
      show qb_sum g (n + 1) + g ((n + 1 : Nat) : Int) = _
      rw [h2, qb_sum_cg (n + 1) (fun i hi => h1 i hi)]
    · have i := ih (by omega) h1 h2 (fun i h4 h5 => h3 i h4 (by omega))
      show qb_sum g (n + 1) + g ((n + 1 : Nat) : Int) = qb_sum f n + f n + c
      have := h3 n (by omega) (by omega)
      rw [i, Int.natCast_succ, this]
      omega
theorem la_add_ok {hp : qb_H} {n : Nat} (hL : qb_iL hp n) (hn29 : n < 30) {b q h f z : Int} (hb : 0 ≤ b ∧ b ≤ 9) (hq' : -1 ≤ q ∧ q ≤ 3) (hh : 0 ≤ h ∧ h ≤ 2000) (hf : 1 ≤ f ∧ f ≤ 20000) (hz : 1 ≤ z ∧ z ≤ 9) {K : Int → qb_H → Prop}
    (hK : ∀ hq : qb_H, (∀ c : Nat, c ≠ 11 → c ≠ 12 → c ≠ 13 → c ≠ 14 → c ≠ 15 → c ≠ 16 → c ≠ 17 → hq c = hp c) → qb_iL hq (n + 1) → (∀ k : Int, hq 12 k = if k = n then b else hp 12 k) → (∀ k : Int, hq 13 k = if k = n then q else hp 13 k) → (∀ k : Int, hq 14 k = if k = n then h else hp 14 k) → (∀ k : Int, hq 15 k = if k = n then f else hp 15 k) → (∀ k : Int, hq 16 k = if k = n then z else hp 16 k) → K n hq) : c_la_add b q h f z hp K := by
  have hn := hL.1
  obtain ⟨l1, l2, l3, l4, l5, l6, l7, l8⟩ := hL
  refine b_la_add ⟨by omega, ?_⟩
  rw [hn]
  have s12 : ∀ k : Int, qb_st (qb_st (qb_st (qb_st (qb_st hp 12 n b) 13 n q) 14 n h) 15 n f) 16 n z 12 k = if k = n then b else hp 12 k := fun k => by simp [qb_st]
  have s13 : ∀ k : Int, qb_st (qb_st (qb_st (qb_st (qb_st hp 12 n b) 13 n q) 14 n h) 15 n f) 16 n z 13 k = if k = n then q else hp 13 k := fun k => by simp [qb_st]
  have s14 : ∀ k : Int, qb_st (qb_st (qb_st (qb_st (qb_st hp 12 n b) 13 n q) 14 n h) 15 n f) 16 n z 14 k = if k = n then h else hp 14 k := fun k => by simp [qb_st]
  have s15 : ∀ k : Int, qb_st (qb_st (qb_st (qb_st (qb_st hp 12 n b) 13 n q) 14 n h) 15 n f) 16 n z 15 k = if k = n then f else hp 15 k := fun k => by simp [qb_st]
  have s16 : ∀ k : Int, qb_st (qb_st (qb_st (qb_st (qb_st hp 12 n b) 13 n q) 14 n h) 15 n f) 16 n z 16 k = if k = n then z else hp 16 k := fun k => by simp [qb_st]
  have sc : ∀ c : Nat, c ≠ 12 → c ≠ 13 → c ≠ 14 → c ≠ 15 → c ≠ 16 → qb_st (qb_st (qb_st (qb_st (qb_st hp 12 n b) 13 n q) 14 n h) 15 n f) 16 n z c = hp c := fun c c1 c2 c3 c4 c5 => by rw [qb_st_ne c5, qb_st_ne c4, qb_st_ne c3, qb_st_ne c2, qb_st_ne c1]
  generalize qb_st (qb_st (qb_st (qb_st (qb_st hp 12 n b) 13 n q) 14 n h) 15 n f) 16 n z = h1 at s12 s13 s14 s15 s16 sc ⊢
  have hfin : ∀ (p : Nat) (hs : qb_H), p ≤ n → (∀ c : Nat, c ≠ 17 → hs c = h1 c) → (∀ i : Nat, i < p → hs 17 i = hp 17 i) → (∀ i : Nat, p ≤ i → i < n → hs 17 ((i : Int) + 1) = hp 17 i) → (∀ i : Nat, p ≤ i → i < n → h < hp 14 (hp 17 i)) → (p = 0 ∨ hp 14 (hp 17 ((p : Int) - 1)) ≤ h) → K n (qb_st (qb_st hs 17 p n) 11 13 ((n : Int) + 1)) := by
    intro p hs hpn t1 t2 t3 t4 t5
    have u17 : ∀ i : Int, qb_st (qb_st hs 17 p n) 11 13 ((n : Int) + 1) 17 i = if i = p then (n : Int) else hs 17 i := fun i => by simp [qb_st]
    have u11 : qb_st (qb_st hs 17 p n) 11 13 ((n : Int) + 1) 11 13 = ((n + 1 : Nat) : Int) := by simp [qb_st]
    have uc : ∀ c : Nat, c ≠ 11 → c ≠ 17 → qb_st (qb_st hs 17 p n) 11 13 ((n : Int) + 1) c = h1 c := fun c c1 c2 => by rw [qb_st_ne c1, qb_st_ne c2]; exact t1 c c2
    generalize qb_st (qb_st hs 17 p n) 11 13 ((n : Int) + 1) = hu at u17 u11 uc ⊢
    have o1 : ∀ i : Nat, i < p → hu 17 i = hp 17 i := fun i hi => by rw [u17, if_neg (by omega)]; exact t2 i hi
    have o2 : hu 17 p = n := by rw [u17, if_pos rfl]
    have o3 : ∀ i : Nat, p ≤ i → i < n → hu 17 ((i : Int) + 1) = hp 17 i := fun i h4 h5 => by rw [u17, if_neg (by omega)]; exact t3 i h4 h5
    have v14 : ∀ k : Int, hu 14 k = if k = n then h else hp 14 k := fun k => by rw [uc 14 (by decide) (by decide)]; exact s14 k
    have vo : ∀ i : Nat, i < n → hu 14 (hp 17 i) = hp 14 (hp 17 i) := fun i hi => by
      have := l3 i hi
      rw [v14, if_neg (by omega)]
    have vn : hu 14 n = h := by rw [v14, if_pos rfl]
    have hmono : ∀ i j : Nat, i < j → j < n → hp 14 (hp 17 i) ≤ hp 14 (hp 17 j) := fun i j hij hj => by
      have := l5 i j hij hj; omega
    have hbef : ∀ i : Nat, i < p → hp 14 (hp 17 i) ≤ h := fun i hi => by
      have e : ((p - 1 : Nat) : Int) = (p : Int) - 1 := by omega
      rcases t5 with t5 | t5
      · omega
      · rw [← e] at t5
        by_cases c : i = p - 1
        · rw [c]; exact t5
        · have := hmono i (p - 1) (by omega) (by omega)
          omega
    refine hK hu (fun c c1 c2 c3 c4 c5 c6 c7 => by rw [uc c c1 c7]; exact sc c c2 c3 c4 c5 c6) ⟨u11, by omega, fun i hi => ?_, fun k k0 k1 => ?_, fun i j hij hj => ?_, fun F => ?_, ?_, ?_⟩ (fun k => by rw [uc 12 (by decide) (by decide)]; exact s12 k) (fun k => by rw [uc 13 (by decide) (by decide)]; exact s13 k) v14 (fun k => by rw [uc 15 (by decide) (by decide)]; exact s15 k) (fun k => by rw [uc 16 (by decide) (by decide)]; exact s16 k)
    · by_cases c1 : i < p
      · rw [o1 i c1]
        have := l3 i (by omega)
        omega
      · by_cases c2 : i = p
        · rw [c2, o2]; omega
        · have := o3 (i - 1) (by omega) (by omega)
          have e : ((i - 1 : Nat) : Int) + 1 = i := by omega
          rw [e] at this
          rw [this]
          have := l3 (i - 1) (by omega)
          omega
    · rw [uc 12 (by decide) (by decide), uc 13 (by decide) (by decide), uc 15 (by decide) (by decide), uc 16 (by decide) (by decide), v14, s12, s13, s15, s16]
      by_cases c : k = n
      · rw [if_pos c, if_pos c, if_pos c, if_pos c, if_pos c]; exact ⟨hb, hq', hh, hf, hz⟩
      · rw [if_neg c, if_neg c, if_neg c, if_neg c, if_neg c]; exact l4 k k0 (by omega)
    · have at' : ∀ i : Nat, i < n + 1 → (i < p ∧ hu 17 i = hp 17 i) ∨ (i = p ∧ hu 17 i = n) ∨ (p < i ∧ hu 17 i = hp 17 ((i - 1 : Nat) : Int)) := by
        intro i hi
        by_cases c1 : i < p
        · exact Or.inl ⟨c1, o1 i c1⟩
        · by_cases c2 : i = p
          · exact Or.inr (Or.inl ⟨c2, by rw [c2]; exact o2⟩)
          · have := o3 (i - 1) (by omega) (by omega)
            have e : ((i - 1 : Nat) : Int) + 1 = i := by omega
            rw [e] at this
            exact Or.inr (Or.inr ⟨by omega, this⟩)
      rcases at' i (by omega) with ⟨a1, a2⟩ | ⟨a1, a2⟩ | ⟨a1, a2⟩ <;> rcases at' j hj with ⟨b1, b2⟩ | ⟨b1, b2⟩ | ⟨b1, b2⟩
      · rw [a2, b2, vo i (by omega), vo j (by omega)]; exact l5 i j hij (by omega)
      · rw [a2, b2, vo i (by omega), vn]
        have := hbef i a1
        have := l3 i (by omega)
        omega
      · rw [a2, b2, vo i (by omega), vo (j - 1) (by omega)]; exact l5 i (j - 1) (by omega) (by omega)
      · omega
      · omega
      · rw [a2, b2, vn, vo (j - 1) (by omega)]
        have := t4 (j - 1) (by omega) (by omega)
        exact Or.inl this
      · omega
      · omega
      · rw [a2, b2, vo (i - 1) (by omega), vo (j - 1) (by omega)]; exact l5 (i - 1) (j - 1) (by omega) (by omega)
    · have := ins_sum (f := fun i => F (hp 17 i)) (g := fun i => F (hu 17 i)) (c := F n) (p := p) n hpn (fun i hi => by show F _ = F _; rw [o1 i hi]) (by show F _ = F _; rw [o2]) (fun i h4 h5 => by show F _ = F _; rw [o3 i h4 h5])
      rw [this, l6 F]
      rfl
    · rw [uc 21 (by decide) (by decide), uc 22 (by decide) (by decide), sc 21 (by decide) (by decide) (by decide) (by decide) (by decide), sc 22 (by decide) (by decide) (by decide) (by decide) (by decide)]; exact l7
    · rw [uc 10 (by decide) (by decide), sc 10 (by decide) (by decide) (by decide) (by decide) (by decide)]; exact l8
  have key : ∀ (p : Nat) (hs : qb_H), p ≤ n → (∀ c : Nat, c ≠ 17 → hs c = h1 c) → (∀ i : Nat, i < p → hs 17 i = hp 17 i) → (∀ i : Nat, p ≤ i → i < n → hs 17 ((i : Int) + 1) = hp 17 i) → (∀ i : Nat, p ≤ i → i < n → h < hp 14 (hp 17 i)) → r_la_add_52 h n p hs K := by
    intro p
    induction p with
    | zero =>
      intro hs hpn t1 t2 t3 t4
      have e11 : hs 11 13 = n := by rw [t1 11 (by decide), sc 11 (by decide) (by decide) (by decide) (by decide) (by decide)]; exact hn
      refine b_la_add_52 ⟨fun _ => ?_, fun c => absurd (by decide) c⟩
      rw [e11]
      exact ⟨by omega, by unfold qb_in; omega, hfin 0 hs hpn t1 t2 t3 t4 (Or.inl rfl)⟩
    | succ p ih =>
      intro hs hpn t1 t2 t3 t4
      have e11 : hs 11 13 = n := by rw [t1 11 (by decide), sc 11 (by decide) (by decide) (by decide) (by decide) (by decide)]; exact hn
      have e0 : ((p + 1 : Nat) : Int) - 1 = p := by omega
      have e17 : hs 17 (p : Int) = hp 17 p := t2 p (by omega)
      have hr := l3 p (by omega)
      have e14 : hs 14 (hp 17 p) = hp 14 (hp 17 p) := by rw [t1 14 (by decide), s14, if_neg (by omega)]
      refine b_la_add_52 ⟨fun c => absurd c (by omega), fun _ => ?_⟩
      rw [e0, e17, e14, e11]
      refine ⟨by unfold qb_in; omega, by omega, by omega, fun c => ⟨by omega, by unfold qb_in; omega, hfin (p + 1) hs hpn t1 t2 t3 t4 (Or.inr (by rw [e0]; exact c))⟩, fun c => ⟨by omega, ?_⟩⟩
      have e1 : ((p + 1 : Nat) : Int) + (-1) = p := by omega
      rw [e1]
      refine ih _ (by omega) (fun cz hcz => by rw [qb_st_ne hcz]; exact t1 cz hcz) (fun i hi => ?_) (fun i h4 h5 => ?_) (fun i h4 h5 => ?_)
      · have : ¬ (i : Int) = ((p + 1 : Nat) : Int) := by omega
        rw [st_at, if_neg this]; exact t2 i (by omega)
      · by_cases e : i = p
        · rw [e, st_at, if_pos (by omega)]
        · have : ¬ (i : Int) + 1 = ((p + 1 : Nat) : Int) := by omega
          rw [st_at, if_neg this]; exact t3 i (by omega) h5
      · by_cases e : i = p
        · rw [e]; omega
        · exact t4 i (by omega) h5
  exact key n h1 (Nat.le_refl n) (fun _ _ => rfl) (fun i _ => by rw [sc 17 (by decide) (by decide) (by decide) (by decide) (by decide)]) (fun i h4 h5 => by omega) (fun i h4 h5 => by omega)
theorem land_ok (b q h f z : Int) (hp : qb_H) {n : Nat} (K : Int → Int → qb_H → Prop) (hB : qb_iB hp n) (hw5 : wr hp n ≤ 5) (hK : ∀ (v : Int) (hq : qb_H) (m : Nat), qb_iB hq m → wr hq m ≤ 5 → kp [11, 12, 13, 14, 15, 16, 17, 68] [9] hp hq → K v v hq) : c_q_land b q h f z hp (fun v1 hp1 => c_m_land b q h f z hp1 (fun w1 hp2 => K v1 w1 hp2)) := by
  have hn := hB.1.1
  have hn9 := hB.2.1
  have hn30 := hB.1.2.1
  have hqn := qn_is q
  refine b_q_land ⟨fun c => b_m_land ⟨fun _ => hK _ hp n hB hw5 kp.rf, fun y => absurd c y⟩, fun c => ⟨fun d => ?_, fun d => ?_⟩⟩
  · rcases hqn with ⟨-, h2, h3⟩ | ⟨h1, -, -⟩
    · exact b_m_land ⟨fun y => absurd y c, fun _ => ⟨fun y => absurd y h2, fun _ => ⟨fun _ => hK _ hp n hB hw5 kp.rf, fun y => absurd h3 y⟩⟩⟩
    · exact absurd d h1
  have hq3 : (-1 ≤ q ∧ q ≤ 3) ∧ (q = -1 ∨ ¬ v_m_isQuay q = 0) := by
    rcases hqn with ⟨h1, -, -⟩ | ⟨-, h2, h3⟩
    · exact absurd h1 d
    · exact ⟨h2, h3⟩
  have hb : 0 ≤ b ∧ b ≤ 9 := by
    rcases v_in_c (x := b) (a := 0) (b := 9) with y | y
    · exact absurd y.1 c
    · exact y.2
  -- the reference, whatever the quay is
  have tailm : ∀ (hr : qb_H) (V : Int), ((v_m_isHour h) = 0 → K V (-2) hr) → (¬ (v_m_isHour h) = 0 → (v_m_in f 1 20000) = 0 → K V (-2) hr) → (¬ (v_m_isHour h) = 0 → ¬ (v_m_in f 1 20000) = 0 → (v_m_in z 1 9) = 0 → K V (-2) hr) →
      (¬ (v_m_isHour h) = 0 → ¬ (v_m_in f 1 20000) = 0 → ¬ (v_m_in z 1 9) = 0 → hr 60 9 = 30 → K V (-4) hr) →
      (¬ (v_m_isHour h) = 0 → ¬ (v_m_in f 1 20000) = 0 → ¬ (v_m_in z 1 9) = 0 → ¬ hr 60 9 = 30 → (0 ≤ hr 60 9 ∧ hr 60 9 ≤ 30) ∧ (q < 0 → v_m_waiting hr = 5 → K V (-5) hr) ∧ ((q < 0 → ¬ v_m_waiting hr = 5) → K V (hr 60 9) (qb_st (qb_st (qb_st (qb_st (qb_st (qb_st hr 68 (7 * hr 60 9) b) 68 (7 * hr 60 9 + 1) q) 68 (7 * hr 60 9 + 2) h) 68 (7 * hr 60 9 + 3) f) 68 (7 * hr 60 9 + 4) z) 60 9 (hr 60 9 + 1)))) → c_m_land b q h f z hr (fun w1 hp2 => K V w1 hp2) := by
    intro hr V t1 t2 t3 t4 t5
    have put : ¬ (v_m_isHour h) = 0 → ¬ (v_m_in f 1 20000) = 0 → ¬ (v_m_in z 1 9) = 0 → ¬ hr 60 9 = 30 → (q < 0 → ¬ v_m_waiting hr = 5) → ((qb_in (7 * (hr 60 9))) ∧ (∀ (y321 : Int), y321 = (7 * (hr 60 9)) → (0 ≤ y321 ∧ y321 < 210) ∧ (0 ≤ (y321 + 1) ∧ (y321 + 1) < 210) ∧ (0 ≤ (y321 + 2) ∧ (y321 + 2) < 210) ∧ (0 ≤ (y321 + 3) ∧ (y321 + 3) < 210) ∧ (0 ≤ (y321 + 4) ∧ (y321 + 4) < 210) ∧ (qb_in ((hr 60 9) + 1)) ∧ (qb_in (((hr 60 9) + 1) - 1)) ∧ K V (((hr 60 9) + 1) - 1) (qb_st (qb_st (qb_st (qb_st (qb_st (qb_st hr 68 y321 b) 68 (y321 + 1) q) 68 (y321 + 2) h) 68 (y321 + 3) f) 68 (y321 + 4) z) 60 9 ((hr 60 9) + 1)))) := by
      intro a1 a2 a3 a4 a5
      obtain ⟨g1, -, g2⟩ := t5 a1 a2 a3 a4
      have e1 : hr 60 9 + 1 - 1 = hr 60 9 := by omega
      refine ⟨by unfold qb_in; omega, fun y ey => ?_⟩
      rw [ey, e1]
      exact ⟨by omega, by omega, by omega, by omega, by omega, by unfold qb_in; omega, by unfold qb_in; omega, g2 a5⟩
    have wt' : ¬ (v_m_isHour h) = 0 → ¬ (v_m_in f 1 20000) = 0 → ¬ (v_m_in z 1 9) = 0 → ¬ hr 60 9 = 30 → ¬ 0 ≤ q → c_m_waiting hr (fun v322 hp322 => (v322 = 5 → K V (-5) hp322) ∧ (¬ v322 = 5 → (qb_in (7 * (hp322 60 9))) ∧ (∀ (y323 : Int), y323 = (7 * (hp322 60 9)) → (0 ≤ y323 ∧ y323 < 210) ∧ (0 ≤ (y323 + 1) ∧ (y323 + 1) < 210) ∧ (0 ≤ (y323 + 2) ∧ (y323 + 2) < 210) ∧ (0 ≤ (y323 + 3) ∧ (y323 + 3) < 210) ∧ (0 ≤ (y323 + 4) ∧ (y323 + 4) < 210) ∧ (qb_in ((hp322 60 9) + 1)) ∧ (qb_in (((hp322 60 9) + 1) - 1)) ∧ K V (((hp322 60 9) + 1) - 1) (qb_st (qb_st (qb_st (qb_st (qb_st (qb_st hp322 68 y323 b) 68 (y323 + 1) q) 68 (y323 + 2) h) 68 (y323 + 3) f) 68 (y323 + 4) z) 60 9 ((hp322 60 9) + 1))))) := by
      intro a1 a2 a3 a4 a5
      obtain ⟨g1, g2, -⟩ := t5 a1 a2 a3 a4
      exact s_m_waiting hr _ g1 ⟨fun e => g2 (by omega) e, fun e => put a1 a2 a3 a4 (fun _ => e)⟩
    refine b_m_land ⟨fun y => absurd y c, fun _ => ⟨fun _ => ⟨t1, fun a1 => ⟨t2 a1, fun a2 => ⟨t3 a1 a2, fun a3 => ⟨t4 a1 a2 a3, fun a4 => ⟨fun a5 => put a1 a2 a3 a4 (fun w => absurd a5 (by omega)), fun a5 => wt' a1 a2 a3 a4 a5⟩⟩⟩⟩⟩, fun y => ⟨fun y2 => ?_, fun _ => ⟨t1, fun a1 => ⟨t2 a1, fun a2 => ⟨t3 a1 a2, fun a3 => ⟨t4 a1 a2 a3, fun a4 => ⟨fun a5 => put a1 a2 a3 a4 (fun w => absurd a5 (by omega)), fun a5 => wt' a1 a2 a3 a4 a5⟩⟩⟩⟩⟩⟩⟩⟩
    rcases hq3.2 with e | e
    · exact absurd e y
    · exact absurd y2 e
  refine ⟨fun e1 => tailm hp _ (fun _ => hK _ hp n hB hw5 kp.rf) (fun y => absurd e1 y) (fun y => absurd e1 y) (fun y => absurd e1 y) (fun y => absurd e1 y), fun e1 => ⟨fun e2 => tailm hp _ (fun y => absurd y e1) (fun _ _ => hK _ hp n hB hw5 kp.rf) (fun _ y => absurd e2 y) (fun _ y => absurd e2 y) (fun _ y => absurd e2 y), fun e2 => ⟨fun e3 => tailm hp _ (fun y => absurd y e1) (fun _ y => absurd y e2) (fun _ _ _ => hK _ hp n hB hw5 kp.rf) (fun _ _ y => absurd e3 y) (fun _ _ y => absurd e3 y), fun e3 => ?_⟩⟩⟩
  have hh : 0 ≤ h ∧ h ≤ 2000 := by
    rcases v_in_c (x := h) (a := 0) (b := 2000) with y | y
    · exact absurd y.1 e1
    · exact y.2
  have hf : 1 ≤ f ∧ f ≤ 20000 := by
    rcases v_in_c (x := f) (a := 1) (b := 20000) with y | y
    · exact absurd y.1 e2
    · exact y.2
  have hz : 1 ≤ z ∧ z ≤ 9 := by
    rcases v_in_c (x := z) (a := 1) (b := 9) with y | y
    · exact absurd y.1 e3
    · exact y.2
  have add : n < 30 → (q = -1 → wr hp n < 5) → c_la_add b q h f z hp (fun v1 hp1 => c_m_land b q h f z hp1 (fun w1 hp2 => K v1 w1 hp2)) := by
    intro hn29 hlt
    refine la_add_ok hB.1 hn29 hb hq3.1 hh hf hz (fun hr r1 r2 r12 r13 r14 r15 r16 => ?_)
    have e60 : hr 60 = hp 60 := r1 60 (by decide) (by decide) (by decide) (by decide) (by decide) (by decide) (by decide)
    have e68 : hr 68 = hp 68 := r1 68 (by decide) (by decide) (by decide) (by decide) (by decide) (by decide) (by decide)
    have ew : v_m_waiting hr = wr hp n := by
      rw [← m_wait hB]
      unfold v_m_waiting
      rw [e60, e68]
    refine tailm hr _ (fun y => absurd y e1) (fun _ y => absurd y e2) (fun _ _ y => absurd y e3) (fun _ _ _ y => absurd y (by rw [e60]; omega)) (fun _ _ _ _ => ⟨by rw [e60]; omega, fun y1 y2 => ?_, fun _ => ?_⟩)
    · have := hlt (by omega)
      rw [ew] at y2; omega
    · rw [e60, hn9]
      have k68 : ∀ k : Int, qb_st (qb_st (qb_st (qb_st (qb_st (qb_st hr 68 (7 * (n : Int)) b) 68 (7 * (n : Int) + 1) q) 68 (7 * (n : Int) + 2) h) 68 (7 * (n : Int) + 3) f) 68 (7 * (n : Int) + 4) z) 60 9 ((n : Int) + 1) 68 k = if k = 7 * (n : Int) + 4 then z else if k = 7 * (n : Int) + 3 then f else if k = 7 * (n : Int) + 2 then h else if k = 7 * (n : Int) + 1 then q else if k = 7 * (n : Int) then b else hp 68 k := fun k => by rw [← e68]; simp [qb_st]
      have k9 : qb_st (qb_st (qb_st (qb_st (qb_st (qb_st hr 68 (7 * (n : Int)) b) 68 (7 * (n : Int) + 1) q) 68 (7 * (n : Int) + 2) h) 68 (7 * (n : Int) + 3) f) 68 (7 * (n : Int) + 4) z) 60 9 ((n : Int) + 1) 60 9 = ((n + 1 : Nat) : Int) := by simp [qb_st]
      have k60 : ∀ j : Int, j ≠ 9 → qb_st (qb_st (qb_st (qb_st (qb_st (qb_st hr 68 (7 * (n : Int)) b) 68 (7 * (n : Int) + 1) q) 68 (7 * (n : Int) + 2) h) 68 (7 * (n : Int) + 3) f) 68 (7 * (n : Int) + 4) z) 60 9 ((n : Int) + 1) 60 j = hp 60 j := fun j hj => by rw [← e60]; simp [qb_st, hj]
      have kc : ∀ c : Nat, c ≠ 60 → c ≠ 68 → qb_st (qb_st (qb_st (qb_st (qb_st (qb_st hr 68 (7 * (n : Int)) b) 68 (7 * (n : Int) + 1) q) 68 (7 * (n : Int) + 2) h) 68 (7 * (n : Int) + 3) f) 68 (7 * (n : Int) + 4) z) 60 9 ((n : Int) + 1) c = hr c := fun c c1 c2 => by rw [qb_st_ne c1, qb_st_ne c2, qb_st_ne c2, qb_st_ne c2, qb_st_ne c2, qb_st_ne c2]
      generalize qb_st (qb_st (qb_st (qb_st (qb_st (qb_st hr 68 (7 * (n : Int)) b) 68 (7 * (n : Int) + 1) q) 68 (7 * (n : Int) + 2) h) 68 (7 * (n : Int) + 3) f) 68 (7 * (n : Int) + 4) z) 60 9 ((n : Int) + 1) = hu at k68 k9 k60 kc ⊢
      have hLu : qb_iL hu (n + 1) := by
        unfold qb_iL at r2 ⊢
        rw [kc 10 (by decide) (by decide), kc 11 (by decide) (by decide), kc 12 (by decide) (by decide), kc 13 (by decide) (by decide), kc 14 (by decide) (by decide), kc 15 (by decide) (by decide), kc 16 (by decide) (by decide), kc 17 (by decide) (by decide), kc 21 (by decide) (by decide), kc 22 (by decide) (by decide)]
        exact r2
      have u13 : ∀ k : Int, hu 13 k = if k = (n : Int) then q else hp 13 k := fun k => by rw [kc 13 (by decide) (by decide)]; exact r13 k
      refine hK _ hu (n + 1) ⟨hLu, k9, fun k k0 k1 => ?_, fun x x0 x1 => ?_, fun x x0 x1 => ?_⟩ ?_ ⟨fun c hc c60 => ?_, fun j hj => ?_⟩
      · rw [kc 12 (by decide) (by decide), kc 14 (by decide) (by decide), kc 15 (by decide) (by decide), kc 16 (by decide) (by decide), u13, r12, r14, r15, r16, k68, k68, k68, k68, k68]
        by_cases e : k = n
        · rw [e, if_pos rfl, if_pos rfl, if_pos rfl, if_pos rfl, if_pos rfl, if_neg (by omega), if_neg (by omega), if_neg (by omega), if_neg (by omega), if_pos rfl, if_neg (by omega), if_neg (by omega), if_neg (by omega), if_pos rfl, if_neg (by omega), if_neg (by omega), if_pos rfl, if_neg (by omega), if_pos rfl, if_pos rfl]
          exact ⟨rfl, rfl, rfl, rfl, rfl⟩
        · rw [if_neg e, if_neg e, if_neg e, if_neg e, if_neg e, if_neg (by omega), if_neg (by omega), if_neg (by omega), if_neg (by omega), if_neg (by omega), if_neg (by omega), if_neg (by omega), if_neg (by omega), if_neg (by omega), if_neg (by omega), if_neg (by omega), if_neg (by omega), if_neg (by omega), if_neg (by omega), if_neg (by omega), if_neg (by omega), if_neg (by omega), if_neg (by omega), if_neg (by omega), if_neg (by omega), if_neg (by omega), if_neg (by omega), if_neg (by omega), if_neg (by omega), if_neg (by omega)]
          exact hB.2.2.1 k k0 (by omega)
      · rw [kc 65 (by decide) (by decide), kc 66 (by decide) (by decide), kc 21 (by decide) (by decide), kc 22 (by decide) (by decide), r1 65 (by decide) (by decide) (by decide) (by decide) (by decide) (by decide) (by decide), r1 66 (by decide) (by decide) (by decide) (by decide) (by decide) (by decide) (by decide), r1 21 (by decide) (by decide) (by decide) (by decide) (by decide) (by decide) (by decide), r1 22 (by decide) (by decide) (by decide) (by decide) (by decide) (by decide) (by decide)]
        exact hB.2.2.2.1 x x0 x1
      · rw [kc 67 (by decide) (by decide), kc 10 (by decide) (by decide), r1 67 (by decide) (by decide) (by decide) (by decide) (by decide) (by decide) (by decide), r1 10 (by decide) (by decide) (by decide) (by decide) (by decide) (by decide) (by decide)]
        exact hB.2.2.2.2 x x0 x1
      · have e1 : wr hu (n + 1) = wr hu n + (if hu 13 n = -1 then 1 else 0) := rfl
        have e2 := wr_put u13 n
        rw [if_neg (by omega)] at e2
        rw [e1, e2, u13, if_pos rfl]
        by_cases e : q = -1
        · have := hlt e
          rw [if_pos e]; omega
        · rw [if_neg e]; omega
      · have hn' : c ≠ 11 ∧ c ≠ 12 ∧ c ≠ 13 ∧ c ≠ 14 ∧ c ≠ 15 ∧ c ≠ 16 ∧ c ≠ 17 ∧ c ≠ 68 := by simpa using hc
        obtain ⟨n1, n2, n3, n4, n5, n6, n7, n8⟩ := hn'
        rw [kc c c60 n8, r1 c n1 n2 n3 n4 n5 n6 n7]
      · have hn' : j ≠ 9 := by simpa using hj
        exact k60 j hn'
  refine ⟨fun e4 => ⟨fun e5 => s_la_waiting hp _ ⟨by omega, by omega⟩ ?_, fun e5 => add (by omega) (fun y => absurd y e5)⟩, fun e4 => tailm hp _ (fun y => absurd y e1) (fun _ y => absurd y e2) (fun _ _ y => absurd y e3) (fun _ _ _ _ => hK _ hp n hB hw5 kp.rf) (fun _ _ _ y => absurd (by omega) y)⟩
  rw [la_wait hB]
  refine ⟨fun y => add (by omega) (fun _ => y), fun y => tailm hp _ (fun y => absurd y e1) (fun _ y => absurd y e2) (fun _ _ y => absurd y e3) (fun _ _ _ y => absurd y (by omega)) (fun _ _ _ _ => ⟨by omega, fun _ _ => hK _ hp n hB hw5 kp.rf, fun w => absurd ?_ (w (by omega))⟩)⟩
  rw [m_wait hB]; omega
