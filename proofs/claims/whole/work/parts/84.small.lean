/-! SAY, WIPE, FAULT, SALT, ENGAGE, FREE, PRICE, SHIP -/
theorem kp_of {cs : List Nat} {fs : List Int} {hp hq : qb_H} (h1 : ∀ c : Nat, c ∉ cs → c ≠ 60 → hq c = hp c) (h2 : ∀ j : Int, j ∉ fs → hq 60 j = hp 60 j) : kp cs fs hp hq := ⟨h1, h2⟩
theorem say_ok (x : Int) (hp : qb_H) (K : Int → Int → qb_H → Prop) (hD : qb_iD hp) (hK : ∀ (v : Int) (hq : qb_H), qb_iD hq → kp [1, 2, 61] [0] hp hq → K v v hq) : c_q_say x hp (fun v hp1 => c_m_say x hp1 (fun w hp2 => K v w hp2)) := by
  have hD2 := hD
  obtain ⟨d1, d2, d3⟩ := hD
  refine b_q_say ⟨fun c => b_m_say ⟨fun _ => hK _ hp hD2 kp.rf, fun z => absurd c z⟩, fun c => ⟨fun f => ⟨by unfold g_dr_add; omega, ?_⟩, fun f => b_m_say ⟨fun z => absurd z c, fun _ => ⟨fun _ => hK _ hp hD2 kp.rf, fun z => absurd (by omega) z⟩⟩⟩⟩
  have hx : 33 ≤ x ∧ x ≤ 126 := by
    rcases v_in_c (x := x) (a := 33) (b := 126) with z | z
    · exact absurd z.1 c
    · exact z.2
  unfold v_dr_add h_dr_add
  rw [d1]
  obtain ⟨n, hn⟩ : ∃ n : Int, hp 60 0 = n := ⟨_, rfl⟩
  rw [d1] at f
  rw [hn] at d1 d2 d3 f ⊢
  have e60 : qb_st (qb_st hp 2 n x) 1 1 (n + 1) 60 0 = n := by rw [qb_st_ne (by decide), qb_st_ne (by decide)]; exact hn
  refine b_m_say ⟨fun z => absurd z c, fun _ => ⟨fun z => absurd z (by rw [e60]; omega), fun _ => ?_⟩⟩
  rw [e60]
  refine ⟨by omega, ?_⟩
  have f1 : qb_st (qb_st (qb_st (qb_st hp 2 n x) 1 1 (n + 1)) 61 n x) 60 0 (n + 1) 1 1 = n + 1 := by simp [qb_st]
  have f0 : qb_st (qb_st (qb_st (qb_st hp 2 n x) 1 1 (n + 1)) 61 n x) 60 0 (n + 1) 60 0 = n + 1 := by simp [qb_st]
  have f2 : ∀ i : Int, qb_st (qb_st (qb_st (qb_st hp 2 n x) 1 1 (n + 1)) 61 n x) 60 0 (n + 1) 2 i = if i = n then x else hp 2 i := fun i => by simp [qb_st]
  have f61 : ∀ i : Int, qb_st (qb_st (qb_st (qb_st hp 2 n x) 1 1 (n + 1)) 61 n x) 60 0 (n + 1) 61 i = if i = n then x else hp 61 i := fun i => by simp [qb_st]
  refine hK _ _ ⟨by rw [f1, f0], by rw [f0]; omega, fun k k0 k1 => ?_⟩ ⟨fun c hc c60 => ?_, fun j hj => ?_⟩
  · rw [f0] at k1
    rw [f2, f61]
    by_cases e : k = n
    · rw [if_pos e, if_pos e]; exact ⟨rfl, hx⟩
    · rw [if_neg e, if_neg e]; exact d3 k k0 (by omega)
  · have hn' : c ≠ 1 ∧ c ≠ 2 ∧ c ≠ 61 := by simpa using hc
    rw [qb_st_ne c60, qb_st_ne hn'.2.2, qb_st_ne hn'.1, qb_st_ne hn'.2.1]
  · have hn' : j ≠ 0 := by simpa using hj
    simp [qb_st, hn']
theorem wipe_ok (hp : qb_H) (K : Int → Int → qb_H → Prop) (hD : qb_iD hp) (hK : ∀ (v : Int) (hq : qb_H), qb_iD hq → kp [1, 2, 61] [0] hp hq → K v v hq) : c_q_wipe hp (fun v hp1 => c_m_wipe hp1 (fun w hp2 => K v w hp2)) := by
  obtain ⟨d1, d2, d3⟩ := hD
  refine b_q_wipe (b_m_wipe ?_)
  unfold v_dr_clear h_dr_clear
  have e60 : qb_st hp 1 1 0 60 0 = hp 1 1 := by rw [qb_st_ne (by decide), d1]
  rw [e60]
  have f0 : qb_st (qb_st hp 1 1 0) 60 0 0 60 0 = 0 := by simp [qb_st]
  have f1 : qb_st (qb_st hp 1 1 0) 60 0 0 1 1 = 0 := by simp [qb_st]
  refine hK _ _ ⟨by rw [f1, f0], by rw [f0]; decide, fun k k0 k1 => by rw [f0] at k1; omega⟩ ⟨fun c hc c60 => ?_, fun j hj => ?_⟩
  · have hn' : c ≠ 1 ∧ c ≠ 2 ∧ c ≠ 61 := by simpa using hc
    rw [qb_st_ne c60, qb_st_ne hn'.1]
  · have hn' : j ≠ 0 := by simpa using hj
    simp [qb_st, hn']
theorem fault_ok (hp : qb_H) (K : Int → Int → qb_H → Prop) (hD : qb_iD hp) (hK : ∀ v : Int, K v v hp) : c_q_fault hp (fun v hp1 => c_m_fault hp1 (fun w hp2 => K v w hp2)) :=
  b_q_fault (s_dr_firstFault hp _ hD (b_m_fault (s_m_faultOf hp _ hD (hK _))))
theorem grade_ok (day i : Int) (hp : qb_H) (K : Int → Int → qb_H → Prop) (hA : qb_iA hp) (hK : ∀ v : Int, K v v hp) : c_q_grade day i hp (fun v hp1 => c_m_grade day i hp1 (fun w hp2 => K v w hp2)) :=
  s_q_grade day i hp _ hA (s_m_grade day i hp _ hA (hK _))
theorem salt_ok (q hour lot much : Int) (hp : qb_H) (K : Int → Int → qb_H → Prop) (hS : qb_iS hp) (hK : ∀ (v : Int) (hq : qb_H), qb_iS hq → kp [26, 27, 28, 29, 30, 69] [11] hp hq → K v v hq) : c_q_salt q hour lot much hp (fun v hp1 => c_m_salt q hour lot much hp1 (fun w hp2 => K v w hp2)) := by
  have hS2 := hS
  obtain ⟨d1, d2, d3⟩ := hS
  refine b_q_salt ⟨fun c => b_m_salt ⟨fun _ => hK _ hp hS2 kp.rf, fun z => absurd c z⟩, fun c => ⟨fun d => b_m_salt ⟨fun z => absurd z c, fun _ => ⟨fun _ => hK _ hp hS2 kp.rf, fun z => absurd d z⟩⟩, fun d => ⟨fun e => b_m_salt ⟨fun z => absurd z c, fun _ => ⟨fun z => absurd z d, fun _ => ⟨fun _ => hK _ hp hS2 kp.rf, fun z => absurd e z⟩⟩⟩, fun e => ⟨fun g => b_m_salt ⟨fun z => absurd z c, fun _ => ⟨fun z => absurd z d, fun _ => ⟨fun z => absurd z e, fun _ => ⟨fun _ => hK _ hp hS2 kp.rf, fun z => absurd g z⟩⟩⟩⟩, fun g => ⟨fun f => ⟨by unfold g_sa_add; omega, ?_⟩, fun f => b_m_salt ⟨fun z => absurd z c, fun _ => ⟨fun z => absurd z d, fun _ => ⟨fun z => absurd z e, fun _ => ⟨fun z => absurd z g, fun _ => ⟨fun _ => hK _ hp hS2 kp.rf, fun z => absurd (by omega) z⟩⟩⟩⟩⟩⟩⟩⟩⟩⟩
  unfold v_sa_add h_sa_add
  rw [d1]
  obtain ⟨n, hn⟩ : ∃ n : Int, hp 60 11 = n := ⟨_, rfl⟩
  rw [d1] at f
  rw [hn] at d1 d2 d3 f ⊢
  have ec : ∀ c : Nat, c ≠ 26 → c ≠ 27 → c ≠ 28 → c ≠ 29 → c ≠ 30 → qb_st (qb_st (qb_st (qb_st (qb_st hp 27 n q) 28 n hour) 29 n lot) 30 n much) 26 4 (n + 1) c = hp c := fun c c1 c2 c3 c4 c5 => by rw [qb_st_ne c1, qb_st_ne c5, qb_st_ne c4, qb_st_ne c3, qb_st_ne c2]
  have g26 : qb_st (qb_st (qb_st (qb_st (qb_st hp 27 n q) 28 n hour) 29 n lot) 30 n much) 26 4 (n + 1) 26 4 = n + 1 := by simp [qb_st]
  have g27 : ∀ i : Int, qb_st (qb_st (qb_st (qb_st (qb_st hp 27 n q) 28 n hour) 29 n lot) 30 n much) 26 4 (n + 1) 27 i = if i = n then q else hp 27 i := fun i => by simp [qb_st]
  have g28 : ∀ i : Int, qb_st (qb_st (qb_st (qb_st (qb_st hp 27 n q) 28 n hour) 29 n lot) 30 n much) 26 4 (n + 1) 28 i = if i = n then hour else hp 28 i := fun i => by simp [qb_st]
  have g29 : ∀ i : Int, qb_st (qb_st (qb_st (qb_st (qb_st hp 27 n q) 28 n hour) 29 n lot) 30 n much) 26 4 (n + 1) 29 i = if i = n then lot else hp 29 i := fun i => by simp [qb_st]
  have g30 : ∀ i : Int, qb_st (qb_st (qb_st (qb_st (qb_st hp 27 n q) 28 n hour) 29 n lot) 30 n much) 26 4 (n + 1) 30 i = if i = n then much else hp 30 i := fun i => by simp [qb_st]
  generalize qb_st (qb_st (qb_st (qb_st (qb_st hp 27 n q) 28 n hour) 29 n lot) 30 n much) 26 4 (n + 1) = h1 at ec g26 g27 g28 g29 g30 ⊢
  have e60 : h1 60 = hp 60 := ec 60 (by decide) (by decide) (by decide) (by decide) (by decide)
  have e69 : h1 69 = hp 69 := ec 69 (by decide) (by decide) (by decide) (by decide) (by decide)
  refine b_m_salt ⟨fun z => absurd z c, fun _ => ⟨fun z => absurd z d, fun _ => ⟨fun z => absurd z e, fun _ => ⟨fun z => absurd z g, fun _ => ⟨fun z => absurd z (by rw [e60]; omega), fun _ => ?_⟩⟩⟩⟩⟩
  rw [e60, hn]
  refine ⟨by unfold qb_in; omega, by omega, by omega, by omega, by omega, by unfold qb_in; omega, ?_⟩
  have k69 : ∀ i : Int, qb_st (qb_st (qb_st (qb_st (qb_st h1 69 (4 * n) q) 69 (4 * n + 1) hour) 69 (4 * n + 2) lot) 69 (4 * n + 3) much) 60 11 (n + 1) 69 i = if i = 4 * n + 3 then much else if i = 4 * n + 2 then lot else if i = 4 * n + 1 then hour else if i = 4 * n then q else hp 69 i := fun i => by rw [← e69]; simp [qb_st]
  have k11 : qb_st (qb_st (qb_st (qb_st (qb_st h1 69 (4 * n) q) 69 (4 * n + 1) hour) 69 (4 * n + 2) lot) 69 (4 * n + 3) much) 60 11 (n + 1) 60 11 = n + 1 := by simp [qb_st]
  have kc : ∀ c : Nat, c ≠ 60 → c ≠ 69 → qb_st (qb_st (qb_st (qb_st (qb_st h1 69 (4 * n) q) 69 (4 * n + 1) hour) 69 (4 * n + 2) lot) 69 (4 * n + 3) much) 60 11 (n + 1) c = h1 c := fun c c1 c2 => by rw [qb_st_ne c1, qb_st_ne c2, qb_st_ne c2, qb_st_ne c2, qb_st_ne c2]
  have k60 : ∀ j : Int, j ≠ 11 → qb_st (qb_st (qb_st (qb_st (qb_st h1 69 (4 * n) q) 69 (4 * n + 1) hour) 69 (4 * n + 2) lot) 69 (4 * n + 3) much) 60 11 (n + 1) 60 j = hp 60 j := fun j hj => by rw [← e60]; simp [qb_st, hj]
  generalize qb_st (qb_st (qb_st (qb_st (qb_st h1 69 (4 * n) q) 69 (4 * n + 1) hour) 69 (4 * n + 2) lot) 69 (4 * n + 3) much) 60 11 (n + 1) = h2 at k69 k11 kc k60 ⊢
  refine hK _ h2 ⟨?_, by rw [k11]; omega, fun k k0 k1 => ?_⟩ ⟨fun c hc c60 => ?_, fun j hj => ?_⟩
  · rw [kc 26 (by decide) (by decide), g26, k11]
  · rw [k11] at k1
    rw [kc 27 (by decide) (by decide), kc 28 (by decide) (by decide), kc 29 (by decide) (by decide), kc 30 (by decide) (by decide), g27, g28, g29, g30, k69, k69, k69, k69]
    by_cases e : k = n
    · subst e
      rw [if_pos rfl, if_pos rfl, if_pos rfl, if_pos rfl, if_neg (by omega), if_neg (by omega), if_neg (by omega), if_pos rfl, if_neg (by omega), if_neg (by omega), if_pos rfl, if_neg (by omega), if_pos rfl, if_pos rfl]
      exact ⟨rfl, rfl, rfl, rfl⟩
    · rw [if_neg e, if_neg e, if_neg e, if_neg e, if_neg (by omega), if_neg (by omega), if_neg (by omega), if_neg (by omega), if_neg (by omega), if_neg (by omega), if_neg (by omega), if_neg (by omega), if_neg (by omega), if_neg (by omega), if_neg (by omega), if_neg (by omega), if_neg (by omega), if_neg (by omega), if_neg (by omega), if_neg (by omega)]
      exact d3 k k0 (by omega)
  · have hn' : c ≠ 26 ∧ c ≠ 27 ∧ c ≠ 28 ∧ c ≠ 29 ∧ c ≠ 30 ∧ c ≠ 69 := by simpa using hc
    obtain ⟨n1, n2, n3, n4, n5, n6⟩ := hn'
    rw [kc c c60 n6, ec c n1 n2 n3 n4 n5]
  · have hn' : j ≠ 11 := by simpa using hj
    exact k60 j hn'
theorem qn_is (x : Int) : (v_q_isQuayOrNone x = 0 ∧ ¬ x = -1 ∧ v_m_isQuay x = 0) ∨ (¬ v_q_isQuayOrNone x = 0 ∧ (-1 ≤ x ∧ x ≤ 3) ∧ (x = -1 ∨ ¬ v_m_isQuay x = 0)) := by
  unfold v_q_isQuayOrNone
  by_cases c : x = -1
  · rw [if_pos c]; exact Or.inr ⟨by decide, by omega, Or.inl c⟩
  · rw [if_neg c]
    by_cases d : v_m_isQuay x = 0
    · have d2 : v_q_isQuay x = 0 := d
      rw [if_pos d2]; exact Or.inl ⟨rfl, c, d⟩
    · have d2 : ¬ v_q_isQuay x = 0 := d
      rw [if_neg d2]
      have := q_isQ.1 d2
      exact Or.inr ⟨by decide, by omega, Or.inr d⟩
theorem engage_ok (b q crans pr : Int) (hp : qb_H) (K : Int → Int → qb_H → Prop) (hE : qb_iE hp) (hK : ∀ (v : Int) (hq : qb_H), qb_iE hq → kp [37, 38, 39, 71, 72, 73] [] hp hq → K v v hq) : c_q_engage b q crans pr hp (fun v hp1 => c_m_engage b q crans pr hp1 (fun w hp2 => K v w hp2)) := by
  have hqn := qn_is q
  refine b_q_engage ⟨fun c => b_m_engage ⟨fun _ => hK _ hp hE kp.rf, fun z => absurd c z⟩, fun c => ⟨fun d => ?_, fun d => ?_⟩⟩
  · rcases hqn with ⟨-, h2, h3⟩ | ⟨h1, -, -⟩
    · exact b_m_engage ⟨fun z => absurd z c, fun _ => ⟨fun z => absurd z h2, fun _ => ⟨fun _ => hK _ hp hE kp.rf, fun z => absurd h3 z⟩⟩⟩
    · exact absurd d h1
  · have hq3 : (-1 ≤ q ∧ q ≤ 3) ∧ (q = -1 ∨ ¬ v_m_isQuay q = 0) := by
      rcases hqn with ⟨h1, -, -⟩ | ⟨-, h2, h3⟩
      · exact absurd h1 d
      · exact ⟨h2, h3⟩
    have tailm : ∀ (hr : qb_H) (V : Int), ((v_m_in crans 0 50 = 0 → K V (-2) hr) ∧ (¬ v_m_in crans 0 50 = 0 → (v_m_isPrice pr = 0 → K V (-2) hr) ∧ (¬ v_m_isPrice pr = 0 → (0 ≤ b ∧ b < 10) ∧ K V 1 (qb_st (qb_st (qb_st hr 71 b q) 72 b crans) 73 b pr)))) → c_m_engage b q crans pr hr (fun w hp2 => K V w hp2) := by
      intro hr V h
      refine b_m_engage ⟨fun z => absurd z c, fun _ => ⟨fun _ => h, fun z => ⟨fun z2 => ?_, fun _ => h⟩⟩⟩
      rcases hq3.2 with e | e
      · exact absurd e z
      · exact absurd z2 e
    refine ⟨fun e => tailm hp _ ⟨fun _ => hK _ hp hE kp.rf, fun z => absurd e z⟩, fun e => ⟨fun g => tailm hp _ ⟨fun z => absurd z e, fun _ => ⟨fun _ => hK _ hp hE kp.rf, fun z => absurd g z⟩⟩, fun g => ?_⟩⟩
    have hb : 0 ≤ b ∧ b < 10 := by
      rcases v_in_c (x := b) (a := 0) (b := 9) with z | z
      · exact absurd z.1 c
      · omega
    have hcr : 0 ≤ crans ∧ crans ≤ 50 := by
      rcases v_in_c (x := crans) (a := 0) (b := 50) with z | z
      · exact absurd z.1 e
      · exact z.2
    have hpr : 1 ≤ pr ∧ pr ≤ 1000 := by
      rcases v_in_c (x := pr) (a := 1) (b := 1000) with z | z
      · exact absurd z.1 g
      · exact z.2
    refine ⟨hb, tailm _ _ ⟨fun z => absurd z e, fun _ => ⟨fun z => absurd z g, fun _ => ⟨hb, ?_⟩⟩⟩⟩
    unfold h_bo_bind
    refine hK _ _ (fun x x0 x1 => ?_) ⟨fun c hc c60 => ?_, fun j _ => ?_⟩
    · have := hE x x0 x1
      by_cases ex : x = b
      · subst ex
        simp only [qb_st]
        simp
        omega
      · simp only [qb_st]
        simp [ex]
        exact this
    · have hn' : c ≠ 37 ∧ c ≠ 38 ∧ c ≠ 39 ∧ c ≠ 71 ∧ c ≠ 72 ∧ c ≠ 73 := by simpa using hc
      obtain ⟨n1, n2, n3, n4, n5, n6⟩ := hn'
      rw [qb_st_ne n6, qb_st_ne n5, qb_st_ne n4, qb_st_ne n3, qb_st_ne n2, qb_st_ne n1]
    · rw [qb_st_ne (by decide), qb_st_ne (by decide), qb_st_ne (by decide), qb_st_ne (by decide), qb_st_ne (by decide), qb_st_ne (by decide)]
theorem ship_ok (s day n : Int) (hp : qb_H) (K : Int → Int → qb_H → Prop) (hH : qb_iH hp) (hK : ∀ (v : Int) (hq : qb_H), qb_iH hq → kp [55, 56, 77, 78] [] hp hq → K v v hq) : c_q_ship s day n hp (fun v hp1 => c_m_ship s day n hp1 (fun w hp2 => K v w hp2)) := by
  refine b_q_ship ⟨fun c => b_m_ship ⟨fun _ => hK _ hp hH kp.rf, fun z => absurd c z⟩, fun c => ⟨fun d => b_m_ship ⟨fun z => absurd z c, fun _ => ⟨fun _ => hK _ hp hH kp.rf, fun z => absurd d z⟩⟩, fun d => ⟨fun e => b_m_ship ⟨fun z => absurd z c, fun _ => ⟨fun z => absurd z d, fun _ => ⟨fun _ => hK _ hp hH kp.rf, fun z => absurd e z⟩⟩⟩, fun e => ?_⟩⟩⟩
  have hs : 0 ≤ s ∧ s < 4 := by
    rcases v_in_c (x := s) (a := 0) (b := 3) with z | z
    · exact absurd z.1 c
    · omega
  have hd : 0 ≤ day ∧ day ≤ 400 := by
    rcases v_in_c (x := day) (a := 0) (b := 400) with z | z
    · exact absurd z.1 d
    · exact z.2
  have hn : 0 ≤ n ∧ n ≤ 20 := by
    rcases v_in_c (x := n) (a := 0) (b := 20) with z | z
    · exact absurd z.1 e
    · exact z.2
  refine ⟨hs, b_m_ship ⟨fun z => absurd z c, fun _ => ⟨fun z => absurd z d, fun _ => ⟨fun z => absurd z e, fun _ => ⟨hs, ?_⟩⟩⟩⟩⟩
  refine hK _ _ ⟨fun x x0 x1 => ?_, fun j hj => ?_⟩ ⟨fun c hc c60 => ?_, fun j _ => ?_⟩
  · have := hH.1 x x0 x1
    by_cases ex : x = s
    · subst ex
      simp only [qb_st]
      simp
      omega
    · simp only [qb_st]
      simp [ex]
      exact this
  · rw [qb_st_ne (by decide), qb_st_ne (by decide), qb_st_ne (by decide), qb_st_ne (by decide)]
    exact hH.2 j hj
  · have hn' : c ≠ 55 ∧ c ≠ 56 ∧ c ≠ 77 ∧ c ≠ 78 := by simpa using hc
    obtain ⟨n1, n2, n3, n4⟩ := hn'
    rw [qb_st_ne n4, qb_st_ne n3, qb_st_ne n2, qb_st_ne n1]
  · rw [qb_st_ne (by decide), qb_st_ne (by decide), qb_st_ne (by decide), qb_st_ne (by decide)]
theorem free_ok (day pr told : Int) (hp : qb_H) (K : Int → Int → qb_H → Prop) (hF : qb_iF hp) (hK : ∀ (v : Int) (hq : qb_H), qb_iF hq → kp [40, 41, 42, 43, 44, 74, 75, 76] [18] hp hq → K v v hq) : c_q_free day pr told hp (fun v hp1 => c_m_free day pr told hp1 (fun w hp2 => K v w hp2)) := by
  have hF2 := hF
  obtain ⟨d1, d2, d3⟩ := hF
  refine b_q_free ⟨fun c => b_m_free ⟨fun _ => hK _ hp hF2 kp.rf, fun z => absurd c z⟩, fun c => ⟨fun d => b_m_free ⟨fun z => absurd z c, fun _ => ⟨fun _ => hK _ hp hF2 kp.rf, fun z => absurd d z⟩⟩, fun d => ⟨fun e => b_m_free ⟨fun z => absurd z c, fun _ => ⟨fun z => absurd z d, fun _ => ⟨fun _ => hK _ hp hF2 kp.rf, fun z => absurd e z⟩⟩⟩, fun e => ⟨fun f => ⟨by unfold g_fc_add_f; omega, ?_⟩, fun f => b_m_free ⟨fun z => absurd z c, fun _ => ⟨fun z => absurd z d, fun _ => ⟨fun z => absurd z e, fun _ => ⟨fun _ => hK _ hp hF2 kp.rf, fun z => absurd (by omega) z⟩⟩⟩⟩⟩⟩⟩⟩
  have hpr : 1 ≤ pr ∧ pr ≤ 1000 := by
    rcases v_in_c (x := pr) (a := 1) (b := 1000) with z | z
    · exact absurd z.1 d
    · exact z.2
  unfold v_fc_add_f h_fc_add_f
  rw [d1]
  obtain ⟨n, hn⟩ : ∃ n : Int, hp 60 18 = n := ⟨_, rfl⟩
  rw [d1] at f
  rw [hn] at d1 d2 d3 f ⊢
  have e60 : qb_st (qb_st (qb_st (qb_st (qb_st hp 41 n 0) 42 n day) 43 n pr) 44 n told) 40 4 (n + 1) 60 18 = n := by rw [qb_st_ne (by decide), qb_st_ne (by decide), qb_st_ne (by decide), qb_st_ne (by decide), qb_st_ne (by decide)]; exact hn
  refine b_m_free ⟨fun z => absurd z c, fun _ => ⟨fun z => absurd z d, fun _ => ⟨fun z => absurd z e, fun _ => ⟨fun z => absurd z (by rw [e60]; omega), fun _ => ?_⟩⟩⟩⟩
  rw [e60]
  refine ⟨by omega, ?_⟩
  generalize hX : qb_st (qb_st (qb_st (qb_st (qb_st (qb_st (qb_st (qb_st (qb_st hp 41 n 0) 42 n day) 43 n pr) 44 n told) 40 4 (n + 1)) 74 n day) 75 n pr) 76 n told) 60 18 (n + 1) = h2
  have k18 : h2 60 18 = n + 1 := by rw [← hX]; simp [qb_st]
  have k40 : h2 40 4 = n + 1 := by rw [← hX]; simp [qb_st]
  have g41 : ∀ i : Int, h2 41 i = if i = n then 0 else hp 41 i := fun i => by rw [← hX]; simp [qb_st]
  have g42 : ∀ i : Int, h2 42 i = if i = n then day else hp 42 i := fun i => by rw [← hX]; simp [qb_st]
  have g43 : ∀ i : Int, h2 43 i = if i = n then pr else hp 43 i := fun i => by rw [← hX]; simp [qb_st]
  have g44 : ∀ i : Int, h2 44 i = if i = n then told else hp 44 i := fun i => by rw [← hX]; simp [qb_st]
  have g74 : ∀ i : Int, h2 74 i = if i = n then day else hp 74 i := fun i => by rw [← hX]; simp [qb_st]
  have g75 : ∀ i : Int, h2 75 i = if i = n then pr else hp 75 i := fun i => by rw [← hX]; simp [qb_st]
  have g76 : ∀ i : Int, h2 76 i = if i = n then told else hp 76 i := fun i => by rw [← hX]; simp [qb_st]
  refine hK _ h2 ⟨by rw [k40, k18], by rw [k18]; omega, fun k k0 k1 => ?_⟩ ⟨fun c hc c60 => ?_, fun j hj => ?_⟩
  · rw [k18] at k1
    rw [g41, g42, g43, g44, g74, g75, g76]
    by_cases e : k = n
    · rw [if_pos e, if_pos e, if_pos e, if_pos e, if_pos e, if_pos e, if_pos e]
      exact ⟨rfl, rfl, rfl, rfl, hpr⟩
    · rw [if_neg e, if_neg e, if_neg e, if_neg e, if_neg e, if_neg e, if_neg e]
      exact d3 k k0 (by omega)
  · have hn' : c ≠ 40 ∧ c ≠ 41 ∧ c ≠ 42 ∧ c ≠ 43 ∧ c ≠ 44 ∧ c ≠ 74 ∧ c ≠ 75 ∧ c ≠ 76 := by simpa using hc
    obtain ⟨n1, n2, n3, n4, n5, n6, n7, n8⟩ := hn'
    rw [← hX, qb_st_ne c60, qb_st_ne n8, qb_st_ne n7, qb_st_ne n6, qb_st_ne n1, qb_st_ne n5, qb_st_ne n4, qb_st_ne n3, qb_st_ne n2]
  · have hn' : j ≠ 18 := by simpa using hj
    rw [← hX]; simp [qb_st, hn']
theorem price_ok (g day pr told : Int) (hp : qb_H) (K : Int → Int → qb_H → Prop) (hP : qb_iP hp) (hK : ∀ (v : Int) (hq : qb_H), qb_iP hq → kp [45, 46, 47, 48, 49, 79, 80, 81, 82] [24] hp hq → K v v hq) : c_q_price g day pr told hp (fun v hp1 => c_m_price g day pr told hp1 (fun w hp2 => K v w hp2)) := by
  have hP2 := hP
  obtain ⟨d1, d2, d3⟩ := hP
  refine b_q_price ⟨fun c => b_m_price ⟨fun _ => hK _ hp hP2 kp.rf, fun z => absurd c z⟩, fun c => ⟨fun d => b_m_price ⟨fun z => absurd z c, fun _ => ⟨fun _ => hK _ hp hP2 kp.rf, fun z => absurd d z⟩⟩, fun d => ⟨fun e => b_m_price ⟨fun z => absurd z c, fun _ => ⟨fun z => absurd z d, fun _ => ⟨fun _ => hK _ hp hP2 kp.rf, fun z => absurd e z⟩⟩⟩, fun e => ⟨fun a => b_m_price ⟨fun z => absurd z c, fun _ => ⟨fun z => absurd z d, fun _ => ⟨fun z => absurd z e, fun _ => ⟨fun _ => hK _ hp hP2 kp.rf, fun z => absurd a z⟩⟩⟩⟩, fun a => ⟨fun f => ⟨by unfold g_fc_add_p; omega, ?_⟩, fun f => b_m_price ⟨fun z => absurd z c, fun _ => ⟨fun z => absurd z d, fun _ => ⟨fun z => absurd z e, fun _ => ⟨fun z => absurd z a, fun _ => ⟨fun _ => hK _ hp hP2 kp.rf, fun z => absurd (by omega) z⟩⟩⟩⟩⟩⟩⟩⟩⟩⟩
  have hpr : 0 ≤ pr ∧ pr ≤ 1000 := by
    rcases v_in_c (x := pr) (a := 0) (b := 1000) with z | z
    · exact absurd z.1 e
    · exact z.2
  unfold v_fc_add_p h_fc_add_p
  rw [d1]
  obtain ⟨n, hn⟩ : ∃ n : Int, hp 60 24 = n := ⟨_, rfl⟩
  rw [d1] at f
  rw [hn] at d1 d2 d3 f ⊢
  have e60 : qb_st (qb_st (qb_st (qb_st (qb_st hp 46 n g) 47 n day) 48 n pr) 49 n told) 45 4 (n + 1) 60 24 = n := by rw [qb_st_ne (by decide), qb_st_ne (by decide), qb_st_ne (by decide), qb_st_ne (by decide), qb_st_ne (by decide)]; exact hn
  refine b_m_price ⟨fun z => absurd z c, fun _ => ⟨fun z => absurd z d, fun _ => ⟨fun z => absurd z e, fun _ => ⟨fun z => absurd z a, fun _ => ⟨fun z => absurd z (by rw [e60]; omega), fun _ => ?_⟩⟩⟩⟩⟩
  rw [e60]
  refine ⟨by omega, ?_⟩
  generalize hX : qb_st (qb_st (qb_st (qb_st (qb_st (qb_st (qb_st (qb_st (qb_st (qb_st hp 46 n g) 47 n day) 48 n pr) 49 n told) 45 4 (n + 1)) 79 n g) 80 n day) 81 n pr) 82 n told) 60 24 (n + 1) = h2
  have k24 : h2 60 24 = n + 1 := by rw [← hX]; simp [qb_st]
  have k45 : h2 45 4 = n + 1 := by rw [← hX]; simp [qb_st]
  have g46 : ∀ i : Int, h2 46 i = if i = n then g else hp 46 i := fun i => by rw [← hX]; simp [qb_st]
  have g47 : ∀ i : Int, h2 47 i = if i = n then day else hp 47 i := fun i => by rw [← hX]; simp [qb_st]
  have g48 : ∀ i : Int, h2 48 i = if i = n then pr else hp 48 i := fun i => by rw [← hX]; simp [qb_st]
  have g49 : ∀ i : Int, h2 49 i = if i = n then told else hp 49 i := fun i => by rw [← hX]; simp [qb_st]
  have g79 : ∀ i : Int, h2 79 i = if i = n then g else hp 79 i := fun i => by rw [← hX]; simp [qb_st]
  have g80 : ∀ i : Int, h2 80 i = if i = n then day else hp 80 i := fun i => by rw [← hX]; simp [qb_st]
  have g81 : ∀ i : Int, h2 81 i = if i = n then pr else hp 81 i := fun i => by rw [← hX]; simp [qb_st]
  have g82 : ∀ i : Int, h2 82 i = if i = n then told else hp 82 i := fun i => by rw [← hX]; simp [qb_st]
  refine hK _ h2 ⟨by rw [k45, k24], by rw [k24]; omega, fun k k0 k1 => ?_⟩ ⟨fun c hc c60 => ?_, fun j hj => ?_⟩
  · rw [k24] at k1
    rw [g46, g47, g48, g49, g79, g80, g81, g82]
    by_cases e : k = n
    · rw [if_pos e, if_pos e, if_pos e, if_pos e, if_pos e, if_pos e, if_pos e, if_pos e]
      exact ⟨rfl, rfl, rfl, rfl, hpr⟩
    · rw [if_neg e, if_neg e, if_neg e, if_neg e, if_neg e, if_neg e, if_neg e, if_neg e]
      exact d3 k k0 (by omega)
  · have hn' : c ≠ 45 ∧ c ≠ 46 ∧ c ≠ 47 ∧ c ≠ 48 ∧ c ≠ 49 ∧ c ≠ 79 ∧ c ≠ 80 ∧ c ≠ 81 ∧ c ≠ 82 := by simpa using hc
    obtain ⟨n1, n2, n3, n4, n5, n6, n7, n8, n9⟩ := hn'
    rw [← hX, qb_st_ne c60, qb_st_ne n9, qb_st_ne n8, qb_st_ne n7, qb_st_ne n6, qb_st_ne n1, qb_st_ne n5, qb_st_ne n4, qb_st_ne n3, qb_st_ne n2]
  · have hn' : j ≠ 24 := by simpa using hj
    rw [← hX]; simp [qb_st, hn']
