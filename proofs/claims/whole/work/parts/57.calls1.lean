/-! what changes; ACT, SAY, WIPE, FAULT -/
def kp (cs : List Nat) (fs : List Int) (hp hq : qb_H) : Prop := (∀ c : Nat, c ∉ cs → c ≠ 60 → hq c = hp c) ∧ ∀ j : Int, j ∉ fs → hq 60 j = hp 60 j
theorem kp.rf {cs : List Nat} {fs : List Int} {hp : qb_H} : kp cs fs hp hp := ⟨fun _ _ _ => rfl, fun _ _ => rfl⟩
theorem kp.tr {cs : List Nat} {fs : List Int} {x y z : qb_H} (h : kp cs fs x y) (h' : kp cs fs y z) : kp cs fs x z := ⟨fun c h1 h2 => (h'.1 c h1 h2).trans (h.1 c h1 h2), fun j h1 => (h'.2 j h1).trans (h.2 j h1)⟩
theorem kp.mono {cs cs' : List Nat} {fs fs' : List Int} {x y : qb_H} (h : kp cs fs x y) (h1 : ∀ c, c ∈ cs → c ∈ cs') (h2 : ∀ j, j ∈ fs → j ∈ fs') : kp cs' fs' x y := ⟨fun c c1 c2 => h.1 c (fun z => c1 (h1 c z)) c2, fun j j1 => h.2 j (fun z => j1 (h2 j z))⟩
theorem m_act_loop {hp : qb_H} {a : Int} {n : Nat} (ha : 0 ≤ a ∧ a < 8) (hpa : hp 60 2 = a) (hn : hp 60 0 = n) (hn60 : n ≤ 60) {K : Int → qb_H → Prop}
    (hK : ∀ hq : qb_H, (∀ c : Nat, c ≠ 64 → hq c = hp c) → (∀ i : Int, i < 60 * a → hq 64 i = hp 64 i) → (∀ i : Int, 0 ≤ i → i < n → hq 64 (60 * a + i) = hp 61 i) → K (a + 1) (qb_st (qb_st hq 60 2 (a + 1)) 60 0 0)) : r_m_act_57 0 hp K := by
  have key : ∀ hq : qb_H, (∀ c : Nat, c ≠ 64 → hq c = hp c) → (∀ i : Int, i < 60 * a → hq 64 i = hp 64 i) → (∀ i : Int, 0 ≤ i → i < (0 : Nat) → hq 64 (60 * a + i) = hp 61 i) → r_m_act_57 0 hq K := by
    refine qb_up n (fun k x => ∀ hq : qb_H, (∀ c : Nat, c ≠ 64 → hq c = hp c) → (∀ i : Int, i < 60 * a → hq 64 i = hp 64 i) → (∀ i : Int, 0 ≤ i → i < k → hq 64 (60 * a + i) = hp 61 i) → r_m_act_57 x hq K) ?_ ?_
    · intro hq h1 h2 h3
      refine b_m_act_57 ⟨fun _ => ?_, fun c => absurd ?_ c⟩
      · rw [h1 60 (by decide), hpa]
        exact ⟨by unfold qb_in; omega, hK hq h1 h2 h3⟩
      · rw [h1 60 (by decide), hn]; omega
    · intro k hk ih hq h1 h2 h3
      refine b_m_act_57 ⟨fun c => absurd c (by rw [h1 60 (by decide), hn]; omega), fun _ => ?_⟩
      rw [h1 60 (by decide), hpa, h1 61 (by decide)]
      refine ⟨by unfold qb_in; omega, by unfold qb_in; omega, by omega, by omega, ih _ (fun c hc => by rw [qb_st_ne hc]; exact h1 c hc) (fun i hi => ?_) (fun i i0 i1 => ?_)⟩
      · have : ¬ i = 60 * a + k := by omega
        have e2 : qb_st hq 64 (60 * a + k) (hp 61 k) 64 i = hq 64 i := by simp [qb_st, this]
        rw [e2]
        exact h2 i hi
      · by_cases e : i = k
        · rw [e]; simp [qb_st]
        · have : ¬ 60 * a + i = 60 * a + (k : Int) := by omega
          have e2 : qb_st hq 64 (60 * a + k) (hp 61 k) 64 (60 * a + i) = hq 64 (60 * a + i) := by simp [qb_st, this]
          rw [e2]
          exact h3 i i0 (by omega)
  exact key hp (fun _ _ => rfl) (fun _ _ => rfl) (fun i i0 i1 => by omega)
theorem act_ok (day : Int) (hp : qb_H) (K : Int → Int → qb_H → Prop) (hD : qb_iD hp) (hA : qb_iA hp)
    (hK : ∀ (v : Int) (hq : qb_H), qb_iD hq → qb_iA hq → kp [1, 3, 4, 5, 6, 7, 8, 9, 62, 63, 64] [0, 2] hp hq → K v v hq) : c_q_act day hp (fun v hp1 => c_m_act day hp1 (fun w hp2 => K v w hp2)) := by
  have hD2 := hD
  obtain ⟨d1, d2, d3⟩ := hD
  have hA2 := hA
  obtain ⟨a1, a2, a3⟩ := hA
  refine b_q_act ⟨fun c => b_m_act ⟨fun _ => hK _ hp hD2 hA2 kp.rf, fun c2 => absurd c c2⟩, fun c => ⟨fun c8 => ?_, fun c8 => b_m_act ⟨fun c2 => absurd c2 c, fun _ => ⟨fun _ => hK _ hp hD2 hA2 kp.rf, fun c3 => absurd (by omega) c3⟩⟩⟩⟩
  refine s_dr_firstFault hp _ hD2 ⟨fun cv => ?_, fun cv => ?_⟩
  · refine add_ok (a := hp 3 6) hD2 cv (by omega) rfl (fun hr f w1 w2 w3 w4 w5 w6 => ?_)
    have hfr : ∀ c : Nat, c ≠ 1 → c ≠ 3 → c ≠ 4 → c ≠ 5 → c ≠ 6 → c ≠ 7 → c ≠ 8 → c ≠ 9 → h_dr_clear (add_fin hr (hp 3 6) day f) c = hp c := by
      intro c c1 c3 c4 c5 c6 c7 c8 c9
      unfold h_dr_clear add_fin
      rw [qb_st_ne c1, qb_st_ne c3, qb_st_ne c5, qb_st_ne c4]
      exact w1.1 c c6 c7 c8 c9
    have e36 : add_fin hr (hp 3 6) day f 3 6 = hp 3 6 + 1 := by simp [add_fin, qb_st]
    rw [e36]
    have g4 : ∀ i, h_dr_clear (add_fin hr (hp 3 6) day f) 4 i = if i = hp 3 6 then day else hp 4 i := by
      intro i
      have := w1.1 4 (by decide) (by decide) (by decide) (by decide)
      simp [h_dr_clear, add_fin, qb_st, this]
    have g5 : ∀ i, h_dr_clear (add_fin hr (hp 3 6) day f) 5 i = if i = hp 3 6 then (f : Int) else hp 5 i := by
      intro i
      have := w1.1 5 (by decide) (by decide) (by decide) (by decide)
      simp [h_dr_clear, add_fin, qb_st, this]
    have g6 : h_dr_clear (add_fin hr (hp 3 6) day f) 6 = hr 6 := by funext i; simp [h_dr_clear, add_fin, qb_st]
    have g7 : h_dr_clear (add_fin hr (hp 3 6) day f) 7 = hr 7 := by funext i; simp [h_dr_clear, add_fin, qb_st]
    have g8 : h_dr_clear (add_fin hr (hp 3 6) day f) 8 = hr 8 := by funext i; simp [h_dr_clear, add_fin, qb_st]
    have g9 : h_dr_clear (add_fin hr (hp 3 6) day f) 9 = hr 9 := by funext i; simp [h_dr_clear, add_fin, qb_st]
    have g1 : h_dr_clear (add_fin hr (hp 3 6) day f) 1 1 = 0 := by simp [h_dr_clear, qb_st]
    have g3 : h_dr_clear (add_fin hr (hp 3 6) day f) 3 6 = hp 3 6 + 1 := by simp [h_dr_clear, add_fin, qb_st]
    generalize h_dr_clear (add_fin hr (hp 3 6) day f) = h1 at hfr g4 g5 g6 g7 g8 g9 g1 g3 ⊢
    have q60 := hfr 60 (by decide) (by decide) (by decide) (by decide) (by decide) (by decide) (by decide) (by decide)
    have q61 := hfr 61 (by decide) (by decide) (by decide) (by decide) (by decide) (by decide) (by decide) (by decide)
    have q62 := hfr 62 (by decide) (by decide) (by decide) (by decide) (by decide) (by decide) (by decide) (by decide)
    have q63 := hfr 63 (by decide) (by decide) (by decide) (by decide) (by decide) (by decide) (by decide) (by decide)
    have q64 := hfr 64 (by decide) (by decide) (by decide) (by decide) (by decide) (by decide) (by decide) (by decide)
    refine b_m_act ⟨fun c2 => absurd c2 c, fun _ => ⟨fun c3 => absurd c3 (by rw [q60]; omega), fun _ => s_m_faultOf2 h1 _ (by rw [q60]; exact d2) (fun k x1 x2 => by rw [q61]; rw [q60] at x2; exact (d3 k x1 x2).2) ⟨fun _ => ?_, fun c3 => absurd ?_ c3⟩⟩⟩
    · rw [q60]
      obtain ⟨n, hn⟩ : ∃ n : Nat, hp 60 0 = n := ⟨_, (Int.toNat_of_nonneg d2.1).symm⟩
      refine ⟨by omega, m_act_loop (a := hp 60 2) (n := n) (by omega) ?_ ?_ (by omega) (fun hq x1 x2 x3 => ?_)⟩
      · simp [qb_st, q60]
      · simp [qb_st, q60, hn]
      rw [← a1]
      have x1' : ∀ c : Nat, c ≠ 62 → c ≠ 63 → c ≠ 64 → hq c = h1 c := fun c c1 c2 c3 => by
        rw [x1 c c3, qb_st_ne c2, qb_st_ne c1]
      have x62 : ∀ i, hq 62 i = if i = hp 3 6 then day else hp 62 i := by
        intro i
        rw [x1 62 (by decide), a1]
        simp [qb_st, q62]
      have x63 : ∀ i, hq 63 i = if i = hp 3 6 then hp 60 0 else hp 63 i := by
        intro i
        rw [x1 63 (by decide), a1]
        simp [qb_st, q63]
      have y2 : ∀ i : Int, i < 60 * hp 3 6 → hq 64 i = hp 64 i := by
        intro i hi
        rw [x2 i (by rw [← a1]; exact hi), qb_st_ne (by decide), qb_st_ne (by decide), q64]
      have y3 : ∀ i : Int, 0 ≤ i → i < n → hq 64 (60 * hp 3 6 + i) = hp 61 i := by
        intro i i0 i1
        rw [a1, x3 i i0 i1, qb_st_ne (by decide), qb_st_ne (by decide), q61]
      clear x1 x2 x3
      have z : ∀ c : Nat, c ≠ 60 → qb_st (qb_st hq 60 2 (hp 3 6 + 1)) 60 0 0 c = hq c := fun c hc => by rw [qb_st_ne hc, qb_st_ne hc]
      have z0 : qb_st (qb_st hq 60 2 (hp 3 6 + 1)) 60 0 0 60 0 = 0 := by simp [qb_st]
      have z2 : qb_st (qb_st hq 60 2 (hp 3 6 + 1)) 60 0 0 60 2 = hp 3 6 + 1 := by simp [qb_st]
      have zz : ∀ j : Int, j ≠ 0 → j ≠ 2 → qb_st (qb_st hq 60 2 (hp 3 6 + 1)) 60 0 0 60 j = hp 60 j := fun j j0 j2 => by
        have := x1' 60 (by decide) (by decide) (by decide)
        simp [qb_st, j0, j2, this, q60]
      generalize qb_st (qb_st hq 60 2 (hp 3 6 + 1)) 60 0 0 = h2 at z z0 z2 zz ⊢
      have zc : ∀ c : Nat, c ≠ 60 → c ≠ 62 → c ≠ 63 → c ≠ 64 → h2 c = h1 c := fun c c0 c1 c2 c3 => (z c c0).trans (x1' c c1 c2 c3)
      refine hK _ h2 ⟨?_, ?_, ?_⟩ ⟨?_, ?_, ?_⟩ ⟨fun c hc c60 => ?_, fun j hj => ?_⟩
      · rw [zc 1 (by decide) (by decide) (by decide) (by decide), g1, z0]
      · rw [z0]; decide
      · intro k k0 k1; rw [z0] at k1; omega
      · rw [zc 3 (by decide) (by decide) (by decide) (by decide), g3, z2]
      · rw [z2]; omega
      · intro b b0 b1
        rw [z2] at b1
        have zb : ac_lt h2 b = ac_lt hr b ∧ ac_kd h2 b = ac_kd hr b ∧ ac_cp h2 b = ac_cp hr b ∧ ac_nm h2 b = ac_nm hr b := by
          refine ⟨?_, ?_, ?_, ?_⟩ <;> funext i
          · unfold ac_lt; rw [zc 6 (by decide) (by decide) (by decide) (by decide), g6]
          · unfold ac_kd; rw [zc 7 (by decide) (by decide) (by decide) (by decide), g7]
          · unfold ac_cp; rw [zc 8 (by decide) (by decide) (by decide) (by decide), g8]
          · unfold ac_nm; rw [zc 9 (by decide) (by decide) (by decide) (by decide), g9]
        have z64 : h2 64 = hq 64 := z 64 (by decide)
        have z63 : h2 63 = hq 63 := z 63 (by decide)
        have z62 : h2 62 = hq 62 := z 62 (by decide)
        have z5 : h2 5 = h1 5 := zc 5 (by decide) (by decide) (by decide) (by decide)
        have z4 : h2 4 = h1 4 := zc 4 (by decide) (by decide) (by decide) (by decide)
        unfold ac_ok
        rw [z62, z63, z4, z5, x62, x63, g4, g5, zb.1, zb.2.1, zb.2.2.1, zb.2.2.2]
        by_cases e : b = hp 3 6
        · rw [if_pos e, if_pos e, if_pos e, if_pos e, e]
          have t3 : ∀ i : Int, 0 ≤ i → i < n → ac_t h2 (hp 3 6) i = hp 61 i := fun i i0 i1 => by
            unfold ac_t; rw [z64]; exact y3 i i0 i1
          have hl := tx_lt _ _ _ w6
          refine ⟨rfl, by omega, d2.2, w3, by rw [t3 0 (by omega) (by omega)]; exact w4, by rw [t3 1 (by omega) (by omega)]; exact w5, ?_⟩
          rw [Int.toNat_natCast]
          exact tx_cg f 0 2 (fun i i0 i1 => t3 i (by omega) (by omega)) (fun _ _ _ => ⟨rfl, rfl, rfl, rfl⟩) w6
        · rw [if_neg e, if_neg e, if_neg e, if_neg e]
          obtain ⟨o1, o2, o3, o4, o5, o6, o7⟩ := a3 b b0 (by omega)
          have t3 : ∀ i : Int, 0 ≤ i → i < 60 → ac_t h2 b i = ac_t hp b i := fun i i0 i1 => by
            unfold ac_t; rw [z64]; exact y2 _ (by omega)
          have hrow : ∀ i : Int, i < 15 → ac_lt hr b i = ac_lt hp b i ∧ ac_kd hr b i = ac_kd hp b i ∧ ac_cp hr b i = ac_cp hp b i ∧ ac_nm hr b i = ac_nm hp b i := fun i hi => w1.2 (b * 15 + i) (by omega)
          refine ⟨o1, o2, o3, by rw [(hrow 0 (by omega)).1]; exact o4, by rw [t3 0 (by omega) (by omega), (hrow 0 (by omega)).1]; exact o5, by rw [t3 1 (by omega) (by omega)]; exact o6, ?_⟩
          exact tx_cg _ 0 2 (fun i i0 i1 => t3 i (by omega) (by omega)) (fun i i0 i1 => hrow i (by omega)) o7
      · have hn' : c ≠ 1 ∧ c ≠ 3 ∧ c ≠ 4 ∧ c ≠ 5 ∧ c ≠ 6 ∧ c ≠ 7 ∧ c ≠ 8 ∧ c ≠ 9 ∧ c ≠ 62 ∧ c ≠ 63 ∧ c ≠ 64 := by simpa using hc
        obtain ⟨n1, n3, n4, n5, n6, n7, n8, n9, n62, n63, n64⟩ := hn'
        rw [zc c c60 n62 n63 n64]
        exact hfr c n1 n3 n4 n5 n6 n7 n8 n9
      · have hn' : j ≠ 0 ∧ j ≠ 2 := by simpa using hj
        exact zz j hn'.1 hn'.2
    · have : v_fault h1 = v_fault hp := by
        unfold v_fault
        rw [q60, q61]
      rw [this, cv]; decide
  · have hin := fa_in (t := hp 61) (n := hp 60 0) d2.1 (hp 60 0).toNat 0 0 0 (Int.le_refl _)
    have hin2 : v_fault hp = -6 ∨ 0 ≤ v_fault hp := hin
    refine b_m_act ⟨fun c2 => absurd c2 c, fun _ => ⟨fun c3 => absurd c3 (by omega), fun _ => s_m_faultOf hp _ hD2 ⟨fun c3 => absurd c3 (by omega), fun _ => hK _ hp hD2 hA2 kp.rf⟩⟩⟩
