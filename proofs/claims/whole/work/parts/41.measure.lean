/-! the class measures a barrel -/
theorem ck_cmp (hp : qb_H) : g_ck_compare hp := by
  unfold g_ck_compare
  by_cases c1 : hp 25 2 = hp 25 7
  · by_cases c2 : hp 25 3 = hp 25 8
    · by_cases c3 : hp 25 4 = hp 25 9
      · rw [if_pos c1, if_pos c2, if_pos c3]; exact Or.inr rfl
      · rw [if_pos c1, if_pos c2, if_neg c3]; exact Or.inl rfl
    · rw [if_pos c1, if_neg c2]; exact Or.inl rfl
  · rw [if_neg c1]; exact Or.inl rfl
theorem ms_no {g : sc_G} {z : Int → Int} {a b : Int} {kz : Nat} {pl0 : Int} {hq : qb_H} (h : ms_inv g z a b kz pl0 hq) (hn : ¬ br_ov g a b kz) : ms_inv g z a b (kz + 1) pl0 hq := by
  obtain ⟨h1, h2⟩ := h
  have hlt : ∀ p : Nat, p < kz + 1 → br_ov g a b p → p < kz := fun p hp ho => by
    by_cases e : p = kz
    · rw [e] at ho; exact absurd ho hn
    · omega
  refine ⟨by rw [h1]; simp only [br_n]; rw [if_neg hn]; omega, ?_⟩
  rcases h2 with ⟨c1, c2⟩ | ⟨⟨p, c1, c2, c3, c4, c5⟩, ⟨d1, p2, d2, d3, d4⟩, ⟨f1, p3, f2, f3, f4⟩⟩
  · exact Or.inl ⟨fun p hp ho => c1 p (hlt p hp ho) ho, c2⟩
  · exact Or.inr ⟨⟨p, by omega, c2, fun q hq1 hq2 hq3 => c3 q hq1 (hlt q hq2 hq3) hq3, c4, c5⟩, ⟨fun q hq1 hq2 => d1 q (hlt q hq1 hq2) hq2, p2, by omega, d3, d4⟩, ⟨fun q hq1 hq2 => f1 q (hlt q hq1 hq2) hq2, p3, by omega, f3, f4⟩⟩
theorem ms_yes {g : sc_G} {z : Int → Int} {a b : Int} {kz : Nat} {pl0 : Int} {hq hr : qb_H} (h : ms_inv g z a b kz pl0 hq) (ho : br_ov g a b kz) (hz : z (sc_o g kz) ≤ 9) (hl : 0 ≤ br_hr g b kz - sc_h g (sc_o g kz))
    (e2 : hr 25 2 = br_hr g b kz) (e3 : hr 25 3 = max (hq 25 3) (br_hr g b kz - sc_h g (sc_o g kz))) (e4 : hr 25 4 = min (hq 25 4) (z (sc_o g kz))) (e5 : hr 25 5 = hq 25 5 + 1) (e1 : hr 25 1 = kz) : ms_inv g z a b (kz + 1) pl0 hr := by
  obtain ⟨h1, h2⟩ := h
  refine ⟨by rw [e5, h1]; simp only [br_n]; rw [if_pos ho], Or.inr ⟨⟨kz, by omega, ho, fun q h3 h4 => by omega, e2, e1⟩, ?_, ?_⟩⟩
  · rcases h2 with ⟨c1, c2, c3, c4, c5⟩ | ⟨-, ⟨d1, p2, d2, d3, d4⟩, -⟩
    · refine ⟨fun p hp hpo => ?_, kz, by omega, ho, by omega⟩
      by_cases e : p = kz
      · rw [e]; omega
      · exact absurd hpo (c1 p (by omega))
    · refine ⟨fun p hp hpo => ?_, ?_⟩
      · by_cases e : p = kz
        · rw [e]; omega
        · have := d1 p (by omega) hpo
          omega
      · by_cases c : hq 25 3 ≤ br_hr g b kz - sc_h g (sc_o g kz)
        · exact ⟨kz, by omega, ho, by omega⟩
        · exact ⟨p2, by omega, d3, by omega⟩
  · rcases h2 with ⟨c1, c2, c3, c4, c5⟩ | ⟨-, -, ⟨d1, p2, d2, d3, d4⟩⟩
    · refine ⟨fun p hp hpo => ?_, kz, by omega, ho, by omega⟩
      by_cases e : p = kz
      · rw [e]; omega
      · exact absurd hpo (c1 p (by omega))
    · refine ⟨fun p hp hpo => ?_, ?_⟩
      · by_cases e : p = kz
        · rw [e]; omega
        · have := d1 p (by omega) hpo
          omega
      · by_cases c : z (sc_o g kz) ≤ hq 25 4
        · exact ⟨kz, by omega, ho, by omega⟩
        · exact ⟨p2, by omega, d3, by omega⟩
theorem br_hr_in {g : sc_G} {n : Nat} (hk : sc_ok g n) {a b : Int} {p : Nat} (hp : p < n) (ha : 0 ≤ a) (ho : br_ov g a b p) : sc_h g (sc_o g p) ≤ br_hr g b p ∧ br_hr g b p ≤ 2072 ∧ 0 ≤ sc_S g p + min b (sc_T g p + sc_W g p) - 1 - sc_T g p := by
  obtain ⟨h1, h2⟩ := ho
  have hpc := hk.2.2.2.2.1
  have hS : sc_h g (sc_o g p) * sc_p g ≤ sc_S g p := by unfold sc_S; omega
  have hb := sc_Sb hk hp
  have hd := (sc_dl hk hp (by omega)).1
  have hko := hk.1 p hp
  have hkf := (hk.2.1 (sc_o g p) hko.1 hko.2).1
  have hs := hk.2.2.2.2.2
  have hx := sc_mle hk (x := sc_h g (sc_o g p) + sc_s g) (y := 2072) (by omega)
  unfold br_hr
  refine ⟨?_, ?_, by omega⟩
  · rw [Int.le_ediv_iff_mul_le (by omega)]; omega
  · apply Int.le_of_lt_add_one
    rw [Int.ediv_lt_iff_lt_mul (by omega), sc_mul hk]; omega
/-- what a measured barrel leaves in the cask -/
def ms_post (hp : qb_H) (n : Nat) (Q a b l7 l8 l9 : Int) (hq : qb_H) : Prop :=
  (∀ c : Nat, c ≠ 25 → hq c = hp c) ∧ hq 25 0 = Q ∧ (hq 25 7 = l7 ∧ hq 25 8 = l8 ∧ hq 25 9 = l9) ∧ br_is (qb_gq hp Q) n (hp 16) a b (hq 25 2) (hq 25 3) (hq 25 4) (hq 25 5) ∧ ∃ p : Nat, p < n ∧ hq 25 1 = p ∧ br_in (qb_gq hp Q) (b - 1) p
theorem ms_loop {hp : qb_H} {n : Nat} {Q a b : Int} (hI : qb_iL hp n) (hw : qb_wk hp n Q) (h0 : 0 ≤ Q) (h1 : Q < 4) (hab : a < b) (ha : 0 ≤ a) (hb : b ≤ sc_T (qb_gq hp Q) n) {l7 l8 l9 pl0 : Int} {K : qb_H → Prop}
    (hK : ∀ hq : qb_H, ms_post hp n Q a b l7 l8 l9 hq → K (h_ck_compare hq)) :
    ∀ (jm kz : Nat) (hq : qb_H), kz + jm = n → (∀ c : Nat, c ≠ 25 → hq c = hp c) → hq 25 0 = Q → (hq 25 7 = l7 ∧ hq 25 8 = l8 ∧ hq 25 9 = l9) → ms_inv (qb_gq hp Q) (hp 16) a b kz pl0 hq → r_la_measure_31 a b (hp 21 Q * hp 22 Q) kz hq K := by
  have hk := qb_sok hI h0 h1
  have hpc := qb_pace hI h0 h1
  intro jm
  induction jm with
  | zero =>
    intro kz hq hj hr hq0 hl hm
    obtain ⟨e1, e2⟩ := ms_end hab ha hb (by omega) hm (fun p c1 c2 => by omega)
    refine b_la_measure_31 ⟨fun _ => ⟨ck_cmp hq, hK hq ⟨hr, hq0, hl, e1, e2⟩⟩, fun c => absurd ?_ c⟩
    rw [hr 11 (by decide), hI.1]; omega
  | succ jm ih =>
    intro kz hq hj hr hq0 hl hm
    have hko := hk.1 kz (by omega)
    have hkk : 0 ≤ hp 17 kz ∧ hp 17 kz < n := hko
    have hI4 := hI.2.2.2.1 (hp 17 kz) hkk.1 hkk.2
    have hn30 := hI.2.1
    refine b_la_measure_31 ?_
    simp only [hr 11 (by decide), hr 17 (by decide), hr 13 (by decide), hr 20 (by decide), hr 19 (by decide), hr 18 (by decide), hr 14 (by decide), hr 16 (by decide), hq0]
    rw [hI.1]
    refine ⟨fun c => absurd c (by omega), fun _ => ⟨by omega, by omega, fun c13 => ?_, fun c13 => ?_⟩⟩
    · obtain ⟨s1, s2, s3⟩ := hw.2 kz (by omega) c13
      rw [s1, s2, s3]
      have hat : sc_a (qb_gq hp Q) (sc_o (qb_gq hp Q) kz) = true := by
        show decide (hp 13 (hp 17 kz) = Q) = true
        exact decide_eq_true c13
      have hT := sc_Tb hk kz (by omega)
      have hT0 := (sc_R0 (qb_gq hp Q) kz).2
      have hS := sc_Sb hk (p := kz) (by omega)
      have hW := sc_Wf hk (p := kz) (by omega)
      have hW0 := sc_W0 (qb_gq hp Q) kz
      have hf : sc_f (qb_gq hp Q) (sc_o (qb_gq hp Q) kz) ≤ 20000 := (hk.2.1 _ hko.1 hko.2).2.2
      have hS2 : sc_S (qb_gq hp Q) kz ≤ 37296000 := by
        have : sc_p (qb_gq hp Q) ≤ 18000 := hpc.2
        omega
      refine ⟨fun d => ⟨by unfold qb_in; omega, ?_, ?_⟩, fun d => ?_⟩
      · intro ov
        have ho : br_ov (qb_gq hp Q) a b kz := ⟨hat, by omega⟩
        obtain ⟨x1, x2, x3⟩ := br_hr_in hk (p := kz) (by omega) ha ho
        have hh : hp 14 (hp 17 kz) = sc_h (qb_gq hp Q) (sc_o (qb_gq hp Q) kz) := rfl
        have hy : (sc_S (qb_gq hp Q) kz + min b (sc_T (qb_gq hp Q) kz + sc_W (qb_gq hp Q) kz) - 1 - sc_T (qb_gq hp Q) kz) / (hp 21 Q * hp 22 Q) = br_hr (qb_gq hp Q) b kz := rfl
        rw [hy]
        have hbn := br_n_in (g := qb_gq hp Q) (a := a) (b := b) kz
        have hm5 := hm.1
        refine ⟨by unfold qb_in; omega, by unfold qb_in; omega, by unfold qb_in; omega, by omega, by omega, by unfold qb_in; omega, ?_⟩
        unfold g_ck_take qb_in
        omega
      · have hy : (sc_S (qb_gq hp Q) kz + min b (sc_T (qb_gq hp Q) kz + sc_W (qb_gq hp Q) kz) - 1 - sc_T (qb_gq hp Q) kz) / (hp 21 Q * hp 22 Q) = br_hr (qb_gq hp Q) b kz := rfl
        rw [hy]
        by_cases ov : min b (sc_T (qb_gq hp Q) kz + sc_W (qb_gq hp Q) kz) ≤ max a (sc_T (qb_gq hp Q) kz)
        · rw [if_pos ov]
          exact ih (kz + 1) hq (by omega) hr hq0 hl (ms_no hm (fun ho => by have := ho.2; omega))
        · rw [if_neg ov]
          have ho : br_ov (qb_gq hp Q) a b kz := ⟨hat, by omega⟩
          obtain ⟨x1, x2, x3⟩ := br_hr_in hk (p := kz) (by omega) ha ho
          refine ih (kz + 1) _ (by omega) (fun c hc => ?_) ?_ ?_ (ms_yes hm ho ?_ ?_ ?_ ?_ ?_ ?_ ?_)
          · rw [qb_st_ne hc, hn_ck_take _ _ _ _ c hc]; exact hr c hc
          · simp [qb_st, h_ck_take, hq0]
          · simp [qb_st, h_ck_take, hl]
          · exact hI4.2.2.2.2.2
          · omega
          · simp [qb_st, h_ck_take]
          · simp [qb_st, h_ck_take]; rfl
          · simp [qb_st, h_ck_take]; rfl
          · simp [qb_st, h_ck_take]
          · simp [qb_st, h_ck_take]
      · obtain ⟨e1, e2⟩ := ms_end hab ha hb (by omega) hm (fun p c1 c2 hov => by
          have := (sc_mono (qb_gq hp Q) c1).2
          have := hov.2
          omega)
        exact ⟨ck_cmp hq, hK hq ⟨hr, hq0, hl, e1, e2⟩⟩
    · exact ih (kz + 1) hq (by omega) hr hq0 hl (ms_no hm (fun ho => by
        have h9 : decide (hp 13 (hp 17 kz) = Q) = true := ho.1
        exact c13 (of_decide_eq_true h9)))
/-- THE CLASS MEASURES BARREL i (its place is not behind any landing of it) -/
theorem ms_ok {hp hs : qb_H} {n : Nat} {Q : Int} (hI : qb_iL hp n) (hw : qb_wk hp n Q) (h0 : 0 ≤ Q) (h1 : Q < 4) (hs1 : ∀ c : Nat, c ≠ 25 → hs c = hp c) (hs0 : hs 25 0 = Q) {i L : Int} (hi : 0 ≤ i) (hL : L = hp 10 1) (hb : i * L + L ≤ sc_T (qb_gq hp Q) n)
    {pl : Nat} (hpl : hs 25 1 = pl) (hpn : pl ≤ n) (hno : ∀ p : Nat, p < pl → ¬ br_ov (qb_gq hp Q) (i * L) (i * L + L) p) {K : qb_H → Prop}
    (hK : ∀ hq : qb_H, ms_post hp n Q (i * L) (i * L + L) (hs 25 2) (hs 25 3) (hs 25 4) hq → K (h_ck_compare hq)) : c_la_measure i L hs K := by
  have hk := qb_sok hI h0 h1
  have hTb := sc_Tb hk n (Nat.le_refl n)
  have hn30 := hI.2.1
  have hr := hI.2.2.2.2.2.2.2.2.1
  have hm0 : 0 ≤ i * L := Int.mul_nonneg hi (by omega)
  have hpc := qb_pace hI h0 h1
  refine b_la_measure ⟨by unfold qb_in; omega, by unfold qb_in; omega, fun y e => ⟨?_, fun y2 e2 y3 e3 => ?_⟩⟩
  · unfold g_la_paceAt
    rw [hs0, hs1 21 (by decide), hs1 22 (by decide)]
    exact ⟨⟨h0, h1⟩, by unfold qb_in; omega⟩
  · have e2' : y2 = hp 21 Q * hp 22 Q := by
      rw [e2]; unfold v_la_paceAt
      rw [hs0, hs1 21 (by decide), hs1 22 (by decide)]
    have e3' : y3 = pl := by
      rw [e3, ← hpl]; simp [h_ck_empty, qb_st]
    rw [e2', e3', e]
    refine ms_loop hI hw h0 h1 (pl0 := pl) (by omega) hm0 hb hK (n - pl) pl (h_ck_empty hs) (by omega) (fun c hc => ?_) ?_ ?_ ⟨?_, Or.inl ⟨hno, ?_, ?_, ?_, ?_⟩⟩
    · rw [hn_ck_empty _ c hc]; exact hs1 c hc
    · simp [h_ck_empty, qb_st, hs0]
    · simp [h_ck_empty, qb_st]
    · rw [br_n0 pl hno]; simp [h_ck_empty, qb_st]
    · simp [h_ck_empty, qb_st]
    · simp [h_ck_empty, qb_st]
    · simp [h_ck_empty, qb_st]
    · simp [h_ck_empty, qb_st, hpl]
