/-! how many barrels have a brand, in both -/
theorem qb_sum_tail {f : Int → Int} {i n : Nat} (h : i ≤ n) (hz : ∀ k : Nat, i ≤ k → k < n → f k = 0) : qb_sum f n = qb_sum f i := by
  induction n with
  | zero => have : i = 0 := by omega
            rw [this]
  | succ n ih =>
    by_cases c : i = n + 1
    · rw [c]
    · simp only [qb_sum]
      rw [ih (by omega) (fun k h1 h2 => hz k h1 (by omega)), hz n (by omega) (by omega)]
      omega
theorem fin_max (P : Nat → Prop) (f : Nat → Int) : ∀ n : Nat, (∃ p : Nat, p < n ∧ P p) → ∃ p : Nat, p < n ∧ P p ∧ ∀ q : Nat, q < n → P q → f q ≤ f p := by
  intro n
  induction n with
  | zero => rintro ⟨p, h, _⟩; omega
  | succ n ih =>
    rintro ⟨p, h1, h2⟩
    by_cases c : ∃ p : Nat, p < n ∧ P p
    · obtain ⟨m, m1, m2, m3⟩ := ih c
      by_cases d : P n ∧ f m < f n
      · refine ⟨n, by omega, d.1, fun q q1 q2 => ?_⟩
        by_cases e : q = n
        · rw [e]; exact Int.le_refl _
        · have := m3 q (by omega) q2; omega
      · refine ⟨m, by omega, m2, fun q q1 q2 => ?_⟩
        by_cases e : q = n
        · rw [e] at q2 ⊢
          apply Classical.byContradiction
          intro z
          exact d ⟨q2, by omega⟩
        · exact m3 q (by omega) q2
    · have e : p = n := by
        apply Classical.byContradiction
        intro z
        exact c ⟨p, by omega, h2⟩
      refine ⟨n, by omega, e ▸ h2, fun q q1 q2 => ?_⟩
      have : q = n := by
        apply Classical.byContradiction
        intro z
        exact c ⟨q, by omega, q2⟩
      rw [this]; exact Int.le_refl _
theorem br_ex {g : sc_G} {n : Nat} (z : Int → Int) {a b : Int} (h0 : 0 ≤ a) (hab : a < b) (hb : b ≤ sc_T g n) : ∃ d m l p : Int, br_is g n z a b d m l p := by
  obtain ⟨p, p1, p2⟩ := br_in_ex (g := g) (n := n) (b - 1) (by omega) (by omega)
  have hov : ∃ p : Nat, p < n ∧ br_ov g a b p := ⟨p, p1, p2.1, by have := p2.2; omega⟩
  obtain ⟨m, m1, m2, m3⟩ := fin_max (br_ov g a b) (fun p => br_hr g b p - sc_h g (sc_o g p)) n hov
  obtain ⟨l, l1, l2, l3⟩ := fin_max (br_ov g a b) (fun p => - z (sc_o g p)) n hov
  exact ⟨_, _, _, _, ⟨p, p1, p2, rfl⟩, ⟨fun q q1 q2 => m3 q q1 q2, m, m1, m2, rfl⟩, ⟨fun q q1 q2 => by have := l3 q q1 q2; show z (sc_o g l) ≤ _; omega, l, l1, l2, rfl⟩, rfl⟩
theorem br_pos {g : sc_G} {x y : Int} {p q : Nat} (h : br_in g x p) (h' : br_in g y q) (hxy : x ≤ y) : sc_S g p + (x - sc_T g p) ≤ sc_S g q + (y - sc_T g q) := by
  rcases Nat.lt_trichotomy p q with c | c | c
  · have := (sc_next g c h.1).2.1
    unfold br_in at h h'; omega
  · subst c; omega
  · have := (sc_next g c h'.1).2.2
    unfold br_in at h h'; omega
theorem bq_is {hp : qb_H} {n : Nat} (hB : qb_iB hp n) {Q i : Int} (h0 : 0 ≤ Q) (h1 : Q < 4) (hi : 0 ≤ i) (hiN : i < bN hp n Q) : br_is (qb_gq hp Q) n (hp 16) (i * hp 10 1) (i * hp 10 1 + hp 10 1) (bq hp n Q i).1 (bq hp n Q i).2.1 (bq hp n Q i).2.2.1 (bq hp n Q i).2.2.2 := by
  have hb := ((bN_in hB h0 h1).2.2 i hi).1 hiN
  have hr1 := hB.1.2.2.2.2.2.2.2.2.1
  have hm : 0 ≤ i * hp 10 1 := Int.mul_nonneg hi (by omega)
  obtain ⟨d, m, l, p, h⟩ := br_ex (g := qb_gq hp Q) (n := n) (hp 16) hm (show i * hp 10 1 < i * hp 10 1 + hp 10 1 by omega) hb
  have hx := bx_is h
  have e : bq hp n Q i = (d, m, l, p) := by
    unfold bq
    exact Prod.ext hx.1.symm (Prod.ext hx.2.1.symm (Prod.ext hx.2.2.1.symm hx.2.2.2.symm))
  rw [e]; exact h
theorem bd_in {hp : qb_H} {n : Nat} (hB : qb_iB hp n) {Q i : Int} (h0 : 0 ≤ Q) (h1 : Q < 4) (hi : 0 ≤ i) (hiN : i < bN hp n Q) : 0 ≤ (bq hp n Q i).1 ∧ (bq hp n Q i).1 ≤ 2072 := by
  obtain ⟨⟨p, p1, p2, p3⟩, -⟩ := bq_is hB h0 h1 hi hiN
  have hk := qb_sok hB.1 h0 h1
  have hS := sc_Sb hk p1
  have hpc := hk.2.2.2.2.1
  have hw : 0 < sc_W (qb_gq hp Q) p := by unfold br_in at p2; omega
  have hd := (sc_dl hk p1 hw).1
  have hh := hk.2.1 _ (hk.1 p p1).1 (hk.1 p p1).2
  have hs := hk.2.2.2.2.2
  have hm := sc_mle hk (show sc_h (qb_gq hp Q) (sc_o (qb_gq hp Q) p) + sc_s (qb_gq hp Q) ≤ 2072 by omega)
  rw [p3]
  unfold br_in at p2
  refine ⟨Int.ediv_nonneg (by omega) (by omega), ?_⟩
  apply Int.le_of_lt_add_one
  rw [Int.ediv_lt_iff_lt_mul (by omega), Int.add_mul]
  omega
theorem bd_mono {hp : qb_H} {n : Nat} (hB : qb_iB hp n) {Q i j : Int} (h0 : 0 ≤ Q) (h1 : Q < 4) (hi : 0 ≤ i) (hij : i ≤ j) (hjN : j < bN hp n Q) : (bq hp n Q i).1 ≤ (bq hp n Q j).1 := by
  obtain ⟨⟨p, p1, p2, p3⟩, -⟩ := bq_is hB h0 h1 hi (by omega)
  obtain ⟨⟨q, q1, q2, q3⟩, -⟩ := bq_is hB h0 h1 (show 0 ≤ j by omega) hjN
  have hk := qb_sok hB.1 h0 h1
  have hpc := hk.2.2.2.2.1
  have hr1 := hB.1.2.2.2.2.2.2.2.2.1
  have hm : i * hp 10 1 ≤ j * hp 10 1 := Int.mul_le_mul_of_nonneg_right hij (by omega)
  rw [p3, q3]
  exact Int.ediv_le_ediv (by omega) (br_pos p2 q2 (by omega))
/-- the brand of barrel i by the act of the day on which it is done -/
noncomputable def bg (hp : qb_H) (n : Nat) (Q i : Int) : Int := bb hp Q (bq hp n Q i).1 (bq hp n Q i).2.1 (bq hp n Q i).2.2.1 ((bq hp n Q i).1 / 24)
noncomputable def bc (hp : qb_H) (n : Nat) (Q G L i : Int) : Int := if (bq hp n Q i).1 ≤ L ∧ bg hp n Q i ≠ -6 ∧ (G = -6 ∨ bg hp n Q i = G) then 1 else 0
theorem bg_kS {hp hq : qb_H} (hk : kS hp hq) (n : Nat) (Q i : Int) : bg hq n Q i = bg hp n Q i := by
  unfold bg
  rw [bq_kS hk, bb_kS hk]
theorem bc_kS {hp hq : qb_H} (hk : kS hp hq) (n : Nat) (Q G L i : Int) : bc hq n Q G L i = bc hp n Q G L i := by
  unfold bc
  rw [bq_kS hk, bg_kS hk]
theorem bc_in {hp : qb_H} {n : Nat} {Q G L : Int} (m : Nat) : 0 ≤ qb_sum (bc hp n Q G L) m ∧ qb_sum (bc hp n Q G L) m ≤ m := by
  have := qb_sum_in (f := bc hp n Q G L) (lo := 0) (hi := 1) m (fun k _ => by unfold bc; split <;> decide)
  omega
theorem bv_rng {t : Int → Int} {m : Int} {lt kd cp nm fa : Int → Int} : ∀ (f : Nat) (r k so : Int), tx_to t m lt kd cp nm f r k → (0 ≤ lt r ∧ lt r ≤ 5) → (¬ so = 0 → 0 ≤ lt (r - 1) ∧ lt (r - 1) ≤ 5) → bv lt kd cp nm fa f r so = -6 ∨ (0 ≤ bv lt kd cp nm fa f r so ∧ bv lt kd cp nm fa f r so ≤ 5) := by
  intro f
  induction f with
  | zero => intro r k so h; exact absurd h (by simp [tx_to])
  | succ f ih =>
    intro r k so h hr hs
    simp only [tx_to] at h
    obtain ⟨d, h1, h2⟩ := h
    have hnext : ∀ so' : Int, bv lt kd cp nm fa f (r + 1) so' = -6 ∨ (0 ≤ bv lt kd cp nm fa f (r + 1) so' ∧ bv lt kd cp nm fa f (r + 1) so' ≤ 5) := by
      intro so'
      have e1 : r + 1 - 1 = r := by omega
      rcases h2 with h2 | h2 | h2
      · rw [h2.1]
        simp only [bv]
        rw [e1]
        split
        · exact Or.inl rfl
        · exact Or.inr hr
      · exact ih _ _ so' h2.2.2 (by rw [h2.2.1]; exact hr) (fun _ => by rw [e1]; exact hr)
      · exact ih _ _ so' h2.2.2.2.2.2 h2.2.2.2.2.1 (fun _ => by rw [e1]; exact hr)
    simp only [bv]
    split
    · split
      · exact hnext _
      · exact Or.inr (hs (by assumption))
    · exact hnext _
theorem bb_rng {hp : qb_H} (hA : qb_iA hp) (q d m l day : Int) : bb hp q d m l day = -6 ∨ (0 ≤ bb hp q d m l day ∧ bb hp q d m l day ≤ 5) := by
  have ha := (iA_act hA day).2
  unfold bb
  by_cases c : v_m_actOn day hp < 0
  · rw [if_pos c]; exact Or.inl rfl
  · rw [if_neg c]
    have ho := (hA.2.2 (v_m_actOn day hp) (by omega) (by omega)).2
    exact bv_rng _ _ _ _ ho.2.2.2.2.2 ho.2.2.1 (fun z => absurd rfl z)
/-- the class counts -/
def cq_inv (hw : qb_H) (n : Nat) (Q i x6 : Int) (hs : qb_H) : Prop :=
  (∀ c : Nat, c ≠ 25 → c ≠ 31 → hs c = hw c) ∧ hs 25 0 = Q ∧ (∃ pl : Nat, hs 25 1 = pl ∧ pl ≤ n ∧ ∀ p : Nat, p < pl → ¬ br_ov (qb_gq hw Q) (i * hw 10 1) (i * hw 10 1 + hw 10 1) p) ∧
  ((i = 0 ∧ hs 25 2 = -6) ∨ (1 ≤ i ∧ hs 25 2 = (bq hw n Q (i - 1)).1 ∧ hs 25 3 = (bq hw n Q (i - 1)).2.1 ∧ hs 25 4 = (bq hw n Q (i - 1)).2.2.1 ∧ x6 = bg hw n Q (i - 1)))
theorem kS_two {hp hq : qb_H} (h : ∀ c : Nat, c ≠ 25 → c ≠ 31 → hq c = hp c) : kS hp hq := by
  refine ⟨fun c h1 h2 h3 h4 => h c (fun e => h1 (by rw [e]; decide)) (fun e => h1 (by rw [e]; decide)), fun i _ => by rw [h 60 (by decide) (by decide)], fun k i _ _ => by rw [h 68 (by decide) (by decide)], fun i _ => by rw [h 32 (by decide) (by decide)], fun i _ => by rw [h 59 (by decide) (by decide)]⟩
theorem cq_loop {hw : qb_H} {n : Nat} (hB : qb_iB hw n) (hA : qb_iA hw) (hS : qb_iS hw) {Q : Int} (h0 : 0 ≤ Q) (h1 : Q < 4) (hwk : qb_wk hw n Q) {G L : Int} {K : Int → qb_H → Prop}
    (hK : ∀ hq : qb_H, (∀ c : Nat, c ≠ 25 → c ≠ 31 → hq c = hw c) → K (qb_sum (bc hw n Q G L) (bN hw n Q).toNat) hq) :
    ∀ (j i : Nat) (x6 : Int) (hs : qb_H), (i : Int) + j = bN hw n Q → cq_inv hw n Q i x6 hs → r_q_countBranded_25 G L (bN hw n Q) (qb_sum (bc hw n Q G L) i) x6 i hs K := by
  have hN := bN_in hB h0 h1
  have hr1 := hB.1.2.2.2.2.2.2.2.2.1
  intro j
  induction j with
  | zero =>
    intro i x6 hs he hi
    have e : (bN hw n Q).toNat = i := by omega
    rw [e] at hK
    exact b_q_countBranded_25 ⟨fun _ => hK hs hi.1, fun c => absurd (by omega) c⟩
  | succ j ih =>
    intro i x6 hs he hi
    obtain ⟨i1, i2, ⟨pl, i3, i4, i5⟩, i6⟩ := hi
    have hks := kS_two i1
    have hBs := iB_kS hB hks
    have e10 : hs 10 = hw 10 := i1 10 (by decide) (by decide)
    have egq : qb_gq hs Q = qb_gq hw Q := kS_gq hks Q
    have hwks : qb_wk hs n Q := by
      unfold qb_wk at hwk ⊢
      rw [egq, i1 24 (by decide) (by decide), i1 13 (by decide) (by decide), i1 17 (by decide) (by decide), i1 18 (by decide) (by decide), i1 19 (by decide) (by decide), i1 20 (by decide) (by decide)]
      exact hwk
    have hbi := bq_is hB h0 h1 (i := (i : Int)) (by omega) (by omega)
    have hbd := bd_in hB h0 h1 (i := (i : Int)) (by omega) (by omega)
    have hsi := bc_in (hp := hw) (n := n) (Q := Q) (G := G) (L := L) i
    refine b_q_countBranded_25 ⟨fun c => absurd c (by omega), fun _ => ms_ok hBs.1 hwks h0 h1 (fun _ _ => rfl) i2 (Int.natCast_nonneg i) rfl (by rw [egq, e10]; exact (hN.2.2 i (by omega)).1 (by omega)) i3 i4 (by rw [egq, e10]; exact i5) (fun hq hpost => ?_)⟩
    obtain ⟨p1, p2, ⟨p7, p8, p9⟩, p4, p, p5, p6, p10⟩ := hpost
    rw [egq, e10, i1 16 (by decide) (by decide)] at p4
    rw [egq, e10] at p10
    obtain ⟨u1, u2, u3, -⟩ := br_u p4 hbi
    have cc : ∀ z : Int, z ≠ 6 → h_ck_compare hq 25 z = hq 25 z := fun z hz => by simp [h_ck_compare, qb_st, hz]
    have c6 : h_ck_compare hq 25 6 = (if (hq 25 2) = (hq 25 7) then (if (hq 25 3) = (hq 25 8) then (if (hq 25 4) = (hq 25 9) then (1 : Int) else 0) else 0) else 0) := by simp [h_ck_compare, qb_st]
    have cn : ∀ c : Nat, c ≠ 25 → h_ck_compare hq c = hs c := fun c hc => by rw [hn_ck_compare hq c hc]; exact p1 c hc
    rw [← cc 2 (by decide)] at u1
    rw [← cc 3 (by decide)] at u2
    rw [← cc 4 (by decide)] at u3
    rw [← cc 0 (by decide)] at p2
    rw [← cc 1 (by decide)] at p6
    rw [← cc 2 (by decide), ← cc 3 (by decide), ← cc 4 (by decide), p7, p8, p9] at c6
    generalize h_ck_compare hq = hr at u1 u2 u3 p2 p6 c6 cn cc ⊢
    have cn2 : ∀ c : Nat, c ≠ 25 → c ≠ 31 → hr c = hw c := fun c ha hb => (cn c ha).trans (i1 c ha hb)
    have hno : ∀ q : Nat, q < p → ¬ br_ov (qb_gq hw Q) (((i + 1 : Nat) : Int) * hw 10 1) (((i + 1 : Nat) : Int) * hw 10 1 + hw 10 1) q := by
      intro q hq hov
      have e1 : ((i + 1 : Nat) : Int) * hw 10 1 = (i : Int) * hw 10 1 + hw 10 1 := by rw [Int.natCast_succ, Int.add_mul, Int.one_mul]
      rw [e1] at hov
      have := (sc_next (qb_gq hw Q) hq hov.1).2.2
      unfold br_in at p10
      have := hov.2
      omega
    have hinv : ∀ (hy : qb_H), (∀ c : Nat, c ≠ 31 → hy c = hr c) → cq_inv hw n Q ((i + 1 : Nat) : Int) (bg hw n Q i) hy := by
      intro hy y1
      have y25 := y1 25 (by decide)
      have e1 : ((i + 1 : Nat) : Int) - 1 = i := by omega
      refine ⟨fun c ha hb => (y1 c hb).trans (cn2 c ha hb), by rw [y25]; exact p2, ⟨p, by rw [y25]; exact p6, by omega, hno⟩, Or.inr ⟨by omega, ?_⟩⟩
      rw [y25, e1]
      exact ⟨u1, u2, u3, rfl⟩
    have hsum : qb_sum (bc hw n Q G L) (i + 1) = qb_sum (bc hw n Q G L) i + bc hw n Q G L i := rfl
    have hval : (bq hw n Q i).1 ≤ L → (if bg hw n Q i = -6 then qb_sum (bc hw n Q G L) i else (if G = -6 then (qb_sum (bc hw n Q G L) i + 1) else (if bg hw n Q i = G then (qb_sum (bc hw n Q G L) i + 1) else qb_sum (bc hw n Q G L) i))) = qb_sum (bc hw n Q G L) (i + 1) := by
      intro hl
      rw [hsum]
      unfold bc
      by_cases a1 : bg hw n Q i = -6
      · rw [if_pos a1, if_neg (fun z => z.2.1 a1)]; omega
      · rw [if_neg a1]
        by_cases a2 : G = -6
        · rw [if_pos a2, if_pos ⟨hl, a1, Or.inl a2⟩]
        · rw [if_neg a2]
          by_cases a3 : bg hw n Q i = G
          · rw [if_pos a3, if_pos ⟨hl, a1, Or.inr a3⟩]
          · rw [if_neg a3, if_neg (fun z => z.2.2.elim a2 a3)]; omega
    refine ⟨fun hl => ⟨fun hlike => ?_, fun hlike => ?_⟩, fun hl => ?_⟩
    · have hkr := kS_two cn2
      refine ⟨by rw [u1]; exact hbd.1, s_q_brandOfCask _ hr (iB_kS hB hkr) (iA_kS hA hkr) (iS_kS hS hkr) _ (fun hy y1 => ?_)⟩
      rw [p2, u1, u2, u3, bb_kS hkr]
      rw [u1] at hl
      have e : bb hw Q (bq hw n Q i).1 (bq hw n Q i).2.1 (bq hw n Q i).2.2.1 ((bq hw n Q i).1 / 24) = bg hw n Q i := rfl
      rw [e, hval hl]
      refine ⟨fun _ => ⟨fun _ => by unfold qb_in; omega, fun _ _ => by unfold qb_in; omega⟩, by unfold qb_in; omega, ?_⟩
      have := ih (i + 1) (bg hw n Q i) hy (by omega) (hinv hy y1)
      rw [Int.natCast_succ] at this
      exact this
    · have hx6 : x6 = bg hw n Q i := by
        rw [c6] at hlike
        by_cases a1 : hr 25 2 = hs 25 2
        · rw [if_pos a1] at hlike
          by_cases a2 : hr 25 3 = hs 25 3
          · rw [if_pos a2] at hlike
            by_cases a3 : hr 25 4 = hs 25 4
            · rcases i6 with i6 | ⟨i6, i7, i8, i9, i10⟩
              · exfalso; omega
              · rw [i10]; unfold bg
                rw [← i7, ← i8, ← i9, ← a1, ← a2, ← a3, u1, u2, u3]
            · rw [if_neg a3] at hlike; exact absurd rfl hlike
          · rw [if_neg a2] at hlike; exact absurd rfl hlike
        · rw [if_neg a1] at hlike; exact absurd rfl hlike
      rw [u1] at hl
      rw [hx6, hval hl]
      refine ⟨fun _ => ⟨fun _ => by unfold qb_in; omega, fun _ _ => by unfold qb_in; omega⟩, by unfold qb_in; omega, ?_⟩
      have := ih (i + 1) (bg hw n Q i) hr (by omega) (hinv hr (fun _ _ => rfl))
      rw [Int.natCast_succ] at this
      exact this
    · rw [u1] at hl
      have e : qb_sum (bc hw n Q G L) (bN hw n Q).toNat = qb_sum (bc hw n Q G L) i := by
        refine qb_sum_tail (by omega) (fun kz k1 k2 => ?_)
        have := bd_mono hB h0 h1 (i := (i : Int)) (j := (kz : Int)) (by omega) (by omega) (by omega)
        unfold bc
        rw [if_neg (fun z => by have := z.1; omega)]
      rw [e] at hK
      exact hK hr cn2
theorem s_q_countBranded {hw : qb_H} {n : Nat} (hB : qb_iB hw n) (hA : qb_iA hw) (hS : qb_iS hw) {Q : Int} (h0 : 0 ≤ Q) (h1 : Q < 4) (hwk : qb_wk hw n Q) (G L : Int) {K : Int → qb_H → Prop}
    (hK : ∀ hq : qb_H, (∀ c : Nat, c ≠ 25 → c ≠ 31 → hq c = hw c) → K (qb_sum (bc hw n Q G L) (bN hw n Q).toNat) hq) : c_q_countBranded Q G L hw K := by
  have hN := bN_in hB h0 h1
  have hr1 := hB.1.2.2.2.2.2.2.2.2.1
  have eN : v_q_barrelsAt Q hw = bN hw n Q := by
    unfold v_q_barrelsAt bN; rw [hwk.1]
  refine b_q_countBranded ⟨⟨⟨h0, h1⟩, by rw [hwk.1]; exact (sc_R0 (qb_gq hw Q) n).2, by omega⟩, fun y ey => ?_⟩
  rw [eN] at ey
  subst ey
  refine cq_loop hB hA hS h0 h1 hwk hK (bN hw n Q).toNat 0 (-6) _ (by omega) ⟨fun c ha hb => hn_ck_start Q hw c ha, by simp [h_ck_start, qb_st], ⟨0, by simp [h_ck_start, qb_st], by omega, fun p hp => by omega⟩, Or.inl ⟨rfl, by simp [h_ck_start, qb_st]⟩⟩
/-- the reference counts -/
theorem m_brandBar {hp hq : qb_H} {n : Nat} (hB : qb_iB hp n) (hA : qb_iA hp) (hS : qb_iS hp) {Q i : Int} (hk : kS hp hq) (e : (hq 60 29, hq 60 30, hq 60 31, hq 60 32) = bq hp n Q i) : mb_g hq ∧ v_m_brandOf Q ((hq 60 29) / 24) hq = bg hp n Q i ∧ hq 60 29 = (bq hp n Q i).1 := by
  have hBq := iB_kS hB hk
  have e29 : hq 60 29 = (bq hp n Q i).1 := congrArg (·.1) e
  have e30 : hq 60 30 = (bq hp n Q i).2.1 := congrArg (·.2.1) e
  have e31 : hq 60 31 = (bq hp n Q i).2.2.1 := congrArg (·.2.2.1) e
  refine ⟨⟨iA_kS hA hk, ⟨(iS_kS hS hk).2.1, by decide⟩, ?_, ?_⟩, ?_, e29⟩
  · rw [hBq.2.2.2.2 1 (by decide) (by decide)]
    have := hBq.1.2.2.2.2.2.2.2.2.1
    omega
  · rw [hBq.2.2.2.2 2 (by decide) (by decide)]
    have := hBq.1.2.2.2.2.2.2.2.2.2.1
    omega
  · rw [m_brand_is, e29, e30, e31, bb_kS hk]
    rfl
theorem m_branded_loop {hp : qb_H} {n : Nat} (hB : qb_iB hp n) (hA : qb_iA hp) (hS : qb_iS hp) {Q : Int} (h0 : 0 ≤ Q) (h1 : Q < 4) {K : Int → qb_H → Prop}
    (hK : ∀ hq : qb_H, tb_st hp n Q hq (bN hp n Q) → K (qb_sum (bc hp n Q (-6) 2147483647) (bN hp n Q).toNat) hq) :
    ∀ (j i : Nat) (hs : qb_H), (i : Int) + j = bN hp n Q → tb_st hp n Q hs i → r_m_brandedOf_15 Q (bN hp n Q) (qb_sum (bc hp n Q (-6) 2147483647) i) i hs K := by
  have hN := bN_in hB h0 h1
  intro j
  induction j with
  | zero =>
    intro i hs he hi
    have e : (bN hp n Q).toNat = i := by omega
    have e2 : (i : Int) = bN hp n Q := by omega
    rw [e] at hK
    rw [e2] at hi
    exact b_m_brandedOf_15 ⟨fun _ => hK hs hi, fun c => absurd (by omega) c⟩
  | succ j ih =>
    intro i hs he hi
    have hsi := bc_in (hp := hp) (n := n) (Q := Q) (G := -6) (L := 2147483647) i
    have hbd := bd_in hB h0 h1 (i := (i : Int)) (by omega) (by omega)
    refine b_m_brandedOf_15 ⟨fun c => absurd c (by omega), fun _ => s_m_takeBarrel hB h0 h1 (Int.natCast_nonneg i) (by omega) hi (fun hq st e => ?_)⟩
    obtain ⟨m1, m2, m3⟩ := m_brandBar hB hA hS st.1 e
    refine ⟨by rw [m3]; exact hbd.1, s_m_brandOf Q _ hq _ m1 ?_⟩
    rw [m2]
    have hrg := bb_rng hA Q (bq hp n Q i).1 (bq hp n Q i).2.1 (bq hp n Q i).2.2.1 ((bq hp n Q i).1 / 24)
    have hrg2 : bg hp n Q i = -6 ∨ (0 ≤ bg hp n Q i ∧ bg hp n Q i ≤ 5) := hrg
    have hval : qb_sum (bc hp n Q (-6) 2147483647) i + (if bg hp n Q i < 0 then (0 : Int) else 1) = qb_sum (bc hp n Q (-6) 2147483647) (i + 1) := by
      show _ = qb_sum (bc hp n Q (-6) 2147483647) i + bc hp n Q (-6) 2147483647 i
      unfold bc
      by_cases a : bg hp n Q i < 0
      · rw [if_pos a, if_neg (fun z => z.2.1 (by omega))]
      · rw [if_neg a, if_pos ⟨by omega, by omega, Or.inl rfl⟩]
    rw [hval]
    have hsi2 := bc_in (hp := hp) (n := n) (Q := Q) (G := -6) (L := 2147483647) (i + 1)
    refine ⟨by unfold qb_in; omega, by unfold qb_in; omega, ?_⟩
    have := ih (i + 1) hq (by omega) (by rw [Int.natCast_succ]; exact st)
    rw [Int.natCast_succ] at this
    exact this
theorem s_m_brandedOf {hp : qb_H} {n : Nat} (hB : qb_iB hp n) (hA : qb_iA hp) (hS : qb_iS hp) {Q : Int} (h0 : 0 ≤ Q) (h1 : Q < 4) {K : Int → qb_H → Prop}
    (hK : ∀ hq : qb_H, tb_st hp n Q hq (bN hp n Q) → K (qb_sum (bc hp n Q (-6) 2147483647) (bN hp n Q).toNat) hq) : c_m_brandedOf Q hp K := by
  have hN := bN_in hB h0 h1
  refine b_m_brandedOf (s_m_begin hB h0 h1 (fun hr hst => ?_))
  obtain ⟨g1, g2⟩ := m_now hB hst
  refine ⟨g1, fun y ey => ?_⟩
  rw [g2] at ey
  subst ey
  exact m_branded_loop hB hA hS h0 h1 hK (bN hp n Q).toNat 0 hr (by omega) hst
theorem m_filled_loop {hp : qb_H} {n : Nat} (hB : qb_iB hp n) (hA : qb_iA hp) (hS : qb_iS hp) {Q G hour what : Int} (h0 : 0 ≤ Q) (h1 : Q < 4) (hG : 0 ≤ G ∧ G ≤ 5) (hh : 0 ≤ hour ∧ hour ≤ 2000) {K : Int → qb_H → Prop}
    (hK : ∀ hq : qb_H, kS hp hq → r_m_filled_55 Q G hour what (bN hp n Q) (qb_sum (bc hp n Q G (hour - 240)) (bN hp n Q).toNat) (bN hp n Q) hq K) :
    ∀ (j i : Nat) (hs : qb_H), (i : Int) + j = bN hp n Q → tb_st hp n Q hs i → r_m_filled_55 Q G hour what (bN hp n Q) (qb_sum (bc hp n Q G (hour - 240)) i) i hs K := by
  have hN := bN_in hB h0 h1
  intro j
  induction j with
  | zero =>
    intro i hs he hi
    have e : (bN hp n Q).toNat = i := by omega
    have e2 : bN hp n Q = (i : Int) := by omega
    have := hK hs hi.1
    rw [e] at this
    rw [e2] at this ⊢
    exact this
  | succ j ih =>
    intro i hs he hi
    have hsi := bc_in (hp := hp) (n := n) (Q := Q) (G := G) (L := hour - 240) i
    have hsi2 := bc_in (hp := hp) (n := n) (Q := Q) (G := G) (L := hour - 240) (i + 1)
    have hbd := bd_in hB h0 h1 (i := (i : Int)) (by omega) (by omega)
    refine b_m_filled_55 ⟨fun c => absurd c (by omega), fun _ => s_m_takeBarrel hB h0 h1 (Int.natCast_nonneg i) (by omega) hi (fun hq st e => ?_)⟩
    obtain ⟨m1, m2, m3⟩ := m_brandBar hB hA hS st.1 e
    have hstep := ih (i + 1) hq (by omega) (by rw [Int.natCast_succ]; exact st)
    rw [Int.natCast_succ] at hstep
    have hsum : qb_sum (bc hp n Q G (hour - 240)) (i + 1) = qb_sum (bc hp n Q G (hour - 240)) i + bc hp n Q G (hour - 240) i := rfl
    refine ⟨by unfold qb_in; omega, fun c => ?_, fun c => ⟨by rw [m3]; exact hbd.1, s_m_brandOf Q _ hq _ m1 (fun y ey => ?_)⟩⟩
    · have hval : qb_sum (bc hp n Q G (hour - 240)) i + 0 = qb_sum (bc hp n Q G (hour - 240)) (i + 1) := by
        rw [hsum]; unfold bc
        rw [if_neg (fun z => by have := z.1; omega)]
      rw [hval]
      exact ⟨by unfold qb_in; omega, by unfold qb_in; omega, hstep⟩
    · rw [m2] at ey
      have hval : qb_sum (bc hp n Q G (hour - 240)) i + y = qb_sum (bc hp n Q G (hour - 240)) (i + 1) := by
        rw [hsum, ey]; unfold bc
        by_cases a : bg hp n Q i = G
        · rw [if_pos a, if_pos ⟨by omega, by omega, Or.inr a⟩]
        · rw [if_neg a, if_neg (fun z => z.2.2.elim (by omega) a)]
      rw [hval]
      exact ⟨by unfold qb_in; omega, by unfold qb_in; omega, hstep⟩
