/-! barrel i of a quay, in both -/
noncomputable def bx (g : sc_G) (n : Nat) (z : Int → Int) (a b : Int) : Int × Int × Int × Int := @dite _ (∃ t : Int × Int × Int × Int, br_is g n z a b t.1 t.2.1 t.2.2.1 t.2.2.2) (Classical.propDecidable _) (fun h => Classical.choose h) (fun _ => (0, 0, 0, 0))
theorem bx_is {g : sc_G} {n : Nat} {z : Int → Int} {a b d m l p : Int} (h : br_is g n z a b d m l p) : d = (bx g n z a b).1 ∧ m = (bx g n z a b).2.1 ∧ l = (bx g n z a b).2.2.1 ∧ p = (bx g n z a b).2.2.2 := by
  have hex : ∃ t : Int × Int × Int × Int, br_is g n z a b t.1 t.2.1 t.2.2.1 t.2.2.2 := ⟨(d, m, l, p), h⟩
  have e : bx g n z a b = Classical.choose hex := by unfold bx; rw [dif_pos hex]
  rw [e]
  exact br_u h (Classical.choose_spec hex)
/-- done, most, least, parts of barrel i -/
noncomputable def bq (hp : qb_H) (n : Nat) (Q i : Int) : Int × Int × Int × Int := bx (qb_gq hp Q) n (hp 16) (i * hp 10 1) (i * hp 10 1 + hp 10 1)
theorem bq_kS {hp hq : qb_H} (hk : kS hp hq) (n : Nat) (Q i : Int) : bq hq n Q i = bq hp n Q i := by
  unfold bq
  rw [kS_gq hk, kS_c hk 16 (by decide) (by decide) (by decide) (by decide) (by decide), kS_c hk 10 (by decide) (by decide) (by decide) (by decide) (by decide)]
/-- many barrels -/
def bN (hp : qb_H) (n : Nat) (Q : Int) : Int := sc_T (qb_gq hp Q) n / hp 10 1
theorem bN_in {hp : qb_H} {n : Nat} (h : qb_iB hp n) {Q : Int} (h0 : 0 ≤ Q) (h1 : Q < 4) : 0 ≤ bN hp n Q ∧ bN hp n Q ≤ 6000 ∧ ∀ i : Int, 0 ≤ i → (i < bN hp n Q ↔ i * hp 10 1 + hp 10 1 ≤ sc_T (qb_gq hp Q) n) := by
  have hr := h.1.2.2.2.2.2.2.2.2.1
  have hT := sc_Tb (qb_sok h.1 h0 h1) n (Nat.le_refl n)
  have hT0 := (sc_R0 (qb_gq hp Q) n).2
  have hn := h.1.2.1
  unfold bN
  refine ⟨Int.ediv_nonneg hT0 (by omega), ?_, fun i hi => ?_⟩
  · apply Int.le_of_lt_add_one
    rw [Int.ediv_lt_iff_lt_mul (by omega)]
    have : (6000 + 1) * 100 ≤ (6000 + 1) * hp 10 1 := Int.mul_le_mul_of_nonneg_left hr.1 (by decide)
    omega
  · rw [show i * hp 10 1 + hp 10 1 = (i + 1) * hp 10 1 by rw [Int.add_mul, Int.one_mul]]
    rw [← Int.le_ediv_iff_mul_le (by omega)]
    omega
/-- the class measures one barrel -/
theorem s_q_measureOne {hp : qb_H} {n : Nat} (hB : qb_iB hp n) {Q i : Int} (h0 : 0 ≤ Q) (h1 : Q < 4) (hw : qb_wk hp n Q) (hi : 0 ≤ i) (hiN : i < bN hp n Q) {K : qb_H → Prop}
    (hK : ∀ hq : qb_H, (∀ c : Nat, c ≠ 25 → hq c = hp c) → hq 25 0 = Q → (hq 25 2, hq 25 3, hq 25 4, hq 25 5) = bq hp n Q i → K hq) : c_q_measureOne Q i hp K := by
  have hb := ((bN_in hB h0 h1).2.2 i hi).1 hiN
  refine b_q_measureOne (ms_ok hB.1 hw h0 h1 (hs := h_ck_start Q hp) (fun c hc => hn_ck_start Q hp c hc) (by simp [h_ck_start, qb_st]) hi rfl hb (pl := 0) (by simp [h_ck_start, qb_st]) (by omega) (fun p hp => by omega) (fun hq hpost => ?_))
  obtain ⟨p1, p2, p3, p4, p5⟩ := hpost
  have hx := bx_is p4
  refine hK _ (fun c hc => by rw [hn_ck_compare _ c hc]; exact p1 c hc) (by simp [h_ck_compare, qb_st, p2]) ?_
  have e : bq hp n Q i = bx (qb_gq hp Q) n (hp 16) (i * hp 10 1) (i * hp 10 1 + hp 10 1) := rfl
  rw [e]
  have e2 : ∀ j : Int, j ≠ 6 → h_ck_compare hq 25 j = hq 25 j := fun j hj => by simp [h_ck_compare, qb_st, hj]
  rw [e2 2 (by decide), e2 3 (by decide), e2 4 (by decide), e2 5 (by decide)]
  exact Prod.ext hx.1 (Prod.ext hx.2.1 (Prod.ext hx.2.2.1 hx.2.2.2))
/-- what spoils at a quay -/
def sc_sp (g : sc_G) (n : Nat) : Int := qb_sum (fun p => if sc_a g (sc_o g p) = true then sc_f g (sc_o g p) - sc_W g p.toNat else 0) n
theorem mw_sp {g : sc_G} {n : Nat} {hp hq : qb_H} (hperm : ∀ F : Int → Int, qb_sum (fun p => F (sc_o g p)) n = qb_sum F n) (h : mw_post g n hp hq) : hq 60 39 = sc_sp g n := by
  rw [h.2.2.2.1, ← hperm]
  refine qb_sum_cg n (fun p hp => ?_)
  by_cases c : sc_a g (sc_o g p) = true
  · rw [if_pos c, if_pos c, (h.2.2.1 p hp c).1, Int.toNat_natCast]
  · rw [if_neg c, if_neg c]
/-- the reference begins its barrels -/
def tb_st (hp : qb_H) (n : Nat) (Q : Int) (hq : qb_H) (i : Int) : Prop := kS hp hq ∧ hq 60 38 = sc_T (qb_gq hp Q) n ∧ hq 60 39 = sc_sp (qb_gq hp Q) n ∧ (∃ mz : Nat, tb_P (qb_gq hp Q) n hq mz ∧ tb_at hq mz (i * hp 10 1)) ∧ (∀ c : Nat, c < 60 → hq c = hp c)
theorem s_m_begin {hp : qb_H} {n : Nat} (hB : qb_iB hp n) {Q : Int} (h0 : 0 ≤ Q) (h1 : Q < 4) {K : qb_H → Prop} (hK : ∀ hq : qb_H, tb_st hp n Q hq 0 → K hq) : c_m_beginBarrels Q hp K := by
  have hmg := iB_mg hB h0 h1
  refine b_m_beginBarrels (mw_ok hmg (fun hr hpost => ?_))
  have hsp := mw_sp (g := qb_gq hp Q) hB.1.2.2.2.2.2.1 hpost
  obtain ⟨q1, q2, q3, q4, mz, q5, q6, q7, q8⟩ := hpost
  have hk1 := mi_kS q1
  have hk2 : kS hr (qb_st (qb_st hr 60 40 0) 60 41 0) := (kS_60 (j := 40) (by decide)).tr (kS_60 (j := 41) (by decide))
  have hk3 := hk1.tr hk2
  have hne : ∀ c : Nat, c ≠ 60 → qb_st (qb_st hr 60 40 0) 60 41 0 c = hr c := fun c hc => by rw [qb_st_ne hc, qb_st_ne hc]
  have e38 : qb_st (qb_st hr 60 40 0) 60 41 0 60 38 = hr 60 38 := by simp [qb_st]
  have e39 : qb_st (qb_st hr 60 40 0) 60 41 0 60 39 = hr 60 39 := by simp [qb_st]
  have e40 : qb_st (qb_st hr 60 40 0) 60 41 0 60 40 = 0 := by simp [qb_st]
  have e41 : qb_st (qb_st hr 60 40 0) 60 41 0 60 41 = 0 := by simp [qb_st]
  generalize qb_st (qb_st hr 60 40 0) 60 41 0 = hq at hk2 hk3 hne e38 e39 e40 e41 ⊢
  have hBq := iB_kS hB hk3
  have hg := kS_gq hk3 Q
  refine hK hq ⟨hk3, by rw [e38]; exact q2, ?_, ⟨mz, ⟨hB.1.2.1, qb_sok hB.1 h0 h1, q6, by rw [hne 85 (by decide)]; exact q7, fun j hj => ?_, fun k k0 k1 => ?_, ?_⟩, 0, e40, by omega, by omega, ?_, fun hm => ?_, fun _ => e41⟩, fun c hc => ?_⟩
  · rw [e39]; exact hsp
  · have := q8 j hj
    unfold mi_pc at this ⊢
    rw [hne 83 (by decide), hne 84 (by decide), hne 85 (by decide)]
    exact this
  · obtain ⟨b1, b2, b3, b4, b5⟩ := hBq
    obtain ⟨c0, c1, c2, c3, c4⟩ := b3 k k0 k1
    have hz := (b1.2.2.2.1 k k0 k1).2.2.2.2
    rw [c2, c4]
    refine ⟨?_, hz⟩
    rw [← hg]; rfl
  · rw [hBq.2.2.2.2 1 (by decide) (by decide)]
    exact hBq.1.2.2.2.2.2.2.2.2.1
  · rw [e41, Int.zero_mul]; rfl
  · rw [e41, hne 85 (by decide)]
    obtain ⟨p, -, -, -, r, -⟩ := q8 0 hm
    have r2 : 1 ≤ hr 85 ((0 : Nat) : Int) := r
    omega
  · rw [hne c (by omega)]
    exact q1.1 c (by omega) (by omega) (by omega) (by omega) (by omega) (by omega)
/-- and takes barrel i -/
theorem s_m_takeBarrel {hp hr : qb_H} {n : Nat} (hB : qb_iB hp n) {Q i : Int} (h0 : 0 ≤ Q) (h1 : Q < 4) (hi : 0 ≤ i) (hiN : i < bN hp n Q) (hst : tb_st hp n Q hr i) {K : qb_H → Prop}
    (hK : ∀ hq : qb_H, tb_st hp n Q hq (i + 1) → (hq 60 29, hq 60 30, hq 60 31, hq 60 32) = bq hp n Q i → K hq) : c_m_takeBarrel hr K := by
  obtain ⟨k1, k2, k3, ⟨mz, k4, k5⟩, k6⟩ := hst
  have hb := ((bN_in hB h0 h1).2.2 i hi).1 hiN
  have hBr := iB_kS hB k1
  have e67 : hr 67 1 = hp 10 1 := by
    rw [hBr.2.2.2.2 1 (by decide) (by decide)]
    exact congrFun (kS_c k1 10 (by decide) (by decide) (by decide) (by decide) (by decide)) 1
  have hr1 := hB.1.2.2.2.2.2.2.2.2.1
  refine tb_ok k4 (Int.mul_nonneg hi (by omega)) (by rw [e67]; exact hb) k5 (fun hq t1 t2 t3 => ?_)
  rw [e67] at t2 t3
  have hz : ∀ k : Int, 0 ≤ k → k < n → tb_z hr k = hp 16 k := fun k c0 c1 => by
    unfold tb_z
    rw [(hBr.2.2.1 k c0 c1).2.2.2.2]
    exact congrFun (kS_c k1 16 (by decide) (by decide) (by decide) (by decide) (by decide)) k
  have hk := qb_sok hB.1 h0 h1
  have t4 : br_is (qb_gq hp Q) n (hp 16) (i * hp 10 1) (i * hp 10 1 + hp 10 1) (hq 60 29) (hq 60 30) (hq 60 31) (hq 60 32) := by
    obtain ⟨x1, x2, ⟨x3, p, x4, x5, x6⟩, x7⟩ := t3
    refine ⟨x1, x2, ⟨fun q c1 c2 => ?_, p, x4, x5, ?_⟩, x7⟩
    · have hko := hk.1 q c1
      rw [← hz _ hko.1 hko.2]; exact x3 q c1 c2
    · have hko := hk.1 p x4
      rw [← hz _ hko.1 hko.2]; exact x6
  have hx := bx_is t4
  refine hK hq ⟨k1.tr (tb_kS t1), ?_, ?_, ⟨mz, (k4.go t1).1, ?_⟩, fun c hc => (t1.1 c (by omega)).trans (k6 c hc)⟩ (Prod.ext hx.1 (Prod.ext hx.2.1 (Prod.ext hx.2.2.1 hx.2.2.2)))
  · rw [t1.2 38 (by decide) (by decide) (by decide) (by decide) (by decide) (by decide)]; exact k2
  · rw [t1.2 39 (by decide) (by decide) (by decide) (by decide) (by decide) (by decide)]; exact k3
  · rw [Int.add_mul, Int.one_mul]; exact t2
