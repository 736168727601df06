/-! COST: the class by the order, the reference by hours -/
def cv (hp : qb_H) (b Q kn ag : Int) : Nat → Int × Int
  | 0 => (ag, 0)
  | p + 1 => if hp 12 (hp 17 p) = b ∧ hp 13 (hp 17 p) = Q then ((cv hp b Q kn ag p).1 - min (cv hp b Q kn ag p).1 (hp 15 (hp 17 p)), ((cv hp b Q kn ag p).2 + min (cv hp b Q kn ag p).1 (hp 15 (hp 17 p)) * hp 39 b / hp 10 4) + (hp 15 (hp 17 p) - min (cv hp b Q kn ag p).1 (hp 15 (hp 17 p))) * v_m_freeAt (hp 14 (hp 17 p) / 24) kn hp / hp 10 4) else cv hp b Q kn ag p
theorem cv_yes {hp : qb_H} {b Q kn ag : Int} {p : Nat} (h : hp 12 (hp 17 p) = b ∧ hp 13 (hp 17 p) = Q) : cv hp b Q kn ag (p + 1) = ((cv hp b Q kn ag p).1 - min (cv hp b Q kn ag p).1 (hp 15 (hp 17 p)), ((cv hp b Q kn ag p).2 + min (cv hp b Q kn ag p).1 (hp 15 (hp 17 p)) * hp 39 b / hp 10 4) + (hp 15 (hp 17 p) - min (cv hp b Q kn ag p).1 (hp 15 (hp 17 p))) * v_m_freeAt (hp 14 (hp 17 p) / 24) kn hp / hp 10 4) := by
  simp only [cv]; rw [if_pos h]
theorem cv_no {hp : qb_H} {b Q kn ag : Int} {p : Nat} (h : ¬ (hp 12 (hp 17 p) = b ∧ hp 13 (hp 17 p) = Q)) : cv hp b Q kn ag (p + 1) = cv hp b Q kn ag p := by
  simp only [cv]; rw [if_neg h]
theorem cs_b {x y cr : Int} (hx : 0 ≤ x ∧ x ≤ 20000) (hy : 0 ≤ y ∧ y ≤ 1000) (hc : 500 ≤ cr) : 0 ≤ x * y ∧ x * y ≤ 20000000 ∧ 0 ≤ x * y / cr ∧ x * y / cr ≤ 40000 := by
  have h1 : 0 ≤ x * y := Int.mul_nonneg hx.1 hy.1
  have h2 : x * y ≤ 20000 * y := Int.mul_le_mul_of_nonneg_right hx.2 hy.1
  refine ⟨h1, by omega, Int.ediv_nonneg h1 (by omega), ?_⟩
  apply Int.le_of_lt_add_one
  rw [Int.ediv_lt_iff_lt_mul (by omega)]
  omega
/-- the landing at place p of the order: all bounds at once -/
theorem iL_at {hp : qb_H} {n : Nat} (h : qb_iL hp n) {p : Nat} (hpn : p < n) : (0 ≤ hp 17 p ∧ hp 17 p < n) ∧ (0 ≤ hp 14 (hp 17 p) ∧ hp 14 (hp 17 p) ≤ 2000) ∧ (1 ≤ hp 15 (hp 17 p) ∧ hp 15 (hp 17 p) ≤ 20000) := by
  have h1 := h.2.2.1 p hpn
  have h2 := h.2.2.2.1 _ h1.1 h1.2
  exact ⟨h1, h2.2.2.1, h2.2.2.2.1⟩
theorem cv_in {hp : qb_H} {n : Nat} (hB : qb_iB hp n) (hE : qb_iE hp) (hF : qb_iF hp) {b Q kn ag : Int} (hb : 0 ≤ b ∧ b < 10) (ha : 0 ≤ ag ∧ ag ≤ 75000) : ∀ p : Nat, p ≤ n → (0 ≤ (cv hp b Q kn ag p).1 ∧ (cv hp b Q kn ag p).1 ≤ 75000) ∧ (0 ≤ (cv hp b Q kn ag p).2 ∧ (cv hp b Q kn ag p).2 ≤ 80000 * p) := by
  intro p
  induction p with
  | zero => intro _; exact ⟨ha, Int.le_refl 0, by simp [cv]⟩
  | succ p ih =>
    intro hpn
    obtain ⟨i1, i2⟩ := ih (by omega)
    obtain ⟨a1, a2, a3⟩ := iL_at hB.1 (show p < n by omega)
    have hpr := (hE b hb.1 hb.2)
    have hcr := hB.1.2.2.2.2.2.2.2.2.2.2.2.1
    have hfr := (iF_eq hF (hp 14 (hp 17 p) / 24) kn).2
    by_cases c : hp 12 (hp 17 p) = b ∧ hp 13 (hp 17 p) = Q
    · rw [cv_yes c]
      have b1 := cs_b (x := min (cv hp b Q kn ag p).1 (hp 15 (hp 17 p))) (y := hp 39 b) (cr := hp 10 4) (by omega) (by omega) hcr.1
      have b2 := cs_b (x := hp 15 (hp 17 p) - min (cv hp b Q kn ag p).1 (hp 15 (hp 17 p))) (y := v_m_freeAt (hp 14 (hp 17 p) / 24) kn hp) (cr := hp 10 4) (by omega) (by omega) hcr.1
      refine ⟨?_, ?_⟩
      · show 0 ≤ (cv hp b Q kn ag p).1 - min (cv hp b Q kn ag p).1 (hp 15 (hp 17 p)) ∧ (cv hp b Q kn ag p).1 - min (cv hp b Q kn ag p).1 (hp 15 (hp 17 p)) ≤ 75000
        omega
      · show 0 ≤ ((cv hp b Q kn ag p).2 + _) + _ ∧ ((cv hp b Q kn ag p).2 + _) + _ ≤ _
        omega
    · rw [cv_no c]
      exact ⟨i1, by omega⟩
theorem s_q_costOf {hp : qb_H} {n : Nat} (hB : qb_iB hp n) (hE : qb_iE hp) (hF : qb_iF hp) {b Q kn ag : Int} (hb : 0 ≤ b ∧ b < 10) (ha : 0 ≤ ag ∧ ag ≤ 75000) {K : Int → qb_H → Prop} (hK : K (cv hp b Q kn ag n).2 hp) : c_q_costOf b Q kn ag hp K := by
  have hn := hB.1.1
  have hn30 := hB.1.2.1
  have hcr := hB.1.2.2.2.2.2.2.2.2.2.2.2.1
  have hpr := (hE b hb.1 hb.2)
  refine b_q_costOf (qb_up n (fun p x => r_q_costOf_18 b Q kn (hp 10 4) (cv hp b Q kn ag p).1 (cv hp b Q kn ag p).2 x hp K) ?_ ?_)
  · exact b_q_costOf_18 ⟨fun _ => hK, fun c => absurd (by omega) c⟩
  · intro p hpn ih
    obtain ⟨a1, a2, a3⟩ := iL_at hB.1 hpn
    obtain ⟨i1, i2⟩ := cv_in hB hE hF (Q := Q) (kn := kn) hb ha p (by omega)
    refine b_q_costOf_18 ⟨fun c => absurd c (by omega), fun _ => ⟨by omega, by omega, fun c1 => ⟨fun c2 => ?_, fun c2 => ?_⟩, fun c1 => ?_⟩⟩
    · rw [cv_yes ⟨c1, c2⟩] at ih
      have hfr := (iF_eq hF (hp 14 (hp 17 p) / 24) kn).2
      have b1 := cs_b (x := min (cv hp b Q kn ag p).1 (hp 15 (hp 17 p))) (y := hp 39 b) (cr := hp 10 4) (by omega) (by omega) hcr.1
      have b2 := cs_b (x := hp 15 (hp 17 p) - min (cv hp b Q kn ag p).1 (hp 15 (hp 17 p))) (y := v_m_freeAt (hp 14 (hp 17 p) / 24) kn hp) (cr := hp 10 4) (by omega) (by omega) hcr.1
      refine ⟨by unfold qb_in; omega, hb, by unfold qb_in; omega, b1.1, by omega, by unfold qb_in; omega, by unfold qb_in; omega, a2.1, s_q_freePrice hF _ _ ⟨by unfold qb_in; omega, b2.1, by unfold qb_in; omega, ih⟩⟩
    · rw [cv_no (fun z => c2 z.2)] at ih; exact ih
    · rw [cv_no (fun z => c1 z.1)] at ih; exact ih
/-- hour H, number k of the reference's walk: the order's places ahead of p are passed -/
def lay (hp : qb_H) (n p : Nat) (H k : Int) : Prop := p ≤ n ∧ (∀ q : Nat, q < p → hp 14 (hp 17 q) < H ∨ (hp 14 (hp 17 q) = H ∧ hp 17 q < k)) ∧ (∀ q : Nat, p ≤ q → q < n → H < hp 14 (hp 17 q) ∨ (hp 14 (hp 17 q) = H ∧ k ≤ hp 17 q))
theorem lay_hit {hp : qb_H} {n p : Nat} {H k : Int} (hL : qb_iL hp n) (h : lay hp n p H k) (hk0 : 0 ≤ k) (hk1 : k < n) (hh : hp 14 k = H) : p < n ∧ hp 17 p = k ∧ lay hp n (p + 1) H (k + 1) := by
  obtain ⟨h0, h1, h2⟩ := h
  have hs := hL.2.2.2.2.1
  obtain ⟨q, q1, q2⟩ := qb_onto hL.2.2.2.2.2.1 k hk0 hk1
  have hpq : p ≤ q := by
    apply Classical.byContradiction
    intro z
    have := h1 q (by omega)
    rw [q2] at this; omega
  have hqp : q = p := by
    apply Classical.byContradiction
    intro z
    have a := h2 p (Nat.le_refl p) (by omega)
    have b := hs p q (by omega) q1
    rw [q2] at b; omega
  subst hqp
  refine ⟨q1, q2, by omega, fun r r1 => ?_, fun r r1 r2 => ?_⟩
  · by_cases e : r = q
    · rw [e, q2]; omega
    · have := h1 r (by omega); omega
  · have a := h2 r (by omega) r2
    have b := hs q r (by omega) r2
    rw [q2] at b; omega
theorem lay_miss {hp : qb_H} {n p : Nat} {H k : Int} (h : lay hp n p H k) (hh : hp 14 k ≠ H) : lay hp n p H (k + 1) := by
  obtain ⟨h0, h1, h2⟩ := h
  refine ⟨h0, fun r r1 => ?_, fun r r1 r2 => ?_⟩
  · have := h1 r r1; omega
  · have a := h2 r r1 r2
    by_cases e : hp 17 r = k
    · rw [e] at a ⊢; omega
    · omega
theorem lay_next {hp : qb_H} {n p : Nat} {H : Int} (hL : qb_iL hp n) (h : lay hp n p H n) : lay hp n p (H + 1) 0 := by
  obtain ⟨h0, h1, h2⟩ := h
  refine ⟨h0, fun r r1 => ?_, fun r r1 r2 => ?_⟩
  · have := h1 r r1; omega
  · have a := h2 r r1 r2
    have := hL.2.2.1 r r2
    omega
def fs (hp : qb_H) (b Q : Int) (p : Nat) : Int := qb_sum (fun q => if hp 12 (hp 17 q) = b ∧ hp 13 (hp 17 q) = Q then hp 15 (hp 17 q) else 0) p
theorem fs_in {hp : qb_H} {n : Nat} (hL : qb_iL hp n) {b Q : Int} {p : Nat} (h : p ≤ n) : 0 ≤ fs hp b Q p ∧ fs hp b Q p ≤ 20000 * p := by
  have := qb_sum_in (f := fun q => if hp 12 (hp 17 q) = b ∧ hp 13 (hp 17 q) = Q then hp 15 (hp 17 q) else 0) (lo := 0) (hi := 20000) p (fun k hk => by
    have := (iL_at hL (show k < n by omega)).2.2
    show 0 ≤ (if hp 12 (hp 17 k) = b ∧ hp 13 (hp 17 k) = Q then hp 15 (hp 17 k) else 0) ∧ (if hp 12 (hp 17 k) = b ∧ hp 13 (hp 17 k) = Q then hp 15 (hp 17 k) else 0) ≤ 20000
    split <;> omega)
  unfold fs; omega
def ly (hp : qb_H) (b Q kn ag : Int) (p : Nat) (hr : qb_H) : Prop := (∀ c : Nat, c ≠ 60 → hr c = hp c) ∧ (∀ j : Int, j ≠ 42 → j ≠ 43 → j ≠ 44 → hr 60 j = hp 60 j) ∧ hr 60 42 = (cv hp b Q kn ag p).2 ∧ hr 60 43 = (cv hp b Q kn 0 p).2 ∧ hr 60 44 = fs hp b Q p
theorem ly_kS {hp hr : qb_H} {b Q kn ag : Int} {p : Nat} (h : ly hp b Q kn ag p hr) : kS hp hr := by
  refine ⟨fun c _ c2 _ _ => h.1 c c2, fun j hj => h.2.1 j (fun e => hj (by rw [e]; decide)) (fun e => hj (by rw [e]; decide)) (fun e => hj (by rw [e]; decide)), fun k i _ _ => by rw [h.1 68 (by decide)], fun j _ => by rw [h.1 32 (by decide)], fun j _ => by rw [h.1 59 (by decide)]⟩
theorem cv0 {hp : qb_H} {n : Nat} (hB : qb_iB hp n) {b Q kn : Int} : ∀ p : Nat, p ≤ n → (cv hp b Q kn 0 p).1 = 0 := by
  intro p
  induction p with
  | zero => intro _; rfl
  | succ p ih =>
    intro h
    have i := ih (by omega)
    have := (iL_at hB.1 (show p < n by omega)).2.2
    by_cases c : hp 12 (hp 17 p) = b ∧ hp 13 (hp 17 p) = Q
    · rw [cv_yes c]
      show (cv hp b Q kn 0 p).1 - min (cv hp b Q kn 0 p).1 (hp 15 (hp 17 p)) = 0
      omega
    · rw [cv_no c]; exact i
theorem lay_skip {hp : qb_H} {n p : Nat} {H k b Q kn ag : Int} (hL : qb_iL hp n) (h : lay hp n p H k) (hk0 : 0 ≤ k) (hk1 : k < n) (hno : ¬ (hp 12 k = b ∧ hp 13 k = Q ∧ hp 14 k = H)) : ∃ p' : Nat, lay hp n p' H (k + 1) ∧ (cv hp b Q kn ag p').1 = (cv hp b Q kn ag p).1 ∧ ∀ hr : qb_H, ly hp b Q kn ag p hr → ly hp b Q kn ag p' hr := by
  by_cases c : hp 14 k = H
  · obtain ⟨a1, a2, a3⟩ := lay_hit hL h hk0 hk1 c
    have hno2 : ¬ (hp 12 (hp 17 p) = b ∧ hp 13 (hp 17 p) = Q) := by rw [a2]; exact fun z => hno ⟨z.1, z.2, c⟩
    refine ⟨p + 1, a3, by rw [cv_no hno2], fun hr hl => ?_⟩
    unfold ly at hl ⊢
    rw [cv_no hno2, cv_no hno2]
    have e : fs hp b Q (p + 1) = fs hp b Q p := by
      show fs hp b Q p + (if hp 12 (hp 17 p) = b ∧ hp 13 (hp 17 p) = Q then hp 15 (hp 17 p) else 0) = _
      rw [if_neg hno2]; omega
    rw [e]; exact hl
  · exact ⟨p, lay_miss h c, rfl, fun hr hl => hl⟩
theorem m_lay_in {hp : qb_H} {n : Nat} (hB : qb_iB hp n) (hE : qb_iE hp) (hF : qb_iF hp) {b Q kn ag H : Int} (hb : 0 ≤ b ∧ b < 10) (ha : 0 ≤ ag ∧ ag ≤ 75000) (hH : 0 ≤ H ∧ H ≤ 2000) {K : qb_H → Prop}
    (hK : ∀ (p : Nat) (hr : qb_H), lay hp n p H n → ly hp b Q kn ag p hr → r_m_layCost_47 b Q kn (cv hp b Q kn ag p).1 (H + 1) hr K) :
    ∀ (j k : Nat) (p : Nat) (hr : qb_H), k + j = n → lay hp n p H k → ly hp b Q kn ag p hr → r_m_layCost_58 b Q kn (cv hp b Q kn ag p).1 H k hr K := by
  have hn30 := hB.1.2.1
  have hcr := hB.1.2.2.2.2.2.2.2.2.2.2.2.1
  have hpr := (hE b hb.1 hb.2)
  intro j
  induction j with
  | zero =>
    intro k p hr he hl hy
    have e : k = n := by omega
    subst e
    have e9 : hr 60 9 = (k : Int) := by rw [hy.2.1 9 (by decide) (by decide) (by decide)]; exact hB.2.1
    exact b_m_layCost_58 ⟨fun _ => ⟨by unfold qb_in; omega, hK p hr hl hy⟩, fun c => absurd (by omega) c⟩
  | succ j ih =>
    intro k p hr he hl hy
    have hy2 := hy
    obtain ⟨y1, y2, y3, y4, y5⟩ := hy
    have e9 : hr 60 9 = (n : Int) := by rw [y2 9 (by decide) (by decide) (by decide)]; exact hB.2.1
    have e68 : hr 68 = hp 68 := y1 68 (by decide)
    obtain ⟨f0, f1, f2, f3, f4⟩ := hB.2.2.1 (k : Int) (by omega) (by omega)
    have hkk := hB.1.2.2.2.1 (k : Int) (by omega) (by omega)
    have hskip : ¬ (hp 12 k = b ∧ hp 13 k = Q ∧ hp 14 k = H) → (qb_in ((k : Int) + 1)) ∧ r_m_layCost_58 b Q kn (cv hp b Q kn ag p).1 H ((k : Int) + 1) hr K := by
      intro hno
      obtain ⟨p', s1, s2, s3⟩ := lay_skip (kn := kn) (ag := ag) hB.1 hl (by omega) (by omega) hno
      refine ⟨by unfold qb_in; omega, ?_⟩
      have := ih (k + 1) p' hr (by omega) (by rw [Int.natCast_succ]; exact s1) (s3 hr hy2)
      rw [Int.natCast_succ, s2] at this
      exact this
    refine b_m_layCost_58 ⟨fun c => absurd c (by omega), fun _ => ?_⟩
    rw [e68, f0, f1, f2, f3]
    refine ⟨by unfold qb_in; omega, by omega, fun c1 => ⟨by omega, fun c2 => ⟨by omega, fun c3 => ⟨by omega, hH.1, ?_⟩, fun c3 => hskip (fun z => c3 z.2.2)⟩, fun c2 => hskip (fun z => c2 z.2.1)⟩, fun c1 => hskip (fun z => c1 z.1)⟩
    obtain ⟨l1, l2, l3⟩ := lay_hit hB.1 hl (by omega) (by omega) c3
    have hc : hp 12 (hp 17 p) = b ∧ hp 13 (hp 17 p) = Q := by rw [l2]; exact ⟨c1, c2⟩
    obtain ⟨i1, i2⟩ := cv_in hB hE hF (Q := Q) (kn := kn) hb ha p (by omega)
    obtain ⟨o1, o2⟩ := cv_in hB hE hF (Q := Q) (kn := kn) hb (ag := 0) (by decide) p (by omega)
    have o3 := cv0 hB (b := b) (Q := Q) (kn := kn) p (by omega)
    have hfs := fs_in hB.1 (b := b) (Q := Q) (show p ≤ n by omega)
    have hfr := (iF_eq hF (H / 24) kn).2
    have b1 := cs_b (x := min (cv hp b Q kn ag p).1 (hp 15 k)) (y := hp 39 b) (cr := hp 10 4) (by omega) (by omega) hcr.1
    have b2 := cs_b (x := hp 15 k - min (cv hp b Q kn ag p).1 (hp 15 k)) (y := v_m_freeAt (H / 24) kn hp) (cr := hp 10 4) (by omega) (by omega) hcr.1
    have b3 := cs_b (x := hp 15 k) (y := v_m_freeAt (H / 24) kn hp) (cr := hp 10 4) (by omega) (by omega) hcr.1
    have efr : v_m_freeAt (H / 24) kn hr = v_m_freeAt (H / 24) kn hp := by
      unfold v_m_freeAt
      rw [y1 74 (by decide), y1 75 (by decide), y1 76 (by decide), y2 18 (by decide) (by decide) (by decide)]
    have em : (if (cv hp b Q kn ag p).1 ≤ hp 15 k then (cv hp b Q kn ag p).1 else hp 15 k) = min (cv hp b Q kn ag p).1 (hp 15 k) := by split <;> omega
    have e73 : hr 73 b = hp 39 b := by rw [y1 73 (by decide)]; exact hpr.2.2.1.symm
    have e67 : hr 67 4 = hp 10 4 := by rw [y1 67 (by decide)]; exact hB.2.2.2.2 4 (by decide) (by decide)
    refine s_m_freeAt _ _ hr _ (by unfold g_m_freeAt; rw [y2 18 (by decide) (by decide) (by decide)]; exact hF.2.1) ?_
    rw [efr, em, e73, e67, y3, y4, y5]
    refine ⟨by unfold qb_in; omega, hb, by unfold qb_in; omega, b1.1, by omega, by unfold qb_in; omega, by unfold qb_in; omega, b2.1, by unfold qb_in; omega, by unfold qb_in; omega, by unfold qb_in; omega, b3.1, by unfold qb_in; omega, by unfold qb_in; omega, by unfold qb_in; omega, ?_⟩
    have ev := cv_yes (kn := kn) (ag := ag) hc
    have ev0 := cv_yes (kn := kn) (ag := 0) hc
    rw [l2, c3] at ev ev0
    rw [o3] at ev0
    have em0 : min 0 (hp 15 k) = 0 := by omega
    rw [em0, Int.zero_mul, Int.zero_ediv, Int.add_zero, Int.sub_zero] at ev0
    have efs : fs hp b Q (p + 1) = fs hp b Q p + hp 15 k := by
      show fs hp b Q p + (if hp 12 (hp 17 p) = b ∧ hp 13 (hp 17 p) = Q then hp 15 (hp 17 p) else 0) = _
      rw [if_pos hc, l2]
    have := ih (k + 1) (p + 1) (qb_st (qb_st (qb_st hr 60 42 ((cv hp b Q kn ag p).2 + (min (cv hp b Q kn ag p).1 (hp 15 k) * hp 39 b / hp 10 4 + (hp 15 k - min (cv hp b Q kn ag p).1 (hp 15 k)) * v_m_freeAt (H / 24) kn hp / hp 10 4))) 60 43 ((cv hp b Q kn 0 p).2 + hp 15 k * v_m_freeAt (H / 24) kn hp / hp 10 4)) 60 44 (fs hp b Q p + hp 15 k)) (by omega) (by rw [Int.natCast_succ]; exact l3) ⟨fun c hc => ?_, fun j j1 j2 j3 => ?_, ?_, ?_, ?_⟩
    · rw [Int.natCast_succ, ev] at this
      exact this
    · rw [qb_st_ne hc, qb_st_ne hc, qb_st_ne hc]; exact y1 c hc
    · rw [← y2 j j1 j2 j3]; simp [qb_st, j1, j2, j3]
    · rw [ev]; simp [qb_st, Int.add_assoc]
    · rw [ev0]; simp [qb_st]
    · rw [efs]; simp [qb_st]
theorem s_m_layCost {hp : qb_H} {n : Nat} (hB : qb_iB hp n) (hE : qb_iE hp) (hF : qb_iF hp) {b Q kn : Int} (hb : 0 ≤ b ∧ b < 10) {K : qb_H → Prop}
    (hK : ∀ hr : qb_H, ly hp b Q kn (v_bo_agreedAt b Q (hp 10 4) hp) n hr → K hr) : c_m_layCost b Q kn hp K := by
  have hcr := hB.1.2.2.2.2.2.2.2.2.2.2.2.1
  have hpr := (hE b hb.1 hb.2)
  have e67 : hp 67 4 = hp 10 4 := hB.2.2.2.2 4 (by decide) (by decide)
  have hag : 0 ≤ hp 72 b * hp 10 4 ∧ hp 72 b * hp 10 4 ≤ 75000 := by
    have h1 : 0 ≤ hp 72 b * hp 10 4 := Int.mul_nonneg (by omega) (by omega)
    have h2 : hp 72 b * hp 10 4 ≤ 50 * hp 10 4 := Int.mul_le_mul_of_nonneg_right (by omega) (by omega)
    omega
  refine b_m_layCost ⟨hb, fun _ => by rw [e67]; unfold qb_in; omega, fun y ey => ?_⟩
  rw [e67] at ey
  have ey2 : y = v_bo_agreedAt b Q (hp 10 4) hp := by
    rw [ey]; unfold v_bo_agreedAt
    rw [hpr.1, hpr.2.1]
  have hya : 0 ≤ y ∧ y ≤ 75000 := by
    rw [ey]; split <;> omega
  rw [← ey2] at hK
  have key : ∀ (j : Nat) (H : Int) (p : Nat) (hr : qb_H), 0 ≤ H → H + j = 2001 → lay hp n p H 0 → ly hp b Q kn y p hr → r_m_layCost_47 b Q kn (cv hp b Q kn y p).1 H hr K := by
    intro j
    induction j with
    | zero =>
      intro H p hr h0 h1 hl hy
      have e : p = n := by
        apply Classical.byContradiction
        intro z
        have a := hl.2.2 p (Nat.le_refl p) (by have := hl.1; omega)
        have := (iL_at hB.1 (show p < n by have := hl.1; omega)).2.1
        omega
      subst e
      exact b_m_layCost_47 ⟨fun _ => hK hr hy, fun c => absurd (by omega) c⟩
    | succ j ih =>
      intro H p hr h0 h1 hl hy
      refine b_m_layCost_47 ⟨fun c => absurd c (by omega), fun _ => m_lay_in hB hE hF hb hya (by omega) (fun p' hr' l' y' => ih (H + 1) p' hr' (by omega) (by omega) (lay_next hB.1 l') y') n 0 p hr (by omega) hl hy⟩
  refine key 2001 0 0 _ (by decide) (by decide) ⟨by omega, fun q h => by omega, fun q h1 h2 => ?_⟩ ⟨fun c hc => ?_, fun j j1 j2 j3 => ?_, ?_, ?_, ?_⟩
  · have := iL_at hB.1 h2
    omega
  · rw [qb_st_ne hc, qb_st_ne hc, qb_st_ne hc]
  · simp [qb_st, j1, j2, j3]
  · simp [qb_st, cv]
  · simp [qb_st, cv]
  · simp [qb_st, fs, qb_sum]
theorem ag_in {hp : qb_H} {n : Nat} (hB : qb_iB hp n) (hE : qb_iE hp) {b Q : Int} (hb : 0 ≤ b ∧ b < 10) : g_bo_agreedAt b Q (hp 10 4) hp ∧ 0 ≤ v_bo_agreedAt b Q (hp 10 4) hp ∧ v_bo_agreedAt b Q (hp 10 4) hp ≤ 75000 := by
  have hcr := hB.1.2.2.2.2.2.2.2.2.2.2.2.1
  have hpr := (hE b hb.1 hb.2)
  have h1 : 0 ≤ hp 38 b * hp 10 4 := Int.mul_nonneg (by omega) (by omega)
  have h2 : hp 38 b * hp 10 4 ≤ 50 * hp 10 4 := Int.mul_le_mul_of_nonneg_right (by omega) (by omega)
  unfold g_bo_agreedAt v_bo_agreedAt
  refine ⟨⟨hb, fun _ => by unfold qb_in; omega⟩, ?_⟩
  split <;> omega
theorem qb_iB.gL {hp : qb_H} {n : Nat} (h : qb_iB hp n) : qb_gL hp := by
  have h1 := h.1.1
  have h2 := h.1.2.1
  refine ⟨by omega, fun k k0 k1 => h.1.2.2.2.1 k k0 (by omega)⟩
theorem cost_ok (b Q kn what : Int) {hp : qb_H} {n : Nat} (hB : qb_iB hp n) (hE : qb_iE hp) (hF : qb_iF hp) {K : Int → Int → qb_H → Prop} (hK : ∀ (v : Int) (hq : qb_H), kS hp hq → K v v hq) :
    c_q_cost b Q kn what hp (fun v hp1 => c_m_cost b Q kn what hp1 (fun w hp2 => K v w hp2)) := by
  refine b_q_cost ⟨fun c => b_m_cost ⟨fun _ => hK _ hp kS.rf, fun c2 => absurd c c2⟩, fun c => ?_⟩
  refine ⟨fun cg => b_m_cost ⟨fun c2 => absurd c2 c, fun _ => ⟨fun _ => hK _ hp kS.rf, fun c2 => absurd cg c2⟩⟩, fun cg => ?_⟩
  refine ⟨fun ch => b_m_cost ⟨fun c2 => absurd c2 c, fun _ => ⟨fun c2 => absurd c2 cg, fun _ => ⟨fun _ => hK _ hp kS.rf, fun c2 => absurd ch c2⟩⟩⟩, fun ch => ?_⟩
  refine ⟨fun cw => b_m_cost ⟨fun c2 => absurd c2 c, fun _ => ⟨fun c2 => absurd c2 cg, fun _ => ⟨fun c2 => absurd c2 ch, fun _ => ⟨fun _ => hK _ hp kS.rf, fun c2 => absurd cw c2⟩⟩⟩⟩, fun cw => ?_⟩
  have hb : 0 ≤ b ∧ b < 10 := by
    rcases v_in_c (x := b) (a := 0) (b := 9) with z | z
    · exact absurd z.1 c
    · omega
  have hw : 0 ≤ what ∧ what ≤ 2 := by
    rcases v_in_c (x := what) (a := 0) (b := 2) with z | z
    · exact absurd z.1 cw
    · exact z.2
  obtain ⟨g1, g2⟩ := ag_in hB hE (Q := Q) hb
  have v1 := (cv_in hB hE hF (Q := Q) (kn := kn) hb g2 n (Nat.le_refl n)).2
  have v2 := (cv_in hB hE hF (Q := Q) (kn := kn) hb (ag := 0) (by decide) n (Nat.le_refl n)).2
  have hn30 := hB.1.2.1
  have hm : ∀ V : Int, V = (if what = 0 then (cv hp b Q kn (v_bo_agreedAt b Q (hp 10 4) hp) n).2 else (if what = 1 then (cv hp b Q kn 0 n).2 - (cv hp b Q kn (v_bo_agreedAt b Q (hp 10 4) hp) n).2 else fs hp b Q n)) → c_m_cost b Q kn what hp (fun w hp2 => K V w hp2) := by
    intro V eV
    refine b_m_cost ⟨fun c2 => absurd c2 c, fun _ => ⟨fun c2 => absurd c2 cg, fun _ => ⟨fun c2 => absurd c2 ch, fun _ => ⟨fun c2 => absurd c2 cw, fun _ => ?_⟩⟩⟩⟩
    refine s_m_layCost hB hE hF hb (fun hr hl => ?_)
    have hl2 := hl
    obtain ⟨y1, y2, y3, y4, y5⟩ := hl
    rw [y3, y4, y5]
    refine ⟨fun _ _ => by unfold qb_in; omega, fun y ey => ?_⟩
    have : y = V := by rw [ey, eV]
    rw [this]
    exact hK V hr (ly_kS hl2)
  refine ⟨fun w0 => ⟨g1, s_q_costOf hB hE hF hb g2 (hm _ (by rw [if_pos w0]))⟩, fun w0 => ⟨fun w1 => ?_, fun w1 => ?_⟩⟩
  · refine b_q_savedBy (s_q_costOf hB hE hF hb (by decide) ⟨g1, s_q_costOf hB hE hF hb g2 ⟨by unfold qb_in; omega, hm _ (by rw [if_neg w0, if_pos w1])⟩⟩)
  · refine s_la_fishOf b Q hp _ hB.gL (hm _ ?_)
    rw [if_neg w0, if_neg w1]
    unfold v_la_fishOf fs
    rw [hB.1.1, Int.toNat_natCast]
    exact (hB.1.2.2.2.2.2.1 (fun kz => if hp 12 kz = b ∧ hp 13 kz = Q then hp 15 kz else 0)).symm
