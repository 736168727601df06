/-! the reference reads an act -/
/-- the facts of the barrel at hand -/
def mb_fact (q : Int) (hp : qb_H) (x : Int) : Int := if x = 0 then hp 60 30 else if x = 1 then hp 67 1 / hp 67 2 else if x = 2 then v_m_saltOf q 3 hp else if x = 3 then hp 60 31 else q
def mb_g (hp : qb_H) : Prop := qb_iA hp ∧ g_m_saltOf 3 hp ∧ 0 ≤ hp 67 1 ∧ 0 < hp 67 2
theorem s_m_factOf (q x : Int) (hp : qb_H) (K : Int → qb_H → Prop) (hg : mb_g hp) (hx : 0 ≤ x ∧ x ≤ 4) (hK : K (mb_fact q hp x) hp) : c_m_factOf q (tx_sign x) hp K := by
  obtain ⟨-, g2, g3, g4⟩ := hg
  have h5 : x = 0 ∨ x = 1 ∨ x = 2 ∨ x = 3 ∨ x = 4 := by omega
  refine b_m_factOf ?_
  rcases h5 with e | e | e | e | e
  · subst e
    exact ⟨fun _ => hK, fun c => absurd (by decide) c⟩
  · subst e
    exact ⟨fun c => absurd c (by decide), fun _ => ⟨fun _ => ⟨g3, g4, hK⟩, fun c => absurd (by decide) c⟩⟩
  · subst e
    exact ⟨fun c => absurd c (by decide), fun _ => ⟨fun c => absurd c (by decide), fun _ => ⟨fun _ => s_m_saltOf q 3 hp _ g2 hK, fun c => absurd (by decide) c⟩⟩⟩
  · subst e
    exact ⟨fun c => absurd c (by decide), fun _ => ⟨fun c => absurd c (by decide), fun _ => ⟨fun c => absurd c (by decide), fun _ y e => by rw [e]; exact hK⟩⟩⟩
  · subst e
    exact ⟨fun c => absurd c (by decide), fun _ => ⟨fun c => absurd c (by decide), fun _ => ⟨fun c => absurd c (by decide), fun _ y e => by rw [e]; exact hK⟩⟩⟩
theorem tx_sign_is (x : Int) (hx : 0 ≤ x ∧ x ≤ 4) : v_m_in (tx_sign x) 65 70 = 0 ∧ v_m_isFact (tx_sign x) = 1 := by
  have h5 : x = 0 ∨ x = 1 ∨ x = 2 ∨ x = 3 ∨ x = 4 := by omega
  rcases h5 with e | e | e | e | e <;> subst e <;> decide
theorem v_m_in_1 {x a b : Int} (h : a ≤ x ∧ x ≤ b) : v_m_in x a b = 1 := by
  unfold v_m_in
  rw [if_neg (show ¬ x < a by omega), if_neg (show ¬ b < x by omega)]
theorem v_m_in_0 {x a b : Int} (h : x < a ∨ b < x) : v_m_in x a b = 0 := by
  unfold v_m_in
  by_cases c : x < a
  · rw [if_pos c]
  · rw [if_neg c, if_pos (show b < x by omega)]
/-- behind a rule -/
def mb_so (so cp is nm : Int) : Int := if so = 0 then 0 else v_ac_holds cp is nm
theorem mb_so_is (so cp is nm : Int) : (if so = 0 then (0 : Int) else (if cp = 60 then (if nm ≤ is then (0 : Int) else 1) else (if cp = 62 then (if is ≤ nm then (0 : Int) else 1) else (if is = nm then (1 : Int) else 0)))) = mb_so so cp is nm := rfl
/-- the digits of a rule -/
theorem mb_digits {hp : qb_H} {a q : Int} (ha : 0 ≤ a ∧ a < 8) (hg : mb_g hp) (h60 : hp 63 a ≤ 60) {k x now so cp : Int} {d : Nat} (hk0 : 0 ≤ k) (hx : 0 ≤ x ∧ x ≤ 4) (hd : d ≤ 4) (hdg : ∀ i : Nat, i < d → 48 ≤ ac_t hp a (k + i) ∧ ac_t hp a (k + i) ≤ 57) (hm : k + d ≤ hp 63 a)
    (hend : k + d < hp 63 a → v_m_in (ac_t hp a (k + d)) 48 57 = 0) {K : Int → qb_H → Prop}
    (hK : r_m_brandOf_16 q a now (mb_so so cp (mb_fact q hp x) (tx_val (ac_t hp a) k d)) (k + d) hp K) :
    ∀ (j i : Nat), i + j = d → r_m_brandOf_111 q a now so (k + i) (tx_sign x) cp (tx_val (ac_t hp a) k i) hp K := by
  intro j
  induction j with
  | zero =>
    intro i hi
    have e : i = d := by omega
    subst e
    refine b_m_brandOf_111 ⟨ha, fun _ => s_m_factOf q x hp _ hg hx hK, fun c => ⟨by unfold qb_in; omega, by unfold qb_in; omega, by omega, fun _ => s_m_factOf q x hp _ hg hx hK, fun c2 => absurd (hend (by omega)) c2⟩⟩
  | succ j ih =>
    intro i hi
    have h1 := hdg i (by omega)
    have hb := tx_vb hd hdg i (by omega)
    have e1 : hp 64 (60 * a + (k + i)) = ac_t hp a (k + i) := rfl
    have hv : 0 ≤ tx_val (ac_t hp a) k i ∧ tx_val (ac_t hp a) k i ≤ 999 := ⟨hb.1, hb.2.2.2.2.1 (by omega)⟩
    refine b_m_brandOf_111 ⟨ha, fun c => absurd c (by omega), fun _ => ⟨by unfold qb_in; omega, by unfold qb_in; omega, by omega, fun c => ?_, fun _ => ?_⟩⟩
    · rw [e1, v_m_in_1 h1] at c
      exact absurd c (by decide)
    · rw [e1]
      refine ⟨by unfold qb_in; omega, by unfold qb_in; omega, by unfold qb_in; omega, by unfold qb_in; omega, ?_⟩
      have h2 := ih (i + 1) (by omega)
      have e2 : k + ((i + 1 : Nat) : Int) = k + i + 1 := by omega
      rw [e2] at h2
      exact h2
theorem mb_loop {hp : qb_H} {a q : Int} (ha : 0 ≤ a ∧ a < 8) (hg : mb_g hp) (h60 : hp 63 a ≤ 60) {K : Int → qb_H → Prop} :
    ∀ (f : Nat) (r k so : Int), 0 ≤ k → 0 ≤ r → tx_to (ac_t hp a) (hp 63 a) (ac_lt hp a) (ac_kd hp a) (ac_cp hp a) (ac_nm hp a) f r k →
      K (bv (ac_lt hp a) (ac_kd hp a) (ac_cp hp a) (ac_nm hp a) (mb_fact q hp) (f - 1) (r + 1) (mb_so so (ac_cp hp a r) (mb_fact q hp (ac_kd hp a r)) (ac_nm hp a r))) hp →
      r_m_brandOf_16 q a (ac_lt hp a r) so k hp K := by
  intro f
  induction f with
  | zero => intro r k so h0 h1 h; exact absurd h (by simp [tx_to])
  | succ f ih =>
    intro r k so h0 h1 ht hK
    have hl := tx_lt _ _ _ ht
    simp only [tx_to] at ht
    obtain ⟨d, ⟨t1, t2, t3, t4, t5, t6, t7⟩, h2⟩ := ht
    have e0 : hp 64 (60 * a + k) = ac_t hp a k := rfl
    have e1 : hp 64 (60 * a + k + 1) = ac_t hp a (k + 1) := by unfold ac_t; congr 1; omega
    obtain ⟨s1, s2⟩ := tx_sign_is (ac_kd hp a r) t1
    have hkm : k + 2 + d ≤ hp 63 a := by
      rcases h2 with h2 | h2 | h2
      · omega
      · have := tx_lt _ _ _ h2.2.2; omega
      · have := tx_lt _ _ _ h2.2.2.2.2.2; omega
    refine b_m_brandOf_16 ⟨fun c => absurd c (by omega), fun _ => ⟨ha, fun c => absurd c (by omega), fun _ => ⟨by unfold qb_in; omega, by unfold qb_in; omega, by omega, fun y e => ?_⟩⟩⟩
    rw [e0, t2] at e
    rw [e, s1, s2, e1, t3]
    refine ⟨fun _ => ⟨fun c => absurd c (by decide), fun _ => ⟨by omega, by unfold qb_in; omega, ?_⟩⟩, fun c => absurd rfl c⟩
    have hdig := mb_digits (q := q) (now := ac_lt hp a r) (so := so) (cp := ac_cp hp a r) ha hg h60 (k := k + 2) (x := ac_kd hp a r) (d := d) (by omega) t1 (by omega) t6 hkm ?_ (K := K) ?_ d 0 (by omega)
    · simpa [tx_val] using hdig
    · intro hlt
      rcases h2 with h2 | h2 | h2
      · omega
      · rw [h2.1]; exact v_m_in_0 (by decide)
      · rw [h2.1]; exact v_m_in_0 (by decide)
    · rw [← t7]
      simp only [Nat.add_sub_cancel] at hK
      generalize mb_so so (ac_cp hp a r) (mb_fact q hp (ac_kd hp a r)) (ac_nm hp a r) = so2 at hK ⊢
      rcases h2 with h2 | h2 | h2
      · rw [h2.1] at hK
        simp only [bv] at hK
        rw [show r + 1 - 1 = r by omega] at hK
        exact b_m_brandOf_16 ⟨fun c => absurd c (by omega), fun _ => ⟨ha, fun _ y e => by rw [e]; exact hK, fun c => absurd (by omega) c⟩⟩
      · obtain ⟨u1, u2, u3⟩ := h2
        have hl2 := tx_lt _ _ _ u3
        have e2 : hp 64 (60 * a + (k + 2 + d)) = 44 := u1
        refine b_m_brandOf_16 ⟨fun c => absurd c (by omega), fun _ => ⟨ha, fun c => absurd c (by omega), fun _ => ⟨by unfold qb_in; omega, by unfold qb_in; omega, by omega, fun y e => ?_⟩⟩⟩
        rw [e2] at e
        rw [e]
        refine ⟨fun _ => ⟨fun _ => ⟨by unfold qb_in; omega, ?_⟩, fun c => absurd (by decide) c⟩, fun c => absurd (by decide) c⟩
        rw [← u2]
        refine ih (r + 1) (k + 2 + d + 1) so2 (by omega) (by omega) u3 ?_
        obtain ⟨f', rfl⟩ : ∃ f', f = f' + 1 := ⟨f - 1, by omega⟩
        simp only [bv] at hK
        rw [if_neg (show ¬ (r + 1 = 0 ∨ ac_lt hp a (r + 1) ≠ ac_lt hp a (r + 1 - 1)) by
          rintro (c | c)
          · omega
          · rw [show r + 1 - 1 = r by omega] at c; exact c u2)] at hK
        exact hK
      · obtain ⟨u1, u2, u3, u4, u5, u6⟩ := h2
        have hl2 := tx_lt _ _ _ u6
        have e2 : hp 64 (60 * a + (k + 2 + d)) = 59 := u1
        have e3 : hp 64 (60 * a + (k + 2 + d + 1)) = 65 + ac_lt hp a (r + 1) := u2
        obtain ⟨f', rfl⟩ : ∃ f', f = f' + 1 := ⟨f - 1, by omega⟩
        simp only [bv] at hK
        rw [if_pos (show (r + 1 = 0 ∨ ac_lt hp a (r + 1) ≠ ac_lt hp a (r + 1 - 1)) from Or.inr (by rw [show r + 1 - 1 = r by omega]; exact u4))] at hK
        refine b_m_brandOf_16 ⟨fun c => absurd c (by omega), fun _ => ⟨ha, fun c => absurd c (by omega), fun _ => ⟨by unfold qb_in; omega, by unfold qb_in; omega, by omega, fun y e => ?_⟩⟩⟩
        rw [e2] at e
        rw [e]
        refine ⟨fun _ => ⟨fun _ => ⟨by unfold qb_in; omega, ?_⟩, fun c => absurd (by decide) c⟩, fun c => absurd (by decide) c⟩
        refine b_m_brandOf_16 ⟨fun c => absurd c (by omega), fun _ => ⟨ha, fun c => absurd c (by omega), fun _ => ⟨by unfold qb_in; omega, by unfold qb_in; omega, by omega, fun y e => ?_⟩⟩⟩
        rw [e3] at e
        rw [e, v_m_in_1 (by omega)]
        refine ⟨fun c => absurd c (by decide), fun _ => ⟨fun c => ⟨by unfold qb_in; omega, by unfold qb_in; omega, ?_⟩, fun c => ?_⟩⟩
        · rw [if_pos c] at hK
          rw [show 65 + ac_lt hp a (r + 1) - 65 = ac_lt hp a (r + 1) by omega, show k + 2 + (d : Int) + 1 + 2 = k + 2 + d + 3 by omega]
          exact ih (r + 1) (k + 2 + d + 3) 1 (by omega) (by omega) u6 hK
        · rw [if_neg c, show r + 1 - 1 = r by omega] at hK
          exact hK
def v_m_brandOf (q day : Int) (hp : qb_H) : Int := if v_m_actOn day hp < 0 then -6 else bv (ac_lt hp (v_m_actOn day hp)) (ac_kd hp (v_m_actOn day hp)) (ac_cp hp (v_m_actOn day hp)) (ac_nm hp (v_m_actOn day hp)) (mb_fact q hp) (hp 5 (v_m_actOn day hp)).toNat 0 0
theorem s_m_brandOf (q day : Int) (hp : qb_H) (K : Int → qb_H → Prop) (hg : mb_g hp) (hK : K (v_m_brandOf q day hp) hp) : c_m_brandOf q day hp K := by
  have h1 := (iA_act hg.1 day).2
  obtain ⟨h2, h3, h4⟩ := hg.1
  refine b_m_brandOf (s_m_actOn day hp _ h3 ?_)
  unfold v_m_brandOf at hK
  generalize v_m_actOn day hp = a at h1 hK ⊢
  rcases h1 with e | e
  · subst e
    rw [if_pos (by decide)] at hK
    exact b_m_brandOf_16 ⟨fun _ y e => by rw [e]; exact hK, fun c => absurd (by decide) c⟩
  · obtain ⟨a1, a2, a3, a4, a5, a6⟩ := (h4 a e.1 e.2).2
    rw [if_neg (by omega)] at hK
    have hl := tx_lt _ _ _ a6
    obtain ⟨f, hf⟩ : ∃ f : Nat, (hp 5 a).toNat = f + 1 := ⟨(hp 5 a).toNat - 1, by omega⟩
    rw [hf] at hK a6
    simp only [bv] at hK
    rw [if_pos (Or.inl trivial), if_pos trivial] at hK
    have e0 : hp 64 (60 * a + 0) = 65 + ac_lt hp a 0 := a4
    have h8 : 0 ≤ a ∧ a < 8 := ⟨e.1, by omega⟩
    refine b_m_brandOf_16 ⟨fun c => absurd c (by omega), fun _ => ⟨h8, fun c => absurd c (by omega), fun _ => ⟨by unfold qb_in; omega, by unfold qb_in; omega, by omega, fun y e => ?_⟩⟩⟩
    rw [e0] at e
    rw [e, v_m_in_1 (by omega)]
    refine ⟨fun c => absurd c (by decide), fun _ => ⟨fun c => ⟨by unfold qb_in; omega, by unfold qb_in; omega, ?_⟩, fun c => absurd rfl c⟩⟩
    rw [show 65 + ac_lt hp a 0 - 65 = ac_lt hp a 0 by omega, show (0 : Int) + 2 = 2 by omega]
    exact mb_loop h8 hg a2 (f + 1) 0 2 1 (by decide) (by decide) a6 hK
/-- both read the same -/
theorem brand_eq {hp hq : qb_H} (hA : qb_iA hp) (hc : ∀ c : Nat, (3 ≤ c ∧ c ≤ 9) → hq c = hp c) (q day : Int) (hf : ∀ x : Int, 0 ≤ x → x ≤ 4 → hq 31 x = mb_fact q hp x) : v_ac_brandOn day hq = v_m_brandOf q day hp := by
  have h1 := iA_act hA day
  have e1 : v_ac_actOn day hq = v_ac_actOn day hp := by
    unfold v_ac_actOn; rw [hc 4 (by decide), hc 3 (by decide)]
  unfold v_ac_brandOn v_m_brandOf
  rw [e1, h1.1]
  generalize v_m_actOn day hp = a at h1 ⊢
  unfold ac_lt ac_kd ac_cp ac_nm
  rw [hc 5 (by decide), hc 6 (by decide), hc 7 (by decide), hc 8 (by decide), hc 9 (by decide)]
  by_cases c : a < 0
  · rw [if_pos c, if_pos c]
  · rw [if_neg c, if_neg c]
    have ha := (hA.2.2 a (by omega) (by omega)).2
    exact bv_cg _ _ _ _ _ _ hf _ _ _ (fun i c1 c2 => tx_kd _ _ _ ha.2.2.2.2.2 i c1 c2)
