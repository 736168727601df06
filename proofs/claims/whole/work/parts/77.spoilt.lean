/-! SPREAD: what is spoilt with other landings led to a quay -/
def wr (hp : qb_H) (k : Nat) : Int := qb_sum (fun j => if hp 13 j = -1 then 1 else 0) k
theorem wr_yes {hp : qb_H} {k : Nat} (h : hp 13 k = -1) : wr hp (k + 1) = wr hp k + 1 := by
  show wr hp k + (if hp 13 k = -1 then 1 else 0) = _
  rw [if_pos h]
theorem wr_no {hp : qb_H} {k : Nat} (h : ¬ hp 13 k = -1) : wr hp (k + 1) = wr hp k := by
  show wr hp k + (if hp 13 k = -1 then 1 else 0) = _
  rw [if_neg h]; omega
theorem wr_in {hp : qb_H} (k : Nat) : 0 ≤ wr hp k ∧ wr hp k ≤ k := by
  induction k with
  | zero => exact ⟨Int.le_refl 0, Int.le_refl 0⟩
  | succ k ih =>
    by_cases c : hp 13 k = -1
    · rw [wr_yes c]; omega
    · rw [wr_no c]; omega
theorem wr_mono {hp : qb_H} {k l : Nat} (h : k ≤ l) : wr hp k ≤ wr hp l := by
  induction l with
  | zero => have : k = 0 := by omega
            rw [this]; exact Int.le_refl _
  | succ l ih =>
    by_cases e : k = l + 1
    · rw [e]; exact Int.le_refl _
    · have i := ih (by omega)
      by_cases c : hp 13 l = -1
      · rw [wr_yes c]; omega
      · rw [wr_no c]; exact i
theorem wr_lt {hp : qb_H} {k l : Nat} (h : k < l) (hk : hp 13 k = -1) : wr hp k + 1 ≤ wr hp l := by
  rw [← wr_yes hk]; exact wr_mono h
theorem wr_onto {hp : qb_H} (n : Nat) (i : Int) (h0 : 0 ≤ i) (h1 : i < wr hp n) : ∃ k : Nat, k < n ∧ hp 13 k = -1 ∧ wr hp k = i := by
  induction n with
  | zero => have : wr hp 0 = 0 := rfl
            omega
  | succ n ih =>
    by_cases c : hp 13 n = -1
    · rw [wr_yes c] at h1
      by_cases e : i = wr hp n
      · exact ⟨n, by omega, c, e.symm⟩
      · obtain ⟨k, k1, k2⟩ := ih (by omega)
        exact ⟨k, by omega, k2⟩
    · rw [wr_no c] at h1
      obtain ⟨k, k1, k2⟩ := ih h1
      exact ⟨k, by omega, k2⟩
theorem wr_inj {hp : qb_H} {k l : Nat} (hk : hp 13 k = -1) (hl : hp 13 l = -1) (h : wr hp k = wr hp l) : k = l := by
  rcases Nat.lt_trichotomy k l with c | c | c
  · have := wr_lt c hk; omega
  · exact c
  · have := wr_lt c hl; omega
/-- a quay's schedule with another membership -/
def gx (hp : qb_H) (Q : Int) (a : Int → Bool) : sc_G := (hp 17, hp 14, hp 15, a, hp 21 Q * hp 22 Q, hp 10 0)
theorem gx_ok {hp : qb_H} {n : Nat} (hL : qb_iL hp n) {Q : Int} (h0 : 0 ≤ Q) (h1 : Q < 4) (a : Int → Bool) : sc_ok (gx hp Q a) n := qb_sok hL h0 h1
theorem gx_cg {hp : qb_H} {n : Nat} (hL : qb_iL hp n) {Q : Int} {a b : Int → Bool} (h : ∀ k : Int, 0 ≤ k → k < n → a k = b k) : ∀ p : Nat, p ≤ n → sc_RT (gx hp Q a) p = sc_RT (gx hp Q b) p := by
  intro p
  induction p with
  | zero => intro _; rfl
  | succ p ih =>
    intro hp1
    have ho := hL.2.2.1 p (by omega)
    have e : sc_a (gx hp Q a) (sc_o (gx hp Q a) p) = sc_a (gx hp Q b) (sc_o (gx hp Q b) p) := h _ ho.1 ho.2
    have i := ih (by omega)
    have r1 : sc_R (gx hp Q a) p = sc_R (gx hp Q b) p := congrArg Prod.fst i
    have t1 : sc_T (gx hp Q a) p = sc_T (gx hp Q b) p := congrArg Prod.snd i
    have s1 : sc_S (gx hp Q a) p = sc_S (gx hp Q b) p := by unfold sc_S; rw [r1]; rfl
    have w1 : sc_W (gx hp Q a) p = sc_W (gx hp Q b) p := by unfold sc_W; rw [r1]; rfl
    refine Prod.ext ?_ ?_
    · show sc_R (gx hp Q a) (p + 1) = sc_R (gx hp Q b) (p + 1)
      by_cases c : sc_a (gx hp Q a) (sc_o (gx hp Q a) p) = true
      · rw [sc_R1 c, sc_R1 (e ▸ c), s1, w1]
      · rw [sc_R2 c, sc_R2 (e ▸ c), r1]
    · show sc_T (gx hp Q a) (p + 1) = sc_T (gx hp Q b) (p + 1)
      by_cases c : sc_a (gx hp Q a) (sc_o (gx hp Q a) p) = true
      · rw [sc_T1 c, sc_T1 (e ▸ c), t1, w1]
      · rw [sc_T2 c, sc_T2 (e ▸ c), t1]
theorem gx_sp {hp : qb_H} {n : Nat} (hL : qb_iL hp n) {Q : Int} {a b : Int → Bool} (h : ∀ k : Int, 0 ≤ k → k < n → a k = b k) : sc_sp (gx hp Q a) n = sc_sp (gx hp Q b) n := by
  unfold sc_sp
  refine qb_sum_cg n (fun p hp1 => ?_)
  have ho := hL.2.2.1 p hp1
  have e : sc_a (gx hp Q a) (sc_o (gx hp Q a) p) = sc_a (gx hp Q b) (sc_o (gx hp Q b) p) := h _ ho.1 ho.2
  have i := gx_cg hL (Q := Q) h p (Nat.le_of_lt hp1)
  have r1 : sc_R (gx hp Q a) p = sc_R (gx hp Q b) p := congrArg Prod.fst i
  have w1 : sc_W (gx hp Q a) p = sc_W (gx hp Q b) p := by unfold sc_W; rw [r1]; rfl
  show (if sc_a (gx hp Q a) (sc_o (gx hp Q a) p) = true then sc_f (gx hp Q a) (sc_o (gx hp Q a) p) - sc_W (gx hp Q a) ((p : Int)).toNat else 0) = (if sc_a (gx hp Q b) (sc_o (gx hp Q b) p) = true then sc_f (gx hp Q b) (sc_o (gx hp Q b) p) - sc_W (gx hp Q b) ((p : Int)).toNat else 0)
  rw [e, Int.toNat_natCast, w1]
  rfl
theorem sp_rng {g : sc_G} {n : Nat} (hk : sc_ok g n) (m : Nat) (hm : m ≤ n) : 0 ≤ sc_sp g m ∧ sc_sp g m ≤ 20000 * m := by
  have := qb_sum_in (f := fun p => if sc_a g (sc_o g p) = true then sc_f g (sc_o g p) - sc_W g p.toNat else 0) (lo := 0) (hi := 20000) m (fun p hpm => by
    have h1 := hk.1 p (by omega)
    have h2 := (hk.2.1 _ h1.1 h1.2).2
    have h3 := sc_Wf hk (p := p) (by omega)
    have h4 := sc_W0 g p
    show 0 ≤ (if sc_a g (sc_o g p) = true then sc_f g (sc_o g p) - sc_W g ((p : Int)).toNat else 0) ∧ (if sc_a g (sc_o g p) = true then sc_f g (sc_o g p) - sc_W g ((p : Int)).toNat else 0) ≤ 20000
    rw [Int.toNat_natCast]
    split <;> omega)
  unfold sc_sp
  omega
theorem sp_up {g : sc_G} {p : Nat} : sc_sp g (p + 1) = sc_sp g p + (if sc_a g (sc_o g p) = true then sc_f g (sc_o g p) - sc_W g p else 0) := by
  show sc_sp g p + (if sc_a g (sc_o g p) = true then sc_f g (sc_o g p) - sc_W g ((p : Int)).toNat else 0) = _
  rw [Int.toNat_natCast]
/-- who joins: those that wait and stand in the set -/
def aj (hp : qb_H) (Q : Int) (set : Nat) (k : Int) : Bool := decide ((hp 13 k = -1 ∧ set.testBit (wr hp k.toNat).toNat = true) ∨ hp 13 k = Q)
theorem s_spoiltWith {hp hr : qb_H} {n : Nat} (hB : qb_iB hp n) (hw5 : wr hp n ≤ 5) {Q : Int} (h0 : 0 ≤ Q) (h1 : Q < 4) {set : Nat} (hset : set < 32)
    (hc : ∀ c : Nat, c < 50 → hr c = hp c) (h51 : ∀ k : Nat, k < n → hp 13 k = -1 → hr 51 k = wr hp k) {K : Int → qb_H → Prop} (hK : K (sc_sp (gx hp Q (aj hp Q set)) n) hr) : c_la_spoiltWith Q set (hp 10 0) hr K := by
  have hL := hB.1
  have hk := gx_ok hL h0 h1 (aj hp Q set)
  have hn := hL.1
  have hn30 := hL.2.1
  have hpc : 1 ≤ hp 21 Q * hp 22 Q ∧ hp 21 Q * hp 22 Q ≤ 18000 := qb_pace hL h0 h1
  have hst := hL.2.2.2.2.2.2.2.1
  obtain ⟨G, hG⟩ : ∃ G, G = gx hp Q (aj hp Q set) := ⟨_, rfl⟩
  rw [← hG] at hK hk
  have e11 := hc 11 (by decide)
  have e13 := hc 13 (by decide)
  have e14 := hc 14 (by decide)
  have e15 := hc 15 (by decide)
  have e17 := hc 17 (by decide)
  have e21 := hc 21 (by decide)
  have e22 := hc 22 (by decide)
  refine b_la_spoiltWith (qb_up n (fun p x => r_la_spoiltWith_9 Q set (hp 10 0) (sc_R G p) (sc_sp G p) x hr K) ?_ ?_)
  · exact b_la_spoiltWith_9 ⟨fun _ => hK, fun z => absurd (by rw [e11]; omega) z⟩
  · intro p hpn ih
    obtain ⟨a1, a2, a3⟩ := iL_at hL hpn
    have hS := sc_Sb hk hpn
    have hW := sc_Wf hk hpn
    have hW0 := sc_W0 G p
    have hR := sc_Rb hk (Nat.le_of_lt hpn)
    have hR0 := (sc_R0 G p).1
    have hsp := sp_rng hk p (Nat.le_of_lt hpn)
    have eS : sc_S G p = max (sc_R G p) (hp 14 (hp 17 p) * (hp 21 Q * hp 22 Q)) := by rw [hG]; rfl
    have eW : sc_W G p = max 0 (min (hp 15 (hp 17 p)) ((hp 14 (hp 17 p) + hp 10 0) * (hp 21 Q * hp 22 Q) - sc_S G p)) := by rw [sc_W_eq, hG]; rfl
    have efp : sc_p G = hp 21 Q * hp 22 Q := by rw [hG]; rfl
    have ef : sc_f G (sc_o G p) = hp 15 (hp 17 p) := by rw [hG]; rfl
    have ea : sc_a G (sc_o G p) = aj hp Q set (hp 17 p) := by rw [hG]; rfl
    rw [ef] at hW
    rw [efp] at hS hR
    have hprod : 0 ≤ hp 14 (hp 17 p) * (hp 21 Q * hp 22 Q) ∧ hp 14 (hp 17 p) * (hp 21 Q * hp 22 Q) ≤ 2000 * (hp 21 Q * hp 22 Q) := ⟨Int.mul_nonneg a2.1 (by omega), Int.mul_le_mul_of_nonneg_right a2.2 (by omega)⟩
    have hprod2 : 0 ≤ (hp 14 (hp 17 p) + hp 10 0) * (hp 21 Q * hp 22 Q) ∧ (hp 14 (hp 17 p) + hp 10 0) * (hp 21 Q * hp 22 Q) ≤ 2072 * (hp 21 Q * hp 22 Q) := ⟨Int.mul_nonneg (by omega) (by omega), Int.mul_le_mul_of_nonneg_right (by omega) (by omega)⟩
    have vS : v_la_startOf (hp 17 p) Q (sc_R G p) hr = sc_S G p := by
      unfold v_la_startOf v_la_paceAt
      rw [e14, e21, e22, eS]
    have vW : v_la_workedFrom (sc_S G p) (hp 17 p) Q (hp 10 0) hr = sc_W G p := by
      unfold v_la_workedFrom v_la_paceAt
      rw [e14, e15, e21, e22, eW]
    have gP : g_la_paceAt Q hr := by
      unfold g_la_paceAt
      rw [e21, e22]
      exact ⟨⟨h0, h1⟩, by unfold qb_in; omega⟩
    have vP : v_la_paceAt Q hr = hp 21 Q * hp 22 Q := by
      unfold v_la_paceAt
      rw [e21, e22]
    have gS : g_la_startOf (hp 17 p) Q (sc_R G p) hr := by
      unfold g_la_startOf
      rw [vP, e14]
      exact ⟨by omega, gP, by unfold qb_in; omega⟩
    have gW : g_la_workedFrom (sc_S G p) (hp 17 p) Q (hp 10 0) hr := by
      unfold g_la_workedFrom
      rw [vP, e14]
      exact ⟨by omega, by unfold qb_in; omega, gP, by unfold qb_in; omega, by unfold qb_in; omega⟩
    have hall : (g_la_startOf (hp 17 p) Q (sc_R G p) hr) ∧ (g_la_workedFrom (v_la_startOf (hp 17 p) Q (sc_R G p) hr) (hp 17 p) Q (hp 10 0) hr) ∧ (qb_in ((v_la_startOf (hp 17 p) Q (sc_R G p) hr) + (v_la_workedFrom (v_la_startOf (hp 17 p) Q (sc_R G p) hr) (hp 17 p) Q (hp 10 0) hr))) ∧ (qb_in ((hr 15 (hp 17 p)) - (v_la_workedFrom (v_la_startOf (hp 17 p) Q (sc_R G p) hr) (hp 17 p) Q (hp 10 0) hr))) ∧ qb_in (sc_sp G p + ((hr 15 (hp 17 p)) - (v_la_workedFrom (v_la_startOf (hp 17 p) Q (sc_R G p) hr) (hp 17 p) Q (hp 10 0) hr))) := by
      rw [vS, vW, e15]
      exact ⟨gS, gW, by unfold qb_in; omega, by unfold qb_in; omega, by unfold qb_in; omega⟩
    have hy : ∀ y : Int, y = (if (hp 13 (hp 17 p)) = (-1) then (if (qb_and (qb_shr set (hr 51 (hp 17 p))) 1) = 1 then (1 : Int) else 0) else 0) → (y = 0 ↔ ¬ (hp 13 (hp 17 p) = -1 ∧ set.testBit (wr hp (hp 17 p).toNat).toNat = true)) := by
      intro y ey
      rw [ey]
      by_cases c : hp 13 (hp 17 p) = -1
      · rw [if_pos c]
        have ek : ((hp 17 p).toNat : Int) = hp 17 p := by omega
        have e51 : hr 51 (hp 17 p) = wr hp (hp 17 p).toNat := by
          have := h51 (hp 17 p).toNat (by omega) (by rw [ek]; exact c)
          rw [ek] at this
          exact this
        have hw0 := wr_in (hp := hp) (hp 17 p).toNat
        have hw1 := wr_lt (hp := hp) (k := (hp 17 p).toNat) (l := n) (by omega) (by rw [ek]; exact c)
        have ew : wr hp (hp 17 p).toNat = ((wr hp (hp 17 p).toNat).toNat : Int) := by omega
        have hb := bt_test (a := set) (k := (wr hp (hp 17 p).toNat).toNat) (by omega) (by omega)
        rw [← ew] at hb
        rw [e51, hb]
        by_cases d : set.testBit (wr hp (hp 17 p).toNat).toNat = true
        · rw [if_pos d, if_pos rfl]; exact ⟨fun z => absurd z (by decide), fun z => absurd ⟨c, d⟩ z⟩
        · rw [if_neg d, if_neg (by decide)]; exact ⟨fun _ z => d z.2, fun _ => rfl⟩
      · rw [if_neg c]; exact ⟨fun _ z => c z.1, fun _ => rfl⟩
    refine b_la_spoiltWith_9 ⟨fun z => absurd z (by rw [e11]; omega), fun _ => ⟨by omega, by rw [e17]; omega, ?_⟩⟩
    rw [e17, e13]
    refine fun y ey => ⟨fun _ _ => hall, fun _ => hall, fun y1 y2 ey1 ey2 => ?_⟩
    have hy2 := hy y ey
    rw [vS, vW] at ey1
    rw [vS, vW, e15] at ey2
    by_cases c : aj hp Q set (hp 17 p) = true
    · have hor := of_decide_eq_true c
      have r1 : sc_R G (p + 1) = sc_S G p + sc_W G p := sc_R1 (by rw [ea]; exact c)
      have r2 : sc_sp G (p + 1) = sc_sp G p + (hp 15 (hp 17 p) - sc_W G p) := by rw [sp_up, if_pos (by rw [ea]; exact c), ef]
      rw [r1, r2] at ih
      have q1 : y1 = sc_S G p + sc_W G p := by
        rw [ey1]
        by_cases d : y = 0
        · rw [if_pos d, if_pos (hor.resolve_left (hy2.1 d))]
        · rw [if_neg d]
      have q2 : y2 = sc_sp G p + (hp 15 (hp 17 p) - sc_W G p) := by
        rw [ey2]
        by_cases d : y = 0
        · rw [if_pos d, if_pos (hor.resolve_left (hy2.1 d))]
        · rw [if_neg d]
      rw [q1, q2]; exact ih
    · have hnor : ¬ ((hp 13 (hp 17 p) = -1 ∧ set.testBit (wr hp (hp 17 p).toNat).toNat = true) ∨ hp 13 (hp 17 p) = Q) := fun z => c (decide_eq_true z)
      have r1 : sc_R G (p + 1) = sc_R G p := sc_R2 (by rw [ea]; exact c)
      have r2 : sc_sp G (p + 1) = sc_sp G p := by rw [sp_up, if_neg (by rw [ea]; exact c)]; omega
      rw [r1, r2] at ih
      have d : y = 0 := hy2.2 (fun z => hnor (Or.inl z))
      rw [if_pos d, if_neg (fun z => hnor (Or.inr z))] at ey1 ey2
      rw [ey1, ey2]; exact ih
