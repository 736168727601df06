/-! SPREAD in the reference; SPREAD and SETTLE -/
theorem s_m_allSp {hr : qb_H} {n : Nat} {G : Int → sc_G} (hG : ∀ Q : Int, 0 ≤ Q → Q < 4 → qb_mg hr (G Q) n Q) (hperm : ∀ (Q : Int) (F : Int → Int), qb_sum (fun p => F (sc_o (G Q) p)) n = qb_sum F n) {K : Int → qb_H → Prop} (hK : ∀ hq : qb_H, mi_fr hr hq → K (qb_sum (fun Q => sc_sp (G Q) n) 4) hq) : c_m_allSpoilt hr K := by
  have hb : ∀ m : Nat, m ≤ 4 → 0 ≤ qb_sum (fun Q => sc_sp (G Q) n) m ∧ qb_sum (fun Q => sc_sp (G Q) n) m ≤ 600000 * m := by
    intro m hm
    have := qb_sum_in (f := fun Q => sc_sp (G Q) n) (lo := 0) (hi := 600000) m (fun j hj => by
      have hg := hG j (by omega) (by omega)
      have h := sp_rng hg.2.2.1 n (Nat.le_refl n)
      have := hg.2.1
      show 0 ≤ sc_sp (G (j : Int)) n ∧ sc_sp (G (j : Int)) n ≤ 600000
      omega)
    omega
  have key : ∀ hq : qb_H, mi_fr hr hq → r_m_allSpoilt_4 (qb_sum (fun Q => sc_sp (G Q) n) 0) 0 hq K := by
    refine qb_up 4 (fun q x => ∀ hq : qb_H, mi_fr hr hq → r_m_allSpoilt_4 (qb_sum (fun Q => sc_sp (G Q) n) q) x hq K) ?_ ?_
    · exact fun hq h => b_m_allSpoilt_4 ⟨fun _ => hK hq h, fun c => absurd (by decide) c⟩
    · intro q hq4 ih hq h
      have i1 := hb q (by omega)
      have i2 := hb (q + 1) (by omega)
      have e : qb_sum (fun Q => sc_sp (G Q) n) (q + 1) = qb_sum (fun Q => sc_sp (G Q) n) q + sc_sp (G q) n := rfl
      refine b_m_allSpoilt_4 ⟨fun c => absurd c (by omega), fun _ => mw_ok ((hG (q : Int) (by omega) (by omega)).go h) (fun hs k2 => ?_)⟩
      rw [mw_sp (hperm q) k2, ← e]
      refine ⟨by unfold qb_in; omega, fun y ey => ⟨by unfold qb_in; omega, ?_⟩⟩
      rw [ey]; exact ih hs (h.tr k2.1)
  exact b_m_allSpoilt (key hr mi_fr.rf)
def FS (hp h1 : qb_H) (n : Nat) (hr : qb_H) : Prop :=
  (∀ c : Nat, c < 60 → hr c = h1 c) ∧
  (∀ c : Nat, 60 < c → c ≠ 68 → c ≠ 83 → c ≠ 84 → c ≠ 85 → c ≠ 86 → c ≠ 87 → hr c = hp c) ∧
  (∀ j : Int, j ≠ 33 → j ≠ 38 → j ≠ 39 → j ≠ 45 → j ≠ 46 → j ≠ 47 → hr 60 j = hp 60 j) ∧
  (∀ k i : Int, 0 ≤ i → i < 5 → i ≠ 1 → hr 68 (7 * k + i) = hp 68 (7 * k + i)) ∧
  (∀ k : Int, ¬ (0 ≤ k ∧ k < n ∧ hp 13 k = -1) → hr 68 (7 * k + 1) = hp 68 (7 * k + 1))
theorem FS.mi {hp h1 hr hs : qb_H} {n : Nat} (h : FS hp h1 n hr) (hm : mi_fr hr hs) : FS hp h1 n hs := by
  obtain ⟨f1, f2, f3, f4, f5⟩ := h
  obtain ⟨m1, m2, m3⟩ := hm
  refine ⟨fun c hc => (m1 c (by omega) (by omega) (by omega) (by omega) (by omega) (by omega)).trans (f1 c hc), fun c c0 c1 c2 c3 c4 c5 c6 => (m1 c (by omega) c1 c2 c3 c4 c5).trans (f2 c c0 c1 c2 c3 c4 c5 c6), fun j j1 j2 j3 j4 j5 j6 => (m2 j j1 j2 j3).trans (f3 j j1 j2 j3 j4 j5 j6), fun k i i0 i1 i2 => (m3 k i i0 i1).trans (f4 k i i0 i1 i2), fun k hk => (m3 k 1 (by decide) (by decide)).trans (f5 k hk)⟩
def wt (hp : qb_H) (n m : Nat) (hr : qb_H) : Prop := hr 60 47 = m ∧ ∀ k : Nat, k < n → hp 13 k = -1 → hr 87 (wr hp k) = k
theorem s_m_leadAll {hp h1 hr : qb_H} {n m c : Nat} (hB : qb_iB hp n) (hm : wr hp n = m) (hm5 : m ≤ 5) (hF : FS hp h1 n hr) (hw : wt hp n m hr) {K : qb_H → Prop}
    (hK : ∀ hs : qb_H, (∀ cz : Nat, cz ≠ 68 → hs cz = hr cz) → FS hp h1 n hs → (∀ k : Nat, k < n → hp 13 k = -1 → hs 68 (7 * (k : Int) + 1) = ((dg m c (wr hp k).toNat : Nat) : Int)) → K hs) : c_m_leadAll c hr K := by
  have hn30 := hB.1.2.1
  refine b_m_leadAll ⟨by rw [hw.1]; unfold qb_in; omega, fun y ey => ?_⟩
  rw [hw.1] at ey
  have key : ∀ (t : Nat) (hs : qb_H), t ≤ m → (∀ cz : Nat, cz ≠ 68 → hs cz = hr cz) → FS hp h1 n hs → (∀ k : Nat, k < n → hp 13 k = -1 → (t : Int) ≤ wr hp k → hs 68 (7 * (k : Int) + 1) = ((dg m c (wr hp k).toNat : Nat) : Int)) → r_m_leadAll_9 ((c / 4 ^ (m - t) : Nat) : Int) ((t : Int) - 1) hs K := by
    intro t
    induction t with
    | zero =>
      intro hs ht s1 s2 s3
      exact b_m_leadAll_9 ⟨fun _ => hK hs s1 s2 (fun k hk hkw => s3 k hk hkw (wr_in k).1), fun z => absurd (by decide) z⟩
    | succ t ih =>
      intro hs ht s1 s2 s3
      obtain ⟨k, k1, k2, k3⟩ := wr_onto (hp := hp) n (t : Int) (by omega) (by omega)
      have e87 : hs 87 (t : Int) = k := by
        rw [s1 87 (by decide), ← k3]; exact hw.2 k k1 k2
      have e0 : ((t + 1 : Nat) : Int) - 1 = t := by omega
      rw [e0]
      refine b_m_leadAll_9 ⟨fun z => absurd z (by omega), fun _ => ?_⟩
      rw [e87]
      have ed : ((c / 4 ^ (m - (t + 1)) : Nat) : Int) % 4 = ((dg m c t : Nat) : Int) := by
        unfold dg
        have : m - 1 - t = m - (t + 1) := by omega
        rw [this]; omega
      have eq : ((c / 4 ^ (m - (t + 1)) : Nat) : Int) / 4 = ((c / 4 ^ (m - t) : Nat) : Int) := by
        have : m - t = m - (t + 1) + 1 := by omega
        rw [this, Nat.pow_succ, ← Nat.div_div_eq_div_mul]
        omega
      rw [ed, eq]
      refine ⟨by omega, by unfold qb_in; omega, by unfold qb_in; omega, Int.natCast_nonneg _, by omega, ?_⟩
      have e1 : (t : Int) + -1 = (t : Int) - 1 := by omega
      rw [e1]
      obtain ⟨f1, f2, f3, f4, f5⟩ := s2
      refine ih _ (by omega) (fun cz hcz => by rw [qb_st_ne hcz]; exact s1 cz hcz) ⟨fun cz hcz => by rw [qb_st_ne (by omega)]; exact f1 cz hcz, fun cz c0 c1 c2 c3 c4 c5 c6 => by rw [qb_st_ne c1]; exact f2 cz c0 c1 c2 c3 c4 c5 c6, fun j j1 j2 j3 j4 j5 j6 => by rw [qb_st_ne (by decide)]; exact f3 j j1 j2 j3 j4 j5 j6, fun kz i i0 i1 i2 => ?_, fun kz hkz => ?_⟩ (fun kz hk hkw hle => ?_)
      · have : ¬ 7 * kz + i = 7 * (k : Int) + 1 := by omega
        rw [← f4 kz i i0 i1 i2]; simp [qb_st, this]
      · have : ¬ 7 * kz + 1 = 7 * (k : Int) + 1 := fun e => hkz (by
          have : kz = k := by omega
          rw [this]; exact ⟨by omega, by omega, k2⟩)
        rw [← f5 kz hkz]; simp [qb_st, this]
      · by_cases e : kz = k
        · rw [e, k3]
          have : (t : Int).toNat = t := by omega
          rw [this]; simp [qb_st]
        · have hne : ¬ 7 * (kz : Int) + 1 = 7 * (k : Int) + 1 := by omega
          have hwne : wr hp kz ≠ t := fun q => e (wr_inj hkw k2 (by rw [q, k3]))
          rw [← s3 kz hk hkw (by omega)]; simp [qb_st, hne]
  have := key m hr (Nat.le_refl m) (fun _ _ => rfl) hF (fun k hk hkw hle => by
    have := wr_lt (hp := hp) hk hkw; omega)
  rw [Nat.sub_self, Nat.pow_zero, Nat.div_one] at this
  rw [ey]
  exact this
theorem led_mg {hp h1 hs : qb_H} {n m c : Nat} (hB : qb_iB hp n) (hF : FS hp h1 n hs) (h68 : ∀ k : Nat, k < n → hp 13 k = -1 → hs 68 (7 * (k : Int) + 1) = ((dg m c (wr hp k).toNat : Nat) : Int)) {Q : Int} (h0 : 0 ≤ Q) (h1' : Q < 4) : qb_mg hs (gx hp Q (al hp m c Q)) n Q := by
  obtain ⟨f1, f2, f3, f4, f5⟩ := hF
  obtain ⟨b1, b2, b3, b4, b5⟩ := hB
  refine ⟨by rw [f3 9 (by decide) (by decide) (by decide) (by decide) (by decide) (by decide)]; exact b2, b1.2.1, gx_ok b1 h0 h1' _, ⟨h0, h1'⟩, fun k k0 k1 => ?_, ?_, ?_⟩
  · obtain ⟨c0, c1, c2, c3, c4⟩ := b3 k k0 k1
    rw [f4 k 2 (by decide) (by decide) (by decide), f4 k 3 (by decide) (by decide) (by decide), c2, c3]
    refine ⟨rfl, rfl, ?_⟩
    have e : hs 68 (7 * k + 1) = qf hp m c k := by
      unfold qf
      by_cases w : hp 13 k = -1
      · have ek : (k.toNat : Int) = k := by omega
        have := h68 k.toNat (by omega) (by rw [ek]; exact w)
        rw [ek] at this
        rw [if_pos w]; exact this
      · rw [if_neg w, f5 k (fun z => w z.2.2)]; exact c1
    rw [e]
    show qf hp m c k = Q ↔ decide (qf hp m c k = Q) = true
    exact decide_eq_true_iff.symm
  · rw [f2 65 (by decide) (by decide) (by decide) (by decide) (by decide) (by decide) (by decide), f2 66 (by decide) (by decide) (by decide) (by decide) (by decide) (by decide) (by decide), (b4 Q h0 h1').1, (b4 Q h0 h1').2]; rfl
  · rw [f2 67 (by decide) (by decide) (by decide) (by decide) (by decide) (by decide) (by decide), b5 0 (by decide) (by decide)]; rfl
def kR (hp hq : qb_H) : Prop :=
  (∀ c : Nat, 60 < c → c ≠ 68 → c ≠ 83 → c ≠ 84 → c ≠ 85 → c ≠ 86 → c ≠ 87 → hq c = hp c) ∧
  (∀ j : Int, j ≠ 33 → j ≠ 38 → j ≠ 39 → j ≠ 45 → j ≠ 46 → j ≠ 47 → hq 60 j = hp 60 j) ∧
  (∀ k i : Int, 0 ≤ i → i < 5 → hq 68 (7 * k + i) = hp 68 (7 * k + i))
theorem s_m_laySpread {hp h1 : qb_H} {n m : Nat} (hB : qb_iB hp n) (hm : wr hp n = m) (hm5 : m ≤ 5) (h60 : ∀ c : Nat, 60 ≤ c → h1 c = hp c) {K : qb_H → Prop}
    (hK : ∀ (hq : qb_H) (best : Nat), (∀ c : Nat, c < 60 → hq c = h1 c) → kR hp hq → wt hp n m hq → hq 60 45 = SP hp n m best → hq 60 46 = best → am (SP hp n m) (4 ^ m) best → K hq) : c_m_laySpread h1 K := by
  have hn9 := hB.2.1
  have hn30 := hB.1.2.1
  have hp4 := pw4 hm5
  have b3 := hB.2.2.1
  -- the end: all wait again
  have hend : ∀ (best : Nat) (hr : qb_H), FS hp h1 n hr → wt hp n m hr → hr 60 45 = SP hp n m best → hr 60 46 = best → am (SP hp n m) (4 ^ m) best → r_m_laySpread_117 0 hr K := by
    intro best hr g1 g2 g3 g4 g5
    have key : ∀ (d t : Nat) (hs : qb_H), t + d = m → FS hp h1 n hs → wt hp n m hs → hs 60 45 = SP hp n m best → hs 60 46 = best → (∀ k : Nat, k < n → hp 13 k = -1 → wr hp k < t → hs 68 (7 * (k : Int) + 1) = -1) → r_m_laySpread_117 t hs K := by
      intro d
      induction d with
      | zero =>
        intro t hs ht f1 f2 f3 f4 f5
        have et : t = m := by omega
        subst et
        refine b_m_laySpread_117 ⟨fun _ => hK hs best f1.1 ⟨f1.2.1, f1.2.2.1, fun k i i0 i1 => ?_⟩ f2 f3 f4 g5, fun z => absurd (by rw [f2.1]; exact Int.le_refl _) z⟩
        by_cases ei : i = 1
        · rw [ei]
          by_cases w : 0 ≤ k ∧ k < n ∧ hp 13 k = -1
          · have ek : (k.toNat : Int) = k := by omega
            have hlt := wr_lt (hp := hp) (k := k.toNat) (l := n) (by omega) (by rw [ek]; exact w.2.2)
            have := f5 k.toNat (by omega) (by rw [ek]; exact w.2.2) (by omega)
            rw [ek] at this
            rw [this, (b3 k w.1 w.2.1).2.1]; exact w.2.2.symm
          · exact f1.2.2.2.2 k w
        · exact f1.2.2.2.1 k i i0 i1 ei
      | succ d ih =>
        intro t hs ht f1 f2 f3 f4 f5
        obtain ⟨k, k1, k2, k3⟩ := wr_onto (hp := hp) n (t : Int) (by omega) (by omega)
        have e87 : hs 87 (t : Int) = k := by rw [← k3]; exact f2.2 k k1 k2
        refine b_m_laySpread_117 ⟨fun z => absurd z (by rw [f2.1]; omega), fun _ => ?_⟩
        rw [e87]
        refine ⟨by omega, by unfold qb_in; omega, by unfold qb_in; omega, by omega, ?_⟩
        obtain ⟨u1, u2, u3, u4, u5⟩ := f1
        have := ih (t + 1) (qb_st hs 68 (7 * (k : Int) + 1) (-1)) (by omega) ⟨fun cz hcz => by rw [qb_st_ne (by omega)]; exact u1 cz hcz, fun cz c0 c1 c2 c3 c4 c5 c6 => by rw [qb_st_ne c1]; exact u2 cz c0 c1 c2 c3 c4 c5 c6, fun j j1 j2 j3 j4 j5 j6 => by rw [qb_st_ne (by decide)]; exact u3 j j1 j2 j3 j4 j5 j6, fun kz i i0 i1 i2 => ?_, fun kz hkz => ?_⟩ ⟨by rw [qb_st_ne (by decide)]; exact f2.1, fun kz hk hkw => by rw [qb_st_ne (by decide)]; exact f2.2 kz hk hkw⟩ (by rw [qb_st_ne (by decide)]; exact f3) (by rw [qb_st_ne (by decide)]; exact f4) (fun kz hk hkw hle => ?_)
        · rw [Int.natCast_succ] at this
          exact this
        · have : ¬ 7 * kz + i = 7 * (k : Int) + 1 := by omega
          rw [← u4 kz i i0 i1 i2]; simp [qb_st, this]
        · have : ¬ 7 * kz + 1 = 7 * (k : Int) + 1 := fun e => hkz (by
            have : kz = k := by omega
            rw [this]; exact ⟨by omega, by omega, k2⟩)
          rw [← u5 kz hkz]; simp [qb_st, this]
        · by_cases e : kz = k
          · rw [e]; simp [qb_st]
          · have hne : ¬ 7 * (kz : Int) + 1 = 7 * (k : Int) + 1 := by omega
            have hwne : wr hp kz ≠ t := fun q => e (wr_inj hkw k2 (by rw [q, k3]))
            rw [← f5 kz hk hkw (by omega)]; simp [qb_st, hne]
    exact key m 0 hr (by omega) g1 g2 g3 g4 (fun k hk hkw hle => by have := wr_in (hp := hp) k; omega)
  -- the codes
  have hcodes : ∀ (d c : Nat) (hr : qb_H), c + d = 4 ^ m → FS hp h1 n hr → wt hp n m hr → ((c = 0 ∧ hr 60 45 = -1) ∨ ∃ best : Nat, hr 60 45 = SP hp n m best ∧ hr 60 46 = best ∧ am (SP hp n m) c best) → r_m_laySpread_62 c hr K := by
    intro d
    induction d with
    | zero =>
      intro c hr hc g1 g2 g3
      have ec : c = 4 ^ m := by omega
      refine b_m_laySpread_62 ⟨by rw [g2.1]; unfold qb_in; omega, fun _ => ?_, fun z => absurd (by rw [g2.1, shl4 hm5]; omega) z⟩
      rcases g3 with ⟨z, -⟩ | ⟨best, a1, a2, a3⟩
      · omega
      · rw [ec] at a3
        exact hend best hr g1 g2 a1 a2 a3
    | succ d ih =>
      intro c hr hc g1 g2 g3
      refine b_m_laySpread_62 ⟨by rw [g2.1]; unfold qb_in; omega, fun z => absurd z (by rw [g2.1, shl4 hm5]; omega), fun _ => s_m_leadAll hB hm hm5 g1 g2 (fun hs s1 s2 s3 => ?_)⟩
      refine s_m_allSp (G := fun Q => gx hp Q (al hp m c Q)) (n := n) (fun Q q0 q1 => led_mg hB s2 s3 q0 q1) (fun Q => hB.1.2.2.2.2.2.1) (fun hu u1 => ⟨by unfold qb_in; omega, ?_⟩)
      have eSP : qb_sum (fun Q => sc_sp (gx hp Q (al hp m c Q)) n) 4 = SP hp n m c := rfl
      rw [eSP]
      have hSP := SP_at hB.1 m c 4 (by decide)
      rw [eSP] at hSP
      have hFu := s2.mi u1
      have e45 : hu 60 45 = hr 60 45 := by rw [u1.2.1 45 (by decide) (by decide) (by decide), s1 60 (by decide)]
      have e46 : hu 60 46 = hr 60 46 := by rw [u1.2.1 46 (by decide) (by decide) (by decide), s1 60 (by decide)]
      have hwu : wt hp n m hu := ⟨by rw [u1.2.1 47 (by decide) (by decide) (by decide), s1 60 (by decide)]; exact g2.1, fun k hk hkw => by rw [u1.1 87 (by decide) (by decide) (by decide) (by decide) (by decide) (by decide), s1 87 (by decide)]; exact g2.2 k hk hkw⟩
      have hnew : FS hp h1 n (qb_st (qb_st hu 60 45 (SP hp n m c)) 60 46 c) ∧ wt hp n m (qb_st (qb_st hu 60 45 (SP hp n m c)) 60 46 c) := by
        obtain ⟨v1, v2, v3, v4, v5⟩ := hFu
        refine ⟨⟨fun cz hcz => by rw [qb_st_ne (by omega), qb_st_ne (by omega)]; exact v1 cz hcz, fun cz c0 c1 c2 c3 c4 c5 c6 => by rw [qb_st_ne (by omega), qb_st_ne (by omega)]; exact v2 cz c0 c1 c2 c3 c4 c5 c6, fun j j1 j2 j3 j4 j5 j6 => ?_, fun k i i0 i1 i2 => by rw [qb_st_ne (by decide), qb_st_ne (by decide)]; exact v4 k i i0 i1 i2, fun k hk => by rw [qb_st_ne (by decide), qb_st_ne (by decide)]; exact v5 k hk⟩, ⟨?_, fun k hk hkw => by rw [qb_st_ne (by decide), qb_st_ne (by decide)]; exact hwu.2 k hk hkw⟩⟩
        · rw [← v3 j j1 j2 j3 j4 j5 j6]; simp [qb_st, j4, j5]
        · rw [← hwu.1]; simp [qb_st]
      have f45 : qb_st (qb_st hu 60 45 (SP hp n m c)) 60 46 c 60 45 = SP hp n m c := by simp [qb_st]
      have f46 : qb_st (qb_st hu 60 45 (SP hp n m c)) 60 46 c 60 46 = c := by simp [qb_st]
      have go : ∀ hv : qb_H, FS hp h1 n hv → wt hp n m hv → (∃ best : Nat, hv 60 45 = SP hp n m best ∧ hv 60 46 = best ∧ am (SP hp n m) (c + 1) best) → r_m_laySpread_62 ((c : Int) + 1) hv K := by
        intro hv a1 a2 a3
        have := ih (c + 1) hv (by omega) a1 a2 (Or.inr a3)
        rw [Int.natCast_succ] at this
        exact this
      rw [e45]
      rcases g3 with ⟨z, z2⟩ | ⟨best, a1, a2, a3⟩
      · rw [z2, if_pos (by decide)]
        refine go _ hnew.1 hnew.2 ⟨c, f45, f46, by omega, fun x hx => ?_, fun x hx => by omega⟩
        have : x = c := by omega
        rw [this]; exact Int.le_refl _
      · have hSPb := SP_at hB.1 m best 4 (by decide)
        have eSPb : qb_sum (fun Q => sc_sp (gx hp Q (al hp m best Q)) n) 4 = SP hp n m best := rfl
        rw [eSPb] at hSPb
        rw [a1, if_neg (by omega)]
        by_cases cc : SP hp n m best ≤ SP hp n m c
        · rw [if_pos cc]
          exact go _ hFu hwu ⟨best, by rw [e45]; exact a1, by rw [e46]; exact a2, am_keep a3 cc⟩
        · rw [if_neg cc]
          exact go _ hnew.1 hnew.2 ⟨c, f45, f46, am_new a3 (by omega)⟩
  -- the list of those that wait
  have hlist : ∀ hr : qb_H, ((∀ c : Nat, c ≠ 60 → c ≠ 87 → hr c = h1 c) ∧ (∀ j : Int, j ≠ 47 → hr 60 j = h1 60 j) ∧ hr 60 47 = wr hp 0 ∧ ∀ k : Nat, k < 0 → hp 13 k = -1 → hr 87 (wr hp k) = k) → r_m_laySpread_7 0 hr K := by
    refine qb_up n (fun k x => ∀ hr : qb_H, ((∀ c : Nat, c ≠ 60 → c ≠ 87 → hr c = h1 c) ∧ (∀ j : Int, j ≠ 47 → hr 60 j = h1 60 j) ∧ hr 60 47 = wr hp k ∧ ∀ l : Nat, l < k → hp 13 l = -1 → hr 87 (wr hp l) = l) → r_m_laySpread_7 x hr K) ?_ ?_
    · rintro hr ⟨g1, g2, g3, g4⟩
      have e9 : hr 60 9 = n := by rw [g2 9 (by decide), h60 60 (by decide)]; exact hn9
      refine b_m_laySpread_7 ⟨fun _ => ?_, fun z => absurd (by rw [e9]; exact Int.le_refl _) z⟩
      refine hcodes (4 ^ m) 0 _ (by omega) ⟨fun c hc => by rw [qb_st_ne (by omega)]; exact g1 c (by omega) (by omega), fun c c0 c1 c2 c3 c4 c5 c6 => by rw [qb_st_ne (by omega), g1 c (by omega) c6]; exact h60 c (by omega), fun j j1 j2 j3 j4 j5 j6 => ?_, fun k i i0 i1 i2 => by rw [qb_st_ne (by decide), g1 68 (by decide) (by decide), h60 68 (by decide)], fun k hk => by rw [qb_st_ne (by decide), g1 68 (by decide) (by decide), h60 68 (by decide)]⟩ ⟨?_, fun k hk hkw => by rw [qb_st_ne (by decide)]; exact g4 k hk hkw⟩ (Or.inl ⟨rfl, by simp [qb_st]⟩)
      · rw [← congrFun (h60 60 (by decide)) j, ← g2 j j6]; simp [qb_st, j4]
      · have : qb_st hr 60 45 (-1) 60 47 = hr 60 47 := by simp [qb_st]
        rw [this, g3, hm]
    · rintro k hk ih hr ⟨g1, g2, g3, g4⟩
      have e9 : hr 60 9 = n := by rw [g2 9 (by decide), h60 60 (by decide)]; exact hn9
      have hwk := wr_in (hp := hp) k
      have e68 : hr 68 (7 * (k : Int) + 1) = hp 13 k := by rw [g1 68 (by decide) (by decide), h60 68 (by decide)]; exact (b3 k (by omega) (by omega)).2.1
      have hr13 := (hB.1.2.2.2.1 k (by omega) (by omega)).2.1
      refine b_m_laySpread_7 ⟨fun z => absurd z (by rw [e9]; omega), fun _ => ?_⟩
      rw [e68, g3]
      refine ⟨by unfold qb_in; omega, by unfold qb_in; omega, by omega, fun z => ?_, fun hs es => ⟨by unfold qb_in; omega, ih hs ?_⟩⟩
      · have := wr_lt (hp := hp) (k := k) (l := n) hk (by omega)
        omega
      · by_cases c : hp 13 k = -1
        · rw [if_neg (by omega)] at es
          rw [es]
          refine ⟨fun cz c1 c2 => by rw [qb_st_ne c1, qb_st_ne c2]; exact g1 cz c1 c2, fun j hj => ?_, by rw [wr_yes c]; simp [qb_st], fun l hl hlw => ?_⟩
          · rw [← g2 j hj]; simp [qb_st, hj]
          · have e87 : ∀ i : Int, qb_st (qb_st hr 87 (wr hp k) k) 60 47 (wr hp k + 1) 87 i = if i = wr hp k then (k : Int) else hr 87 i := fun i => by simp [qb_st]
            rw [e87]
            by_cases e : l = k
            · rw [e, if_pos rfl]
            · have := wr_lt (hp := hp) (k := l) (l := k) (by omega) hlw
              rw [if_neg (by omega)]
              exact g4 l (by omega) hlw
        · rw [if_pos (by omega)] at es
          rw [es]
          refine ⟨g1, g2, by rw [wr_no c]; exact g3, fun l hl hlw => ?_⟩
          by_cases e : l = k
          · rw [e] at hlw; exact absurd hlw c
          · exact g4 l (by omega) hlw
  exact b_m_laySpread (hlist _ ⟨fun c c1 _ => qb_st_ne c1, fun j hj => by simp [qb_st, hj], by simp [qb_st]; rfl, fun k hk => by omega⟩)
theorem kR_kS {hp h1 hq : qb_H} (h1c : ∀ c : Nat, c < 60 → c ≠ 50 → c ≠ 51 → c ≠ 52 → c ≠ 53 → h1 c = hp c) (hc : ∀ c : Nat, c < 60 → hq c = h1 c) (hk : kR hp hq) : kS hp hq := by
  obtain ⟨k1, k2, k3⟩ := hk
  refine ⟨fun c c1 c2 c3 c4 => ?_, fun j hj => ?_, k3, fun j _ => by rw [hc 32 (by decide), h1c 32 (by decide) (by decide) (by decide) (by decide) (by decide)], fun j _ => by rw [hc 59 (by decide), h1c 59 (by decide) (by decide) (by decide) (by decide) (by decide)]⟩
  · simp at c1
    by_cases e : c < 60
    · rw [hc c e]; exact h1c c e (by omega) (by omega) (by omega) (by omega)
    · exact k1 c (by omega) c3 (by omega) (by omega) (by omega) (by omega) (by omega)
  · simp at hj
    exact k2 j (by omega) (by omega) (by omega) (by omega) (by omega) (by omega)
theorem la_wait {hp : qb_H} {n : Nat} (hB : qb_iB hp n) : v_la_waiting hp = wr hp n := by
  unfold v_la_waiting wr
  rw [hB.1.1, Int.toNat_natCast]
theorem spread_ok (i : Int) {hp : qb_H} {n : Nat} (hB : qb_iB hp n) (hw5 : wr hp n ≤ 5) {K : Int → Int → qb_H → Prop} (hK : ∀ (v : Int) (hq : qb_H), kS hp hq → K v v hq) : c_q_spread i hp (fun v hp1 => c_m_spread i hp1 (fun w hp2 => K v w hp2)) := by
  have hn := hB.1.1
  have hn30 := hB.1.2.1
  obtain ⟨m, hm⟩ : ∃ m : Nat, wr hp n = m := ⟨_, (Int.toNat_of_nonneg (wr_in n).1).symm⟩
  have hm5 : m ≤ 5 := by omega
  have hp4 := pw4 hm5
  have hmm : ∀ (V : Int) (h1 : qb_H), (∀ c : Nat, c < 60 → c ≠ 50 → c ≠ 51 → c ≠ 52 → c ≠ 53 → h1 c = hp c) → (∀ c : Nat, 60 ≤ c → h1 c = hp c) → (∀ best : Nat, am (SP hp n m) (4 ^ m) best → V = (if i = -1 then SP hp n m best else if 0 ≤ i ∧ i ≤ (m : Int) - 1 then ((dg m best i.toNat : Nat) : Int) else -6)) → c_m_spread i h1 (fun w hp2 => K V w hp2) := by
    intro V h1 h1c h60 hV
    refine b_m_spread (s_m_laySpread hB hm hm5 h60 (fun hq best q1 q2 q3 q4 q5 q6 => ?_))
    have e := hV best q6
    rw [q3.1, q4, q5]
    refine ⟨fun _ => ⟨by unfold qb_in; omega, fun z => ?_⟩, fun y ey => ?_⟩
    · rcases v_in_c (x := i) (a := 0) (b := (m : Int) - 1) with w | w
      · exact absurd w.1 z
      · exact ⟨by unfold qb_in; omega, by unfold qb_in; omega⟩
    · have : y = V := by
        rw [ey, e]
        by_cases c : i = -1
        · rw [if_pos c, if_pos c]
        · rw [if_neg c, if_neg c]
          by_cases d : 0 ≤ i ∧ i ≤ (m : Int) - 1
          · rw [if_pos d, v_m_in_1 d, if_neg (by decide)]
            have hd := dig_is (m := m) (c := best) (i := i.toNat) hm5 (by have := q6.1; omega) (by omega)
            have ei : ((i.toNat : Nat) : Int) = i := by omega
            rw [ei] at hd
            exact hd
          · rw [if_neg d, v_m_in_0 (by omega), if_pos rfl]
      rw [this]
      exact hK V hq (kR_kS h1c q1 q2)
  refine b_q_spread (s_la_waiting hp _ ⟨by omega, by omega⟩ ?_)
  rw [la_wait hB, hm]
  refine ⟨by unfold qb_in; omega, fun c => ?_, fun c => ?_⟩
  · have hno : ¬ (-1 ≤ i ∧ i ≤ (m : Int) - 1) := fun z => by
      have : v_q_within i (-1) ((m : Int) - 1) = 1 := v_m_in_1 z
      rw [this] at c; exact absurd c (by decide)
    exact hmm _ hp (fun _ _ _ _ _ _ => rfl) (fun _ _ => rfl) (fun best hb => by rw [if_neg (by omega), if_neg (by omega)])
  · have hyes : -1 ≤ i ∧ i ≤ (m : Int) - 1 := by
      rcases v_in_c (x := i) (a := -1) (b := (m : Int) - 1) with z | z
      · exact absurd z.1 c
      · exact z.2
    refine s_sp_plan hB hm hm5 (fun hq best q1 q2 q3 q4 q5 q6 => ?_)
    have hbl := q5.1
    refine ⟨fun z => ?_, fun y ey => ?_⟩
    · unfold g_sp_quayOf g_sp_digit
      rw [q2]
      exact ⟨by unfold qb_in; omega, by unfold qb_in; omega, by unfold qb_in; omega⟩
    · refine hmm y hq (fun cz c0 c1 c2 c3 c4 => q1 cz c1 c2 c3 c4) (fun cz hcz => q1 cz (by omega) (by omega) (by omega) (by omega)) (fun b hb => ?_)
      have eb := am_u hb q5
      subst eb
      rw [ey]
      by_cases d : i = -1
      · rw [if_pos d, if_pos d, q3]
      · rw [if_neg d, if_neg d, if_pos (by omega)]
        unfold v_sp_quayOf v_sp_digit
        rw [q2, q4]
        have hd := dig_is (m := m) (c := b) (i := i.toNat) hm5 (by omega) (by omega)
        have ei : ((i.toNat : Nat) : Int) = i := by omega
        rw [ei] at hd
        exact hd
