/-! LOADED: the reference's tables and rows; LOAD -/
theorem pz_go {hp hq : qb_H} (h : ∀ c : Nat, 60 ≤ c → c ≠ 88 → hq c = hp c) (kn g s : Int) : pz hq kn g s = pz hp kn g s := by
  unfold pz v_m_priceAt
  rw [h 77 (by decide) (by decide), h 79 (by decide) (by decide), h 80 (by decide) (by decide), h 81 (by decide) (by decide), h 82 (by decide) (by decide), h 60 (by decide) (by decide)]
/-- the reference's table: from ship 4 - j on; the base is hp -/
def fm (hp : qb_H) (kn : Int) (j : Nat) (h1 hr : qb_H) : Prop := (∀ c : Nat, c ≠ 88 → hr c = h1 c) ∧ ∀ l : Nat, l ≤ j → ∀ k : Int, 0 ≤ k → k < 441 → hr 88 (441 * (4 - l) + k) = Mt hp kn l (k / 21) (k % 21)
theorem s_priceAt {hp hr : qb_H} (hP : qb_iP hp) (h : ∀ c : Nat, 60 ≤ c → c ≠ 88 → hr c = hp c) (kn g s : Int) {K : Int → qb_H → Prop} (hK : K (pz hp kn g s) hr) : c_m_priceAt g (hr 77 s) kn hr K := by
  refine s_m_priceAt g (hr 77 s) kn hr K ?_ ?_
  · unfold g_m_priceAt; rw [h 60 (by decide) (by decide)]; exact hP.2.1
  · rw [← pz_go h kn g s] at hK
    exact hK
theorem most_one {hp h1 : qb_H} (hP : qb_iP hp) (hH : qb_iH hp) (h60 : ∀ c : Nat, 60 ≤ c → h1 c = hp c) {kn : Int} {j : Nat} (hj : j < 4) {K : qb_H → Prop} {k : Int} (hk : 0 ≤ k ∧ k < 441) {hr : qb_H} (hf : fm hp kn j h1 hr)
    (hK : r_m_layMost_62 kn (3 - j) (pz hp kn 0 (3 - j)) (pz hp kn 1 (3 - j)) (k + 1) (qb_st hr 88 (441 * (3 - j) + k) (Mt hp kn (j + 1) (k / 21) (k % 21))) K) : r_m_layMost_76 kn (3 - j) (pz hp kn 0 (3 - j)) (pz hp kn 1 (3 - j)) k 0 0 hr K := by
  obtain ⟨f1, f4⟩ := hf
  have hb := (hH.1 (3 - (j : Int)) (by omega) (by omega)).2.2.1
  have hz0 := pz_in hP kn 0 (3 - j)
  have hz1 := pz_in hP kn 1 (3 - j)
  have e78 : hr 78 (3 - j) = hp 78 (3 - j) := by rw [f1 78 (by decide), h60 78 (by decide)]
  obtain ⟨B, hB⟩ : ∃ B : Int, B = hp 78 (3 - j) := ⟨_, rfl⟩
  rw [← hB] at e78 hb
  have hMt : ∀ V : Int, mx (Mt hp kn j) (pz hp kn 0 (3 - j)) (pz hp kn 1 (3 - j)) B V (k / 21) (k % 21) → V = Mt hp kn (j + 1) (k / 21) (k % 21) := by
    intro V hV
    have h2 := dp_mx (N := Mt hp kn j) (pr := pz hp kn 0 (3 - j)) (qr := pz hp kn 1 (3 - j)) (hp 78 (3 - j)).toNat (k / 21) (k % 21) (by omega) (by omega)
    have eB : (((hp 78 (3 - (j : Int))).toNat : Nat) : Int) = B := by omega
    rw [eB] at h2
    exact mx_u hV h2
  obtain ⟨W, hW⟩ : ∃ W : Int → Int → Int, W = vl (Mt hp kn j) (pz hp kn 0 (3 - j)) (pz hp kn 1 (3 - j)) (k / 21) (k % 21) := ⟨_, rfl⟩
  have hWb : ∀ a b : Int, 0 ≤ a → a ≤ k / 21 → 0 ≤ b → b ≤ k % 21 → W a b = a * pz hp kn 0 (3 - j) + b * pz hp kn 1 (3 - j) + hr 88 (441 * (3 - j + 1) + k - 21 * a - b) ∧ 0 ≤ W a b ∧ W a b ≤ 200000 ∧ (0 ≤ a * pz hp kn 0 (3 - j) ∧ a * pz hp kn 0 (3 - j) ≤ 20000) ∧ (0 ≤ b * pz hp kn 1 (3 - j) ∧ b * pz hp kn 1 (3 - j) ≤ 20000) := by
    intro a b a0 a1 b0 b1
    have m3 := Mt_in hP hH kn j (by omega) (k / 21 - a) (k % 21 - b) (by omega) (by omega)
    have m1 : 0 ≤ a * pz hp kn 0 (3 - j) ∧ a * pz hp kn 0 (3 - j) ≤ 20000 := by
      have h1 : 0 ≤ a * pz hp kn 0 (3 - j) := Int.mul_nonneg a0 hz0.1
      have h2 : a * pz hp kn 0 (3 - j) ≤ 20 * pz hp kn 0 (3 - j) := Int.mul_le_mul_of_nonneg_right (by omega) hz0.1
      omega
    have m2 : 0 ≤ b * pz hp kn 1 (3 - j) ∧ b * pz hp kn 1 (3 - j) ≤ 20000 := by
      have h1 : 0 ≤ b * pz hp kn 1 (3 - j) := Int.mul_nonneg b0 hz1.1
      have h2 : b * pz hp kn 1 (3 - j) ≤ 20 * pz hp kn 1 (3 - j) := Int.mul_le_mul_of_nonneg_right (by omega) hz1.1
      omega
    have e := f4 j (Nat.le_refl j) (k - 21 * a - b) (by omega) (by omega)
    have i1 : (k - 21 * a - b) / 21 = k / 21 - a := by omega
    have i2 : (k - 21 * a - b) % 21 = k % 21 - b := by omega
    have i3 : 441 * (3 - (j : Int) + 1) + k - 21 * a - b = 441 * (4 - (j : Int)) + (k - 21 * a - b) := by omega
    rw [i3, e, i1, i2, hW]
    unfold vl
    refine ⟨rfl, by omega, by omega, m1, m2⟩
  have hend : ∀ best : Int, 0 ≤ best → (∀ a b : Int, 0 ≤ a → a ≤ k / 21 → 0 ≤ b → b ≤ k % 21 → a + b ≤ B → W a b ≤ best) → (best = 0 ∨ ∃ a b : Int, 0 ≤ a ∧ a ≤ k / 21 ∧ 0 ≤ b ∧ b ≤ k % 21 ∧ a + b ≤ B ∧ best = W a b) → best = Mt hp kn (j + 1) (k / 21) (k % 21) := by
    intro best h0 h1 h2
    refine hMt best ⟨?_, fun a b a0 a1 b0 b1 ab => by rw [← hW]; exact h1 a b a0 a1 b0 b1 ab⟩
    rw [← hW]
    rcases h2 with h2 | h2
    · have h3 := h1 0 0 (by decide) (by omega) (by decide) (by omega) (by omega)
      have h4 := (hWb 0 0 (by decide) (by omega) (by decide) (by omega)).2.1
      exact ⟨0, 0, by decide, by omega, by decide, by omega, by omega, by omega⟩
    · exact h2
  have store : ∀ best : Int, best = Mt hp kn (j + 1) (k / 21) (k % 21) → (qb_in (441 * (3 - (j : Int)))) ∧ (qb_in ((441 * (3 - (j : Int))) + k)) ∧ (0 ≤ ((441 * (3 - (j : Int))) + k) ∧ ((441 * (3 - (j : Int))) + k) < 2205) ∧ (qb_in (k + 1)) ∧ r_m_layMost_62 kn (3 - j) (pz hp kn 0 (3 - j)) (pz hp kn 1 (3 - j)) (k + 1) (qb_st hr 88 ((441 * (3 - j)) + k) best) K := by
    intro best e
    rw [e]
    exact ⟨by unfold qb_in; omega, by unfold qb_in; omega, by omega, by unfold qb_in; omega, hK⟩
  have inner : ∀ (d : Nat) (a b best : Int), 0 ≤ a → a ≤ k / 21 → a ≤ B → 0 ≤ b → b + d = 22 → (0 ≤ best ∧ best ≤ 200000) → (∀ c e : Int, 0 ≤ c → c ≤ k / 21 → 0 ≤ e → e ≤ k % 21 → c + e ≤ B → (c < a ∨ (c = a ∧ e < b)) → W c e ≤ best) → (best = 0 ∨ ∃ a b : Int, 0 ≤ a ∧ a ≤ k / 21 ∧ 0 ≤ b ∧ b ≤ k % 21 ∧ a + b ≤ B ∧ best = W a b) → (∀ best : Int, (0 ≤ best ∧ best ≤ 200000) → (∀ c e : Int, 0 ≤ c → c ≤ k / 21 → 0 ≤ e → e ≤ k % 21 → c + e ≤ B → c < a + 1 → W c e ≤ best) → (best = 0 ∨ ∃ a b : Int, 0 ≤ a ∧ a ≤ k / 21 ∧ 0 ≤ b ∧ b ≤ k % 21 ∧ a + b ≤ B ∧ best = W a b) → r_m_layMost_76 kn (3 - j) (pz hp kn 0 (3 - j)) (pz hp kn 1 (3 - j)) k best (a + 1) hr K) → r_m_layMost_100 kn (3 - j) (pz hp kn 0 (3 - j)) (pz hp kn 1 (3 - j)) k best a b hr K := by
    intro d
    induction d with
    | zero =>
      intro a b best h1 h2 h3 h4 h5 h6 h7 h8 h9
      exact b_m_layMost_100 ⟨hk.1, fun _ => ⟨by unfold qb_in; omega, h9 best h6 (fun c e c0 c1 e0 e1 ce hca => h7 c e c0 c1 e0 e1 ce (by omega)) h8⟩, fun q => absurd (by omega) q⟩
    | succ d ih =>
      intro a b best h1 h2 h3 h4 h5 h6 h7 h8 h9
      refine b_m_layMost_100 ⟨hk.1, fun q => ⟨by unfold qb_in; omega, h9 best h6 (fun c e c0 c1 e0 e1 ce hca => h7 c e c0 c1 e0 e1 ce (by omega)) h8⟩, fun q => ⟨by unfold qb_in; omega, by omega, fun r => ⟨by unfold qb_in; omega, h9 best h6 (fun c e c0 c1 e0 e1 ce hca => h7 c e c0 c1 e0 e1 ce (by rw [e78] at r; omega)) h8⟩, fun r => ?_⟩⟩
      rw [e78] at r
      obtain ⟨w1, w2, w3, w4, w5⟩ := hWb a b h1 h2 h4 (by omega)
      rw [← w1]
      have hm := (f4 j (Nat.le_refl j) (k - 21 * a - b) (by omega) (by omega))
      refine ⟨by unfold qb_in; omega, by unfold qb_in; omega, by unfold qb_in; omega, by unfold qb_in; omega, by unfold qb_in; omega, by unfold qb_in; omega, by unfold qb_in; omega, by unfold qb_in; omega, by omega, by unfold qb_in; omega, fun v ev y ey => ⟨by unfold qb_in; omega, ?_⟩⟩
      rw [ev] at ey
      by_cases c : W a b ≤ best
      · rw [if_pos c] at ey
        rw [ey]
        refine ih a (b + 1) best h1 h2 h3 (by omega) (by omega) h6 (fun c' e' c0 c1 e0 e1 ce hh => ?_) h8 h9
        by_cases z : c' = a ∧ e' = b
        · rw [z.1, z.2]; exact c
        · exact h7 c' e' c0 c1 e0 e1 ce (by omega)
      · rw [if_neg c] at ey
        rw [ey]
        refine ih a (b + 1) (W a b) h1 h2 h3 (by omega) (by omega) ⟨w2, w3⟩ (fun c' e' c0 c1 e0 e1 ce hh => ?_) (Or.inr ⟨a, b, h1, h2, h4, by omega, by omega, rfl⟩) h9
        by_cases z : c' = a ∧ e' = b
        · rw [z.1, z.2]; exact Int.le_refl _
        · have := h7 c' e' c0 c1 e0 e1 ce (by omega)
          omega
  have outer : ∀ (d : Nat) (a best : Int), 0 ≤ a → a + d = 22 → (0 ≤ best ∧ best ≤ 200000) → (∀ c e : Int, 0 ≤ c → c ≤ k / 21 → 0 ≤ e → e ≤ k % 21 → c + e ≤ B → c < a → W c e ≤ best) → (best = 0 ∨ ∃ a b : Int, 0 ≤ a ∧ a ≤ k / 21 ∧ 0 ≤ b ∧ b ≤ k % 21 ∧ a + b ≤ B ∧ best = W a b) → r_m_layMost_76 kn (3 - j) (pz hp kn 0 (3 - j)) (pz hp kn 1 (3 - j)) k best a hr K := by
    intro d
    induction d with
    | zero =>
      intro a best h1 h2 h3 h4 h5
      exact b_m_layMost_76 ⟨hk.1, fun _ => store best (hend best h3.1 (fun c e c0 c1 e0 e1 ce => h4 c e c0 c1 e0 e1 ce (by omega)) h5), fun q => absurd (by omega) q⟩
    | succ d ih =>
      intro a best h1 h2 h3 h4 h5
      refine b_m_layMost_76 ⟨hk.1, fun q => store best (hend best h3.1 (fun c e c0 c1 e0 e1 ce => h4 c e c0 c1 e0 e1 ce (by omega)) h5), fun q => ⟨by omega, fun r => store best (hend best h3.1 (fun c e c0 c1 e0 e1 ce => h4 c e c0 c1 e0 e1 ce (by rw [e78] at r; omega)) h5), fun r => ?_⟩⟩
      rw [e78] at r
      exact inner 22 a 0 best h1 (by omega) (by omega) (by decide) (by decide) h3 (fun c e c0 c1 e0 e1 ce hh => h4 c e c0 c1 e0 e1 ce (by omega)) h5 (fun best' g1 g2 g3 => ih (a + 1) best' (by omega) (by omega) g1 g2 g3)
  exact outer 22 0 0 (by decide) (by decide) (by decide) (fun c e c0 c1 e0 e1 ce hh => by omega) (Or.inl rfl)
theorem s_m_layMost {hp h1 : qb_H} (hP : qb_iP hp) (hH : qb_iH hp) (h60 : ∀ c : Nat, 60 ≤ c → h1 c = hp c) {kn : Int} {K : qb_H → Prop} (hK : ∀ hr : qb_H, fm hp kn 4 h1 hr → K hr) : c_m_layMost kn h1 K := by
  have ships : ∀ (d j : Nat) (hr : qb_H), j + d = 4 → fm hp kn j h1 hr → r_m_layMost_28 kn (3 - j) hr K := by
    intro d
    induction d with
    | zero =>
      intro j hr hj h
      have e : j = 4 := by omega
      subst e
      exact b_m_layMost_28 ⟨fun _ => hK hr h, fun c => absurd (by decide) c⟩
    | succ d ih =>
      intro j hr hj h
      have hr60 : ∀ hs : qb_H, (∀ c : Nat, c ≠ 88 → hs c = h1 c) → ∀ c : Nat, 60 ≤ c → c ≠ 88 → hs c = hp c := fun hs h c c1 c2 => (h c c2).trans (h60 c c1)
      refine b_m_layMost_28 ⟨fun c => absurd c (by omega), fun _ => ⟨by omega, s_priceAt hP (hr60 hr h.1) kn 0 _ (s_priceAt hP (hr60 hr h.1) kn 1 _ ?_)⟩⟩
      have rows : ∀ (g : Nat) (k : Int) (hs : qb_H), 0 ≤ k → k + g = 441 → fm hp kn j h1 hs → (∀ i : Int, 0 ≤ i → i < k → hs 88 (441 * (3 - j) + i) = Mt hp kn (j + 1) (i / 21) (i % 21)) → r_m_layMost_62 kn (3 - j) (pz hp kn 0 (3 - j)) (pz hp kn 1 (3 - j)) k hs K := by
        intro g
        induction g with
        | zero =>
          intro k hs h1' h2 h3 h4
          refine b_m_layMost_62 ⟨fun _ => ⟨by unfold qb_in; omega, ?_⟩, fun c => absurd (by omega) c⟩
          have e1 : 3 - (j : Int) + (-1) = 3 - ((j + 1 : Nat) : Int) := by omega
          rw [e1]
          refine ih (j + 1) hs (by omega) ⟨h3.1, fun l hl i i0 i1 => ?_⟩
          by_cases e : l = j + 1
          · have e2 : 4 - ((j + 1 : Nat) : Int) = 3 - j := by omega
            rw [e, e2]
            exact h4 i i0 (by omega)
          · exact h3.2 l (by omega) i i0 i1
        | succ g ihg =>
          intro k hs h1' h2 h3 h4
          refine b_m_layMost_62 ⟨fun c => absurd c (by omega), fun _ => most_one hP hH h60 (by omega) (by omega) h3 (ihg (k + 1) _ (by omega) (by omega) ⟨fun c hc => by rw [qb_st_ne hc]; exact h3.1 c hc, fun l hl i i0 i1 => ?_⟩ (fun i i0 i1 => ?_))⟩
          · have : ¬ 441 * (4 - (l : Int)) + i = 441 * (3 - (j : Int)) + k := by omega
            rw [← h3.2 l hl i i0 i1]; simp [qb_st, this]
          · by_cases e : i = k
            · rw [e]; simp [qb_st]
            · have : ¬ 441 * (3 - (j : Int)) + i = 441 * (3 - (j : Int)) + k := by omega
              rw [← h4 i i0 (by omega)]; simp [qb_st, this]
      exact rows 441 0 hr (by decide) (by decide) h (fun i i0 i1 => by omega)
  have zeros : ∀ (d : Nat) (k : Int) (hr : qb_H), 0 ≤ k → k + d = 441 → (∀ c : Nat, c ≠ 88 → hr c = h1 c) → (∀ i : Int, 0 ≤ i → i < k → hr 88 (1764 + i) = 0) → r_m_layMost_2 kn k hr K := by
    intro d
    induction d with
    | zero =>
      intro k hr h1' h2 h3 h4
      refine b_m_layMost_2 ⟨fun _ => ships 4 0 hr (by decide) ⟨h3, fun l hl i i0 i1 => ?_⟩, fun c => absurd (by omega) c⟩
      have e : l = 0 := by omega
      rw [e]
      exact h4 i i0 (by omega)
    | succ d ih =>
      intro k hr h1' h2 h3 h4
      refine b_m_layMost_2 ⟨fun c => absurd c (by omega), fun _ => ⟨by unfold qb_in; omega, by omega, by unfold qb_in; omega, ih (k + 1) _ (by omega) (by omega) (fun c hc => by rw [qb_st_ne hc]; exact h3 c hc) (fun i i0 i1 => ?_)⟩⟩
      by_cases e : i = k
      · rw [e]; simp [qb_st]
      · have : ¬ 1764 + i = 1764 + k := by omega
        rw [← h4 i i0 (by omega)]; simp [qb_st, e]
  exact b_m_layMost (zeros 441 0 h1 (by decide) (by decide) (fun _ _ => rfl) (fun i i0 i1 => by omega))
/-- the reference's row of one ship -/
theorem m_row_ok {hp h1 : qb_H} (hP : qb_iP hp) (hH : qb_iH hp) (h60 : ∀ c : Nat, 60 ≤ c → h1 c = hp c) {kn i : Int} {j : Nat} (hj : j < 4) {hr : qb_H} (hf : fm hp kn 4 h1 hr) {x y k : Int} (hx : 0 ≤ x ∧ x ≤ 20) (hy : 0 ≤ y ∧ y ≤ 20) (hk : k = 21 * x + y) {z : Nat} (hz : lr hp kn j x y z) (hz2 : ∀ w : Nat, w < z → ¬ lr hp kn j x y w) {K : Int → qb_H → Prop} (hK : r_m_load_64 kn i (21 * (x - z / 100) + (y - z % 100)) z (3 - j + 1) hr K) : r_m_load_84 kn i k (-6) (3 - j) 0 hr K := by
  obtain ⟨f1, f4⟩ := hf
  obtain ⟨a', b', a1, a2, b1, b2, ab, ez, ev⟩ := hz
  have hb := (hH.1 (3 - (j : Int)) (by omega) (by omega)).2.2.1
  have hz0 := pz_in hP kn 0 (3 - j)
  have hz1 := pz_in hP kn 1 (3 - j)
  have hr60 : ∀ c : Nat, 60 ≤ c → c ≠ 88 → hr c = hp c := fun c c1 c2 => (f1 c c2).trans (h60 c c1)
  have e78 : hr 78 (3 - j) = hp 78 (3 - j) := by rw [hr60 78 (by decide) (by decide)]
  have k1 : k / 21 = x := by omega
  have k2 : k % 21 = y := by omega
  have z1 : (z : Int) / 100 = a' := by omega
  have z2 : (z : Int) % 100 = b' := by omega
  have fin : ∀ a : Int, 0 ≤ a → a ≤ 21 → r_m_load_84 kn i k z (3 - j) a hr K := by
    intro a h0 h1'
    have g : (0 ≤ (z : Int)) ∧ (qb_in (21 * ((z : Int) / 100))) ∧ (qb_in ((21 * ((z : Int) / 100)) + ((z : Int) % 100))) ∧ (qb_in (k - ((21 * ((z : Int) / 100)) + ((z : Int) % 100)))) ∧ (∀ (y351 : Int), y351 = (k - ((21 * ((z : Int) / 100)) + ((z : Int) % 100))) → (qb_in ((3 - (j : Int)) + 1)) ∧ r_m_load_64 kn i y351 z ((3 - j) + 1) hr K) := by
      refine ⟨by omega, by unfold qb_in; omega, by unfold qb_in; omega, by unfold qb_in; omega, fun v ev2 => ⟨by unfold qb_in; omega, ?_⟩⟩
      have : v = 21 * (x - z / 100) + (y - z % 100) := by omega
      rw [this]; exact hK
    exact b_m_load_84 ⟨by omega, fun _ => g, fun _ => ⟨fun _ => g, fun c => absurd (by omega) c⟩⟩
  have fin2 : ∀ a b : Int, 0 ≤ a → a ≤ 20 → 0 ≤ b → b ≤ 21 → r_m_load_102 kn i k z (3 - j) a b hr K := by
    intro a b h0 h1' h2 h3
    have g := fin (a + 1) (by omega) (by omega)
    exact b_m_load_102 ⟨by omega, fun _ => ⟨by unfold qb_in; omega, g⟩, fun _ => ⟨by unfold qb_in; omega, by omega, fun _ => ⟨by unfold qb_in; omega, g⟩, fun _ => ⟨fun _ => ⟨by unfold qb_in; omega, g⟩, fun c => absurd (by omega) c⟩⟩⟩
  have inner : ∀ (d : Nat) (a b : Int), 0 ≤ a → a ≤ a' → 0 ≤ b → (a = a' → b ≤ b') → b + d = y + 1 → (a < a' → r_m_load_84 kn i k (-6) (3 - j) (a + 1) hr K) → r_m_load_102 kn i k (-6) (3 - j) a b hr K := by
    intro d
    induction d with
    | zero =>
      intro a b h1' h2 h3 h4 h5 h6
      exact b_m_load_102 ⟨by omega, fun _ => ⟨by unfold qb_in; omega, h6 (by omega)⟩, fun c => absurd (by omega) c⟩
    | succ d ih =>
      intro a b h1' h2 h3 h4 h5 h6
      refine b_m_load_102 ⟨by omega, fun c => absurd c (by omega), fun _ => ⟨by unfold qb_in; omega, by omega, fun r => ⟨by unfold qb_in; omega, h6 ?_⟩, fun r => ⟨fun c => absurd c (by decide), fun _ => ?_⟩⟩⟩
      · rw [e78] at r
        by_cases e : a = a'
        · have := h4 e
          omega
        · omega
      · rw [e78] at r
        have m1 : 0 ≤ a * pz hp kn 0 (3 - j) ∧ a * pz hp kn 0 (3 - j) ≤ 20000 := by
          have h1 : 0 ≤ a * pz hp kn 0 (3 - j) := Int.mul_nonneg h1' hz0.1
          have h2 : a * pz hp kn 0 (3 - j) ≤ 20 * pz hp kn 0 (3 - j) := Int.mul_le_mul_of_nonneg_right (by omega) hz0.1
          omega
        have m2 : 0 ≤ b * pz hp kn 1 (3 - j) ∧ b * pz hp kn 1 (3 - j) ≤ 20000 := by
          have h1 : 0 ≤ b * pz hp kn 1 (3 - j) := Int.mul_nonneg h3 hz1.1
          have h2 : b * pz hp kn 1 (3 - j) ≤ 20 * pz hp kn 1 (3 - j) := Int.mul_le_mul_of_nonneg_right (by omega) hz1.1
          omega
        have m3 := Mt_in hP hH kn j (by omega) (x - a) (y - b) (by omega) (by omega)
        have e1 := f4 j (by omega) (k - 21 * a - b) (by omega) (by omega)
        have e2 := f4 (j + 1) (by omega) k (by omega) (by omega)
        have i1 : (k - 21 * a - b) / 21 = x - a := by omega
        have i2 : (k - 21 * a - b) % 21 = y - b := by omega
        have i3 : 441 * (3 - (j : Int) + 1) + k - 21 * a - b = 441 * (4 - (j : Int)) + (k - 21 * a - b) := by omega
        have i4 : 441 * (4 - ((j + 1 : Nat) : Int)) + k = 441 * (3 - (j : Int)) + k := by omega
        rw [i1, i2] at e1
        rw [i4, k1, k2] at e2
        refine b_m_gain ⟨by omega, s_priceAt hP hr60 kn 0 _ ⟨by unfold qb_in; omega, s_priceAt hP hr60 kn 1 _ ⟨by unfold qb_in; omega, by unfold qb_in; omega, ?_⟩⟩⟩
        rw [i3, e1, e2]
        refine ⟨by unfold qb_in; omega, by unfold qb_in; omega, by unfold qb_in; omega, by unfold qb_in; omega, by unfold qb_in; omega, by omega, by unfold qb_in; omega, by unfold qb_in; omega, by unfold qb_in; omega, by omega, fun _ => ⟨by unfold qb_in; omega, by unfold qb_in; omega⟩, by unfold qb_in; omega, ?_⟩
        by_cases e : a * pz hp kn 0 (3 - j) + b * pz hp kn 1 (3 - j) + Mt hp kn j (x - a) (y - b) = Mt hp kn (j + 1) x y
        · rw [if_pos e]
          have hlr : lr hp kn j x y ((100 * a + b).toNat : Nat) := ⟨a, b, h1', by omega, h3, by omega, by omega, by omega, e⟩
          have hge : ¬ (100 * a + b).toNat < z := fun q => hz2 _ q hlr
          have ee : 100 * a + b = z := by
            by_cases q : a = a'
            · have := h4 q
              omega
            · omega
          rw [ee]
          exact fin2 a (b + 1) h1' (by omega) (by omega) (by omega)
        · rw [if_neg e]
          refine ih a (b + 1) h1' h2 (by omega) (fun q => ?_) (by omega) h6
          have := h4 q
          by_cases r : b = b'
          · exfalso
            apply e
            rw [q, r]
            exact ev
          · omega
  have outer : ∀ (d : Nat) (a : Int), 0 ≤ a → a + d = a' → r_m_load_84 kn i k (-6) (3 - j) a hr K := by
    intro d
    induction d with
    | zero =>
      intro a h1' h2
      exact b_m_load_84 ⟨by omega, fun c => absurd c (by omega), fun _ => ⟨fun c => absurd c (by decide), fun _ => inner (y + 1).toNat a 0 h1' (by omega) (by decide) (fun _ => b1) (by omega) (fun c => absurd c (by omega))⟩⟩
    | succ d ih =>
      intro a h1' h2
      exact b_m_load_84 ⟨by omega, fun c => absurd c (by omega), fun _ => ⟨fun c => absurd c (by decide), fun _ => inner (y + 1).toNat a 0 h1' (by omega) (by decide) (fun _ => b1) (by omega) (fun _ => ih (a + 1) (by omega) (by omega))⟩⟩
  exact outer a'.toNat 0 (by decide) (by omega)
noncomputable def zr (hp : qb_H) (kn : Int) (j : Nat) (x y : Int) : Nat := @dite _ (∃ z : Nat, lr hp kn j x y z ∧ ∀ w : Nat, w < z → ¬ lr hp kn j x y w) (Classical.propDecidable _) (fun h => Classical.choose h) (fun _ => 0)
theorem zr_is {hp : qb_H} (hH : qb_iH hp) (kn : Int) {j : Nat} (hj : j < 4) {x y : Int} (hx : 0 ≤ x) (hy : 0 ≤ y) : (lr hp kn j x y (zr hp kn j x y) ∧ ∀ w : Nat, w < zr hp kn j x y → ¬ lr hp kn j x y w) ∧ ((zr hp kn j x y : Nat) : Int) / 100 ≤ x ∧ ((zr hp kn j x y : Nat) : Int) % 100 ≤ y ∨ 20 < y := by
  by_cases hy20 : 20 < y
  · exact Or.inr hy20
  · left
    have hex := lr_ex hH kn hj hx hy
    have e : zr hp kn j x y = Classical.choose hex := by unfold zr; rw [dif_pos hex]
    have hs := Classical.choose_spec hex
    rw [e]
    refine ⟨hs, ?_⟩
    obtain ⟨a, b, a1, a2, b1, b2, ab, ez, ev⟩ := hs.1
    omega
/-- what is left and the row, behind s ships -/
noncomputable def lt (hp : qb_H) (kn fx fy : Int) : Nat → Int × Int × Int
  | 0 => (fx, fy, 0)
  | s + 1 => ((lt hp kn fx fy s).1 - ((zr hp kn (3 - s) (lt hp kn fx fy s).1 (lt hp kn fx fy s).2.1 : Nat) : Int) / 100, (lt hp kn fx fy s).2.1 - ((zr hp kn (3 - s) (lt hp kn fx fy s).1 (lt hp kn fx fy s).2.1 : Nat) : Int) % 100, ((zr hp kn (3 - s) (lt hp kn fx fy s).1 (lt hp kn fx fy s).2.1 : Nat) : Int))
theorem lt_in {hp : qb_H} (hH : qb_iH hp) {kn fx fy : Int} (hfx : 0 ≤ fx ∧ fx ≤ 20) (hfy : 0 ≤ fy ∧ fy ≤ 20) : ∀ s : Nat, s ≤ 4 → (0 ≤ (lt hp kn fx fy s).1 ∧ (lt hp kn fx fy s).1 ≤ fx) ∧ (0 ≤ (lt hp kn fx fy s).2.1 ∧ (lt hp kn fx fy s).2.1 ≤ fy) := by
  intro s
  induction s with
  | zero => intro _; exact ⟨⟨hfx.1, Int.le_refl _⟩, ⟨hfy.1, Int.le_refl _⟩⟩
  | succ s ih =>
    intro hs
    obtain ⟨i1, i2⟩ := ih (by omega)
    have hz := zr_is hH kn (j := 3 - s) (by omega) i1.1 i2.1
    simp only [lt]
    omega
theorem load_ok (fx fy kn i : Int) {hp : qb_H} (hP : qb_iP hp) (hH : qb_iH hp) {K : Int → Int → qb_H → Prop} (hK : ∀ (v : Int) (hq : qb_H), kS hp hq → K v v hq) : c_q_load fx fy kn i hp (fun v hp1 => c_m_load fx fy kn i hp1 (fun w hp2 => K v w hp2)) := by
  have mres : ∀ {V : Int} {h1 : qb_H} (c : ¬ v_m_in fx 0 20 = 0) (d : ¬ v_m_in fy 0 20 = 0) (e : ¬ v_m_isDay kn = 0), (∀ c : Nat, 60 ≤ c → h1 c = hp c) → (0 ≤ fx ∧ fx ≤ 20) → (0 ≤ fy ∧ fy ≤ 20) → (∀ hr : qb_H, (∀ c : Nat, c ≠ 88 → hr c = h1 c) → K V V hr) → (i = -1 → V = Mt hp kn 4 fx fy) → (0 ≤ i → i ≤ 3 → V = (lt hp kn fx fy (i + 1).toNat).2.2) → (¬ i = -1 → ¬ (0 ≤ i ∧ i ≤ 3) → V = -6) → c_m_load fx fy kn i h1 (fun w hp2 => K V w hp2) := by
    intro V h1 c d e h60 hfx hfy hKV v1 v2 v3
    refine b_m_load ⟨fun z => absurd z c, fun _ => ⟨fun z => absurd z d, fun _ => ⟨fun z => absurd z e, fun _ => s_m_layMost hP hH h60 (fun hr hf => ⟨by unfold qb_in; omega, by unfold qb_in; omega, fun k ek => ⟨fun f => ⟨by omega, ?_⟩, fun f => ?_⟩⟩)⟩⟩⟩
    · have := hf.2 4 (by decide) k (by omega) (by omega)
      have e1 : 441 * (4 - ((4 : Nat) : Int)) + k = k := by omega
      have e2 : k / 21 = fx := by omega
      have e3 : k % 21 = fy := by omega
      rw [e1, e2, e3] at this
      rw [this, ← v1 f]
      exact hKV hr hf.1
    · have loop : ∀ (g s : Nat) (row : Int), s + g = 4 → (0 < s → row = (lt hp kn fx fy s).2.2) → (s = 0 → row = -6) → (0 ≤ i → (s : Int) ≤ i + 1) → (i < 0 → s = 0) → r_m_load_64 kn i (21 * (lt hp kn fx fy s).1 + (lt hp kn fx fy s).2.1) row s hr (fun w hp2 => K V w hp2) := by
        intro g
        induction g with
        | zero =>
          intro s row hs r1 r2 r3 r4
          have es : s = 4 := by omega
          subst es
          have hv : ∀ y : Int, y = (if (v_m_in i 0 3) = 0 then ((-6) : Int) else row) → K V y hr := by
            intro y ey
            by_cases q : 0 ≤ i ∧ i ≤ 3
            · rw [v_m_in_1 q, if_neg (by decide), r1 (by decide)] at ey
              have ei : (i + 1).toNat = 4 := by omega
              have := v2 q.1 q.2
              rw [ei] at this
              rw [ey, ← this]; exact hKV hr hf.1
            · rw [v_m_in_0 (by omega), if_pos rfl] at ey
              rw [ey, ← v3 f q]; exact hKV hr hf.1
          exact b_m_load_64 ⟨fun _ => hv, fun _ => ⟨fun _ => hv, fun q => absurd (by decide) q⟩⟩
        | succ g ih =>
          intro s row hs r1 r2 r3 r4
          refine b_m_load_64 ⟨fun q y ey => ?_, fun q => ⟨fun z => absurd z (by omega), fun _ => ?_⟩⟩
          · by_cases w : 0 ≤ i ∧ i ≤ 3
            · rw [v_m_in_1 w, if_neg (by decide), r1 (by omega)] at ey
              have ei : (i + 1).toNat = s := by omega
              have := v2 w.1 w.2
              rw [ei] at this
              rw [ey, ← this]; exact hKV hr hf.1
            · rw [v_m_in_0 (by omega), if_pos rfl] at ey
              rw [ey, ← v3 f w]; exact hKV hr hf.1
          · obtain ⟨i1, i2⟩ := lt_in hH (kn := kn) hfx hfy s (by omega)
            have hz := zr_is hH kn (j := 3 - s) (by omega) i1.1 i2.1
            obtain ⟨hz1, hz2⟩ := hz.resolve_right (by omega)
            have ej : (3 : Int) - ((3 - s : Nat) : Int) = s := by omega
            have := m_row_ok (i := i) (K := fun w hp2 => K V w hp2) hP hH h60 (j := 3 - s) (by omega) hf (x := (lt hp kn fx fy s).1) (y := (lt hp kn fx fy s).2.1) (by omega) (by omega) rfl hz1.1 hz1.2
            rw [ej] at this
            refine this ?_
            have nx := ih (s + 1) ((zr hp kn (3 - s) (lt hp kn fx fy s).1 (lt hp kn fx fy s).2.1 : Nat) : Int) (by omega) (fun _ => rfl) (fun q => by omega) (fun _ => by omega) (fun _ => by omega)
            rw [Int.natCast_succ] at nx
            exact nx
      have := loop 4 0 (-6) (by decide) (fun q => by omega) (fun _ => rfl) (fun _ => by omega) (fun _ => rfl)
      have ek2 : k = 21 * (lt hp kn fx fy 0).1 + (lt hp kn fx fy 0).2.1 := ek
      rw [ek2]
      exact this
  refine b_q_load ⟨fun c => b_m_load ⟨fun _ => hK _ hp kS.rf, fun z => absurd c z⟩, fun c => ⟨fun d => b_m_load ⟨fun z => absurd z c, fun _ => ⟨fun _ => hK _ hp kS.rf, fun z => absurd d z⟩⟩, fun d => ⟨fun e => b_m_load ⟨fun z => absurd z c, fun _ => ⟨fun z => absurd z d, fun _ => ⟨fun _ => hK _ hp kS.rf, fun z => absurd e z⟩⟩⟩, fun e => ?_⟩⟩⟩
  have hfx : 0 ≤ fx ∧ fx ≤ 20 := by
    rcases v_in_c (x := fx) (a := 0) (b := 20) with z | z
    · exact absurd z.1 c
    · exact z.2
  have hfy : 0 ≤ fy ∧ fy ≤ 20 := by
    rcases v_in_c (x := fy) (a := 0) (b := 20) with z | z
    · exact absurd z.1 d
    · exact z.2
  have k88 : ∀ {h1 hr : qb_H}, kS hp h1 → (∀ c : Nat, c ≠ 88 → hr c = h1 c) → kS hp hr := fun h1 h2 => h1.tr (kS_one (b := 88) (by decide) h2)
  refine ⟨fun g => ?_, fun g => ?_⟩
  · have hno : ¬ (-1 ≤ i ∧ i ≤ 3) := fun z => by
      have : v_q_within i (-1) 3 = 1 := v_m_in_1 z
      rw [this] at g; exact absurd g (by decide)
    exact mres c d e (fun _ _ => rfl) hfx hfy (fun hr h => hK _ hr (k88 kS.rf h)) (fun z => absurd z (by omega)) (fun z1 z2 => absurd z1 (by omega)) (fun _ _ => rfl)
  · have hyes : -1 ≤ i ∧ i ≤ 3 := by
      rcases v_in_c (x := i) (a := -1) (b := 3) with z | z
      · exact absurd z.1 g
      · exact z.2
    have lay : ∀ (q s : Nat) (hq : qb_H), s + q = 4 → (∀ c : Nat, c ≠ 57 → c ≠ 58 → hq c = hp c) → (∀ t : Int, 0 ≤ t → t < s → hq 57 t = pz hp kn 0 t ∧ hq 58 t = pz hp kn 1 t) → r_q_load_46 fx fy kn i s hq (fun v hp1 => c_m_load fx fy kn i hp1 (fun w hp2 => K v w hp2)) := by
      intro q
      induction q with
      | zero =>
        intro s hq hs h1 h2
        have es : s = 4 := by omega
        subst es
        have hf0 : ft hp kn fx fy 0 hq := ⟨fun cz c1 c2 _ => h1 cz c1 c2, fun t t0 t1 => h2 t t0 t1, fun z hz => by rw [h1 59 (by decide) (by decide)]; exact hH.2 z hz, fun l hl x y x0 x1 y0 y1 => by
          have : l = 0 := by omega
          rw [this, h1 59 (by decide) (by decide)]
          exact hH.2 _ (by omega)⟩
        refine b_q_load_46 ⟨fun _ => plan_ok hP hH hfx hfy hf0 (fun hr hf => ?_), fun z => absurd (by decide) z⟩
        have hk : kS hp hr := by
          refine ⟨fun cz c1 c2 c3 c4 => hf.1 cz (fun q => c1 (by rw [q]; decide)) (fun q => c1 (by rw [q]; decide)) (fun q => c1 (by rw [q]; decide)), fun z _ => by rw [hf.1 60 (by decide) (by decide) (by decide)], fun z w _ _ => by rw [hf.1 68 (by decide) (by decide) (by decide)], fun z _ => by rw [hf.1 32 (by decide) (by decide) (by decide)], fun z hz => by rw [hf.2.2.1 z hz, hH.2 z hz]⟩
        have h60 : ∀ c : Nat, 60 ≤ c → hr c = hp c := fun c hc => hf.1 c (by omega) (by omega) (by omega)
        refine ⟨fun f => ⟨fl_g (by decide) hfx hfy, ?_⟩, fun f => ?_⟩
        · have ew : v_fl_worth 0 fx fy hr = Mt hp kn 4 fx fy := by
            unfold v_fl_worth
            have := hf.2.2.2 4 (Nat.le_refl 4) fx fy hfx.1 (Int.le_refl _) hfy.1 (Int.le_refl _)
            have e0 : ((4 : Int) - ((4 : Nat) : Int)) * 441 + fx * 21 + fy = 0 * 441 + fx * 21 + fy := by omega
            rw [e0] at this
            exact this
          rw [ew]
          exact mres c d e h60 hfx hfy (fun hs h => hK _ hs (k88 hk h)) (fun _ => rfl) (fun z1 z2 => absurd z1 (by omega)) (fun z _ => absurd f z)
        · have loop : ∀ (g s : Nat) (row : Int), s + g = (i + 1).toNat → (0 < s → row = (lt hp kn fx fy s).2.2) → r_fl_borneBy_12 i (lt hp kn fx fy s).1 (lt hp kn fx fy s).2.1 row s hr (fun v hp1 => c_m_load fx fy kn i hp1 (fun w hp2 => K v w hp2)) := by
            intro g
            induction g with
            | zero =>
              intro s row hs r1
              refine b_fl_borneBy_12 ⟨fun _ => ?_, fun z => absurd (by omega) z⟩
              have er := r1 (by omega)
              have es : s = (i + 1).toNat := by omega
              exact mres c d e h60 hfx hfy (fun hs h => hK _ hs (k88 hk h)) (fun z => absurd z f) (fun z1 z2 => by rw [er, es]) (fun _ z => absurd z (by omega))
            | succ g ih =>
              intro s row hs r1
              obtain ⟨i1, i2⟩ := lt_in hH (kn := kn) hfx hfy s (by omega)
              have hz := zr_is hH kn (j := 3 - s) (by omega) i1.1 i2.1
              obtain ⟨hz1, hz2⟩ := hz.resolve_right (by omega)
              have ej : (3 : Int) - ((3 - s : Nat) : Int) = s := by omega
              have nx := ih (s + 1) ((zr hp kn (3 - s) (lt hp kn fx fy s).1 (lt hp kn fx fy s).2.1 : Nat) : Int) (by omega) (fun _ => rfl)
              rw [Int.natCast_succ] at nx
              refine b_fl_borneBy_12 ⟨fun z => absurd z (by omega), fun _ => ?_⟩
              have := row_ok hP hH hfx hfy (j := 3 - s) (by omega) hf i1 i2 hz1.1 hz1.2 (K := fun v142 hp142 => (0 ≤ v142) ∧ (qb_in ((lt hp kn fx fy s).1 - (v142 / 100))) ∧ (qb_in ((lt hp kn fx fy s).2.1 - (v142 % 100))) ∧ (qb_in ((s : Int) + 1)) ∧ r_fl_borneBy_12 i ((lt hp kn fx fy s).1 - (v142 / 100)) ((lt hp kn fx fy s).2.1 - (v142 % 100)) v142 ((s : Int) + 1) hp142 (fun v hp1 => c_m_load fx fy kn i hp1 (fun w hp2 => K v w hp2)))
              rw [ej] at this
              exact this ⟨by omega, by unfold qb_in; omega, by unfold qb_in; omega, by unfold qb_in; omega, nx⟩
          exact b_fl_borneBy (loop (i + 1).toNat 0 0 (by omega) (fun z => by omega))
      | succ q ih =>
        intro s hq hs h1 h2
        have gP : ∀ hz : qb_H, (∀ c : Nat, c ≠ 57 → c ≠ 58 → hz c = hp c) → g_fc_find_p hz ∧ ∀ g : Int, v_fc_find_p g (hz 55 s) kn 0 hz = pz hp kn g s := by
          intro hz hzc
          have e55 : hz 55 s = hp 77 s := by rw [hzc 55 (by decide) (by decide)]; exact (hH.1 (s : Int) (by omega) (by omega)).1
          refine ⟨?_, fun g => ?_⟩
          · unfold g_fc_find_p
            rw [hzc 45 (by decide) (by decide), hP.1]; exact hP.2.1
          · have ev : v_fc_find_p g (hz 55 s) kn 0 hz = v_fc_find_p g (hz 55 s) kn 0 hp := by
              unfold v_fc_find_p
              rw [hzc 46 (by decide) (by decide), hzc 47 (by decide) (by decide), hzc 48 (by decide) (by decide), hzc 49 (by decide) (by decide), hzc 45 (by decide) (by decide)]
            rw [ev, e55]
            exact (iP_eq hP g (hp 77 s) kn).1
        have h1' : ∀ c : Nat, c ≠ 57 → c ≠ 58 → qb_st hq 57 s (pz hp kn 0 s) c = hp c := fun cz c1 c2 => by rw [qb_st_ne c1]; exact h1 cz c1 c2
        refine b_q_load_46 ⟨fun z => absurd z (by omega), fun _ => ⟨by omega, s_fc_find_p 0 _ kn 0 hq _ (gP hq h1).1 ?_⟩⟩
        rw [(gP hq h1).2 0]
        have e55 : hq 55 s = qb_st hq 57 s (pz hp kn 0 s) 55 s := by rw [qb_st_ne (by decide)]
        rw [e55]
        refine s_fc_find_p 1 _ kn 0 _ _ (gP _ h1').1 ?_
        rw [(gP _ h1').2 1]
        have := ih (s + 1) (qb_st (qb_st hq 57 s (pz hp kn 0 s)) 58 s (pz hp kn 1 s)) (by omega) (fun cz c1 c2 => by rw [qb_st_ne c2]; exact h1' cz c1 c2) (fun t t0 t1 => ?_)
        · rw [Int.natCast_succ] at this
          exact this
        · by_cases et : t = s
          · rw [et]; exact ⟨by simp [qb_st], by simp [qb_st]⟩
          · have := h2 t t0 (by omega)
            rw [← this.1, ← this.2]
            exact ⟨by simp [qb_st, et], by simp [qb_st, et]⟩
    exact lay 4 0 hp (by decide) (fun _ _ _ => rfl) (fun t t0 t1 => by omega)
