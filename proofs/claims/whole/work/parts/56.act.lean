/-! ACT -/
theorem tx_row_is {t t' lt kd cp nm kd' cp' nm' : Int → Int} {r k : Int} {d : Nat} (ht : ∀ i : Int, k ≤ i → i < k + 2 + d → t' i = t i) (hr : kd' r = kd r ∧ cp' r = cp r ∧ nm' r = nm r) (h : tx_row t kd cp nm r k d) : tx_row t' kd' cp' nm' r k d := by
  unfold tx_row at h ⊢
  obtain ⟨h1, h2, h3, h4, h5, h6, h7⟩ := h
  rw [hr.1, hr.2.1, hr.2.2, ht k (by omega) (by omega), ht (k + 1) (by omega) (by omega)]
  refine ⟨h1, h2, h3, h4, h5, fun i hi => by rw [ht _ (by omega) (by omega)]; exact h6 i hi, ?_⟩
  rw [h7]
  have : ∀ e : Nat, e ≤ d → tx_val t (k + 2) e = tx_val t' (k + 2) e := by
    intro e
    induction e with
    | zero => intro _; rfl
    | succ e ih =>
      intro he
      simp only [tx_val]
      rw [ih (by omega), ht _ (by omega) (by omega)]
  exact this d (Nat.le_refl d)
theorem tx_cg {t t' lt kd cp nm lt' kd' cp' nm' : Int → Int} {m : Int} : ∀ (f : Nat) (r k : Int), (∀ i : Int, k ≤ i → i < m → t' i = t i) → (∀ i : Int, r ≤ i → i < r + f → lt' i = lt i ∧ kd' i = kd i ∧ cp' i = cp i ∧ nm' i = nm i) → tx_to t m lt kd cp nm f r k → tx_to t' m lt' kd' cp' nm' f r k := by
  intro f
  induction f with
  | zero => intro r k _ _ h; exact absurd h (by simp [tx_to])
  | succ f ih =>
    intro r k ht hr h
    simp only [tx_to] at h ⊢
    obtain ⟨d, h1, h2⟩ := h
    have h3 := hr r (Int.le_refl _) (by omega)
    rcases h2 with h2 | h2 | h2
    · exact ⟨d, tx_row_is (lt := lt) (fun i a b => ht i a (by omega)) h3.2 h1, Or.inl h2⟩
    · have hl := tx_lt _ _ _ h2.2.2
      have h4 := hr (r + 1) (by omega) (by omega)
      exact ⟨d, tx_row_is (lt := lt) (fun i a b => ht i a (by omega)) h3.2 h1, Or.inr (Or.inl ⟨by rw [ht _ (by omega) (by omega)]; exact h2.1, by rw [h4.1, h3.1]; exact h2.2.1, ih _ _ (fun i a b => ht i (by omega) b) (fun i a b => hr i (by omega) (by omega)) h2.2.2⟩)⟩
    · obtain ⟨u1, u2, u3, u4, u5, u6⟩ := h2
      have hl := tx_lt _ _ _ u6
      have h4 := hr (r + 1) (by omega) (by omega)
      exact ⟨d, tx_row_is (lt := lt) (fun i a b => ht i a (by omega)) h3.2 h1, Or.inr (Or.inr ⟨by rw [ht _ (by omega) (by omega)]; exact u1, by rw [ht _ (by omega) (by omega), h4.1]; exact u2, by rw [ht _ (by omega) (by omega)]; exact u3, by rw [h4.1, h3.1]; exact u4, by rw [h4.1]; exact u5, ih _ _ (fun i a b => ht i (by omega) b) (fun i a b => hr i (by omega) (by omega)) u6⟩)⟩
theorem fa_in {t : Int → Int} {n : Int} (hn : 0 ≤ n) : ∀ (j : Nat) (p st mx : Int), 0 ≤ p → fa_v t n j p st mx = -6 ∨ 0 ≤ fa_v t n j p st mx := by
  intro j
  induction j with
  | zero =>
    intro p st mx _
    simp only [fa_v]
    split <;> omega
  | succ j ih =>
    intro p st mx h0
    simp only [fa_v]
    split
    · exact Or.inr h0
    · exact ih (p + 1) _ _ (by omega)
theorem s_m_faultOf2 (hp : qb_H) (K : Int → qb_H → Prop) (h2 : 0 ≤ hp 60 0 ∧ hp 60 0 ≤ 60) (h3 : ∀ k : Int, 0 ≤ k → k < hp 60 0 → 33 ≤ hp 61 k ∧ hp 61 k ≤ 126) (hK : K (v_fault hp) hp) : c_m_faultOf hp K := by
  obtain ⟨n, hn⟩ : ∃ n : Nat, hp 60 0 = n := ⟨_, (Int.toNat_of_nonneg h2.1).symm⟩
  refine b_m_faultOf (mf_loop (n := n) hn (by omega) (fun k a b => h3 k a (by omega)) n 0 0 0 (by omega) (by omega) (by omega) ?_)
  unfold v_fault at hK
  rw [hn, Int.toNat_natCast] at hK
  exact hK
/-- a draft without a fault, taken -/
theorem add_ok {hp : qb_H} {a day : Int} (hD : qb_iD hp) (hv : v_fault hp = -6) (ha : 0 ≤ a ∧ a < 8) (hpa : hp 3 6 = a) {K : qb_H → Prop}
    (hK : ∀ (hr : qb_H) (f : Nat), af_r (a * 15) hp hr → (1 ≤ f ∧ f ≤ 14) → (0 ≤ ac_lt hr a 0 ∧ ac_lt hr a 0 ≤ 5) → hp 61 0 = 65 + ac_lt hr a 0 → hp 61 1 = 58 → tx_to (hp 61) (hp 60 0) (ac_lt hr a) (ac_kd hr a) (ac_cp hr a) (ac_nm hr a) f 0 2 → K (add_fin hr a day f)) : c_ac_add day hp K := by
  obtain ⟨h1, h2, h3⟩ := hD
  obtain ⟨n, hn⟩ : ∃ n : Nat, hp 60 0 = n := ⟨_, (Int.toNat_of_nonneg h2.1).symm⟩
  refine b_ac_add ⟨by rw [hpa]; unfold qb_in; omega, fun y e => ?_⟩
  rw [hpa] at e
  rw [e]
  unfold v_fault at hv
  rw [hn, Int.toNat_natCast] at hv
  rw [← fa_cg (t := hp 2) (u := hp 61) n 0 0 0 (fun k x1 x2 => (h3 k x1 (by omega)).1)] at hv
  have h11 : hp 1 1 = n := by rw [h1, hn]
  obtain ⟨j1, hj1⟩ : ∃ j1, n = j1 + 1 := ⟨n - 1, by
    have : n ≠ 0 := fun e => by
      subst e
      have := fa_end (by omega) hv
      omega
    omega⟩
  rw [show fa_v (hp 2) n n 0 0 0 = fa_v (hp 2) n (j1 + 1) 0 0 0 by rw [← hj1]] at hv
  obtain ⟨u1, u2⟩ := fa_step (by omega) hv
  obtain ⟨v1, v2, v3⟩ := fo_0 u1
  rw [v3, if_pos rfl, ac_yes v1] at u2
  obtain ⟨j2, hj2⟩ : ∃ j2, j1 = j2 + 1 := ⟨j1 - 1, by
    have : j1 ≠ 0 := fun e => by
      rw [e] at u2
      have := fa_end (by omega) u2
      omega
    omega⟩
  rw [hj2] at u2
  obtain ⟨y1, y2⟩ := fa_step (by omega) u2
  obtain ⟨z1, z2⟩ := fo_1 y1
  rw [z2, if_neg (by decide)] at y2
  obtain ⟨m, hm⟩ : ∃ m : Nat, hp 2 0 - 65 = m := ⟨_, (Int.toNat_of_nonneg (show 0 ≤ hp 2 0 - 65 by omega)).symm⟩
  have hor := bt_or (a := 0) (b := 2 ^ m) (by omega) (bt_shl (by omega)).2
  rw [hm, (bt_shl (k := m) (by omega)).1, show (0 : Int) = ((0 : Nat) : Int) from rfl, hor.1] at y2
  have hor2 : 0 ||| 2 ^ m < 64 := by
    have h1 : 2 ^ m < 2 ^ 6 := Nat.pow_lt_pow_right (by decide) (by omega)
    have : 0 ||| 2 ^ m < 2 ^ 6 := Nat.or_lt_two_pow (by omega) h1
    exact this
  have e0 := (h3 0 (by omega) (by omega)).1
  have e1 := (h3 1 (by omega) (by omega)).1
  refine add_letter (by omega) (by omega) v1 (add_pass (by omega) (by omega) (by omega) ?_)
  rw [hm]
  refine (add_both ha hpa h11 (by omega) j2).1 j2 (0 + 1 + 1) 0 m 0 (0 ||| 2 ^ m) hp K (Nat.le_refl _) (by omega) (by omega) (by omega) (by omega) (by omega) (fun _ _ _ _ _ => rfl) y2 hor2 ?_ (fun hr f w1 w2 w3 w4 => ?_)
  · rw [Int.toNat_natCast, bt_put]; simp
  · have hl := tx_lt _ _ _ w2
    rw [Int.zero_add]
    refine hK hr f (by simpa using w1) ⟨hl.2, by omega⟩ (by rw [w3]; omega) (by rw [← e0, w3]; omega) (by rw [← e1]; exact z1) ?_
    rw [hn]
    exact tx_cg f 0 2 (fun i x1 x2 => ((h3 i (by omega) (by omega)).1).symm) (fun i _ _ => ⟨rfl, rfl, rfl, rfl⟩) w2
