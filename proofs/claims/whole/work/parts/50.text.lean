/-! acts: the text and the rows of rules -/
def tx_sign (x : Int) : Int := if x = 0 then 104 else if x = 1 then 116 else if x = 2 then 115 else if x = 3 then 122 else 113
def tx_val (t : Int → Int) (k : Int) : Nat → Int
  | 0 => 0
  | d + 1 => 10 * tx_val t k d + t (k + d) - 48
/-- row r stands in the text at k, with d digits -/
def tx_row (t kd cp nm : Int → Int) (r k : Int) (d : Nat) : Prop :=
  (0 ≤ kd r ∧ kd r ≤ 4) ∧ t k = tx_sign (kd r) ∧ t (k + 1) = cp r ∧ (60 ≤ cp r ∧ cp r ≤ 62) ∧ (1 ≤ d ∧ d ≤ 4) ∧ (∀ i : Nat, i < d → 48 ≤ t (k + 2 + i) ∧ t (k + 2 + i) ≤ 57) ∧ nm r = tx_val t (k + 2) d
/-- from row r's rule at k on to the end of the text: so many rows -/
def tx_to (t : Int → Int) (m : Int) (lt kd cp nm : Int → Int) : Nat → Int → Int → Prop
  | 0, _, _ => False
  | f + 1, r, k => ∃ d : Nat, tx_row t kd cp nm r k d ∧
      ((f = 0 ∧ k + 2 + d = m) ∨
       (t (k + 2 + d) = 44 ∧ lt (r + 1) = lt r ∧ tx_to t m lt kd cp nm f (r + 1) (k + 2 + d + 1)) ∨
       (t (k + 2 + d) = 59 ∧ t (k + 2 + d + 1) = 65 + lt (r + 1) ∧ t (k + 2 + d + 2) = 58 ∧ lt (r + 1) ≠ lt r ∧ (0 ≤ lt (r + 1) ∧ lt (r + 1) ≤ 5) ∧ tx_to t m lt kd cp nm f (r + 1) (k + 2 + d + 3)))
theorem tx_lt {t : Int → Int} {m : Int} {lt kd cp nm : Int → Int} : ∀ (f : Nat) (r k : Int), tx_to t m lt kd cp nm f r k → k + 3 ≤ m ∧ 1 ≤ f := by
  intro f
  induction f with
  | zero => intro r k h; exact absurd h (by simp [tx_to])
  | succ f ih =>
    intro r k h
    simp only [tx_to] at h
    obtain ⟨d, h1, h2⟩ := h
    have h3 := h1.2.2.2.2.1
    rcases h2 with h2 | h2 | h2
    · omega
    · have := ih _ _ h2.2.2; omega
    · have := ih _ _ h2.2.2.2.2.2; omega
theorem tx_vb {t : Int → Int} {k : Int} {d : Nat} (hd : d ≤ 4) (h : ∀ i : Nat, i < d → 48 ≤ t (k + i) ∧ t (k + i) ≤ 57) : ∀ i : Nat, i ≤ d → 0 ≤ tx_val t k i ∧ (i ≤ 0 → tx_val t k i ≤ 0) ∧ (i ≤ 1 → tx_val t k i ≤ 9) ∧ (i ≤ 2 → tx_val t k i ≤ 99) ∧ (i ≤ 3 → tx_val t k i ≤ 999) ∧ (i ≤ 4 → tx_val t k i ≤ 9999) := by
  intro i
  induction i with
  | zero => intro _; simp [tx_val]
  | succ i ih =>
    intro hi
    have h1 := ih (by omega)
    have h2 := h i (by omega)
    simp only [tx_val]
    omega
/-- what the rows say from row r on -/
def bv (lt kd cp nm fa : Int → Int) : Nat → Int → Int → Int
  | 0, r, so => if so = 0 then -6 else lt (r - 1)
  | f + 1, r, so => if r = 0 ∨ lt r ≠ lt (r - 1) then (if so = 0 then bv lt kd cp nm fa f (r + 1) (v_ac_holds (cp r) (fa (kd r)) (nm r)) else lt (r - 1)) else bv lt kd cp nm fa f (r + 1) (if so = 0 then 0 else v_ac_holds (cp r) (fa (kd r)) (nm r))
theorem bv_cg (lt kd cp nm fa fb : Int → Int) (hk : ∀ x : Int, 0 ≤ x → x ≤ 4 → fa x = fb x) : ∀ (f : Nat) (r so : Int), (∀ i : Int, r ≤ i → i < r + f → 0 ≤ kd i ∧ kd i ≤ 4) → bv lt kd cp nm fa f r so = bv lt kd cp nm fb f r so := by
  intro f
  induction f with
  | zero => intro r so _; rfl
  | succ f ih =>
    intro r so h
    have h1 := h r (Int.le_refl _) (by omega)
    have h2 := hk _ h1.1 h1.2
    simp only [bv]
    rw [h2]
    rw [ih (r + 1) _ (fun i a b => h i (by omega) (by omega)), ih (r + 1) _ (fun i a b => h i (by omega) (by omega))]
theorem tx_kd {t : Int → Int} {m : Int} {lt kd cp nm : Int → Int} : ∀ (f : Nat) (r k : Int), tx_to t m lt kd cp nm f r k → ∀ i : Int, r ≤ i → i < r + f → 0 ≤ kd i ∧ kd i ≤ 4 := by
  intro f
  induction f with
  | zero => intro r k h; exact absurd h (by simp [tx_to])
  | succ f ih =>
    intro r k h i a b
    simp only [tx_to] at h
    obtain ⟨d, h1, h2⟩ := h
    by_cases e : i = r
    · rw [e]; exact h1.1
    · rcases h2 with h2 | h2 | h2
      · omega
      · exact ih _ _ h2.2.2 i (by omega) (by omega)
      · exact ih _ _ h2.2.2.2.2.2 i (by omega) (by omega)
/-- an act in both: the class's rows, the reference's text -/
def ac_lt (hp : qb_H) (a r : Int) : Int := hp 6 (a * 15 + r)
def ac_kd (hp : qb_H) (a r : Int) : Int := hp 7 (a * 15 + r)
def ac_cp (hp : qb_H) (a r : Int) : Int := hp 8 (a * 15 + r)
def ac_nm (hp : qb_H) (a r : Int) : Int := hp 9 (a * 15 + r)
def ac_t (hp : qb_H) (a k : Int) : Int := hp 64 (60 * a + k)
def ac_ok (hp : qb_H) (a : Int) : Prop :=
  (1 ≤ hp 5 a ∧ hp 5 a ≤ 14) ∧ hp 63 a ≤ 60 ∧ (0 ≤ ac_lt hp a 0 ∧ ac_lt hp a 0 ≤ 5) ∧ ac_t hp a 0 = 65 + ac_lt hp a 0 ∧ ac_t hp a 1 = 58 ∧ tx_to (ac_t hp a) (hp 63 a) (ac_lt hp a) (ac_kd hp a) (ac_cp hp a) (ac_nm hp a) (hp 5 a).toNat 0 2
def qb_iA (hp : qb_H) : Prop := hp 3 6 = hp 60 2 ∧ (0 ≤ hp 60 2 ∧ hp 60 2 ≤ 8) ∧ ∀ a : Int, 0 ≤ a → a < hp 60 2 → hp 4 a = hp 62 a ∧ ac_ok hp a
theorem iA_act {hp : qb_H} (h : qb_iA hp) (day : Int) : v_ac_actOn day hp = v_m_actOn day hp ∧ (v_m_actOn day hp = -6 ∨ (0 ≤ v_m_actOn day hp ∧ v_m_actOn day hp < hp 60 2)) := by
  obtain ⟨h1, h2, h3⟩ := h
  obtain ⟨n, hn⟩ : ∃ n : Nat, hp 60 2 = n := ⟨_, (Int.toNat_of_nonneg h2.1).symm⟩
  constructor
  · unfold v_ac_actOn v_m_actOn
    rw [h1, hn, Int.toNat_natCast]
    exact qb_lat_cg _ _ n (fun k hk => by rw [(h3 k (by omega) (by omega)).1]) (fun k hk => (h3 k (by omega) (by omega)).1)
  · unfold v_m_actOn
    rw [hn, Int.toNat_natCast]
    exact qb_lat_in _ _ _ n
/-- the class's reading -/
def v_ac_brandOn (day : Int) (hp : qb_H) : Int := if v_ac_actOn day hp < 0 then -6 else bv (ac_lt hp (v_ac_actOn day hp)) (ac_kd hp (v_ac_actOn day hp)) (ac_cp hp (v_ac_actOn day hp)) (ac_nm hp (v_ac_actOn day hp)) (hp 31) (hp 5 (v_ac_actOn day hp)).toNat 0 0
theorem ac_brand_loop {hp : qb_H} {a : Int} (ha : 0 ≤ a ∧ a < 8) (hR : 1 ≤ hp 5 a ∧ hp 5 a ≤ 14) (hkd : ∀ i : Int, 0 ≤ i → i < hp 5 a → 0 ≤ ac_kd hp a i ∧ ac_kd hp a i ≤ 4) {K : Int → qb_H → Prop} :
    ∀ (f : Nat) (r so : Int), 0 ≤ r → r + f = hp 5 a → (r = 0 → so = 0) → K (bv (ac_lt hp a) (ac_kd hp a) (ac_cp hp a) (ac_nm hp a) (hp 31) f r so) hp → r_ac_brandOn_12 a so r hp K := by
  intro f
  induction f with
  | zero =>
    intro r so h0 h1 h2 hK
    have e : r = hp 5 a := by omega
    refine b_ac_brandOn_12 ⟨fun c => absurd c (by omega), fun _ => ⟨ha, fun _ => ⟨fun _ => ⟨by unfold qb_in; omega, by unfold qb_in; omega, by unfold qb_in; omega, by omega, by omega⟩, fun y e1 => ?_⟩, fun c => absurd (by omega) c⟩⟩
    simp only [bv] at hK
    rw [e1]
    have e2 : ac_lt hp a (r - 1) = hp 6 (a * 15 + hp 5 a - 1) := by
      unfold ac_lt; rw [e]; congr 1; omega
    rw [e2] at hK
    exact hK
  | succ f ih =>
    intro r so h0 h1 h2 hK
    have hkr := hkd r h0 (by omega)
    unfold ac_kd at hkr
    have e3 : ac_lt hp a (r - 1) = hp 6 (a * 15 + r - 1) := by
      unfold ac_lt; congr 1; omega
    refine b_ac_brandOn_12 ⟨fun c => absurd c (by omega), fun _ => ⟨ha, fun c => absurd c (by omega), fun _ => ⟨by unfold qb_in; omega, by unfold qb_in; omega, fun y e1 => ⟨?_, ?_, ?_⟩⟩⟩⟩
    · unfold g_ac_beginsGrade qb_in; omega
    · intro hb
      have hnb : ¬ (r = 0 ∨ ac_lt hp a r ≠ ac_lt hp a (r - 1)) := by
        rintro (c | c)
        · unfold v_ac_beginsGrade at hb
          rw [if_pos c] at hb; exact absurd hb (by decide)
        · rw [e3] at c
          unfold v_ac_beginsGrade at hb
          by_cases r0 : r = 0
          · rw [if_pos r0] at hb; exact absurd hb (by decide)
          · rw [if_neg r0, if_neg (show ¬ (hp 6 (a * 15 + r) = hp 6 (a * 15 + r - 1)) from c)] at hb; exact absurd hb (by decide)
      simp only [bv] at hK
      rw [if_neg hnb] at hK
      refine ⟨fun _ => ⟨by omega, by rw [e1]; exact hkr.1, by rw [e1]; omega⟩, by unfold qb_in; omega, ih (r + 1) _ (by omega) (by omega) (by omega) ?_⟩
      rw [e1]
      have e4 : (if v_ac_holds (hp 8 (a * 15 + r)) (hp 31 (hp 7 (a * 15 + r))) (hp 9 (a * 15 + r)) = 0 then (0 : Int) else 1) = v_ac_holds (hp 8 (a * 15 + r)) (hp 31 (hp 7 (a * 15 + r))) (hp 9 (a * 15 + r)) := by
        rcases vb_ac_holds (hp 8 (a * 15 + r)) (hp 31 (hp 7 (a * 15 + r))) (hp 9 (a * 15 + r)) with e | e <;> rw [e] <;> rfl
      rw [e4]
      exact hK
    · intro hb
      have hyb : r = 0 ∨ ac_lt hp a r ≠ ac_lt hp a (r - 1) := by
        apply Classical.byContradiction
        intro c
        apply hb
        unfold v_ac_beginsGrade
        rw [if_neg (fun z => c (Or.inl z)), if_pos ?_]
        rw [← e3]
        apply Classical.byContradiction
        intro c2
        exact c (Or.inr c2)
      simp only [bv] at hK
      rw [if_pos hyb] at hK
      refine ⟨fun s0 => ⟨by omega, by rw [e1]; omega, by unfold qb_in; omega, ih (r + 1) _ (by omega) (by omega) (by omega) ?_⟩, fun s0 => ⟨by unfold qb_in; omega, by omega, ?_⟩⟩
      · rw [e1]
        have e4 : (if v_ac_holds (hp 8 (a * 15 + r)) (hp 31 (hp 7 (a * 15 + r))) (hp 9 (a * 15 + r)) = 0 then (0 : Int) else 1) = v_ac_holds (hp 8 (a * 15 + r)) (hp 31 (hp 7 (a * 15 + r))) (hp 9 (a * 15 + r)) := by
          rcases vb_ac_holds (hp 8 (a * 15 + r)) (hp 31 (hp 7 (a * 15 + r))) (hp 9 (a * 15 + r)) with e | e <;> rw [e] <;> rfl
        rw [e4]
        rw [if_pos s0] at hK
        exact hK
      · rw [if_neg s0, e3] at hK
        rw [e1]
        exact hK
theorem s_ac_brandOn (day : Int) (hp : qb_H) (K : Int → qb_H → Prop) (hg : qb_iA hp) (hK : K (v_ac_brandOn day hp) hp) : c_ac_brandOn day hp K := by
  have h1 := iA_act hg day
  obtain ⟨h2, h3, h4⟩ := hg
  refine b_ac_brandOn (s_ac_actOn day hp _ ⟨by omega, by omega⟩ ?_)
  unfold v_ac_brandOn at hK
  rw [h1.1] at hK ⊢
  generalize v_m_actOn day hp = a at h1 hK ⊢
  rcases h1.2 with e | e
  · subst e
    refine b_ac_brandOn_12 ⟨fun _ => ⟨fun c => absurd rfl c, fun y e => ?_⟩, fun c => absurd rfl c⟩
    rw [if_pos (by decide)] at hK
    rw [e, if_pos rfl]; exact hK
  · have ha := (h4 a e.1 e.2).2
    rw [if_neg (by omega)] at hK
    refine ac_brand_loop ⟨e.1, by omega⟩ ha.1 (fun i c1 c2 => tx_kd _ _ _ ha.2.2.2.2.2 i c1 (by omega)) (hp 5 a).toNat 0 0 (Int.le_refl _) (by have := ha.1; omega) (fun _ => rfl) hK
